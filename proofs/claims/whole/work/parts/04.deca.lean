theorem dX0_init_0 : decode cX0_init 0 = .ok (.aload_n 0, 1) := by decide +kernel
theorem dX0_init_1 : decode cX0_init 1 = .ok (.invokespecial 3, 3) := by decide +kernel
theorem dX0_init_4 : decode cX0_init 4 = .ok (.aload_n 0, 1) := by decide +kernel
theorem dX0_init_5 : decode cX0_init 5 = .ok (.bipush 8, 2) := by decide +kernel
theorem dX0_init_7 : decode cX0_init 7 = .ok (.newarray .int, 2) := by decide +kernel
theorem dX0_init_9 : decode cX0_init 9 = .ok (.putfield 9, 3) := by decide +kernel
theorem dX0_init_12 : decode cX0_init 12 = .ok (.aload_n 0, 1) := by decide +kernel
theorem dX0_init_13 : decode cX0_init 13 = .ok (.bipush 8, 2) := by decide +kernel
theorem dX0_init_15 : decode cX0_init 15 = .ok (.newarray .int, 2) := by decide +kernel
theorem dX0_init_17 : decode cX0_init 17 = .ok (.putfield 15, 3) := by decide +kernel
theorem dX0_init_20 : decode cX0_init 20 = .ok (.aload_n 0, 1) := by decide +kernel
theorem dX0_init_21 : decode cX0_init 21 = .ok (.bipush 8, 2) := by decide +kernel
theorem dX0_init_23 : decode cX0_init 23 = .ok (.newarray .int, 2) := by decide +kernel
theorem dX0_init_25 : decode cX0_init 25 = .ok (.putfield 18, 3) := by decide +kernel
theorem dX0_init_28 : decode cX0_init 28 = .ok (.aload_n 0, 1) := by decide +kernel
theorem dX0_init_29 : decode cX0_init 29 = .ok (.bipush 8, 2) := by decide +kernel
theorem dX0_init_31 : decode cX0_init 31 = .ok (.newarray .int, 2) := by decide +kernel
theorem dX0_init_33 : decode cX0_init 33 = .ok (.putfield 21, 3) := by decide +kernel
theorem dX0_init_36 : decode cX0_init 36 = .ok (.aload_n 0, 1) := by decide +kernel
theorem dX0_init_37 : decode cX0_init 37 = .ok (.iconst 0, 1) := by decide +kernel
theorem dX0_init_38 : decode cX0_init 38 = .ok (.putfield 24, 3) := by decide +kernel
theorem dX0_init_41 : decode cX0_init 41 = .ok (.aload_n 0, 1) := by decide +kernel
theorem dX0_init_42 : decode cX0_init 42 = .ok (.sipush 256, 3) := by decide +kernel
theorem dX0_init_45 : decode cX0_init 45 = .ok (.newarray .int, 2) := by decide +kernel
theorem dX0_init_47 : decode cX0_init 47 = .ok (.putfield 28, 3) := by decide +kernel
theorem dX0_init_50 : decode cX0_init 50 = .ok (.aload_n 0, 1) := by decide +kernel
theorem dX0_init_51 : decode cX0_init 51 = .ok (.sipush 256, 3) := by decide +kernel
theorem dX0_init_54 : decode cX0_init 54 = .ok (.newarray .int, 2) := by decide +kernel
theorem dX0_init_56 : decode cX0_init 56 = .ok (.putfield 31, 3) := by decide +kernel
theorem dX0_init_59 : decode cX0_init 59 = .ok (.return_, 1) := by decide +kernel
theorem dX0_solve_0 : decode cX0_solve 0 = .ok (.aload_n 0, 1) := by decide +kernel
theorem dX0_solve_1 : decode cX0_solve 1 = .ok (.aload_n 1, 1) := by decide +kernel
theorem dX0_solve_2 : decode cX0_solve 2 = .ok (.aload_n 2, 1) := by decide +kernel
theorem dX0_solve_3 : decode cX0_solve 3 = .ok (.iload_n 3, 1) := by decide +kernel
theorem dX0_solve_4 : decode cX0_solve 4 = .ok (.iload 4, 2) := by decide +kernel
theorem dX0_solve_6 : decode cX0_solve 6 = .ok (.invokevirtual 34, 3) := by decide +kernel
theorem dX0_solve_9 : decode cX0_solve 9 = .ok (.iconst 1, 1) := by decide +kernel
theorem dX0_solve_10 : decode cX0_solve 10 = .ok (.aload_n 0, 1) := by decide +kernel
theorem dX0_solve_11 : decode cX0_solve 11 = .ok (.getfield 24, 3) := by decide +kernel
theorem dX0_solve_14 : decode cX0_solve 14 = .ok (.ishl, 1) := by decide +kernel
theorem dX0_solve_15 : decode cX0_solve 15 = .ok (.iconst 1, 1) := by decide +kernel
theorem dX0_solve_16 : decode cX0_solve 16 = .ok (.isub, 1) := by decide +kernel
theorem dX0_solve_17 : decode cX0_solve 17 = .ok (.istore 5, 2) := by decide +kernel
theorem dX0_solve_19 : decode cX0_solve 19 = .ok (.aload_n 0, 1) := by decide +kernel
theorem dX0_solve_20 : decode cX0_solve 20 = .ok (.getfield 28, 3) := by decide +kernel
theorem dX0_solve_23 : decode cX0_solve 23 = .ok (.iconst 0, 1) := by decide +kernel
theorem dX0_solve_24 : decode cX0_solve 24 = .ok (.iconst 0, 1) := by decide +kernel
theorem dX0_solve_25 : decode cX0_solve 25 = .ok (.iastore, 1) := by decide +kernel
theorem dX0_solve_26 : decode cX0_solve 26 = .ok (.iconst 0, 1) := by decide +kernel
theorem dX0_solve_27 : decode cX0_solve 27 = .ok (.istore 6, 2) := by decide +kernel
theorem dX0_solve_29 : decode cX0_solve 29 = .ok (.iload 6, 2) := by decide +kernel
theorem dX0_solve_31 : decode cX0_solve 31 = .ok (.aload_n 0, 1) := by decide +kernel
theorem dX0_solve_32 : decode cX0_solve 32 = .ok (.getfield 24, 3) := by decide +kernel
theorem dX0_solve_35 : decode cX0_solve 35 = .ok (.if_icmp .ge 54, 3) := by decide +kernel
theorem dX0_solve_38 : decode cX0_solve 38 = .ok (.iconst 0, 1) := by decide +kernel
theorem dX0_solve_39 : decode cX0_solve 39 = .ok (.istore 7, 2) := by decide +kernel
theorem dX0_solve_41 : decode cX0_solve 41 = .ok (.iload 7, 2) := by decide +kernel
theorem dX0_solve_43 : decode cX0_solve 43 = .ok (.iconst 1, 1) := by decide +kernel
theorem dX0_solve_44 : decode cX0_solve 44 = .ok (.iload 6, 2) := by decide +kernel
theorem dX0_solve_46 : decode cX0_solve 46 = .ok (.ishl, 1) := by decide +kernel
theorem dX0_solve_47 : decode cX0_solve 47 = .ok (.if_icmp .ge 36, 3) := by decide +kernel
theorem dX0_solve_50 : decode cX0_solve 50 = .ok (.aload_n 0, 1) := by decide +kernel
theorem dX0_solve_51 : decode cX0_solve 51 = .ok (.getfield 28, 3) := by decide +kernel
theorem dX0_solve_54 : decode cX0_solve 54 = .ok (.iload 7, 2) := by decide +kernel
theorem dX0_solve_56 : decode cX0_solve 56 = .ok (.iconst 1, 1) := by decide +kernel
theorem dX0_solve_57 : decode cX0_solve 57 = .ok (.iload 6, 2) := by decide +kernel
theorem dX0_solve_59 : decode cX0_solve 59 = .ok (.ishl, 1) := by decide +kernel
theorem dX0_solve_60 : decode cX0_solve 60 = .ok (.ior, 1) := by decide +kernel
theorem dX0_solve_61 : decode cX0_solve 61 = .ok (.aload_n 0, 1) := by decide +kernel
theorem dX0_solve_62 : decode cX0_solve 62 = .ok (.getfield 28, 3) := by decide +kernel
theorem dX0_solve_65 : decode cX0_solve 65 = .ok (.iload 7, 2) := by decide +kernel
theorem dX0_solve_67 : decode cX0_solve 67 = .ok (.iaload, 1) := by decide +kernel
theorem dX0_solve_68 : decode cX0_solve 68 = .ok (.aload_n 0, 1) := by decide +kernel
theorem dX0_solve_69 : decode cX0_solve 69 = .ok (.getfield 15, 3) := by decide +kernel
theorem dX0_solve_72 : decode cX0_solve 72 = .ok (.iload 6, 2) := by decide +kernel
theorem dX0_solve_74 : decode cX0_solve 74 = .ok (.iaload, 1) := by decide +kernel
theorem dX0_solve_75 : decode cX0_solve 75 = .ok (.iadd, 1) := by decide +kernel
theorem dX0_solve_76 : decode cX0_solve 76 = .ok (.iastore, 1) := by decide +kernel
theorem dX0_solve_77 : decode cX0_solve 77 = .ok (.iinc 7 1, 3) := by decide +kernel
theorem dX0_solve_80 : decode cX0_solve 80 = .ok (.goto (-39), 3) := by decide +kernel
theorem dX0_solve_83 : decode cX0_solve 83 = .ok (.iinc 6 1, 3) := by decide +kernel
theorem dX0_solve_86 : decode cX0_solve 86 = .ok (.goto (-57), 3) := by decide +kernel
theorem dX0_solve_89 : decode cX0_solve 89 = .ok (.aload_n 0, 1) := by decide +kernel
theorem dX0_solve_90 : decode cX0_solve 90 = .ok (.getfield 31, 3) := by decide +kernel
theorem dX0_solve_93 : decode cX0_solve 93 = .ok (.iload 5, 2) := by decide +kernel
theorem dX0_solve_95 : decode cX0_solve 95 = .ok (.iconst 0, 1) := by decide +kernel
theorem dX0_solve_96 : decode cX0_solve 96 = .ok (.iastore, 1) := by decide +kernel
theorem dX0_solve_97 : decode cX0_solve 97 = .ok (.iload 5, 2) := by decide +kernel
theorem dX0_solve_99 : decode cX0_solve 99 = .ok (.iconst 1, 1) := by decide +kernel
theorem dX0_solve_100 : decode cX0_solve 100 = .ok (.isub, 1) := by decide +kernel
theorem dX0_solve_101 : decode cX0_solve 101 = .ok (.istore 6, 2) := by decide +kernel
theorem dX0_solve_103 : decode cX0_solve 103 = .ok (.iload 6, 2) := by decide +kernel
theorem dX0_solve_105 : decode cX0_solve 105 = .ok (.ifCond .lt 71, 3) := by decide +kernel
theorem dX0_solve_108 : decode cX0_solve 108 = .ok (.aload_n 0, 1) := by decide +kernel
theorem dX0_solve_109 : decode cX0_solve 109 = .ok (.getfield 31, 3) := by decide +kernel
theorem dX0_solve_112 : decode cX0_solve 112 = .ok (.iload 6, 2) := by decide +kernel
theorem dX0_solve_114 : decode cX0_solve 114 = .ok (.ldc 38, 2) := by decide +kernel
theorem dX0_solve_116 : decode cX0_solve 116 = .ok (.iastore, 1) := by decide +kernel
theorem dX0_solve_117 : decode cX0_solve 117 = .ok (.iconst 0, 1) := by decide +kernel
theorem dX0_solve_118 : decode cX0_solve 118 = .ok (.istore 7, 2) := by decide +kernel
theorem dX0_solve_120 : decode cX0_solve 120 = .ok (.iload 7, 2) := by decide +kernel
theorem dX0_solve_122 : decode cX0_solve 122 = .ok (.aload_n 0, 1) := by decide +kernel
theorem dX0_solve_123 : decode cX0_solve 123 = .ok (.getfield 24, 3) := by decide +kernel
theorem dX0_solve_126 : decode cX0_solve 126 = .ok (.if_icmp .ge 44, 3) := by decide +kernel
theorem dX0_solve_129 : decode cX0_solve 129 = .ok (.iload 6, 2) := by decide +kernel
theorem dX0_solve_131 : decode cX0_solve 131 = .ok (.iload 7, 2) := by decide +kernel
theorem dX0_solve_133 : decode cX0_solve 133 = .ok (.ishr, 1) := by decide +kernel
theorem dX0_solve_134 : decode cX0_solve 134 = .ok (.iconst 1, 1) := by decide +kernel
theorem dX0_solve_135 : decode cX0_solve 135 = .ok (.iand, 1) := by decide +kernel
theorem dX0_solve_136 : decode cX0_solve 136 = .ok (.ifCond .ne 28, 3) := by decide +kernel
theorem dX0_solve_139 : decode cX0_solve 139 = .ok (.aload_n 0, 1) := by decide +kernel
theorem dX0_solve_140 : decode cX0_solve 140 = .ok (.getfield 31, 3) := by decide +kernel
theorem dX0_solve_143 : decode cX0_solve 143 = .ok (.iload 6, 2) := by decide +kernel
theorem dX0_solve_145 : decode cX0_solve 145 = .ok (.aload_n 0, 1) := by decide +kernel
theorem dX0_solve_146 : decode cX0_solve 146 = .ok (.getfield 31, 3) := by decide +kernel
theorem dX0_solve_149 : decode cX0_solve 149 = .ok (.iload 6, 2) := by decide +kernel
theorem dX0_solve_151 : decode cX0_solve 151 = .ok (.iaload, 1) := by decide +kernel
theorem dX0_solve_152 : decode cX0_solve 152 = .ok (.aload_n 0, 1) := by decide +kernel
theorem dX0_solve_153 : decode cX0_solve 153 = .ok (.iload 7, 2) := by decide +kernel
theorem dX0_solve_155 : decode cX0_solve 155 = .ok (.iload 6, 2) := by decide +kernel
theorem dX0_solve_157 : decode cX0_solve 157 = .ok (.invokevirtual 39, 3) := by decide +kernel
theorem dX0_solve_160 : decode cX0_solve 160 = .ok (.invokestatic 43, 3) := by decide +kernel
theorem dX0_solve_163 : decode cX0_solve 163 = .ok (.iastore, 1) := by decide +kernel
theorem dX0_solve_164 : decode cX0_solve 164 = .ok (.iinc 7 1, 3) := by decide +kernel
theorem dX0_solve_167 : decode cX0_solve 167 = .ok (.goto (-47), 3) := by decide +kernel
theorem dX0_solve_170 : decode cX0_solve 170 = .ok (.iinc 6 (-1), 3) := by decide +kernel
theorem dX0_solve_173 : decode cX0_solve 173 = .ok (.goto (-70), 3) := by decide +kernel
theorem dX0_solve_176 : decode cX0_solve 176 = .ok (.return_, 1) := by decide +kernel
theorem dX0_list_0 : decode cX0_list 0 = .ok (.aload_n 0, 1) := by decide +kernel
theorem dX0_list_1 : decode cX0_list 1 = .ok (.iconst 0, 1) := by decide +kernel
theorem dX0_list_2 : decode cX0_list 2 = .ok (.putfield 24, 3) := by decide +kernel
theorem dX0_list_5 : decode cX0_list 5 = .ok (.iconst 0, 1) := by decide +kernel
theorem dX0_list_6 : decode cX0_list 6 = .ok (.istore 5, 2) := by decide +kernel
theorem dX0_list_8 : decode cX0_list 8 = .ok (.iload 5, 2) := by decide +kernel
theorem dX0_list_10 : decode cX0_list 10 = .ok (.bipush 12, 2) := by decide +kernel
theorem dX0_list_12 : decode cX0_list 12 = .ok (.if_icmp .ge 105, 3) := by decide +kernel
theorem dX0_list_15 : decode cX0_list 15 = .ok (.aload_n 0, 1) := by decide +kernel
theorem dX0_list_16 : decode cX0_list 16 = .ok (.getfield 24, 3) := by decide +kernel
theorem dX0_list_19 : decode cX0_list 19 = .ok (.bipush 8, 2) := by decide +kernel
theorem dX0_list_21 : decode cX0_list 21 = .ok (.if_icmp .ge 96, 3) := by decide +kernel
theorem dX0_list_24 : decode cX0_list 24 = .ok (.iload_n 3, 1) := by decide +kernel
theorem dX0_list_25 : decode cX0_list 25 = .ok (.iload 5, 2) := by decide +kernel
theorem dX0_list_27 : decode cX0_list 27 = .ok (.ishr, 1) := by decide +kernel
theorem dX0_list_28 : decode cX0_list 28 = .ok (.iconst 1, 1) := by decide +kernel
theorem dX0_list_29 : decode cX0_list 29 = .ok (.iand, 1) := by decide +kernel
theorem dX0_list_30 : decode cX0_list 30 = .ok (.ifCond .eq 81, 3) := by decide +kernel
theorem dX0_list_33 : decode cX0_list 33 = .ok (.aload_n 0, 1) := by decide +kernel
theorem dX0_list_34 : decode cX0_list 34 = .ok (.getfield 9, 3) := by decide +kernel
theorem dX0_list_37 : decode cX0_list 37 = .ok (.aload_n 0, 1) := by decide +kernel
theorem dX0_list_38 : decode cX0_list 38 = .ok (.getfield 24, 3) := by decide +kernel
theorem dX0_list_41 : decode cX0_list 41 = .ok (.iload 5, 2) := by decide +kernel
theorem dX0_list_43 : decode cX0_list 43 = .ok (.iastore, 1) := by decide +kernel
theorem dX0_list_44 : decode cX0_list 44 = .ok (.aload_n 0, 1) := by decide +kernel
theorem dX0_list_45 : decode cX0_list 45 = .ok (.getfield 15, 3) := by decide +kernel
theorem dX0_list_48 : decode cX0_list 48 = .ok (.aload_n 0, 1) := by decide +kernel
theorem dX0_list_49 : decode cX0_list 49 = .ok (.getfield 24, 3) := by decide +kernel
theorem dX0_list_52 : decode cX0_list 52 = .ok (.iconst 1, 1) := by decide +kernel
theorem dX0_list_53 : decode cX0_list 53 = .ok (.aload_n 1, 1) := by decide +kernel
theorem dX0_list_54 : decode cX0_list 54 = .ok (.getfield 48, 3) := by decide +kernel
theorem dX0_list_57 : decode cX0_list 57 = .ok (.iload 5, 2) := by decide +kernel
theorem dX0_list_59 : decode cX0_list 59 = .ok (.iaload, 1) := by decide +kernel
theorem dX0_list_60 : decode cX0_list 60 = .ok (.iadd, 1) := by decide +kernel
theorem dX0_list_61 : decode cX0_list 61 = .ok (.iastore, 1) := by decide +kernel
theorem dX0_list_62 : decode cX0_list 62 = .ok (.aload_n 0, 1) := by decide +kernel
theorem dX0_list_63 : decode cX0_list 63 = .ok (.getfield 18, 3) := by decide +kernel
theorem dX0_list_66 : decode cX0_list 66 = .ok (.aload_n 0, 1) := by decide +kernel
theorem dX0_list_67 : decode cX0_list 67 = .ok (.getfield 24, 3) := by decide +kernel
theorem dX0_list_70 : decode cX0_list 70 = .ok (.aload_n 2, 1) := by decide +kernel
theorem dX0_list_71 : decode cX0_list 71 = .ok (.aload_n 1, 1) := by decide +kernel
theorem dX0_list_72 : decode cX0_list 72 = .ok (.iload 5, 2) := by decide +kernel
theorem dX0_list_74 : decode cX0_list 74 = .ok (.iload 4, 2) := by decide +kernel
theorem dX0_list_76 : decode cX0_list 76 = .ok (.invokevirtual 53, 3) := by decide +kernel
theorem dX0_list_79 : decode cX0_list 79 = .ok (.iastore, 1) := by decide +kernel
theorem dX0_list_80 : decode cX0_list 80 = .ok (.aload_n 0, 1) := by decide +kernel
theorem dX0_list_81 : decode cX0_list 81 = .ok (.getfield 21, 3) := by decide +kernel
theorem dX0_list_84 : decode cX0_list 84 = .ok (.aload_n 0, 1) := by decide +kernel
theorem dX0_list_85 : decode cX0_list 85 = .ok (.getfield 24, 3) := by decide +kernel
theorem dX0_list_88 : decode cX0_list 88 = .ok (.bipush 10, 2) := by decide +kernel
theorem dX0_list_90 : decode cX0_list 90 = .ok (.iconst 5, 1) := by decide +kernel
theorem dX0_list_91 : decode cX0_list 91 = .ok (.aload_n 1, 1) := by decide +kernel
theorem dX0_list_92 : decode cX0_list 92 = .ok (.getfield 59, 3) := by decide +kernel
theorem dX0_list_95 : decode cX0_list 95 = .ok (.iload 5, 2) := by decide +kernel
theorem dX0_list_97 : decode cX0_list 97 = .ok (.iaload, 1) := by decide +kernel
theorem dX0_list_98 : decode cX0_list 98 = .ok (.imul, 1) := by decide +kernel
theorem dX0_list_99 : decode cX0_list 99 = .ok (.iadd, 1) := by decide +kernel
theorem dX0_list_100 : decode cX0_list 100 = .ok (.iastore, 1) := by decide +kernel
theorem dX0_list_101 : decode cX0_list 101 = .ok (.aload_n 0, 1) := by decide +kernel
theorem dX0_list_102 : decode cX0_list 102 = .ok (.dup, 1) := by decide +kernel
theorem dX0_list_103 : decode cX0_list 103 = .ok (.getfield 24, 3) := by decide +kernel
theorem dX0_list_106 : decode cX0_list 106 = .ok (.iconst 1, 1) := by decide +kernel
theorem dX0_list_107 : decode cX0_list 107 = .ok (.iadd, 1) := by decide +kernel
theorem dX0_list_108 : decode cX0_list 108 = .ok (.putfield 24, 3) := by decide +kernel
theorem dX0_list_111 : decode cX0_list 111 = .ok (.iinc 5 1, 3) := by decide +kernel
theorem dX0_list_114 : decode cX0_list 114 = .ok (.goto (-106), 3) := by decide +kernel
theorem dX0_list_117 : decode cX0_list 117 = .ok (.return_, 1) := by decide +kernel
theorem dX0_costOf_0 : decode cX0_costOf 0 = .ok (.aload_n 0, 1) := by decide +kernel
theorem dX0_costOf_1 : decode cX0_costOf 1 = .ok (.getfield 28, 3) := by decide +kernel
theorem dX0_costOf_4 : decode cX0_costOf 4 = .ok (.iload_n 2, 1) := by decide +kernel
theorem dX0_costOf_5 : decode cX0_costOf 5 = .ok (.iaload, 1) := by decide +kernel
theorem dX0_costOf_6 : decode cX0_costOf 6 = .ok (.aload_n 0, 1) := by decide +kernel
theorem dX0_costOf_7 : decode cX0_costOf 7 = .ok (.getfield 15, 3) := by decide +kernel
theorem dX0_costOf_10 : decode cX0_costOf 10 = .ok (.iload_n 1, 1) := by decide +kernel
theorem dX0_costOf_11 : decode cX0_costOf 11 = .ok (.iaload, 1) := by decide +kernel
theorem dX0_costOf_12 : decode cX0_costOf 12 = .ok (.iadd, 1) := by decide +kernel
theorem dX0_costOf_13 : decode cX0_costOf 13 = .ok (.aload_n 0, 1) := by decide +kernel
theorem dX0_costOf_14 : decode cX0_costOf 14 = .ok (.getfield 18, 3) := by decide +kernel
theorem dX0_costOf_17 : decode cX0_costOf 17 = .ok (.iload_n 1, 1) := by decide +kernel
theorem dX0_costOf_18 : decode cX0_costOf 18 = .ok (.iaload, 1) := by decide +kernel
theorem dX0_costOf_19 : decode cX0_costOf 19 = .ok (.if_icmp .le 7, 3) := by decide +kernel
theorem dX0_costOf_22 : decode cX0_costOf 22 = .ok (.iconst 1, 1) := by decide +kernel
theorem dX0_costOf_23 : decode cX0_costOf 23 = .ok (.goto 4, 3) := by decide +kernel
theorem dX0_costOf_26 : decode cX0_costOf 26 = .ok (.iconst 0, 1) := by decide +kernel
theorem dX0_costOf_27 : decode cX0_costOf 27 = .ok (.istore_n 3, 1) := by decide +kernel
theorem dX0_costOf_28 : decode cX0_costOf 28 = .ok (.aload_n 0, 1) := by decide +kernel
theorem dX0_costOf_29 : decode cX0_costOf 29 = .ok (.getfield 31, 3) := by decide +kernel
theorem dX0_costOf_32 : decode cX0_costOf 32 = .ok (.iload_n 2, 1) := by decide +kernel
theorem dX0_costOf_33 : decode cX0_costOf 33 = .ok (.iconst 1, 1) := by decide +kernel
theorem dX0_costOf_34 : decode cX0_costOf 34 = .ok (.iload_n 1, 1) := by decide +kernel
theorem dX0_costOf_35 : decode cX0_costOf 35 = .ok (.ishl, 1) := by decide +kernel
theorem dX0_costOf_36 : decode cX0_costOf 36 = .ok (.ior, 1) := by decide +kernel
theorem dX0_costOf_37 : decode cX0_costOf 37 = .ok (.iaload, 1) := by decide +kernel
theorem dX0_costOf_38 : decode cX0_costOf 38 = .ok (.iload_n 3, 1) := by decide +kernel
theorem dX0_costOf_39 : decode cX0_costOf 39 = .ok (.ifCond .eq 12, 3) := by decide +kernel
theorem dX0_costOf_42 : decode cX0_costOf 42 = .ok (.aload_n 0, 1) := by decide +kernel
theorem dX0_costOf_43 : decode cX0_costOf 43 = .ok (.getfield 21, 3) := by decide +kernel
theorem dX0_costOf_46 : decode cX0_costOf 46 = .ok (.iload_n 1, 1) := by decide +kernel
theorem dX0_costOf_47 : decode cX0_costOf 47 = .ok (.iaload, 1) := by decide +kernel
theorem dX0_costOf_48 : decode cX0_costOf 48 = .ok (.goto 4, 3) := by decide +kernel
theorem dX0_costOf_51 : decode cX0_costOf 51 = .ok (.iconst 0, 1) := by decide +kernel
theorem dX0_costOf_52 : decode cX0_costOf 52 = .ok (.iadd, 1) := by decide +kernel
theorem dX0_costOf_53 : decode cX0_costOf 53 = .ok (.ireturn, 1) := by decide +kernel
theorem dX0_cost_0 : decode cX0_cost 0 = .ok (.aload_n 0, 1) := by decide +kernel
theorem dX0_cost_1 : decode cX0_cost 1 = .ok (.getfield 31, 3) := by decide +kernel
theorem dX0_cost_4 : decode cX0_cost 4 = .ok (.iconst 0, 1) := by decide +kernel
theorem dX0_cost_5 : decode cX0_cost 5 = .ok (.iaload, 1) := by decide +kernel
theorem dX0_cost_6 : decode cX0_cost 6 = .ok (.ireturn, 1) := by decide +kernel
theorem dX0_holeAt_0 : decode cX0_holeAt 0 = .ok (.iconst 0, 1) := by decide +kernel
theorem dX0_holeAt_1 : decode cX0_holeAt 1 = .ok (.istore_n 2, 1) := by decide +kernel
theorem dX0_holeAt_2 : decode cX0_holeAt 2 = .ok (.iconst (-1), 1) := by decide +kernel
theorem dX0_holeAt_3 : decode cX0_holeAt 3 = .ok (.istore_n 3, 1) := by decide +kernel
theorem dX0_holeAt_4 : decode cX0_holeAt 4 = .ok (.iconst 0, 1) := by decide +kernel
theorem dX0_holeAt_5 : decode cX0_holeAt 5 = .ok (.istore 4, 2) := by decide +kernel
theorem dX0_holeAt_7 : decode cX0_holeAt 7 = .ok (.iload 4, 2) := by decide +kernel
theorem dX0_holeAt_9 : decode cX0_holeAt 9 = .ok (.iload_n 1, 1) := by decide +kernel
theorem dX0_holeAt_10 : decode cX0_holeAt 10 = .ok (.if_icmp .gt 40, 3) := by decide +kernel
theorem dX0_holeAt_13 : decode cX0_holeAt 13 = .ok (.iload 4, 2) := by decide +kernel
theorem dX0_holeAt_15 : decode cX0_holeAt 15 = .ok (.aload_n 0, 1) := by decide +kernel
theorem dX0_holeAt_16 : decode cX0_holeAt 16 = .ok (.getfield 24, 3) := by decide +kernel
theorem dX0_holeAt_19 : decode cX0_holeAt 19 = .ok (.if_icmp .ge 31, 3) := by decide +kernel
theorem dX0_holeAt_22 : decode cX0_holeAt 22 = .ok (.aload_n 0, 1) := by decide +kernel
theorem dX0_holeAt_23 : decode cX0_holeAt 23 = .ok (.iload_n 2, 1) := by decide +kernel
theorem dX0_holeAt_24 : decode cX0_holeAt 24 = .ok (.invokevirtual 62, 3) := by decide +kernel
theorem dX0_holeAt_27 : decode cX0_holeAt 27 = .ok (.istore 5, 2) := by decide +kernel
theorem dX0_holeAt_29 : decode cX0_holeAt 29 = .ok (.iload_n 2, 1) := by decide +kernel
theorem dX0_holeAt_30 : decode cX0_holeAt 30 = .ok (.iconst 1, 1) := by decide +kernel
theorem dX0_holeAt_31 : decode cX0_holeAt 31 = .ok (.iload 5, 2) := by decide +kernel
theorem dX0_holeAt_33 : decode cX0_holeAt 33 = .ok (.ishl, 1) := by decide +kernel
theorem dX0_holeAt_34 : decode cX0_holeAt 34 = .ok (.ior, 1) := by decide +kernel
theorem dX0_holeAt_35 : decode cX0_holeAt 35 = .ok (.istore_n 2, 1) := by decide +kernel
theorem dX0_holeAt_36 : decode cX0_holeAt 36 = .ok (.aload_n 0, 1) := by decide +kernel
theorem dX0_holeAt_37 : decode cX0_holeAt 37 = .ok (.getfield 9, 3) := by decide +kernel
theorem dX0_holeAt_40 : decode cX0_holeAt 40 = .ok (.iload 5, 2) := by decide +kernel
theorem dX0_holeAt_42 : decode cX0_holeAt 42 = .ok (.iaload, 1) := by decide +kernel
theorem dX0_holeAt_43 : decode cX0_holeAt 43 = .ok (.istore_n 3, 1) := by decide +kernel
theorem dX0_holeAt_44 : decode cX0_holeAt 44 = .ok (.iinc 4 1, 3) := by decide +kernel
theorem dX0_holeAt_47 : decode cX0_holeAt 47 = .ok (.goto (-40), 3) := by decide +kernel
theorem dX0_holeAt_50 : decode cX0_holeAt 50 = .ok (.iload_n 3, 1) := by decide +kernel
theorem dX0_holeAt_51 : decode cX0_holeAt 51 = .ok (.ireturn, 1) := by decide +kernel
theorem dX0_nextBehind_0 : decode cX0_nextBehind 0 = .ok (.iconst 0, 1) := by decide +kernel
theorem dX0_nextBehind_1 : decode cX0_nextBehind 1 = .ok (.istore_n 2, 1) := by decide +kernel
theorem dX0_nextBehind_2 : decode cX0_nextBehind 2 = .ok (.iload_n 2, 1) := by decide +kernel
theorem dX0_nextBehind_3 : decode cX0_nextBehind 3 = .ok (.aload_n 0, 1) := by decide +kernel
theorem dX0_nextBehind_4 : decode cX0_nextBehind 4 = .ok (.getfield 24, 3) := by decide +kernel
theorem dX0_nextBehind_7 : decode cX0_nextBehind 7 = .ok (.if_icmp .ge 34, 3) := by decide +kernel
theorem dX0_nextBehind_10 : decode cX0_nextBehind 10 = .ok (.iload_n 1, 1) := by decide +kernel
theorem dX0_nextBehind_11 : decode cX0_nextBehind 11 = .ok (.iload_n 2, 1) := by decide +kernel
theorem dX0_nextBehind_12 : decode cX0_nextBehind 12 = .ok (.ishr, 1) := by decide +kernel
theorem dX0_nextBehind_13 : decode cX0_nextBehind 13 = .ok (.iconst 1, 1) := by decide +kernel
theorem dX0_nextBehind_14 : decode cX0_nextBehind 14 = .ok (.iand, 1) := by decide +kernel
theorem dX0_nextBehind_15 : decode cX0_nextBehind 15 = .ok (.ifCond .ne 20, 3) := by decide +kernel
theorem dX0_nextBehind_18 : decode cX0_nextBehind 18 = .ok (.aload_n 0, 1) := by decide +kernel
theorem dX0_nextBehind_19 : decode cX0_nextBehind 19 = .ok (.iload_n 2, 1) := by decide +kernel
theorem dX0_nextBehind_20 : decode cX0_nextBehind 20 = .ok (.iload_n 1, 1) := by decide +kernel
theorem dX0_nextBehind_21 : decode cX0_nextBehind 21 = .ok (.invokevirtual 39, 3) := by decide +kernel
theorem dX0_nextBehind_24 : decode cX0_nextBehind 24 = .ok (.aload_n 0, 1) := by decide +kernel
theorem dX0_nextBehind_25 : decode cX0_nextBehind 25 = .ok (.getfield 31, 3) := by decide +kernel
theorem dX0_nextBehind_28 : decode cX0_nextBehind 28 = .ok (.iload_n 1, 1) := by decide +kernel
theorem dX0_nextBehind_29 : decode cX0_nextBehind 29 = .ok (.iaload, 1) := by decide +kernel
theorem dX0_nextBehind_30 : decode cX0_nextBehind 30 = .ok (.if_icmp .ne 5, 3) := by decide +kernel
theorem dX0_nextBehind_33 : decode cX0_nextBehind 33 = .ok (.iload_n 2, 1) := by decide +kernel
theorem dX0_nextBehind_34 : decode cX0_nextBehind 34 = .ok (.ireturn, 1) := by decide +kernel
theorem dX0_nextBehind_35 : decode cX0_nextBehind 35 = .ok (.iinc 2 1, 3) := by decide +kernel
theorem dX0_nextBehind_38 : decode cX0_nextBehind 38 = .ok (.goto (-36), 3) := by decide +kernel
theorem dX0_nextBehind_41 : decode cX0_nextBehind 41 = .ok (.iconst 0, 1) := by decide +kernel
theorem dX0_nextBehind_42 : decode cX0_nextBehind 42 = .ok (.ireturn, 1) := by decide +kernel
theorem dX1_has_0 : decode cX1_has 0 = .ok (.iload_n 0, 1) := by decide +kernel
theorem dX1_has_1 : decode cX1_has 1 = .ok (.ifCond .lt 23, 3) := by decide +kernel
theorem dX1_has_4 : decode cX1_has 4 = .ok (.iload_n 0, 1) := by decide +kernel
theorem dX1_has_5 : decode cX1_has 5 = .ok (.bipush 16, 2) := by decide +kernel
theorem dX1_has_7 : decode cX1_has 7 = .ok (.if_icmp .ge 17, 3) := by decide +kernel
theorem dX1_has_10 : decode cX1_has 10 = .ok (.iload_n 1, 1) := by decide +kernel
theorem dX1_has_11 : decode cX1_has 11 = .ok (.ifCond .lt 13, 3) := by decide +kernel
theorem dX1_has_14 : decode cX1_has 14 = .ok (.iload_n 1, 1) := by decide +kernel
theorem dX1_has_15 : decode cX1_has 15 = .ok (.bipush 16, 2) := by decide +kernel
theorem dX1_has_17 : decode cX1_has 17 = .ok (.if_icmp .ge 7, 3) := by decide +kernel
theorem dX1_has_20 : decode cX1_has 20 = .ok (.iconst 1, 1) := by decide +kernel
theorem dX1_has_21 : decode cX1_has 21 = .ok (.goto 4, 3) := by decide +kernel
theorem dX1_has_24 : decode cX1_has 24 = .ok (.iconst 0, 1) := by decide +kernel
theorem dX1_has_25 : decode cX1_has 25 = .ok (.ireturn, 1) := by decide +kernel
theorem dX1_hasSquare_0 : decode cX1_hasSquare 0 = .ok (.iload_n 0, 1) := by decide +kernel
theorem dX1_hasSquare_1 : decode cX1_hasSquare 1 = .ok (.ifCond .lt 14, 3) := by decide +kernel
theorem dX1_hasSquare_4 : decode cX1_hasSquare 4 = .ok (.iload_n 0, 1) := by decide +kernel
theorem dX1_hasSquare_5 : decode cX1_hasSquare 5 = .ok (.sipush 256, 3) := by decide +kernel
theorem dX1_hasSquare_8 : decode cX1_hasSquare 8 = .ok (.if_icmp .ge 7, 3) := by decide +kernel
theorem dX1_hasSquare_11 : decode cX1_hasSquare 11 = .ok (.iconst 1, 1) := by decide +kernel
theorem dX1_hasSquare_12 : decode cX1_hasSquare 12 = .ok (.goto 4, 3) := by decide +kernel
theorem dX1_hasSquare_15 : decode cX1_hasSquare 15 = .ok (.iconst 0, 1) := by decide +kernel
theorem dX1_hasSquare_16 : decode cX1_hasSquare 16 = .ok (.ireturn, 1) := by decide +kernel
theorem dX1_at_0 : decode cX1_at 0 = .ok (.bipush 16, 2) := by decide +kernel
theorem dX1_at_2 : decode cX1_at 2 = .ok (.iload_n 1, 1) := by decide +kernel
theorem dX1_at_3 : decode cX1_at 3 = .ok (.imul, 1) := by decide +kernel
theorem dX1_at_4 : decode cX1_at 4 = .ok (.iload_n 0, 1) := by decide +kernel
theorem dX1_at_5 : decode cX1_at 5 = .ok (.iadd, 1) := by decide +kernel
theorem dX1_at_6 : decode cX1_at 6 = .ok (.ireturn, 1) := by decide +kernel
theorem dX1_xOf_0 : decode cX1_xOf 0 = .ok (.iload_n 0, 1) := by decide +kernel
theorem dX1_xOf_1 : decode cX1_xOf 1 = .ok (.bipush 15, 2) := by decide +kernel
theorem dX1_xOf_3 : decode cX1_xOf 3 = .ok (.iand, 1) := by decide +kernel
theorem dX1_xOf_4 : decode cX1_xOf 4 = .ok (.ireturn, 1) := by decide +kernel
theorem dX1_yOf_0 : decode cX1_yOf 0 = .ok (.iload_n 0, 1) := by decide +kernel
theorem dX1_yOf_1 : decode cX1_yOf 1 = .ok (.iconst 4, 1) := by decide +kernel
theorem dX1_yOf_2 : decode cX1_yOf 2 = .ok (.ishr, 1) := by decide +kernel
theorem dX1_yOf_3 : decode cX1_yOf 3 = .ok (.ireturn, 1) := by decide +kernel
theorem dX1_neighbour_0 : decode cX1_neighbour 0 = .ok (.iload_n 0, 1) := by decide +kernel
theorem dX1_neighbour_1 : decode cX1_neighbour 1 = .ok (.getstatic 9, 3) := by decide +kernel
theorem dX1_neighbour_4 : decode cX1_neighbour 4 = .ok (.iload_n 1, 1) := by decide +kernel
theorem dX1_neighbour_5 : decode cX1_neighbour 5 = .ok (.iaload, 1) := by decide +kernel
theorem dX1_neighbour_6 : decode cX1_neighbour 6 = .ok (.getstatic 15, 3) := by decide +kernel
theorem dX1_neighbour_9 : decode cX1_neighbour 9 = .ok (.iload_n 1, 1) := by decide +kernel
theorem dX1_neighbour_10 : decode cX1_neighbour 10 = .ok (.iaload, 1) := by decide +kernel
theorem dX1_neighbour_11 : decode cX1_neighbour 11 = .ok (.invokestatic 18, 3) := by decide +kernel
theorem dX1_neighbour_14 : decode cX1_neighbour 14 = .ok (.ireturn, 1) := by decide +kernel
theorem dX1_side_0 : decode cX1_side 0 = .ok (.iload_n 0, 1) := by decide +kernel
theorem dX1_side_1 : decode cX1_side 1 = .ok (.getstatic 22, 3) := by decide +kernel
theorem dX1_side_4 : decode cX1_side 4 = .ok (.iload_n 1, 1) := by decide +kernel
theorem dX1_side_5 : decode cX1_side 5 = .ok (.iaload, 1) := by decide +kernel
theorem dX1_side_6 : decode cX1_side 6 = .ok (.getstatic 25, 3) := by decide +kernel
theorem dX1_side_9 : decode cX1_side 9 = .ok (.iload_n 1, 1) := by decide +kernel
theorem dX1_side_10 : decode cX1_side 10 = .ok (.iaload, 1) := by decide +kernel
theorem dX1_side_11 : decode cX1_side 11 = .ok (.invokestatic 18, 3) := by decide +kernel
theorem dX1_side_14 : decode cX1_side 14 = .ok (.ireturn, 1) := by decide +kernel
theorem dX1_beside_0 : decode cX1_beside 0 = .ok (.iload_n 0, 1) := by decide +kernel
theorem dX1_beside_1 : decode cX1_beside 1 = .ok (.invokestatic 28, 3) := by decide +kernel
theorem dX1_beside_4 : decode cX1_beside 4 = .ok (.iload_n 1, 1) := by decide +kernel
theorem dX1_beside_5 : decode cX1_beside 5 = .ok (.iadd, 1) := by decide +kernel
theorem dX1_beside_6 : decode cX1_beside 6 = .ok (.istore_n 3, 1) := by decide +kernel
theorem dX1_beside_7 : decode cX1_beside 7 = .ok (.iload_n 0, 1) := by decide +kernel
theorem dX1_beside_8 : decode cX1_beside 8 = .ok (.invokestatic 32, 3) := by decide +kernel
theorem dX1_beside_11 : decode cX1_beside 11 = .ok (.iload_n 2, 1) := by decide +kernel
theorem dX1_beside_12 : decode cX1_beside 12 = .ok (.iadd, 1) := by decide +kernel
theorem dX1_beside_13 : decode cX1_beside 13 = .ok (.istore 4, 2) := by decide +kernel
theorem dX1_beside_15 : decode cX1_beside 15 = .ok (.iload_n 3, 1) := by decide +kernel
theorem dX1_beside_16 : decode cX1_beside 16 = .ok (.iload 4, 2) := by decide +kernel
theorem dX1_beside_18 : decode cX1_beside 18 = .ok (.invokestatic 35, 3) := by decide +kernel
theorem dX1_beside_21 : decode cX1_beside 21 = .ok (.ifCond .eq 12, 3) := by decide +kernel
theorem dX1_beside_24 : decode cX1_beside 24 = .ok (.iload_n 3, 1) := by decide +kernel
theorem dX1_beside_25 : decode cX1_beside 25 = .ok (.iload 4, 2) := by decide +kernel
theorem dX1_beside_27 : decode cX1_beside 27 = .ok (.invokestatic 39, 3) := by decide +kernel
theorem dX1_beside_30 : decode cX1_beside 30 = .ok (.goto 4, 3) := by decide +kernel
theorem dX1_beside_33 : decode cX1_beside 33 = .ok (.iconst (-1), 1) := by decide +kernel
theorem dX1_beside_34 : decode cX1_beside 34 = .ok (.ireturn, 1) := by decide +kernel
theorem dX1_way_0 : decode cX1_way 0 = .ok (.iload_n 0, 1) := by decide +kernel
theorem dX1_way_1 : decode cX1_way 1 = .ok (.invokestatic 28, 3) := by decide +kernel
theorem dX1_way_4 : decode cX1_way 4 = .ok (.iload_n 1, 1) := by decide +kernel
theorem dX1_way_5 : decode cX1_way 5 = .ok (.invokestatic 28, 3) := by decide +kernel
theorem dX1_way_8 : decode cX1_way 8 = .ok (.isub, 1) := by decide +kernel
theorem dX1_way_9 : decode cX1_way 9 = .ok (.invokestatic 43, 3) := by decide +kernel
theorem dX1_way_12 : decode cX1_way 12 = .ok (.iload_n 0, 1) := by decide +kernel
theorem dX1_way_13 : decode cX1_way 13 = .ok (.invokestatic 32, 3) := by decide +kernel
theorem dX1_way_16 : decode cX1_way 16 = .ok (.iload_n 1, 1) := by decide +kernel
theorem dX1_way_17 : decode cX1_way 17 = .ok (.invokestatic 32, 3) := by decide +kernel
theorem dX1_way_20 : decode cX1_way 20 = .ok (.isub, 1) := by decide +kernel
theorem dX1_way_21 : decode cX1_way 21 = .ok (.invokestatic 43, 3) := by decide +kernel
theorem dX1_way_24 : decode cX1_way 24 = .ok (.iadd, 1) := by decide +kernel
theorem dX1_way_25 : decode cX1_way 25 = .ok (.ireturn, 1) := by decide +kernel
theorem dX1_touch_0 : decode cX1_touch 0 = .ok (.iload_n 0, 1) := by decide +kernel
theorem dX1_touch_1 : decode cX1_touch 1 = .ok (.iload_n 1, 1) := by decide +kernel
theorem dX1_touch_2 : decode cX1_touch 2 = .ok (.if_icmp .eq 39, 3) := by decide +kernel
theorem dX1_touch_5 : decode cX1_touch 5 = .ok (.iload_n 0, 1) := by decide +kernel
theorem dX1_touch_6 : decode cX1_touch 6 = .ok (.invokestatic 28, 3) := by decide +kernel
theorem dX1_touch_9 : decode cX1_touch 9 = .ok (.iload_n 1, 1) := by decide +kernel
theorem dX1_touch_10 : decode cX1_touch 10 = .ok (.invokestatic 28, 3) := by decide +kernel
theorem dX1_touch_13 : decode cX1_touch 13 = .ok (.isub, 1) := by decide +kernel
theorem dX1_touch_14 : decode cX1_touch 14 = .ok (.invokestatic 43, 3) := by decide +kernel
theorem dX1_touch_17 : decode cX1_touch 17 = .ok (.iconst 1, 1) := by decide +kernel
theorem dX1_touch_18 : decode cX1_touch 18 = .ok (.if_icmp .gt 23, 3) := by decide +kernel
theorem dX1_touch_21 : decode cX1_touch 21 = .ok (.iload_n 0, 1) := by decide +kernel
theorem dX1_touch_22 : decode cX1_touch 22 = .ok (.invokestatic 32, 3) := by decide +kernel
theorem dX1_touch_25 : decode cX1_touch 25 = .ok (.iload_n 1, 1) := by decide +kernel
theorem dX1_touch_26 : decode cX1_touch 26 = .ok (.invokestatic 32, 3) := by decide +kernel
theorem dX1_touch_29 : decode cX1_touch 29 = .ok (.isub, 1) := by decide +kernel
theorem dX1_touch_30 : decode cX1_touch 30 = .ok (.invokestatic 43, 3) := by decide +kernel
theorem dX1_touch_33 : decode cX1_touch 33 = .ok (.iconst 1, 1) := by decide +kernel
theorem dX1_touch_34 : decode cX1_touch 34 = .ok (.if_icmp .gt 7, 3) := by decide +kernel
theorem dX1_touch_37 : decode cX1_touch 37 = .ok (.iconst 1, 1) := by decide +kernel
theorem dX1_touch_38 : decode cX1_touch 38 = .ok (.goto 4, 3) := by decide +kernel
theorem dX1_touch_41 : decode cX1_touch 41 = .ok (.iconst 0, 1) := by decide +kernel
theorem dX1_touch_42 : decode cX1_touch 42 = .ok (.ireturn, 1) := by decide +kernel
theorem dX1_inRow_0 : decode cX1_inRow 0 = .ok (.iload_n 0, 1) := by decide +kernel
theorem dX1_inRow_1 : decode cX1_inRow 1 = .ok (.iload_n 1, 1) := by decide +kernel
theorem dX1_inRow_2 : decode cX1_inRow 2 = .ok (.iload_n 2, 1) := by decide +kernel
theorem dX1_inRow_3 : decode cX1_inRow 3 = .ok (.invokestatic 48, 3) := by decide +kernel
theorem dX1_inRow_6 : decode cX1_inRow 6 = .ok (.ifCond .ne 21, 3) := by decide +kernel
theorem dX1_inRow_9 : decode cX1_inRow 9 = .ok (.iload_n 1, 1) := by decide +kernel
theorem dX1_inRow_10 : decode cX1_inRow 10 = .ok (.iload_n 0, 1) := by decide +kernel
theorem dX1_inRow_11 : decode cX1_inRow 11 = .ok (.iload_n 2, 1) := by decide +kernel
theorem dX1_inRow_12 : decode cX1_inRow 12 = .ok (.invokestatic 48, 3) := by decide +kernel
theorem dX1_inRow_15 : decode cX1_inRow 15 = .ok (.ifCond .ne 12, 3) := by decide +kernel
theorem dX1_inRow_18 : decode cX1_inRow 18 = .ok (.iload_n 0, 1) := by decide +kernel
theorem dX1_inRow_19 : decode cX1_inRow 19 = .ok (.iload_n 2, 1) := by decide +kernel
theorem dX1_inRow_20 : decode cX1_inRow 20 = .ok (.iload_n 1, 1) := by decide +kernel
theorem dX1_inRow_21 : decode cX1_inRow 21 = .ok (.invokestatic 48, 3) := by decide +kernel
theorem dX1_inRow_24 : decode cX1_inRow 24 = .ok (.ifCond .eq 7, 3) := by decide +kernel
theorem dX1_inRow_27 : decode cX1_inRow 27 = .ok (.iconst 1, 1) := by decide +kernel
theorem dX1_inRow_28 : decode cX1_inRow 28 = .ok (.goto 4, 3) := by decide +kernel
theorem dX1_inRow_31 : decode cX1_inRow 31 = .ok (.iconst 0, 1) := by decide +kernel
theorem dX1_inRow_32 : decode cX1_inRow 32 = .ok (.ireturn, 1) := by decide +kernel
theorem dX1_isMiddle_0 : decode cX1_isMiddle 0 = .ok (.iload_n 1, 1) := by decide +kernel
theorem dX1_isMiddle_1 : decode cX1_isMiddle 1 = .ok (.invokestatic 28, 3) := by decide +kernel
theorem dX1_isMiddle_4 : decode cX1_isMiddle 4 = .ok (.iload_n 0, 1) := by decide +kernel
theorem dX1_isMiddle_5 : decode cX1_isMiddle 5 = .ok (.invokestatic 28, 3) := by decide +kernel
theorem dX1_isMiddle_8 : decode cX1_isMiddle 8 = .ok (.isub, 1) := by decide +kernel
theorem dX1_isMiddle_9 : decode cX1_isMiddle 9 = .ok (.istore_n 3, 1) := by decide +kernel
theorem dX1_isMiddle_10 : decode cX1_isMiddle 10 = .ok (.iload_n 1, 1) := by decide +kernel
theorem dX1_isMiddle_11 : decode cX1_isMiddle 11 = .ok (.invokestatic 32, 3) := by decide +kernel
theorem dX1_isMiddle_14 : decode cX1_isMiddle 14 = .ok (.iload_n 0, 1) := by decide +kernel
theorem dX1_isMiddle_15 : decode cX1_isMiddle 15 = .ok (.invokestatic 32, 3) := by decide +kernel
theorem dX1_isMiddle_18 : decode cX1_isMiddle 18 = .ok (.isub, 1) := by decide +kernel
theorem dX1_isMiddle_19 : decode cX1_isMiddle 19 = .ok (.istore 4, 2) := by decide +kernel
theorem dX1_isMiddle_21 : decode cX1_isMiddle 21 = .ok (.iload_n 3, 1) := by decide +kernel
theorem dX1_isMiddle_22 : decode cX1_isMiddle 22 = .ok (.invokestatic 43, 3) := by decide +kernel
theorem dX1_isMiddle_25 : decode cX1_isMiddle 25 = .ok (.iconst 3, 1) := by decide +kernel
theorem dX1_isMiddle_26 : decode cX1_isMiddle 26 = .ok (.if_icmp .gt 43, 3) := by decide +kernel
theorem dX1_isMiddle_29 : decode cX1_isMiddle 29 = .ok (.iload 4, 2) := by decide +kernel
theorem dX1_isMiddle_31 : decode cX1_isMiddle 31 = .ok (.invokestatic 43, 3) := by decide +kernel
theorem dX1_isMiddle_34 : decode cX1_isMiddle 34 = .ok (.iconst 3, 1) := by decide +kernel
theorem dX1_isMiddle_35 : decode cX1_isMiddle 35 = .ok (.if_icmp .gt 34, 3) := by decide +kernel
theorem dX1_isMiddle_38 : decode cX1_isMiddle 38 = .ok (.iload_n 2, 1) := by decide +kernel
theorem dX1_isMiddle_39 : decode cX1_isMiddle 39 = .ok (.invokestatic 28, 3) := by decide +kernel
theorem dX1_isMiddle_42 : decode cX1_isMiddle 42 = .ok (.iload_n 1, 1) := by decide +kernel
theorem dX1_isMiddle_43 : decode cX1_isMiddle 43 = .ok (.invokestatic 28, 3) := by decide +kernel
theorem dX1_isMiddle_46 : decode cX1_isMiddle 46 = .ok (.isub, 1) := by decide +kernel
theorem dX1_isMiddle_47 : decode cX1_isMiddle 47 = .ok (.iload_n 3, 1) := by decide +kernel
theorem dX1_isMiddle_48 : decode cX1_isMiddle 48 = .ok (.if_icmp .ne 21, 3) := by decide +kernel
theorem dX1_isMiddle_51 : decode cX1_isMiddle 51 = .ok (.iload_n 2, 1) := by decide +kernel
theorem dX1_isMiddle_52 : decode cX1_isMiddle 52 = .ok (.invokestatic 32, 3) := by decide +kernel
theorem dX1_isMiddle_55 : decode cX1_isMiddle 55 = .ok (.iload_n 1, 1) := by decide +kernel
theorem dX1_isMiddle_56 : decode cX1_isMiddle 56 = .ok (.invokestatic 32, 3) := by decide +kernel
theorem dX1_isMiddle_59 : decode cX1_isMiddle 59 = .ok (.isub, 1) := by decide +kernel
theorem dX1_isMiddle_60 : decode cX1_isMiddle 60 = .ok (.iload 4, 2) := by decide +kernel
theorem dX1_isMiddle_62 : decode cX1_isMiddle 62 = .ok (.if_icmp .ne 7, 3) := by decide +kernel
theorem dX1_isMiddle_65 : decode cX1_isMiddle 65 = .ok (.iconst 1, 1) := by decide +kernel
theorem dX1_isMiddle_66 : decode cX1_isMiddle 66 = .ok (.goto 4, 3) := by decide +kernel
theorem dX1_isMiddle_69 : decode cX1_isMiddle 69 = .ok (.iconst 0, 1) := by decide +kernel
theorem dX1_isMiddle_70 : decode cX1_isMiddle 70 = .ok (.ireturn, 1) := by decide +kernel
theorem dX2_init_0 : decode cX2_init 0 = .ok (.aload_n 0, 1) := by decide +kernel
theorem dX2_init_1 : decode cX2_init 1 = .ok (.invokespecial 3, 3) := by decide +kernel
theorem dX2_init_4 : decode cX2_init 4 = .ok (.aload_n 0, 1) := by decide +kernel
theorem dX2_init_5 : decode cX2_init 5 = .ok (.sipush 256, 3) := by decide +kernel
theorem dX2_init_8 : decode cX2_init 8 = .ok (.newarray .int, 2) := by decide +kernel
theorem dX2_init_10 : decode cX2_init 10 = .ok (.putfield 9, 3) := by decide +kernel
theorem dX2_init_13 : decode cX2_init 13 = .ok (.aload_n 0, 1) := by decide +kernel
theorem dX2_init_14 : decode cX2_init 14 = .ok (.sipush 256, 3) := by decide +kernel
theorem dX2_init_17 : decode cX2_init 17 = .ok (.newarray .int, 2) := by decide +kernel
theorem dX2_init_19 : decode cX2_init 19 = .ok (.putfield 15, 3) := by decide +kernel
theorem dX2_init_22 : decode cX2_init 22 = .ok (.aload_n 0, 1) := by decide +kernel
theorem dX2_init_23 : decode cX2_init 23 = .ok (.sipush 256, 3) := by decide +kernel
theorem dX2_init_26 : decode cX2_init 26 = .ok (.newarray .int, 2) := by decide +kernel
theorem dX2_init_28 : decode cX2_init 28 = .ok (.putfield 18, 3) := by decide +kernel
theorem dX2_init_31 : decode cX2_init 31 = .ok (.aload_n 0, 1) := by decide +kernel
theorem dX2_init_32 : decode cX2_init 32 = .ok (.sipush 256, 3) := by decide +kernel
theorem dX2_init_35 : decode cX2_init 35 = .ok (.newarray .int, 2) := by decide +kernel
theorem dX2_init_37 : decode cX2_init 37 = .ok (.putfield 21, 3) := by decide +kernel
theorem dX2_init_40 : decode cX2_init 40 = .ok (.aload_n 0, 1) := by decide +kernel
theorem dX2_init_41 : decode cX2_init 41 = .ok (.bipush 12, 2) := by decide +kernel
theorem dX2_init_43 : decode cX2_init 43 = .ok (.newarray .int, 2) := by decide +kernel
theorem dX2_init_45 : decode cX2_init 45 = .ok (.putfield 24, 3) := by decide +kernel
theorem dX2_init_48 : decode cX2_init 48 = .ok (.aload_n 0, 1) := by decide +kernel
theorem dX2_init_49 : decode cX2_init 49 = .ok (.bipush 12, 2) := by decide +kernel
theorem dX2_init_51 : decode cX2_init 51 = .ok (.newarray .int, 2) := by decide +kernel
theorem dX2_init_53 : decode cX2_init 53 = .ok (.putfield 27, 3) := by decide +kernel
theorem dX2_init_56 : decode cX2_init 56 = .ok (.aload_n 0, 1) := by decide +kernel
theorem dX2_init_57 : decode cX2_init 57 = .ok (.bipush 12, 2) := by decide +kernel
theorem dX2_init_59 : decode cX2_init 59 = .ok (.newarray .int, 2) := by decide +kernel
theorem dX2_init_61 : decode cX2_init 61 = .ok (.putfield 30, 3) := by decide +kernel
theorem dX2_init_64 : decode cX2_init 64 = .ok (.aload_n 0, 1) := by decide +kernel
theorem dX2_init_65 : decode cX2_init 65 = .ok (.bipush 12, 2) := by decide +kernel
theorem dX2_init_67 : decode cX2_init 67 = .ok (.newarray .int, 2) := by decide +kernel
theorem dX2_init_69 : decode cX2_init 69 = .ok (.putfield 33, 3) := by decide +kernel
theorem dX2_init_72 : decode cX2_init 72 = .ok (.aload_n 0, 1) := by decide +kernel
theorem dX2_init_73 : decode cX2_init 73 = .ok (.bipush 12, 2) := by decide +kernel
theorem dX2_init_75 : decode cX2_init 75 = .ok (.newarray .int, 2) := by decide +kernel
theorem dX2_init_77 : decode cX2_init 77 = .ok (.putfield 36, 3) := by decide +kernel
theorem dX2_init_80 : decode cX2_init 80 = .ok (.aload_n 0, 1) := by decide +kernel
theorem dX2_init_81 : decode cX2_init 81 = .ok (.iconst 0, 1) := by decide +kernel
theorem dX2_init_82 : decode cX2_init 82 = .ok (.putfield 39, 3) := by decide +kernel
theorem dX2_init_85 : decode cX2_init 85 = .ok (.aload_n 0, 1) := by decide +kernel
theorem dX2_init_86 : decode cX2_init 86 = .ok (.bipush 8, 2) := by decide +kernel
theorem dX2_init_88 : decode cX2_init 88 = .ok (.newarray .int, 2) := by decide +kernel
theorem dX2_init_90 : decode cX2_init 90 = .ok (.putfield 43, 3) := by decide +kernel
theorem dX2_init_93 : decode cX2_init 93 = .ok (.aload_n 0, 1) := by decide +kernel
theorem dX2_init_94 : decode cX2_init 94 = .ok (.bipush 8, 2) := by decide +kernel
theorem dX2_init_96 : decode cX2_init 96 = .ok (.newarray .int, 2) := by decide +kernel
theorem dX2_init_98 : decode cX2_init 98 = .ok (.putfield 46, 3) := by decide +kernel
theorem dX2_init_101 : decode cX2_init 101 = .ok (.aload_n 0, 1) := by decide +kernel
theorem dX2_init_102 : decode cX2_init 102 = .ok (.iconst 0, 1) := by decide +kernel
theorem dX2_init_103 : decode cX2_init 103 = .ok (.putfield 49, 3) := by decide +kernel
theorem dX2_init_106 : decode cX2_init 106 = .ok (.aload_n 0, 1) := by decide +kernel
theorem dX2_init_107 : decode cX2_init 107 = .ok (.iconst 0, 1) := by decide +kernel
theorem dX2_init_108 : decode cX2_init 108 = .ok (.putfield 52, 3) := by decide +kernel
theorem dX2_init_111 : decode cX2_init 111 = .ok (.aload_n 0, 1) := by decide +kernel
theorem dX2_init_112 : decode cX2_init 112 = .ok (.iconst 1, 1) := by decide +kernel
theorem dX2_init_113 : decode cX2_init 113 = .ok (.putfield 55, 3) := by decide +kernel
theorem dX2_init_116 : decode cX2_init 116 = .ok (.iconst 0, 1) := by decide +kernel
theorem dX2_init_117 : decode cX2_init 117 = .ok (.istore_n 1, 1) := by decide +kernel
theorem dX2_init_118 : decode cX2_init 118 = .ok (.iload_n 1, 1) := by decide +kernel
theorem dX2_init_119 : decode cX2_init 119 = .ok (.sipush 256, 3) := by decide +kernel
theorem dX2_init_122 : decode cX2_init 122 = .ok (.if_icmp .ge 24, 3) := by decide +kernel
theorem dX2_init_125 : decode cX2_init 125 = .ok (.aload_n 0, 1) := by decide +kernel
theorem dX2_init_126 : decode cX2_init 126 = .ok (.getfield 9, 3) := by decide +kernel
theorem dX2_init_129 : decode cX2_init 129 = .ok (.iload_n 1, 1) := by decide +kernel
theorem dX2_init_130 : decode cX2_init 130 = .ok (.bipush 50, 2) := by decide +kernel
theorem dX2_init_132 : decode cX2_init 132 = .ok (.iastore, 1) := by decide +kernel
theorem dX2_init_133 : decode cX2_init 133 = .ok (.aload_n 0, 1) := by decide +kernel
theorem dX2_init_134 : decode cX2_init 134 = .ok (.getfield 15, 3) := by decide +kernel
theorem dX2_init_137 : decode cX2_init 137 = .ok (.iload_n 1, 1) := by decide +kernel
theorem dX2_init_138 : decode cX2_init 138 = .ok (.iconst (-1), 1) := by decide +kernel
theorem dX2_init_139 : decode cX2_init 139 = .ok (.iastore, 1) := by decide +kernel
theorem dX2_init_140 : decode cX2_init 140 = .ok (.iinc 1 1, 3) := by decide +kernel
theorem dX2_init_143 : decode cX2_init 143 = .ok (.goto (-25), 3) := by decide +kernel
theorem dX2_init_146 : decode cX2_init 146 = .ok (.return_, 1) := by decide +kernel
theorem dX2_copyFrom_0 : decode cX2_copyFrom 0 = .ok (.aload_n 1, 1) := by decide +kernel
theorem dX2_copyFrom_1 : decode cX2_copyFrom 1 = .ok (.getfield 9, 3) := by decide +kernel
theorem dX2_copyFrom_4 : decode cX2_copyFrom 4 = .ok (.iconst 0, 1) := by decide +kernel
theorem dX2_copyFrom_5 : decode cX2_copyFrom 5 = .ok (.aload_n 0, 1) := by decide +kernel
theorem dX2_copyFrom_6 : decode cX2_copyFrom 6 = .ok (.getfield 9, 3) := by decide +kernel
theorem dX2_copyFrom_9 : decode cX2_copyFrom 9 = .ok (.iconst 0, 1) := by decide +kernel
theorem dX2_copyFrom_10 : decode cX2_copyFrom 10 = .ok (.sipush 256, 3) := by decide +kernel
theorem dX2_copyFrom_13 : decode cX2_copyFrom 13 = .ok (.invokestatic 58, 3) := by decide +kernel
theorem dX2_copyFrom_16 : decode cX2_copyFrom 16 = .ok (.aload_n 1, 1) := by decide +kernel
theorem dX2_copyFrom_17 : decode cX2_copyFrom 17 = .ok (.getfield 15, 3) := by decide +kernel
theorem dX2_copyFrom_20 : decode cX2_copyFrom 20 = .ok (.iconst 0, 1) := by decide +kernel
theorem dX2_copyFrom_21 : decode cX2_copyFrom 21 = .ok (.aload_n 0, 1) := by decide +kernel
theorem dX2_copyFrom_22 : decode cX2_copyFrom 22 = .ok (.getfield 15, 3) := by decide +kernel
theorem dX2_copyFrom_25 : decode cX2_copyFrom 25 = .ok (.iconst 0, 1) := by decide +kernel
theorem dX2_copyFrom_26 : decode cX2_copyFrom 26 = .ok (.sipush 256, 3) := by decide +kernel
theorem dX2_copyFrom_29 : decode cX2_copyFrom 29 = .ok (.invokestatic 58, 3) := by decide +kernel
theorem dX2_copyFrom_32 : decode cX2_copyFrom 32 = .ok (.aload_n 1, 1) := by decide +kernel
theorem dX2_copyFrom_33 : decode cX2_copyFrom 33 = .ok (.getfield 18, 3) := by decide +kernel
theorem dX2_copyFrom_36 : decode cX2_copyFrom 36 = .ok (.iconst 0, 1) := by decide +kernel
theorem dX2_copyFrom_37 : decode cX2_copyFrom 37 = .ok (.aload_n 0, 1) := by decide +kernel
theorem dX2_copyFrom_38 : decode cX2_copyFrom 38 = .ok (.getfield 18, 3) := by decide +kernel
theorem dX2_copyFrom_41 : decode cX2_copyFrom 41 = .ok (.iconst 0, 1) := by decide +kernel
theorem dX2_copyFrom_42 : decode cX2_copyFrom 42 = .ok (.sipush 256, 3) := by decide +kernel
theorem dX2_copyFrom_45 : decode cX2_copyFrom 45 = .ok (.invokestatic 58, 3) := by decide +kernel
theorem dX2_copyFrom_48 : decode cX2_copyFrom 48 = .ok (.aload_n 1, 1) := by decide +kernel
theorem dX2_copyFrom_49 : decode cX2_copyFrom 49 = .ok (.getfield 21, 3) := by decide +kernel
theorem dX2_copyFrom_52 : decode cX2_copyFrom 52 = .ok (.iconst 0, 1) := by decide +kernel
theorem dX2_copyFrom_53 : decode cX2_copyFrom 53 = .ok (.aload_n 0, 1) := by decide +kernel
theorem dX2_copyFrom_54 : decode cX2_copyFrom 54 = .ok (.getfield 21, 3) := by decide +kernel
theorem dX2_copyFrom_57 : decode cX2_copyFrom 57 = .ok (.iconst 0, 1) := by decide +kernel
theorem dX2_copyFrom_58 : decode cX2_copyFrom 58 = .ok (.sipush 256, 3) := by decide +kernel
theorem dX2_copyFrom_61 : decode cX2_copyFrom 61 = .ok (.invokestatic 58, 3) := by decide +kernel
theorem dX2_copyFrom_64 : decode cX2_copyFrom 64 = .ok (.aload_n 1, 1) := by decide +kernel
theorem dX2_copyFrom_65 : decode cX2_copyFrom 65 = .ok (.getfield 24, 3) := by decide +kernel
theorem dX2_copyFrom_68 : decode cX2_copyFrom 68 = .ok (.iconst 0, 1) := by decide +kernel
theorem dX2_copyFrom_69 : decode cX2_copyFrom 69 = .ok (.aload_n 0, 1) := by decide +kernel
theorem dX2_copyFrom_70 : decode cX2_copyFrom 70 = .ok (.getfield 24, 3) := by decide +kernel
theorem dX2_copyFrom_73 : decode cX2_copyFrom 73 = .ok (.iconst 0, 1) := by decide +kernel
theorem dX2_copyFrom_74 : decode cX2_copyFrom 74 = .ok (.bipush 12, 2) := by decide +kernel
theorem dX2_copyFrom_76 : decode cX2_copyFrom 76 = .ok (.invokestatic 58, 3) := by decide +kernel
theorem dX2_copyFrom_79 : decode cX2_copyFrom 79 = .ok (.aload_n 1, 1) := by decide +kernel
theorem dX2_copyFrom_80 : decode cX2_copyFrom 80 = .ok (.getfield 27, 3) := by decide +kernel
theorem dX2_copyFrom_83 : decode cX2_copyFrom 83 = .ok (.iconst 0, 1) := by decide +kernel
theorem dX2_copyFrom_84 : decode cX2_copyFrom 84 = .ok (.aload_n 0, 1) := by decide +kernel
theorem dX2_copyFrom_85 : decode cX2_copyFrom 85 = .ok (.getfield 27, 3) := by decide +kernel
theorem dX2_copyFrom_88 : decode cX2_copyFrom 88 = .ok (.iconst 0, 1) := by decide +kernel
theorem dX2_copyFrom_89 : decode cX2_copyFrom 89 = .ok (.bipush 12, 2) := by decide +kernel
theorem dX2_copyFrom_91 : decode cX2_copyFrom 91 = .ok (.invokestatic 58, 3) := by decide +kernel
theorem dX2_copyFrom_94 : decode cX2_copyFrom 94 = .ok (.aload_n 1, 1) := by decide +kernel
theorem dX2_copyFrom_95 : decode cX2_copyFrom 95 = .ok (.getfield 30, 3) := by decide +kernel
theorem dX2_copyFrom_98 : decode cX2_copyFrom 98 = .ok (.iconst 0, 1) := by decide +kernel
theorem dX2_copyFrom_99 : decode cX2_copyFrom 99 = .ok (.aload_n 0, 1) := by decide +kernel
theorem dX2_copyFrom_100 : decode cX2_copyFrom 100 = .ok (.getfield 30, 3) := by decide +kernel
theorem dX2_copyFrom_103 : decode cX2_copyFrom 103 = .ok (.iconst 0, 1) := by decide +kernel
theorem dX2_copyFrom_104 : decode cX2_copyFrom 104 = .ok (.bipush 12, 2) := by decide +kernel
theorem dX2_copyFrom_106 : decode cX2_copyFrom 106 = .ok (.invokestatic 58, 3) := by decide +kernel
theorem dX2_copyFrom_109 : decode cX2_copyFrom 109 = .ok (.aload_n 1, 1) := by decide +kernel
theorem dX2_copyFrom_110 : decode cX2_copyFrom 110 = .ok (.getfield 33, 3) := by decide +kernel
theorem dX2_copyFrom_113 : decode cX2_copyFrom 113 = .ok (.iconst 0, 1) := by decide +kernel
theorem dX2_copyFrom_114 : decode cX2_copyFrom 114 = .ok (.aload_n 0, 1) := by decide +kernel
theorem dX2_copyFrom_115 : decode cX2_copyFrom 115 = .ok (.getfield 33, 3) := by decide +kernel
theorem dX2_copyFrom_118 : decode cX2_copyFrom 118 = .ok (.iconst 0, 1) := by decide +kernel
theorem dX2_copyFrom_119 : decode cX2_copyFrom 119 = .ok (.bipush 12, 2) := by decide +kernel
theorem dX2_copyFrom_121 : decode cX2_copyFrom 121 = .ok (.invokestatic 58, 3) := by decide +kernel
theorem dX2_copyFrom_124 : decode cX2_copyFrom 124 = .ok (.aload_n 1, 1) := by decide +kernel
theorem dX2_copyFrom_125 : decode cX2_copyFrom 125 = .ok (.getfield 36, 3) := by decide +kernel
theorem dX2_copyFrom_128 : decode cX2_copyFrom 128 = .ok (.iconst 0, 1) := by decide +kernel
theorem dX2_copyFrom_129 : decode cX2_copyFrom 129 = .ok (.aload_n 0, 1) := by decide +kernel
theorem dX2_copyFrom_130 : decode cX2_copyFrom 130 = .ok (.getfield 36, 3) := by decide +kernel
theorem dX2_copyFrom_133 : decode cX2_copyFrom 133 = .ok (.iconst 0, 1) := by decide +kernel
theorem dX2_copyFrom_134 : decode cX2_copyFrom 134 = .ok (.bipush 12, 2) := by decide +kernel
theorem dX2_copyFrom_136 : decode cX2_copyFrom 136 = .ok (.invokestatic 58, 3) := by decide +kernel
theorem dX2_copyFrom_139 : decode cX2_copyFrom 139 = .ok (.aload_n 1, 1) := by decide +kernel
theorem dX2_copyFrom_140 : decode cX2_copyFrom 140 = .ok (.getfield 43, 3) := by decide +kernel
theorem dX2_copyFrom_143 : decode cX2_copyFrom 143 = .ok (.iconst 0, 1) := by decide +kernel
theorem dX2_copyFrom_144 : decode cX2_copyFrom 144 = .ok (.aload_n 0, 1) := by decide +kernel
theorem dX2_copyFrom_145 : decode cX2_copyFrom 145 = .ok (.getfield 43, 3) := by decide +kernel
theorem dX2_copyFrom_148 : decode cX2_copyFrom 148 = .ok (.iconst 0, 1) := by decide +kernel
theorem dX2_copyFrom_149 : decode cX2_copyFrom 149 = .ok (.bipush 8, 2) := by decide +kernel
theorem dX2_copyFrom_151 : decode cX2_copyFrom 151 = .ok (.invokestatic 58, 3) := by decide +kernel
theorem dX2_copyFrom_154 : decode cX2_copyFrom 154 = .ok (.aload_n 1, 1) := by decide +kernel
theorem dX2_copyFrom_155 : decode cX2_copyFrom 155 = .ok (.getfield 46, 3) := by decide +kernel
theorem dX2_copyFrom_158 : decode cX2_copyFrom 158 = .ok (.iconst 0, 1) := by decide +kernel
theorem dX2_copyFrom_159 : decode cX2_copyFrom 159 = .ok (.aload_n 0, 1) := by decide +kernel
theorem dX2_copyFrom_160 : decode cX2_copyFrom 160 = .ok (.getfield 46, 3) := by decide +kernel
theorem dX2_copyFrom_163 : decode cX2_copyFrom 163 = .ok (.iconst 0, 1) := by decide +kernel
theorem dX2_copyFrom_164 : decode cX2_copyFrom 164 = .ok (.bipush 8, 2) := by decide +kernel
theorem dX2_copyFrom_166 : decode cX2_copyFrom 166 = .ok (.invokestatic 58, 3) := by decide +kernel
theorem dX2_copyFrom_169 : decode cX2_copyFrom 169 = .ok (.aload_n 0, 1) := by decide +kernel
theorem dX2_copyFrom_170 : decode cX2_copyFrom 170 = .ok (.aload_n 1, 1) := by decide +kernel
theorem dX2_copyFrom_171 : decode cX2_copyFrom 171 = .ok (.getfield 39, 3) := by decide +kernel
theorem dX2_copyFrom_174 : decode cX2_copyFrom 174 = .ok (.putfield 39, 3) := by decide +kernel
theorem dX2_copyFrom_177 : decode cX2_copyFrom 177 = .ok (.aload_n 0, 1) := by decide +kernel
theorem dX2_copyFrom_178 : decode cX2_copyFrom 178 = .ok (.aload_n 1, 1) := by decide +kernel
theorem dX2_copyFrom_179 : decode cX2_copyFrom 179 = .ok (.getfield 49, 3) := by decide +kernel
theorem dX2_copyFrom_182 : decode cX2_copyFrom 182 = .ok (.putfield 49, 3) := by decide +kernel
theorem dX2_copyFrom_185 : decode cX2_copyFrom 185 = .ok (.aload_n 0, 1) := by decide +kernel
theorem dX2_copyFrom_186 : decode cX2_copyFrom 186 = .ok (.aload_n 1, 1) := by decide +kernel
theorem dX2_copyFrom_187 : decode cX2_copyFrom 187 = .ok (.getfield 52, 3) := by decide +kernel
theorem dX2_copyFrom_190 : decode cX2_copyFrom 190 = .ok (.putfield 52, 3) := by decide +kernel
theorem dX2_copyFrom_193 : decode cX2_copyFrom 193 = .ok (.aload_n 0, 1) := by decide +kernel
theorem dX2_copyFrom_194 : decode cX2_copyFrom 194 = .ok (.aload_n 1, 1) := by decide +kernel
theorem dX2_copyFrom_195 : decode cX2_copyFrom 195 = .ok (.getfield 55, 3) := by decide +kernel
theorem dX2_copyFrom_198 : decode cX2_copyFrom 198 = .ok (.putfield 55, 3) := by decide +kernel
theorem dX2_copyFrom_201 : decode cX2_copyFrom 201 = .ok (.return_, 1) := by decide +kernel
theorem dX2_hasHole_0 : decode cX2_hasHole 0 = .ok (.iload_n 1, 1) := by decide +kernel
theorem dX2_hasHole_1 : decode cX2_hasHole 1 = .ok (.ifCond .lt 15, 3) := by decide +kernel
theorem dX2_hasHole_4 : decode cX2_hasHole 4 = .ok (.iload_n 1, 1) := by decide +kernel
theorem dX2_hasHole_5 : decode cX2_hasHole 5 = .ok (.aload_n 0, 1) := by decide +kernel
theorem dX2_hasHole_6 : decode cX2_hasHole 6 = .ok (.getfield 39, 3) := by decide +kernel
theorem dX2_hasHole_9 : decode cX2_hasHole 9 = .ok (.if_icmp .ge 7, 3) := by decide +kernel
theorem dX2_hasHole_12 : decode cX2_hasHole 12 = .ok (.iconst 1, 1) := by decide +kernel
theorem dX2_hasHole_13 : decode cX2_hasHole 13 = .ok (.goto 4, 3) := by decide +kernel
theorem dX2_hasHole_16 : decode cX2_hasHole 16 = .ok (.iconst 0, 1) := by decide +kernel
theorem dX2_hasHole_17 : decode cX2_hasHole 17 = .ok (.ireturn, 1) := by decide +kernel
theorem dX2_isOpen_0 : decode cX2_isOpen 0 = .ok (.aload_n 0, 1) := by decide +kernel
theorem dX2_isOpen_1 : decode cX2_isOpen 1 = .ok (.iload_n 1, 1) := by decide +kernel
theorem dX2_isOpen_2 : decode cX2_isOpen 2 = .ok (.invokevirtual 64, 3) := by decide +kernel
theorem dX2_isOpen_5 : decode cX2_isOpen 5 = .ok (.ifCond .eq 22, 3) := by decide +kernel
theorem dX2_isOpen_8 : decode cX2_isOpen 8 = .ok (.aload_n 0, 1) := by decide +kernel
theorem dX2_isOpen_9 : decode cX2_isOpen 9 = .ok (.getfield 15, 3) := by decide +kernel
theorem dX2_isOpen_12 : decode cX2_isOpen 12 = .ok (.aload_n 0, 1) := by decide +kernel
theorem dX2_isOpen_13 : decode cX2_isOpen 13 = .ok (.getfield 24, 3) := by decide +kernel
theorem dX2_isOpen_16 : decode cX2_isOpen 16 = .ok (.iload_n 1, 1) := by decide +kernel
theorem dX2_isOpen_17 : decode cX2_isOpen 17 = .ok (.iaload, 1) := by decide +kernel
theorem dX2_isOpen_18 : decode cX2_isOpen 18 = .ok (.iaload, 1) := by decide +kernel
theorem dX2_isOpen_19 : decode cX2_isOpen 19 = .ok (.iload_n 1, 1) := by decide +kernel
theorem dX2_isOpen_20 : decode cX2_isOpen 20 = .ok (.if_icmp .ne 7, 3) := by decide +kernel
theorem dX2_isOpen_23 : decode cX2_isOpen 23 = .ok (.iconst 1, 1) := by decide +kernel
theorem dX2_isOpen_24 : decode cX2_isOpen 24 = .ok (.goto 4, 3) := by decide +kernel
theorem dX2_isOpen_27 : decode cX2_isOpen 27 = .ok (.iconst 0, 1) := by decide +kernel
theorem dX2_isOpen_28 : decode cX2_isOpen 28 = .ok (.ireturn, 1) := by decide +kernel
theorem dX2_allOpen_0 : decode cX2_allOpen 0 = .ok (.iconst 0, 1) := by decide +kernel
theorem dX2_allOpen_1 : decode cX2_allOpen 1 = .ok (.istore_n 2, 1) := by decide +kernel
theorem dX2_allOpen_2 : decode cX2_allOpen 2 = .ok (.iload_n 2, 1) := by decide +kernel
theorem dX2_allOpen_3 : decode cX2_allOpen 3 = .ok (.bipush 12, 2) := by decide +kernel
theorem dX2_allOpen_5 : decode cX2_allOpen 5 = .ok (.if_icmp .ge 27, 3) := by decide +kernel
theorem dX2_allOpen_8 : decode cX2_allOpen 8 = .ok (.iload_n 1, 1) := by decide +kernel
theorem dX2_allOpen_9 : decode cX2_allOpen 9 = .ok (.iload_n 2, 1) := by decide +kernel
theorem dX2_allOpen_10 : decode cX2_allOpen 10 = .ok (.ishr, 1) := by decide +kernel
theorem dX2_allOpen_11 : decode cX2_allOpen 11 = .ok (.iconst 1, 1) := by decide +kernel
theorem dX2_allOpen_12 : decode cX2_allOpen 12 = .ok (.iand, 1) := by decide +kernel
theorem dX2_allOpen_13 : decode cX2_allOpen 13 = .ok (.ifCond .eq 13, 3) := by decide +kernel
theorem dX2_allOpen_16 : decode cX2_allOpen 16 = .ok (.aload_n 0, 1) := by decide +kernel
theorem dX2_allOpen_17 : decode cX2_allOpen 17 = .ok (.iload_n 2, 1) := by decide +kernel
theorem dX2_allOpen_18 : decode cX2_allOpen 18 = .ok (.invokevirtual 68, 3) := by decide +kernel
theorem dX2_allOpen_21 : decode cX2_allOpen 21 = .ok (.ifCond .ne 5, 3) := by decide +kernel
theorem dX2_allOpen_24 : decode cX2_allOpen 24 = .ok (.iconst 0, 1) := by decide +kernel
theorem dX2_allOpen_25 : decode cX2_allOpen 25 = .ok (.ireturn, 1) := by decide +kernel
theorem dX2_allOpen_26 : decode cX2_allOpen 26 = .ok (.iinc 2 1, 3) := by decide +kernel
theorem dX2_allOpen_29 : decode cX2_allOpen 29 = .ok (.goto (-27), 3) := by decide +kernel
theorem dX2_allOpen_32 : decode cX2_allOpen 32 = .ok (.iconst 1, 1) := by decide +kernel
theorem dX2_allOpen_33 : decode cX2_allOpen 33 = .ok (.ireturn, 1) := by decide +kernel
theorem dX2_hasGroup_0 : decode cX2_hasGroup 0 = .ok (.iload_n 1, 1) := by decide +kernel
theorem dX2_hasGroup_1 : decode cX2_hasGroup 1 = .ok (.ifCond .lt 15, 3) := by decide +kernel
theorem dX2_hasGroup_4 : decode cX2_hasGroup 4 = .ok (.iload_n 1, 1) := by decide +kernel
theorem dX2_hasGroup_5 : decode cX2_hasGroup 5 = .ok (.aload_n 0, 1) := by decide +kernel
theorem dX2_hasGroup_6 : decode cX2_hasGroup 6 = .ok (.getfield 49, 3) := by decide +kernel
theorem dX2_hasGroup_9 : decode cX2_hasGroup 9 = .ok (.if_icmp .ge 7, 3) := by decide +kernel
theorem dX2_hasGroup_12 : decode cX2_hasGroup 12 = .ok (.iconst 1, 1) := by decide +kernel
theorem dX2_hasGroup_13 : decode cX2_hasGroup 13 = .ok (.goto 4, 3) := by decide +kernel
theorem dX2_hasGroup_16 : decode cX2_hasGroup 16 = .ok (.iconst 0, 1) := by decide +kernel
theorem dX2_hasGroup_17 : decode cX2_hasGroup 17 = .ok (.ireturn, 1) := by decide +kernel
theorem dX2_isAfloat_0 : decode cX2_isAfloat 0 = .ok (.aload_n 0, 1) := by decide +kernel
theorem dX2_isAfloat_1 : decode cX2_isAfloat 1 = .ok (.iload_n 1, 1) := by decide +kernel
theorem dX2_isAfloat_2 : decode cX2_isAfloat 2 = .ok (.invokevirtual 71, 3) := by decide +kernel
theorem dX2_isAfloat_5 : decode cX2_isAfloat 5 = .ok (.ifCond .eq 18, 3) := by decide +kernel
theorem dX2_isAfloat_8 : decode cX2_isAfloat 8 = .ok (.aload_n 0, 1) := by decide +kernel
theorem dX2_isAfloat_9 : decode cX2_isAfloat 9 = .ok (.getfield 43, 3) := by decide +kernel
theorem dX2_isAfloat_12 : decode cX2_isAfloat 12 = .ok (.iload_n 1, 1) := by decide +kernel
theorem dX2_isAfloat_13 : decode cX2_isAfloat 13 = .ok (.iaload, 1) := by decide +kernel
theorem dX2_isAfloat_14 : decode cX2_isAfloat 14 = .ok (.bipush (-2), 2) := by decide +kernel
theorem dX2_isAfloat_16 : decode cX2_isAfloat 16 = .ok (.if_icmp .eq 7, 3) := by decide +kernel
theorem dX2_isAfloat_19 : decode cX2_isAfloat 19 = .ok (.iconst 1, 1) := by decide +kernel
theorem dX2_isAfloat_20 : decode cX2_isAfloat 20 = .ok (.goto 4, 3) := by decide +kernel
theorem dX2_isAfloat_23 : decode cX2_isAfloat 23 = .ok (.iconst 0, 1) := by decide +kernel
theorem dX2_isAfloat_24 : decode cX2_isAfloat 24 = .ok (.ireturn, 1) := by decide +kernel
theorem dX2_isFirm_0 : decode cX2_isFirm 0 = .ok (.iload_n 1, 1) := by decide +kernel
theorem dX2_isFirm_1 : decode cX2_isFirm 1 = .ok (.invokestatic 74, 3) := by decide +kernel
theorem dX2_isFirm_4 : decode cX2_isFirm 4 = .ok (.ifCond .eq 17, 3) := by decide +kernel
theorem dX2_isFirm_7 : decode cX2_isFirm 7 = .ok (.aload_n 0, 1) := by decide +kernel
theorem dX2_isFirm_8 : decode cX2_isFirm 8 = .ok (.getfield 15, 3) := by decide +kernel
theorem dX2_isFirm_11 : decode cX2_isFirm 11 = .ok (.iload_n 1, 1) := by decide +kernel
theorem dX2_isFirm_12 : decode cX2_isFirm 12 = .ok (.iaload, 1) := by decide +kernel
theorem dX2_isFirm_13 : decode cX2_isFirm 13 = .ok (.iconst (-1), 1) := by decide +kernel
theorem dX2_isFirm_14 : decode cX2_isFirm 14 = .ok (.if_icmp .ne 7, 3) := by decide +kernel
theorem dX2_isFirm_17 : decode cX2_isFirm 17 = .ok (.iconst 1, 1) := by decide +kernel
theorem dX2_isFirm_18 : decode cX2_isFirm 18 = .ok (.goto 4, 3) := by decide +kernel
theorem dX2_isFirm_21 : decode cX2_isFirm 21 = .ok (.iconst 0, 1) := by decide +kernel
theorem dX2_isFirm_22 : decode cX2_isFirm 22 = .ok (.ireturn, 1) := by decide +kernel
theorem dX2_isBroken_0 : decode cX2_isBroken 0 = .ok (.aload_n 0, 1) := by decide +kernel
theorem dX2_isBroken_1 : decode cX2_isBroken 1 = .ok (.getfield 15, 3) := by decide +kernel
theorem dX2_isBroken_4 : decode cX2_isBroken 4 = .ok (.iload_n 1, 1) := by decide +kernel
theorem dX2_isBroken_5 : decode cX2_isBroken 5 = .ok (.iaload, 1) := by decide +kernel
theorem dX2_isBroken_6 : decode cX2_isBroken 6 = .ok (.bipush (-2), 2) := by decide +kernel
theorem dX2_isBroken_8 : decode cX2_isBroken 8 = .ok (.if_icmp .ne 7, 3) := by decide +kernel
theorem dX2_isBroken_11 : decode cX2_isBroken 11 = .ok (.iconst 1, 1) := by decide +kernel
theorem dX2_isBroken_12 : decode cX2_isBroken 12 = .ok (.goto 4, 3) := by decide +kernel
theorem dX2_isBroken_15 : decode cX2_isBroken 15 = .ok (.iconst 0, 1) := by decide +kernel
theorem dX2_isBroken_16 : decode cX2_isBroken 16 = .ok (.ireturn, 1) := by decide +kernel
theorem dX2_isFree_0 : decode cX2_isFree 0 = .ok (.aload_n 0, 1) := by decide +kernel
theorem dX2_isFree_1 : decode cX2_isFree 1 = .ok (.iload_n 1, 1) := by decide +kernel
theorem dX2_isFree_2 : decode cX2_isFree 2 = .ok (.invokevirtual 79, 3) := by decide +kernel
theorem dX2_isFree_5 : decode cX2_isFree 5 = .ok (.ifCond .eq 15, 3) := by decide +kernel
theorem dX2_isFree_8 : decode cX2_isFree 8 = .ok (.aload_n 0, 1) := by decide +kernel
theorem dX2_isFree_9 : decode cX2_isFree 9 = .ok (.iload_n 1, 1) := by decide +kernel
theorem dX2_isFree_10 : decode cX2_isFree 10 = .ok (.invokevirtual 82, 3) := by decide +kernel
theorem dX2_isFree_13 : decode cX2_isFree 13 = .ok (.ifCond .ne 7, 3) := by decide +kernel
theorem dX2_isFree_16 : decode cX2_isFree 16 = .ok (.iconst 1, 1) := by decide +kernel
theorem dX2_isFree_17 : decode cX2_isFree 17 = .ok (.goto 4, 3) := by decide +kernel
theorem dX2_isFree_20 : decode cX2_isFree 20 = .ok (.iconst 0, 1) := by decide +kernel
theorem dX2_isFree_21 : decode cX2_isFree 21 = .ok (.ireturn, 1) := by decide +kernel
theorem dX2_stateOf_0 : decode cX2_stateOf 0 = .ok (.aload_n 0, 1) := by decide +kernel
theorem dX2_stateOf_1 : decode cX2_stateOf 1 = .ok (.iload_n 1, 1) := by decide +kernel
theorem dX2_stateOf_2 : decode cX2_stateOf 2 = .ok (.invokevirtual 86, 3) := by decide +kernel
theorem dX2_stateOf_5 : decode cX2_stateOf 5 = .ok (.ifCond .eq 5, 3) := by decide +kernel
theorem dX2_stateOf_8 : decode cX2_stateOf 8 = .ok (.iconst 1, 1) := by decide +kernel
theorem dX2_stateOf_9 : decode cX2_stateOf 9 = .ok (.ireturn, 1) := by decide +kernel
theorem dX2_stateOf_10 : decode cX2_stateOf 10 = .ok (.aload_n 0, 1) := by decide +kernel
theorem dX2_stateOf_11 : decode cX2_stateOf 11 = .ok (.getfield 15, 3) := by decide +kernel
theorem dX2_stateOf_14 : decode cX2_stateOf 14 = .ok (.iload_n 1, 1) := by decide +kernel
theorem dX2_stateOf_15 : decode cX2_stateOf 15 = .ok (.iaload, 1) := by decide +kernel
theorem dX2_stateOf_16 : decode cX2_stateOf 16 = .ok (.iconst (-1), 1) := by decide +kernel
theorem dX2_stateOf_17 : decode cX2_stateOf 17 = .ok (.if_icmp .ne 7, 3) := by decide +kernel
theorem dX2_stateOf_20 : decode cX2_stateOf 20 = .ok (.iconst 0, 1) := by decide +kernel
theorem dX2_stateOf_21 : decode cX2_stateOf 21 = .ok (.goto 4, 3) := by decide +kernel
theorem dX2_stateOf_24 : decode cX2_stateOf 24 = .ok (.iconst 2, 1) := by decide +kernel
theorem dX2_stateOf_25 : decode cX2_stateOf 25 = .ok (.ireturn, 1) := by decide +kernel
theorem dX2_seenAt_0 : decode cX2_seenAt 0 = .ok (.aload_n 0, 1) := by decide +kernel
theorem dX2_seenAt_1 : decode cX2_seenAt 1 = .ok (.iload_n 1, 1) := by decide +kernel
theorem dX2_seenAt_2 : decode cX2_seenAt 2 = .ok (.invokevirtual 89, 3) := by decide +kernel
theorem dX2_seenAt_5 : decode cX2_seenAt 5 = .ok (.istore_n 2, 1) := by decide +kernel
theorem dX2_seenAt_6 : decode cX2_seenAt 6 = .ok (.iload_n 2, 1) := by decide +kernel
theorem dX2_seenAt_7 : decode cX2_seenAt 7 = .ok (.ifCond .ne 12, 3) := by decide +kernel
theorem dX2_seenAt_10 : decode cX2_seenAt 10 = .ok (.aload_n 0, 1) := by decide +kernel
theorem dX2_seenAt_11 : decode cX2_seenAt 11 = .ok (.getfield 9, 3) := by decide +kernel
theorem dX2_seenAt_14 : decode cX2_seenAt 14 = .ok (.iload_n 1, 1) := by decide +kernel
theorem dX2_seenAt_15 : decode cX2_seenAt 15 = .ok (.iaload, 1) := by decide +kernel
theorem dX2_seenAt_16 : decode cX2_seenAt 16 = .ok (.goto 5, 3) := by decide +kernel
theorem dX2_seenAt_19 : decode cX2_seenAt 19 = .ok (.iload_n 2, 1) := by decide +kernel
theorem dX2_seenAt_20 : decode cX2_seenAt 20 = .ok (.ineg, 1) := by decide +kernel
theorem dX2_seenAt_21 : decode cX2_seenAt 21 = .ok (.ireturn, 1) := by decide +kernel
theorem dX2_kindAt_0 : decode cX2_kindAt 0 = .ok (.aload_n 0, 1) := by decide +kernel
theorem dX2_kindAt_1 : decode cX2_kindAt 1 = .ok (.getfield 15, 3) := by decide +kernel
theorem dX2_kindAt_4 : decode cX2_kindAt 4 = .ok (.iload_n 1, 1) := by decide +kernel
theorem dX2_kindAt_5 : decode cX2_kindAt 5 = .ok (.iaload, 1) := by decide +kernel
theorem dX2_kindAt_6 : decode cX2_kindAt 6 = .ok (.istore_n 2, 1) := by decide +kernel
theorem dX2_kindAt_7 : decode cX2_kindAt 7 = .ok (.aload_n 0, 1) := by decide +kernel
theorem dX2_kindAt_8 : decode cX2_kindAt 8 = .ok (.iload_n 2, 1) := by decide +kernel
theorem dX2_kindAt_9 : decode cX2_kindAt 9 = .ok (.invokevirtual 64, 3) := by decide +kernel
theorem dX2_kindAt_12 : decode cX2_kindAt 12 = .ok (.ifCond .eq 12, 3) := by decide +kernel
theorem dX2_kindAt_15 : decode cX2_kindAt 15 = .ok (.aload_n 0, 1) := by decide +kernel
theorem dX2_kindAt_16 : decode cX2_kindAt 16 = .ok (.getfield 27, 3) := by decide +kernel
theorem dX2_kindAt_19 : decode cX2_kindAt 19 = .ok (.iload_n 2, 1) := by decide +kernel
theorem dX2_kindAt_20 : decode cX2_kindAt 20 = .ok (.iaload, 1) := by decide +kernel
theorem dX2_kindAt_21 : decode cX2_kindAt 21 = .ok (.goto 5, 3) := by decide +kernel
theorem dX2_kindAt_24 : decode cX2_kindAt 24 = .ok (.bipush 9, 2) := by decide +kernel
theorem dX2_kindAt_26 : decode cX2_kindAt 26 = .ok (.ireturn, 1) := by decide +kernel
theorem dX2_carried_0 : decode cX2_carried 0 = .ok (.iconst 0, 1) := by decide +kernel
theorem dX2_carried_1 : decode cX2_carried 1 = .ok (.istore_n 2, 1) := by decide +kernel
theorem dX2_carried_2 : decode cX2_carried 2 = .ok (.iconst 0, 1) := by decide +kernel
theorem dX2_carried_3 : decode cX2_carried 3 = .ok (.istore_n 3, 1) := by decide +kernel
theorem dX2_carried_4 : decode cX2_carried 4 = .ok (.iload_n 3, 1) := by decide +kernel
theorem dX2_carried_5 : decode cX2_carried 5 = .ok (.aload_n 0, 1) := by decide +kernel
theorem dX2_carried_6 : decode cX2_carried 6 = .ok (.getfield 49, 3) := by decide +kernel
theorem dX2_carried_9 : decode cX2_carried 9 = .ok (.if_icmp .ge 28, 3) := by decide +kernel
theorem dX2_carried_12 : decode cX2_carried 12 = .ok (.aload_n 0, 1) := by decide +kernel
theorem dX2_carried_13 : decode cX2_carried 13 = .ok (.getfield 43, 3) := by decide +kernel
theorem dX2_carried_16 : decode cX2_carried 16 = .ok (.iload_n 3, 1) := by decide +kernel
theorem dX2_carried_17 : decode cX2_carried 17 = .ok (.iaload, 1) := by decide +kernel
theorem dX2_carried_18 : decode cX2_carried 18 = .ok (.iload_n 1, 1) := by decide +kernel
theorem dX2_carried_19 : decode cX2_carried 19 = .ok (.if_icmp .ne 12, 3) := by decide +kernel
theorem dX2_carried_22 : decode cX2_carried 22 = .ok (.iload_n 2, 1) := by decide +kernel
theorem dX2_carried_23 : decode cX2_carried 23 = .ok (.aload_n 0, 1) := by decide +kernel
theorem dX2_carried_24 : decode cX2_carried 24 = .ok (.getfield 46, 3) := by decide +kernel
theorem dX2_carried_27 : decode cX2_carried 27 = .ok (.iload_n 3, 1) := by decide +kernel
theorem dX2_carried_28 : decode cX2_carried 28 = .ok (.iaload, 1) := by decide +kernel
theorem dX2_carried_29 : decode cX2_carried 29 = .ok (.iadd, 1) := by decide +kernel
theorem dX2_carried_30 : decode cX2_carried 30 = .ok (.istore_n 2, 1) := by decide +kernel
theorem dX2_carried_31 : decode cX2_carried 31 = .ok (.iinc 3 1, 3) := by decide +kernel
theorem dX2_carried_34 : decode cX2_carried 34 = .ok (.goto (-30), 3) := by decide +kernel
theorem dX2_carried_37 : decode cX2_carried 37 = .ok (.iload_n 2, 1) := by decide +kernel
theorem dX2_carried_38 : decode cX2_carried 38 = .ok (.ireturn, 1) := by decide +kernel
theorem dX2_groupsNear_0 : decode cX2_groupsNear 0 = .ok (.iconst 0, 1) := by decide +kernel
theorem dX2_groupsNear_1 : decode cX2_groupsNear 1 = .ok (.istore_n 2, 1) := by decide +kernel
theorem dX2_groupsNear_2 : decode cX2_groupsNear 2 = .ok (.iconst 0, 1) := by decide +kernel
theorem dX2_groupsNear_3 : decode cX2_groupsNear 3 = .ok (.istore_n 3, 1) := by decide +kernel
theorem dX2_groupsNear_4 : decode cX2_groupsNear 4 = .ok (.iload_n 3, 1) := by decide +kernel
theorem dX2_groupsNear_5 : decode cX2_groupsNear 5 = .ok (.aload_n 0, 1) := by decide +kernel
theorem dX2_groupsNear_6 : decode cX2_groupsNear 6 = .ok (.getfield 49, 3) := by decide +kernel
theorem dX2_groupsNear_9 : decode cX2_groupsNear 9 = .ok (.if_icmp .ge 37, 3) := by decide +kernel
theorem dX2_groupsNear_12 : decode cX2_groupsNear 12 = .ok (.aload_n 0, 1) := by decide +kernel
theorem dX2_groupsNear_13 : decode cX2_groupsNear 13 = .ok (.getfield 43, 3) := by decide +kernel
theorem dX2_groupsNear_16 : decode cX2_groupsNear 16 = .ok (.iload_n 3, 1) := by decide +kernel
theorem dX2_groupsNear_17 : decode cX2_groupsNear 17 = .ok (.iaload, 1) := by decide +kernel
theorem dX2_groupsNear_18 : decode cX2_groupsNear 18 = .ok (.bipush (-2), 2) := by decide +kernel
theorem dX2_groupsNear_20 : decode cX2_groupsNear 20 = .ok (.if_icmp .eq 20, 3) := by decide +kernel
theorem dX2_groupsNear_23 : decode cX2_groupsNear 23 = .ok (.aload_n 0, 1) := by decide +kernel
theorem dX2_groupsNear_24 : decode cX2_groupsNear 24 = .ok (.getfield 43, 3) := by decide +kernel
theorem dX2_groupsNear_27 : decode cX2_groupsNear 27 = .ok (.iload_n 3, 1) := by decide +kernel
theorem dX2_groupsNear_28 : decode cX2_groupsNear 28 = .ok (.iaload, 1) := by decide +kernel
theorem dX2_groupsNear_29 : decode cX2_groupsNear 29 = .ok (.iload_n 1, 1) := by decide +kernel
theorem dX2_groupsNear_30 : decode cX2_groupsNear 30 = .ok (.invokestatic 92, 3) := by decide +kernel
theorem dX2_groupsNear_33 : decode cX2_groupsNear 33 = .ok (.iconst 1, 1) := by decide +kernel
theorem dX2_groupsNear_34 : decode cX2_groupsNear 34 = .ok (.if_icmp .gt 6, 3) := by decide +kernel
theorem dX2_groupsNear_37 : decode cX2_groupsNear 37 = .ok (.iinc 2 1, 3) := by decide +kernel
theorem dX2_groupsNear_40 : decode cX2_groupsNear 40 = .ok (.iinc 3 1, 3) := by decide +kernel
theorem dX2_groupsNear_43 : decode cX2_groupsNear 43 = .ok (.goto (-39), 3) := by decide +kernel
theorem dX2_groupsNear_46 : decode cX2_groupsNear 46 = .ok (.iload_n 2, 1) := by decide +kernel
theorem dX2_groupsNear_47 : decode cX2_groupsNear 47 = .ok (.ireturn, 1) := by decide +kernel
theorem dX2_brokenTotal_0 : decode cX2_brokenTotal 0 = .ok (.iconst 0, 1) := by decide +kernel
theorem dX2_brokenTotal_1 : decode cX2_brokenTotal 1 = .ok (.istore_n 1, 1) := by decide +kernel
theorem dX2_brokenTotal_2 : decode cX2_brokenTotal 2 = .ok (.iconst 0, 1) := by decide +kernel
theorem dX2_brokenTotal_3 : decode cX2_brokenTotal 3 = .ok (.istore_n 2, 1) := by decide +kernel
theorem dX2_brokenTotal_4 : decode cX2_brokenTotal 4 = .ok (.iload_n 2, 1) := by decide +kernel
theorem dX2_brokenTotal_5 : decode cX2_brokenTotal 5 = .ok (.sipush 256, 3) := by decide +kernel
theorem dX2_brokenTotal_8 : decode cX2_brokenTotal 8 = .ok (.if_icmp .ge 25, 3) := by decide +kernel
theorem dX2_brokenTotal_11 : decode cX2_brokenTotal 11 = .ok (.iload_n 1, 1) := by decide +kernel
theorem dX2_brokenTotal_12 : decode cX2_brokenTotal 12 = .ok (.aload_n 0, 1) := by decide +kernel
theorem dX2_brokenTotal_13 : decode cX2_brokenTotal 13 = .ok (.iload_n 2, 1) := by decide +kernel
theorem dX2_brokenTotal_14 : decode cX2_brokenTotal 14 = .ok (.invokevirtual 86, 3) := by decide +kernel
theorem dX2_brokenTotal_17 : decode cX2_brokenTotal 17 = .ok (.ifCond .eq 7, 3) := by decide +kernel
theorem dX2_brokenTotal_20 : decode cX2_brokenTotal 20 = .ok (.iconst 1, 1) := by decide +kernel
theorem dX2_brokenTotal_21 : decode cX2_brokenTotal 21 = .ok (.goto 4, 3) := by decide +kernel
theorem dX2_brokenTotal_24 : decode cX2_brokenTotal 24 = .ok (.iconst 0, 1) := by decide +kernel
theorem dX2_brokenTotal_25 : decode cX2_brokenTotal 25 = .ok (.iadd, 1) := by decide +kernel
theorem dX2_brokenTotal_26 : decode cX2_brokenTotal 26 = .ok (.istore_n 1, 1) := by decide +kernel
theorem dX2_brokenTotal_27 : decode cX2_brokenTotal 27 = .ok (.iinc 2 1, 3) := by decide +kernel
theorem dX2_brokenTotal_30 : decode cX2_brokenTotal 30 = .ok (.goto (-26), 3) := by decide +kernel
theorem dX2_brokenTotal_33 : decode cX2_brokenTotal 33 = .ok (.iload_n 1, 1) := by decide +kernel
theorem dX2_brokenTotal_34 : decode cX2_brokenTotal 34 = .ok (.ireturn, 1) := by decide +kernel
theorem dX2_drownedTotal_0 : decode cX2_drownedTotal 0 = .ok (.iconst 0, 1) := by decide +kernel
theorem dX2_drownedTotal_1 : decode cX2_drownedTotal 1 = .ok (.istore_n 1, 1) := by decide +kernel
theorem dX2_drownedTotal_2 : decode cX2_drownedTotal 2 = .ok (.iconst 0, 1) := by decide +kernel
theorem dX2_drownedTotal_3 : decode cX2_drownedTotal 3 = .ok (.istore_n 2, 1) := by decide +kernel
theorem dX2_drownedTotal_4 : decode cX2_drownedTotal 4 = .ok (.iload_n 2, 1) := by decide +kernel
theorem dX2_drownedTotal_5 : decode cX2_drownedTotal 5 = .ok (.aload_n 0, 1) := by decide +kernel
theorem dX2_drownedTotal_6 : decode cX2_drownedTotal 6 = .ok (.getfield 49, 3) := by decide +kernel
theorem dX2_drownedTotal_9 : decode cX2_drownedTotal 9 = .ok (.if_icmp .ge 28, 3) := by decide +kernel
theorem dX2_drownedTotal_12 : decode cX2_drownedTotal 12 = .ok (.iload_n 1, 1) := by decide +kernel
theorem dX2_drownedTotal_13 : decode cX2_drownedTotal 13 = .ok (.aload_n 0, 1) := by decide +kernel
theorem dX2_drownedTotal_14 : decode cX2_drownedTotal 14 = .ok (.getfield 43, 3) := by decide +kernel
theorem dX2_drownedTotal_17 : decode cX2_drownedTotal 17 = .ok (.iload_n 2, 1) := by decide +kernel
theorem dX2_drownedTotal_18 : decode cX2_drownedTotal 18 = .ok (.iaload, 1) := by decide +kernel
theorem dX2_drownedTotal_19 : decode cX2_drownedTotal 19 = .ok (.bipush (-2), 2) := by decide +kernel
theorem dX2_drownedTotal_21 : decode cX2_drownedTotal 21 = .ok (.if_icmp .ne 7, 3) := by decide +kernel
theorem dX2_drownedTotal_24 : decode cX2_drownedTotal 24 = .ok (.iconst 1, 1) := by decide +kernel
theorem dX2_drownedTotal_25 : decode cX2_drownedTotal 25 = .ok (.goto 4, 3) := by decide +kernel
theorem dX2_drownedTotal_28 : decode cX2_drownedTotal 28 = .ok (.iconst 0, 1) := by decide +kernel
theorem dX2_drownedTotal_29 : decode cX2_drownedTotal 29 = .ok (.iadd, 1) := by decide +kernel
theorem dX2_drownedTotal_30 : decode cX2_drownedTotal 30 = .ok (.istore_n 1, 1) := by decide +kernel
theorem dX2_drownedTotal_31 : decode cX2_drownedTotal 31 = .ok (.iinc 2 1, 3) := by decide +kernel
theorem dX2_drownedTotal_34 : decode cX2_drownedTotal 34 = .ok (.goto (-30), 3) := by decide +kernel
theorem dX2_drownedTotal_37 : decode cX2_drownedTotal 37 = .ok (.iload_n 1, 1) := by decide +kernel
theorem dX2_drownedTotal_38 : decode cX2_drownedTotal 38 = .ok (.ireturn, 1) := by decide +kernel
theorem dX2_openHole_0 : decode cX2_openHole 0 = .ok (.aload_n 0, 1) := by decide +kernel
theorem dX2_openHole_1 : decode cX2_openHole 1 = .ok (.getfield 39, 3) := by decide +kernel
theorem dX2_openHole_4 : decode cX2_openHole 4 = .ok (.bipush 12, 2) := by decide +kernel
theorem dX2_openHole_6 : decode cX2_openHole 6 = .ok (.if_icmp .lt 5, 3) := by decide +kernel
theorem dX2_openHole_9 : decode cX2_openHole 9 = .ok (.iconst (-1), 1) := by decide +kernel
theorem dX2_openHole_10 : decode cX2_openHole 10 = .ok (.ireturn, 1) := by decide +kernel
theorem dX2_openHole_11 : decode cX2_openHole 11 = .ok (.aload_n 0, 1) := by decide +kernel
theorem dX2_openHole_12 : decode cX2_openHole 12 = .ok (.getfield 39, 3) := by decide +kernel
theorem dX2_openHole_15 : decode cX2_openHole 15 = .ok (.istore 6, 2) := by decide +kernel
theorem dX2_openHole_17 : decode cX2_openHole 17 = .ok (.aload_n 0, 1) := by decide +kernel
theorem dX2_openHole_18 : decode cX2_openHole 18 = .ok (.dup, 1) := by decide +kernel
theorem dX2_openHole_19 : decode cX2_openHole 19 = .ok (.getfield 39, 3) := by decide +kernel
theorem dX2_openHole_22 : decode cX2_openHole 22 = .ok (.iconst 1, 1) := by decide +kernel
theorem dX2_openHole_23 : decode cX2_openHole 23 = .ok (.iadd, 1) := by decide +kernel
theorem dX2_openHole_24 : decode cX2_openHole 24 = .ok (.putfield 39, 3) := by decide +kernel
theorem dX2_openHole_27 : decode cX2_openHole 27 = .ok (.aload_n 0, 1) := by decide +kernel
theorem dX2_openHole_28 : decode cX2_openHole 28 = .ok (.getfield 24, 3) := by decide +kernel
theorem dX2_openHole_31 : decode cX2_openHole 31 = .ok (.iload 6, 2) := by decide +kernel
theorem dX2_openHole_33 : decode cX2_openHole 33 = .ok (.iload_n 1, 1) := by decide +kernel
theorem dX2_openHole_34 : decode cX2_openHole 34 = .ok (.iastore, 1) := by decide +kernel
theorem dX2_openHole_35 : decode cX2_openHole 35 = .ok (.aload_n 0, 1) := by decide +kernel
theorem dX2_openHole_36 : decode cX2_openHole 36 = .ok (.getfield 27, 3) := by decide +kernel
theorem dX2_openHole_39 : decode cX2_openHole 39 = .ok (.iload 6, 2) := by decide +kernel
theorem dX2_openHole_41 : decode cX2_openHole 41 = .ok (.iload_n 2, 1) := by decide +kernel
theorem dX2_openHole_42 : decode cX2_openHole 42 = .ok (.iastore, 1) := by decide +kernel
theorem dX2_openHole_43 : decode cX2_openHole 43 = .ok (.aload_n 0, 1) := by decide +kernel
theorem dX2_openHole_44 : decode cX2_openHole 44 = .ok (.getfield 30, 3) := by decide +kernel
theorem dX2_openHole_47 : decode cX2_openHole 47 = .ok (.iload 6, 2) := by decide +kernel
theorem dX2_openHole_49 : decode cX2_openHole 49 = .ok (.iload_n 3, 1) := by decide +kernel
theorem dX2_openHole_50 : decode cX2_openHole 50 = .ok (.iastore, 1) := by decide +kernel
theorem dX2_openHole_51 : decode cX2_openHole 51 = .ok (.aload_n 0, 1) := by decide +kernel
theorem dX2_openHole_52 : decode cX2_openHole 52 = .ok (.getfield 33, 3) := by decide +kernel
theorem dX2_openHole_55 : decode cX2_openHole 55 = .ok (.iload 6, 2) := by decide +kernel
theorem dX2_openHole_57 : decode cX2_openHole 57 = .ok (.iload 4, 2) := by decide +kernel
theorem dX2_openHole_59 : decode cX2_openHole 59 = .ok (.iastore, 1) := by decide +kernel
theorem dX2_openHole_60 : decode cX2_openHole 60 = .ok (.aload_n 0, 1) := by decide +kernel
theorem dX2_openHole_61 : decode cX2_openHole 61 = .ok (.getfield 36, 3) := by decide +kernel
theorem dX2_openHole_64 : decode cX2_openHole 64 = .ok (.iload 6, 2) := by decide +kernel
theorem dX2_openHole_66 : decode cX2_openHole 66 = .ok (.iload 5, 2) := by decide +kernel
theorem dX2_openHole_68 : decode cX2_openHole 68 = .ok (.iastore, 1) := by decide +kernel
theorem dX2_openHole_69 : decode cX2_openHole 69 = .ok (.aload_n 0, 1) := by decide +kernel
theorem dX2_openHole_70 : decode cX2_openHole 70 = .ok (.getfield 15, 3) := by decide +kernel
theorem dX2_openHole_73 : decode cX2_openHole 73 = .ok (.iload_n 1, 1) := by decide +kernel
theorem dX2_openHole_74 : decode cX2_openHole 74 = .ok (.iload 6, 2) := by decide +kernel
theorem dX2_openHole_76 : decode cX2_openHole 76 = .ok (.iastore, 1) := by decide +kernel
theorem dX2_openHole_77 : decode cX2_openHole 77 = .ok (.aload_n 0, 1) := by decide +kernel
theorem dX2_openHole_78 : decode cX2_openHole 78 = .ok (.iload_n 1, 1) := by decide +kernel
theorem dX2_openHole_79 : decode cX2_openHole 79 = .ok (.iconst 1, 1) := by decide +kernel
theorem dX2_openHole_80 : decode cX2_openHole 80 = .ok (.iload_n 3, 1) := by decide +kernel
theorem dX2_openHole_81 : decode cX2_openHole 81 = .ok (.invokevirtual 96, 3) := by decide +kernel
theorem dX2_openHole_84 : decode cX2_openHole 84 = .ok (.iload 6, 2) := by decide +kernel
theorem dX2_openHole_86 : decode cX2_openHole 86 = .ok (.ireturn, 1) := by decide +kernel
theorem dX2_closeHole_0 : decode cX2_closeHole 0 = .ok (.aload_n 0, 1) := by decide +kernel
theorem dX2_closeHole_1 : decode cX2_closeHole 1 = .ok (.getfield 24, 3) := by decide +kernel
theorem dX2_closeHole_4 : decode cX2_closeHole 4 = .ok (.iload_n 1, 1) := by decide +kernel
theorem dX2_closeHole_5 : decode cX2_closeHole 5 = .ok (.iaload, 1) := by decide +kernel
theorem dX2_closeHole_6 : decode cX2_closeHole 6 = .ok (.istore_n 2, 1) := by decide +kernel
theorem dX2_closeHole_7 : decode cX2_closeHole 7 = .ok (.aload_n 0, 1) := by decide +kernel
theorem dX2_closeHole_8 : decode cX2_closeHole 8 = .ok (.getfield 15, 3) := by decide +kernel
theorem dX2_closeHole_11 : decode cX2_closeHole 11 = .ok (.iload_n 2, 1) := by decide +kernel
theorem dX2_closeHole_12 : decode cX2_closeHole 12 = .ok (.iconst (-1), 1) := by decide +kernel
theorem dX2_closeHole_13 : decode cX2_closeHole 13 = .ok (.iastore, 1) := by decide +kernel
theorem dX2_closeHole_14 : decode cX2_closeHole 14 = .ok (.aload_n 0, 1) := by decide +kernel
theorem dX2_closeHole_15 : decode cX2_closeHole 15 = .ok (.iload_n 2, 1) := by decide +kernel
theorem dX2_closeHole_16 : decode cX2_closeHole 16 = .ok (.iconst (-1), 1) := by decide +kernel
theorem dX2_closeHole_17 : decode cX2_closeHole 17 = .ok (.aload_n 0, 1) := by decide +kernel
theorem dX2_closeHole_18 : decode cX2_closeHole 18 = .ok (.getfield 30, 3) := by decide +kernel
theorem dX2_closeHole_21 : decode cX2_closeHole 21 = .ok (.iload_n 1, 1) := by decide +kernel
theorem dX2_closeHole_22 : decode cX2_closeHole 22 = .ok (.iaload, 1) := by decide +kernel
theorem dX2_closeHole_23 : decode cX2_closeHole 23 = .ok (.ineg, 1) := by decide +kernel
theorem dX2_closeHole_24 : decode cX2_closeHole 24 = .ok (.invokevirtual 96, 3) := by decide +kernel
theorem dX2_closeHole_27 : decode cX2_closeHole 27 = .ok (.return_, 1) := by decide +kernel
theorem dX2_addGroup_0 : decode cX2_addGroup 0 = .ok (.aload_n 0, 1) := by decide +kernel
theorem dX2_addGroup_1 : decode cX2_addGroup 1 = .ok (.getfield 49, 3) := by decide +kernel
theorem dX2_addGroup_4 : decode cX2_addGroup 4 = .ok (.bipush 8, 2) := by decide +kernel
theorem dX2_addGroup_6 : decode cX2_addGroup 6 = .ok (.if_icmp .lt 5, 3) := by decide +kernel
theorem dX2_addGroup_9 : decode cX2_addGroup 9 = .ok (.iconst (-1), 1) := by decide +kernel
theorem dX2_addGroup_10 : decode cX2_addGroup 10 = .ok (.ireturn, 1) := by decide +kernel
theorem dX2_addGroup_11 : decode cX2_addGroup 11 = .ok (.aload_n 0, 1) := by decide +kernel
theorem dX2_addGroup_12 : decode cX2_addGroup 12 = .ok (.getfield 49, 3) := by decide +kernel
theorem dX2_addGroup_15 : decode cX2_addGroup 15 = .ok (.istore_n 3, 1) := by decide +kernel
theorem dX2_addGroup_16 : decode cX2_addGroup 16 = .ok (.aload_n 0, 1) := by decide +kernel
theorem dX2_addGroup_17 : decode cX2_addGroup 17 = .ok (.dup, 1) := by decide +kernel
theorem dX2_addGroup_18 : decode cX2_addGroup 18 = .ok (.getfield 49, 3) := by decide +kernel
theorem dX2_addGroup_21 : decode cX2_addGroup 21 = .ok (.iconst 1, 1) := by decide +kernel
theorem dX2_addGroup_22 : decode cX2_addGroup 22 = .ok (.iadd, 1) := by decide +kernel
theorem dX2_addGroup_23 : decode cX2_addGroup 23 = .ok (.putfield 49, 3) := by decide +kernel
theorem dX2_addGroup_26 : decode cX2_addGroup 26 = .ok (.aload_n 0, 1) := by decide +kernel
theorem dX2_addGroup_27 : decode cX2_addGroup 27 = .ok (.getfield 43, 3) := by decide +kernel
theorem dX2_addGroup_30 : decode cX2_addGroup 30 = .ok (.iload_n 3, 1) := by decide +kernel
theorem dX2_addGroup_31 : decode cX2_addGroup 31 = .ok (.iload_n 1, 1) := by decide +kernel
theorem dX2_addGroup_32 : decode cX2_addGroup 32 = .ok (.iastore, 1) := by decide +kernel
theorem dX2_addGroup_33 : decode cX2_addGroup 33 = .ok (.aload_n 0, 1) := by decide +kernel
theorem dX2_addGroup_34 : decode cX2_addGroup 34 = .ok (.getfield 46, 3) := by decide +kernel
theorem dX2_addGroup_37 : decode cX2_addGroup 37 = .ok (.iload_n 3, 1) := by decide +kernel
theorem dX2_addGroup_38 : decode cX2_addGroup 38 = .ok (.iload_n 2, 1) := by decide +kernel
theorem dX2_addGroup_39 : decode cX2_addGroup 39 = .ok (.iastore, 1) := by decide +kernel
theorem dX2_addGroup_40 : decode cX2_addGroup 40 = .ok (.iload_n 3, 1) := by decide +kernel
theorem dX2_addGroup_41 : decode cX2_addGroup 41 = .ok (.ireturn, 1) := by decide +kernel
theorem dX2_breakAt_0 : decode cX2_breakAt 0 = .ok (.aload_n 0, 1) := by decide +kernel
theorem dX2_breakAt_1 : decode cX2_breakAt 1 = .ok (.iload_n 1, 1) := by decide +kernel
theorem dX2_breakAt_2 : decode cX2_breakAt 2 = .ok (.invokevirtual 79, 3) := by decide +kernel
theorem dX2_breakAt_5 : decode cX2_breakAt 5 = .ok (.ifCond .ne 4, 3) := by decide +kernel
theorem dX2_breakAt_8 : decode cX2_breakAt 8 = .ok (.return_, 1) := by decide +kernel
theorem dX2_breakAt_9 : decode cX2_breakAt 9 = .ok (.aload_n 0, 1) := by decide +kernel
theorem dX2_breakAt_10 : decode cX2_breakAt 10 = .ok (.getfield 15, 3) := by decide +kernel
theorem dX2_breakAt_13 : decode cX2_breakAt 13 = .ok (.iload_n 1, 1) := by decide +kernel
theorem dX2_breakAt_14 : decode cX2_breakAt 14 = .ok (.bipush (-2), 2) := by decide +kernel
theorem dX2_breakAt_16 : decode cX2_breakAt 16 = .ok (.iastore, 1) := by decide +kernel
theorem dX2_breakAt_17 : decode cX2_breakAt 17 = .ok (.aload_n 0, 1) := by decide +kernel
theorem dX2_breakAt_18 : decode cX2_breakAt 18 = .ok (.iload_n 1, 1) := by decide +kernel
theorem dX2_breakAt_19 : decode cX2_breakAt 19 = .ok (.iconst 1, 1) := by decide +kernel
theorem dX2_breakAt_20 : decode cX2_breakAt 20 = .ok (.iconst 0, 1) := by decide +kernel
theorem dX2_breakAt_21 : decode cX2_breakAt 21 = .ok (.invokevirtual 96, 3) := by decide +kernel
theorem dX2_breakAt_24 : decode cX2_breakAt 24 = .ok (.iconst 0, 1) := by decide +kernel
theorem dX2_breakAt_25 : decode cX2_breakAt 25 = .ok (.istore_n 2, 1) := by decide +kernel
theorem dX2_breakAt_26 : decode cX2_breakAt 26 = .ok (.iload_n 2, 1) := by decide +kernel
theorem dX2_breakAt_27 : decode cX2_breakAt 27 = .ok (.aload_n 0, 1) := by decide +kernel
theorem dX2_breakAt_28 : decode cX2_breakAt 28 = .ok (.getfield 49, 3) := by decide +kernel
theorem dX2_breakAt_31 : decode cX2_breakAt 31 = .ok (.if_icmp .ge 27, 3) := by decide +kernel
theorem dX2_breakAt_34 : decode cX2_breakAt 34 = .ok (.aload_n 0, 1) := by decide +kernel
theorem dX2_breakAt_35 : decode cX2_breakAt 35 = .ok (.getfield 43, 3) := by decide +kernel
theorem dX2_breakAt_38 : decode cX2_breakAt 38 = .ok (.iload_n 2, 1) := by decide +kernel
theorem dX2_breakAt_39 : decode cX2_breakAt 39 = .ok (.iaload, 1) := by decide +kernel
theorem dX2_breakAt_40 : decode cX2_breakAt 40 = .ok (.iload_n 1, 1) := by decide +kernel
theorem dX2_breakAt_41 : decode cX2_breakAt 41 = .ok (.if_icmp .ne 11, 3) := by decide +kernel
theorem dX2_breakAt_44 : decode cX2_breakAt 44 = .ok (.aload_n 0, 1) := by decide +kernel
theorem dX2_breakAt_45 : decode cX2_breakAt 45 = .ok (.getfield 43, 3) := by decide +kernel
theorem dX2_breakAt_48 : decode cX2_breakAt 48 = .ok (.iload_n 2, 1) := by decide +kernel
theorem dX2_breakAt_49 : decode cX2_breakAt 49 = .ok (.bipush (-2), 2) := by decide +kernel
theorem dX2_breakAt_51 : decode cX2_breakAt 51 = .ok (.iastore, 1) := by decide +kernel
theorem dX2_breakAt_52 : decode cX2_breakAt 52 = .ok (.iinc 2 1, 3) := by decide +kernel
theorem dX2_breakAt_55 : decode cX2_breakAt 55 = .ok (.goto (-29), 3) := by decide +kernel
theorem dX2_breakAt_58 : decode cX2_breakAt 58 = .ok (.return_, 1) := by decide +kernel
theorem dX2_mend_0 : decode cX2_mend 0 = .ok (.aload_n 0, 1) := by decide +kernel
theorem dX2_mend_1 : decode cX2_mend 1 = .ok (.iload_n 1, 1) := by decide +kernel
theorem dX2_mend_2 : decode cX2_mend 2 = .ok (.invokevirtual 86, 3) := by decide +kernel
theorem dX2_mend_5 : decode cX2_mend 5 = .ok (.ifCond .eq 17, 3) := by decide +kernel
theorem dX2_mend_8 : decode cX2_mend 8 = .ok (.aload_n 0, 1) := by decide +kernel
theorem dX2_mend_9 : decode cX2_mend 9 = .ok (.getfield 15, 3) := by decide +kernel
theorem dX2_mend_12 : decode cX2_mend 12 = .ok (.iload_n 1, 1) := by decide +kernel
theorem dX2_mend_13 : decode cX2_mend 13 = .ok (.iconst (-1), 1) := by decide +kernel
theorem dX2_mend_14 : decode cX2_mend 14 = .ok (.iastore, 1) := by decide +kernel
theorem dX2_mend_15 : decode cX2_mend 15 = .ok (.aload_n 0, 1) := by decide +kernel
theorem dX2_mend_16 : decode cX2_mend 16 = .ok (.iload_n 1, 1) := by decide +kernel
theorem dX2_mend_17 : decode cX2_mend 17 = .ok (.iconst (-1), 1) := by decide +kernel
theorem dX2_mend_18 : decode cX2_mend 18 = .ok (.iconst 0, 1) := by decide +kernel
theorem dX2_mend_19 : decode cX2_mend 19 = .ok (.invokevirtual 96, 3) := by decide +kernel
theorem dX2_mend_22 : decode cX2_mend 22 = .ok (.return_, 1) := by decide +kernel
theorem dX2_raise_0 : decode cX2_raise 0 = .ok (.aload_n 0, 1) := by decide +kernel
theorem dX2_raise_1 : decode cX2_raise 1 = .ok (.iload_n 1, 1) := by decide +kernel
theorem dX2_raise_2 : decode cX2_raise 2 = .ok (.invokevirtual 100, 3) := by decide +kernel
theorem dX2_raise_5 : decode cX2_raise 5 = .ok (.iconst 0, 1) := by decide +kernel
theorem dX2_raise_6 : decode cX2_raise 6 = .ok (.istore_n 3, 1) := by decide +kernel
theorem dX2_raise_7 : decode cX2_raise 7 = .ok (.iload_n 3, 1) := by decide +kernel
theorem dX2_raise_8 : decode cX2_raise 8 = .ok (.aload_n 0, 1) := by decide +kernel
theorem dX2_raise_9 : decode cX2_raise 9 = .ok (.getfield 49, 3) := by decide +kernel
theorem dX2_raise_12 : decode cX2_raise 12 = .ok (.if_icmp .ge 42, 3) := by decide +kernel
theorem dX2_raise_15 : decode cX2_raise 15 = .ok (.aload_n 0, 1) := by decide +kernel
theorem dX2_raise_16 : decode cX2_raise 16 = .ok (.getfield 43, 3) := by decide +kernel
theorem dX2_raise_19 : decode cX2_raise 19 = .ok (.iload_n 3, 1) := by decide +kernel
theorem dX2_raise_20 : decode cX2_raise 20 = .ok (.aload_n 2, 1) := by decide +kernel
theorem dX2_raise_21 : decode cX2_raise 21 = .ok (.getfield 43, 3) := by decide +kernel
theorem dX2_raise_24 : decode cX2_raise 24 = .ok (.iload_n 3, 1) := by decide +kernel
theorem dX2_raise_25 : decode cX2_raise 25 = .ok (.iaload, 1) := by decide +kernel
theorem dX2_raise_26 : decode cX2_raise 26 = .ok (.iastore, 1) := by decide +kernel
theorem dX2_raise_27 : decode cX2_raise 27 = .ok (.aload_n 0, 1) := by decide +kernel
theorem dX2_raise_28 : decode cX2_raise 28 = .ok (.getfield 43, 3) := by decide +kernel
theorem dX2_raise_31 : decode cX2_raise 31 = .ok (.iload_n 3, 1) := by decide +kernel
theorem dX2_raise_32 : decode cX2_raise 32 = .ok (.iaload, 1) := by decide +kernel
theorem dX2_raise_33 : decode cX2_raise 33 = .ok (.bipush (-2), 2) := by decide +kernel
theorem dX2_raise_35 : decode cX2_raise 35 = .ok (.if_icmp .eq 13, 3) := by decide +kernel
theorem dX2_raise_38 : decode cX2_raise 38 = .ok (.aload_n 0, 1) := by decide +kernel
theorem dX2_raise_39 : decode cX2_raise 39 = .ok (.aload_n 0, 1) := by decide +kernel
theorem dX2_raise_40 : decode cX2_raise 40 = .ok (.getfield 43, 3) := by decide +kernel
theorem dX2_raise_43 : decode cX2_raise 43 = .ok (.iload_n 3, 1) := by decide +kernel
theorem dX2_raise_44 : decode cX2_raise 44 = .ok (.iaload, 1) := by decide +kernel
theorem dX2_raise_45 : decode cX2_raise 45 = .ok (.invokevirtual 100, 3) := by decide +kernel
theorem dX2_raise_48 : decode cX2_raise 48 = .ok (.iinc 3 1, 3) := by decide +kernel
theorem dX2_raise_51 : decode cX2_raise 51 = .ok (.goto (-44), 3) := by decide +kernel
theorem dX2_raise_54 : decode cX2_raise 54 = .ok (.return_, 1) := by decide +kernel
theorem dX2_spread_0 : decode cX2_spread 0 = .ok (.aload_n 0, 1) := by decide +kernel
theorem dX2_spread_1 : decode cX2_spread 1 = .ok (.getfield 21, 3) := by decide +kernel
theorem dX2_spread_4 : decode cX2_spread 4 = .ok (.iload_n 1, 1) := by decide +kernel
theorem dX2_spread_5 : decode cX2_spread 5 = .ok (.dup2, 1) := by decide +kernel
theorem dX2_spread_6 : decode cX2_spread 6 = .ok (.iaload, 1) := by decide +kernel
theorem dX2_spread_7 : decode cX2_spread 7 = .ok (.iload_n 3, 1) := by decide +kernel
theorem dX2_spread_8 : decode cX2_spread 8 = .ok (.iadd, 1) := by decide +kernel
theorem dX2_spread_9 : decode cX2_spread 9 = .ok (.iastore, 1) := by decide +kernel
theorem dX2_spread_10 : decode cX2_spread 10 = .ok (.iconst 0, 1) := by decide +kernel
theorem dX2_spread_11 : decode cX2_spread 11 = .ok (.istore 4, 2) := by decide +kernel
theorem dX2_spread_13 : decode cX2_spread 13 = .ok (.iload 4, 2) := by decide +kernel
theorem dX2_spread_15 : decode cX2_spread 15 = .ok (.bipush 8, 2) := by decide +kernel
theorem dX2_spread_17 : decode cX2_spread 17 = .ok (.if_icmp .ge 45, 3) := by decide +kernel
theorem dX2_spread_20 : decode cX2_spread 20 = .ok (.iload_n 1, 1) := by decide +kernel
theorem dX2_spread_21 : decode cX2_spread 21 = .ok (.iload 4, 2) := by decide +kernel
theorem dX2_spread_23 : decode cX2_spread 23 = .ok (.invokestatic 104, 3) := by decide +kernel
theorem dX2_spread_26 : decode cX2_spread 26 = .ok (.istore 5, 2) := by decide +kernel
theorem dX2_spread_28 : decode cX2_spread 28 = .ok (.iload 5, 2) := by decide +kernel
theorem dX2_spread_30 : decode cX2_spread 30 = .ok (.iconst (-1), 1) := by decide +kernel
theorem dX2_spread_31 : decode cX2_spread 31 = .ok (.if_icmp .eq 25, 3) := by decide +kernel
theorem dX2_spread_34 : decode cX2_spread 34 = .ok (.aload_n 0, 1) := by decide +kernel
theorem dX2_spread_35 : decode cX2_spread 35 = .ok (.getfield 18, 3) := by decide +kernel
theorem dX2_spread_38 : decode cX2_spread 38 = .ok (.iload 5, 2) := by decide +kernel
theorem dX2_spread_40 : decode cX2_spread 40 = .ok (.dup2, 1) := by decide +kernel
theorem dX2_spread_41 : decode cX2_spread 41 = .ok (.iaload, 1) := by decide +kernel
theorem dX2_spread_42 : decode cX2_spread 42 = .ok (.iload_n 2, 1) := by decide +kernel
theorem dX2_spread_43 : decode cX2_spread 43 = .ok (.iadd, 1) := by decide +kernel
theorem dX2_spread_44 : decode cX2_spread 44 = .ok (.iastore, 1) := by decide +kernel
theorem dX2_spread_45 : decode cX2_spread 45 = .ok (.aload_n 0, 1) := by decide +kernel
theorem dX2_spread_46 : decode cX2_spread 46 = .ok (.getfield 21, 3) := by decide +kernel
theorem dX2_spread_49 : decode cX2_spread 49 = .ok (.iload 5, 2) := by decide +kernel
theorem dX2_spread_51 : decode cX2_spread 51 = .ok (.dup2, 1) := by decide +kernel
theorem dX2_spread_52 : decode cX2_spread 52 = .ok (.iaload, 1) := by decide +kernel
theorem dX2_spread_53 : decode cX2_spread 53 = .ok (.iload_n 3, 1) := by decide +kernel
theorem dX2_spread_54 : decode cX2_spread 54 = .ok (.iadd, 1) := by decide +kernel
theorem dX2_spread_55 : decode cX2_spread 55 = .ok (.iastore, 1) := by decide +kernel
theorem dX2_spread_56 : decode cX2_spread 56 = .ok (.iinc 4 1, 3) := by decide +kernel
theorem dX2_spread_59 : decode cX2_spread 59 = .ok (.goto (-46), 3) := by decide +kernel
theorem dX2_spread_62 : decode cX2_spread 62 = .ok (.return_, 1) := by decide +kernel
theorem dX2_makesRow_0 : decode cX2_makesRow 0 = .ok (.bipush (-3), 2) := by decide +kernel
theorem dX2_makesRow_2 : decode cX2_makesRow 2 = .ok (.istore_n 2, 1) := by decide +kernel
theorem dX2_makesRow_3 : decode cX2_makesRow 3 = .ok (.iload_n 2, 1) := by decide +kernel
theorem dX2_makesRow_4 : decode cX2_makesRow 4 = .ok (.iconst 3, 1) := by decide +kernel
theorem dX2_makesRow_5 : decode cX2_makesRow 5 = .ok (.if_icmp .gt 81, 3) := by decide +kernel
theorem dX2_makesRow_8 : decode cX2_makesRow 8 = .ok (.bipush (-3), 2) := by decide +kernel
theorem dX2_makesRow_10 : decode cX2_makesRow 10 = .ok (.istore_n 3, 1) := by decide +kernel
theorem dX2_makesRow_11 : decode cX2_makesRow 11 = .ok (.iload_n 3, 1) := by decide +kernel
theorem dX2_makesRow_12 : decode cX2_makesRow 12 = .ok (.iconst 3, 1) := by decide +kernel
theorem dX2_makesRow_13 : decode cX2_makesRow 13 = .ok (.if_icmp .gt 67, 3) := by decide +kernel
theorem dX2_makesRow_16 : decode cX2_makesRow 16 = .ok (.iload_n 2, 1) := by decide +kernel
theorem dX2_makesRow_17 : decode cX2_makesRow 17 = .ok (.ifCond .ne 7, 3) := by decide +kernel
theorem dX2_makesRow_20 : decode cX2_makesRow 20 = .ok (.iload_n 3, 1) := by decide +kernel
theorem dX2_makesRow_21 : decode cX2_makesRow 21 = .ok (.ifCond .eq 7, 3) := by decide +kernel
theorem dX2_makesRow_24 : decode cX2_makesRow 24 = .ok (.iconst 1, 1) := by decide +kernel
theorem dX2_makesRow_25 : decode cX2_makesRow 25 = .ok (.goto 4, 3) := by decide +kernel
theorem dX2_makesRow_28 : decode cX2_makesRow 28 = .ok (.iconst 0, 1) := by decide +kernel
theorem dX2_makesRow_29 : decode cX2_makesRow 29 = .ok (.istore 4, 2) := by decide +kernel
theorem dX2_makesRow_31 : decode cX2_makesRow 31 = .ok (.iload 4, 2) := by decide +kernel
theorem dX2_makesRow_33 : decode cX2_makesRow 33 = .ok (.ifCond .eq 41, 3) := by decide +kernel
theorem dX2_makesRow_36 : decode cX2_makesRow 36 = .ok (.aload_n 0, 1) := by decide +kernel
theorem dX2_makesRow_37 : decode cX2_makesRow 37 = .ok (.iload_n 1, 1) := by decide +kernel
theorem dX2_makesRow_38 : decode cX2_makesRow 38 = .ok (.iload_n 2, 1) := by decide +kernel
theorem dX2_makesRow_39 : decode cX2_makesRow 39 = .ok (.iload_n 3, 1) := by decide +kernel
theorem dX2_makesRow_40 : decode cX2_makesRow 40 = .ok (.invokevirtual 107, 3) := by decide +kernel
theorem dX2_makesRow_43 : decode cX2_makesRow 43 = .ok (.ifCond .eq 31, 3) := by decide +kernel
theorem dX2_makesRow_46 : decode cX2_makesRow 46 = .ok (.aload_n 0, 1) := by decide +kernel
theorem dX2_makesRow_47 : decode cX2_makesRow 47 = .ok (.iload_n 1, 1) := by decide +kernel
theorem dX2_makesRow_48 : decode cX2_makesRow 48 = .ok (.iconst 2, 1) := by decide +kernel
theorem dX2_makesRow_49 : decode cX2_makesRow 49 = .ok (.iload_n 2, 1) := by decide +kernel
theorem dX2_makesRow_50 : decode cX2_makesRow 50 = .ok (.imul, 1) := by decide +kernel
theorem dX2_makesRow_51 : decode cX2_makesRow 51 = .ok (.iconst 2, 1) := by decide +kernel
theorem dX2_makesRow_52 : decode cX2_makesRow 52 = .ok (.iload_n 3, 1) := by decide +kernel
theorem dX2_makesRow_53 : decode cX2_makesRow 53 = .ok (.imul, 1) := by decide +kernel
theorem dX2_makesRow_54 : decode cX2_makesRow 54 = .ok (.invokevirtual 107, 3) := by decide +kernel
theorem dX2_makesRow_57 : decode cX2_makesRow 57 = .ok (.ifCond .ne 15, 3) := by decide +kernel
theorem dX2_makesRow_60 : decode cX2_makesRow 60 = .ok (.aload_n 0, 1) := by decide +kernel
theorem dX2_makesRow_61 : decode cX2_makesRow 61 = .ok (.iload_n 1, 1) := by decide +kernel
theorem dX2_makesRow_62 : decode cX2_makesRow 62 = .ok (.iload_n 2, 1) := by decide +kernel
theorem dX2_makesRow_63 : decode cX2_makesRow 63 = .ok (.ineg, 1) := by decide +kernel
theorem dX2_makesRow_64 : decode cX2_makesRow 64 = .ok (.iload_n 3, 1) := by decide +kernel
theorem dX2_makesRow_65 : decode cX2_makesRow 65 = .ok (.ineg, 1) := by decide +kernel
theorem dX2_makesRow_66 : decode cX2_makesRow 66 = .ok (.invokevirtual 107, 3) := by decide +kernel
theorem dX2_makesRow_69 : decode cX2_makesRow 69 = .ok (.ifCond .eq 5, 3) := by decide +kernel
theorem dX2_makesRow_72 : decode cX2_makesRow 72 = .ok (.iconst 1, 1) := by decide +kernel
theorem dX2_makesRow_73 : decode cX2_makesRow 73 = .ok (.ireturn, 1) := by decide +kernel
theorem dX2_makesRow_74 : decode cX2_makesRow 74 = .ok (.iinc 3 1, 3) := by decide +kernel
theorem dX2_makesRow_77 : decode cX2_makesRow 77 = .ok (.goto (-66), 3) := by decide +kernel
theorem dX2_makesRow_80 : decode cX2_makesRow 80 = .ok (.iinc 2 1, 3) := by decide +kernel
theorem dX2_makesRow_83 : decode cX2_makesRow 83 = .ok (.goto (-80), 3) := by decide +kernel
theorem dX2_makesRow_86 : decode cX2_makesRow 86 = .ok (.iconst 0, 1) := by decide +kernel
theorem dX2_makesRow_87 : decode cX2_makesRow 87 = .ok (.ireturn, 1) := by decide +kernel
theorem dX2_isHole_0 : decode cX2_isHole 0 = .ok (.iload_n 1, 1) := by decide +kernel
theorem dX2_isHole_1 : decode cX2_isHole 1 = .ok (.iload_n 2, 1) := by decide +kernel
theorem dX2_isHole_2 : decode cX2_isHole 2 = .ok (.iload_n 3, 1) := by decide +kernel
theorem dX2_isHole_3 : decode cX2_isHole 3 = .ok (.invokestatic 111, 3) := by decide +kernel
theorem dX2_isHole_6 : decode cX2_isHole 6 = .ok (.istore 4, 2) := by decide +kernel
theorem dX2_isHole_8 : decode cX2_isHole 8 = .ok (.iload 4, 2) := by decide +kernel
theorem dX2_isHole_10 : decode cX2_isHole 10 = .ok (.iconst (-1), 1) := by decide +kernel
theorem dX2_isHole_11 : decode cX2_isHole 11 = .ok (.if_icmp .eq 17, 3) := by decide +kernel
theorem dX2_isHole_14 : decode cX2_isHole 14 = .ok (.aload_n 0, 1) := by decide +kernel
theorem dX2_isHole_15 : decode cX2_isHole 15 = .ok (.getfield 15, 3) := by decide +kernel
theorem dX2_isHole_18 : decode cX2_isHole 18 = .ok (.iload 4, 2) := by decide +kernel
theorem dX2_isHole_20 : decode cX2_isHole 20 = .ok (.iaload, 1) := by decide +kernel
theorem dX2_isHole_21 : decode cX2_isHole 21 = .ok (.ifCond .lt 7, 3) := by decide +kernel
theorem dX2_isHole_24 : decode cX2_isHole 24 = .ok (.iconst 1, 1) := by decide +kernel
theorem dX2_isHole_25 : decode cX2_isHole 25 = .ok (.goto 4, 3) := by decide +kernel
theorem dX2_isHole_28 : decode cX2_isHole 28 = .ok (.iconst 0, 1) := by decide +kernel
theorem dX2_isHole_29 : decode cX2_isHole 29 = .ok (.ireturn, 1) := by decide +kernel
theorem dX2_isBesideHole_0 : decode cX2_isBesideHole 0 = .ok (.iconst 0, 1) := by decide +kernel
theorem dX2_isBesideHole_1 : decode cX2_isBesideHole 1 = .ok (.istore_n 2, 1) := by decide +kernel
theorem dX2_isBesideHole_2 : decode cX2_isBesideHole 2 = .ok (.iload_n 2, 1) := by decide +kernel
theorem dX2_isBesideHole_3 : decode cX2_isBesideHole 3 = .ok (.bipush 8, 2) := by decide +kernel
theorem dX2_isBesideHole_5 : decode cX2_isBesideHole 5 = .ok (.if_icmp .ge 31, 3) := by decide +kernel
theorem dX2_isBesideHole_8 : decode cX2_isBesideHole 8 = .ok (.iload_n 1, 1) := by decide +kernel
theorem dX2_isBesideHole_9 : decode cX2_isBesideHole 9 = .ok (.iload_n 2, 1) := by decide +kernel
theorem dX2_isBesideHole_10 : decode cX2_isBesideHole 10 = .ok (.invokestatic 104, 3) := by decide +kernel
theorem dX2_isBesideHole_13 : decode cX2_isBesideHole 13 = .ok (.istore_n 3, 1) := by decide +kernel
theorem dX2_isBesideHole_14 : decode cX2_isBesideHole 14 = .ok (.iload_n 3, 1) := by decide +kernel
theorem dX2_isBesideHole_15 : decode cX2_isBesideHole 15 = .ok (.iconst (-1), 1) := by decide +kernel
theorem dX2_isBesideHole_16 : decode cX2_isBesideHole 16 = .ok (.if_icmp .eq 14, 3) := by decide +kernel
theorem dX2_isBesideHole_19 : decode cX2_isBesideHole 19 = .ok (.aload_n 0, 1) := by decide +kernel
theorem dX2_isBesideHole_20 : decode cX2_isBesideHole 20 = .ok (.getfield 15, 3) := by decide +kernel
theorem dX2_isBesideHole_23 : decode cX2_isBesideHole 23 = .ok (.iload_n 3, 1) := by decide +kernel
theorem dX2_isBesideHole_24 : decode cX2_isBesideHole 24 = .ok (.iaload, 1) := by decide +kernel
theorem dX2_isBesideHole_25 : decode cX2_isBesideHole 25 = .ok (.ifCond .lt 5, 3) := by decide +kernel
theorem dX2_isBesideHole_28 : decode cX2_isBesideHole 28 = .ok (.iconst 1, 1) := by decide +kernel
theorem dX2_isBesideHole_29 : decode cX2_isBesideHole 29 = .ok (.ireturn, 1) := by decide +kernel
theorem dX2_isBesideHole_30 : decode cX2_isBesideHole 30 = .ok (.iinc 2 1, 3) := by decide +kernel
theorem dX2_isBesideHole_33 : decode cX2_isBesideHole 33 = .ok (.goto (-31), 3) := by decide +kernel
theorem dX2_isBesideHole_36 : decode cX2_isBesideHole 36 = .ok (.iconst 0, 1) := by decide +kernel
theorem dX2_isBesideHole_37 : decode cX2_isBesideHole 37 = .ok (.ireturn, 1) := by decide +kernel
theorem dX2_stepGroup_0 : decode cX2_stepGroup 0 = .ok (.aload_n 0, 1) := by decide +kernel
theorem dX2_stepGroup_1 : decode cX2_stepGroup 1 = .ok (.getfield 43, 3) := by decide +kernel
theorem dX2_stepGroup_4 : decode cX2_stepGroup 4 = .ok (.iload_n 1, 1) := by decide +kernel
theorem dX2_stepGroup_5 : decode cX2_stepGroup 5 = .ok (.iaload, 1) := by decide +kernel
theorem dX2_stepGroup_6 : decode cX2_stepGroup 6 = .ok (.iload_n 2, 1) := by decide +kernel
theorem dX2_stepGroup_7 : decode cX2_stepGroup 7 = .ok (.iload_n 3, 1) := by decide +kernel
theorem dX2_stepGroup_8 : decode cX2_stepGroup 8 = .ok (.invokestatic 111, 3) := by decide +kernel
theorem dX2_stepGroup_11 : decode cX2_stepGroup 11 = .ok (.istore 4, 2) := by decide +kernel
theorem dX2_stepGroup_13 : decode cX2_stepGroup 13 = .ok (.iload 4, 2) := by decide +kernel
theorem dX2_stepGroup_15 : decode cX2_stepGroup 15 = .ok (.iconst (-1), 1) := by decide +kernel
theorem dX2_stepGroup_16 : decode cX2_stepGroup 16 = .ok (.if_icmp .eq 12, 3) := by decide +kernel
theorem dX2_stepGroup_19 : decode cX2_stepGroup 19 = .ok (.aload_n 0, 1) := by decide +kernel
theorem dX2_stepGroup_20 : decode cX2_stepGroup 20 = .ok (.iload 4, 2) := by decide +kernel
theorem dX2_stepGroup_22 : decode cX2_stepGroup 22 = .ok (.invokevirtual 79, 3) := by decide +kernel
theorem dX2_stepGroup_25 : decode cX2_stepGroup 25 = .ok (.ifCond .ne 5, 3) := by decide +kernel
theorem dX2_stepGroup_28 : decode cX2_stepGroup 28 = .ok (.iconst 0, 1) := by decide +kernel
theorem dX2_stepGroup_29 : decode cX2_stepGroup 29 = .ok (.ireturn, 1) := by decide +kernel
theorem dX2_stepGroup_30 : decode cX2_stepGroup 30 = .ok (.aload_n 0, 1) := by decide +kernel
theorem dX2_stepGroup_31 : decode cX2_stepGroup 31 = .ok (.getfield 43, 3) := by decide +kernel
theorem dX2_stepGroup_34 : decode cX2_stepGroup 34 = .ok (.iload_n 1, 1) := by decide +kernel
theorem dX2_stepGroup_35 : decode cX2_stepGroup 35 = .ok (.iload 4, 2) := by decide +kernel
theorem dX2_stepGroup_37 : decode cX2_stepGroup 37 = .ok (.iastore, 1) := by decide +kernel
theorem dX2_stepGroup_38 : decode cX2_stepGroup 38 = .ok (.iconst 1, 1) := by decide +kernel
theorem dX2_stepGroup_39 : decode cX2_stepGroup 39 = .ok (.ireturn, 1) := by decide +kernel
theorem dX2_drift_0 : decode cX2_drift 0 = .ok (.aload_n 0, 1) := by decide +kernel
theorem dX2_drift_1 : decode cX2_drift 1 = .ok (.sipush 25173, 3) := by decide +kernel
theorem dX2_drift_4 : decode cX2_drift 4 = .ok (.aload_n 0, 1) := by decide +kernel
theorem dX2_drift_5 : decode cX2_drift 5 = .ok (.getfield 55, 3) := by decide +kernel
theorem dX2_drift_8 : decode cX2_drift 8 = .ok (.imul, 1) := by decide +kernel
theorem dX2_drift_9 : decode cX2_drift 9 = .ok (.sipush 13849, 3) := by decide +kernel
theorem dX2_drift_12 : decode cX2_drift 12 = .ok (.iadd, 1) := by decide +kernel
theorem dX2_drift_13 : decode cX2_drift 13 = .ok (.ldc 115, 2) := by decide +kernel
theorem dX2_drift_15 : decode cX2_drift 15 = .ok (.iand, 1) := by decide +kernel
theorem dX2_drift_16 : decode cX2_drift 16 = .ok (.putfield 55, 3) := by decide +kernel
theorem dX2_drift_19 : decode cX2_drift 19 = .ok (.aload_n 0, 1) := by decide +kernel
theorem dX2_drift_20 : decode cX2_drift 20 = .ok (.getfield 55, 3) := by decide +kernel
theorem dX2_drift_23 : decode cX2_drift 23 = .ok (.bipush 7, 2) := by decide +kernel
theorem dX2_drift_25 : decode cX2_drift 25 = .ok (.iand, 1) := by decide +kernel
theorem dX2_drift_26 : decode cX2_drift 26 = .ok (.istore_n 1, 1) := by decide +kernel
theorem dX2_drift_27 : decode cX2_drift 27 = .ok (.aload_n 0, 1) := by decide +kernel
theorem dX2_drift_28 : decode cX2_drift 28 = .ok (.iload_n 1, 1) := by decide +kernel
theorem dX2_drift_29 : decode cX2_drift 29 = .ok (.invokevirtual 116, 3) := by decide +kernel
theorem dX2_drift_32 : decode cX2_drift 32 = .ok (.ifCond .ne 4, 3) := by decide +kernel
theorem dX2_drift_35 : decode cX2_drift 35 = .ok (.return_, 1) := by decide +kernel
theorem dX2_drift_36 : decode cX2_drift 36 = .ok (.aload_n 0, 1) := by decide +kernel
theorem dX2_drift_37 : decode cX2_drift 37 = .ok (.getfield 55, 3) := by decide +kernel
theorem dX2_drift_40 : decode cX2_drift 40 = .ok (.iconst 3, 1) := by decide +kernel
theorem dX2_drift_41 : decode cX2_drift 41 = .ok (.ishr, 1) := by decide +kernel
theorem dX2_drift_42 : decode cX2_drift 42 = .ok (.iconst 3, 1) := by decide +kernel
theorem dX2_drift_43 : decode cX2_drift 43 = .ok (.iand, 1) := by decide +kernel
theorem dX2_drift_44 : decode cX2_drift 44 = .ok (.tableswitch 61 0 2 #[28, 39, 50], 28) := by decide +kernel
theorem dX2_drift_72 : decode cX2_drift 72 = .ok (.aload_n 0, 1) := by decide +kernel
theorem dX2_drift_73 : decode cX2_drift 73 = .ok (.iload_n 1, 1) := by decide +kernel
theorem dX2_drift_74 : decode cX2_drift 74 = .ok (.iconst 0, 1) := by decide +kernel
theorem dX2_drift_75 : decode cX2_drift 75 = .ok (.iconst 1, 1) := by decide +kernel
theorem dX2_drift_76 : decode cX2_drift 76 = .ok (.invokevirtual 119, 3) := by decide +kernel
theorem dX2_drift_79 : decode cX2_drift 79 = .ok (.pop, 1) := by decide +kernel
theorem dX2_drift_80 : decode cX2_drift 80 = .ok (.goto 33, 3) := by decide +kernel
theorem dX2_drift_83 : decode cX2_drift 83 = .ok (.aload_n 0, 1) := by decide +kernel
theorem dX2_drift_84 : decode cX2_drift 84 = .ok (.iload_n 1, 1) := by decide +kernel
theorem dX2_drift_85 : decode cX2_drift 85 = .ok (.iconst 1, 1) := by decide +kernel
theorem dX2_drift_86 : decode cX2_drift 86 = .ok (.iconst 0, 1) := by decide +kernel
theorem dX2_drift_87 : decode cX2_drift 87 = .ok (.invokevirtual 119, 3) := by decide +kernel
theorem dX2_drift_90 : decode cX2_drift 90 = .ok (.pop, 1) := by decide +kernel
theorem dX2_drift_91 : decode cX2_drift 91 = .ok (.goto 22, 3) := by decide +kernel
theorem dX2_drift_94 : decode cX2_drift 94 = .ok (.aload_n 0, 1) := by decide +kernel
theorem dX2_drift_95 : decode cX2_drift 95 = .ok (.iload_n 1, 1) := by decide +kernel
theorem dX2_drift_96 : decode cX2_drift 96 = .ok (.iconst 0, 1) := by decide +kernel
theorem dX2_drift_97 : decode cX2_drift 97 = .ok (.iconst (-1), 1) := by decide +kernel
theorem dX2_drift_98 : decode cX2_drift 98 = .ok (.invokevirtual 119, 3) := by decide +kernel
theorem dX2_drift_101 : decode cX2_drift 101 = .ok (.pop, 1) := by decide +kernel
theorem dX2_drift_102 : decode cX2_drift 102 = .ok (.goto 11, 3) := by decide +kernel
theorem dX2_drift_105 : decode cX2_drift 105 = .ok (.aload_n 0, 1) := by decide +kernel
theorem dX2_drift_106 : decode cX2_drift 106 = .ok (.iload_n 1, 1) := by decide +kernel
theorem dX2_drift_107 : decode cX2_drift 107 = .ok (.iconst (-1), 1) := by decide +kernel
theorem dX2_drift_108 : decode cX2_drift 108 = .ok (.iconst 0, 1) := by decide +kernel
theorem dX2_drift_109 : decode cX2_drift 109 = .ok (.invokevirtual 119, 3) := by decide +kernel
theorem dX2_drift_112 : decode cX2_drift 112 = .ok (.pop, 1) := by decide +kernel
theorem dX2_drift_113 : decode cX2_drift 113 = .ok (.return_, 1) := by decide +kernel
theorem dX3_init_0 : decode cX3_init 0 = .ok (.aload_n 0, 1) := by decide +kernel
theorem dX3_init_1 : decode cX3_init 1 = .ok (.invokespecial 3, 3) := by decide +kernel
theorem dX3_init_4 : decode cX3_init 4 = .ok (.aload_n 0, 1) := by decide +kernel
theorem dX3_init_5 : decode cX3_init 5 = .ok (.sipush 200, 3) := by decide +kernel
theorem dX3_init_8 : decode cX3_init 8 = .ok (.newarray .int, 2) := by decide +kernel
theorem dX3_init_10 : decode cX3_init 10 = .ok (.putfield 11, 3) := by decide +kernel
theorem dX3_init_13 : decode cX3_init 13 = .ok (.aload_n 0, 1) := by decide +kernel
theorem dX3_init_14 : decode cX3_init 14 = .ok (.sipush 200, 3) := by decide +kernel
theorem dX3_init_17 : decode cX3_init 17 = .ok (.newarray .int, 2) := by decide +kernel
theorem dX3_init_19 : decode cX3_init 19 = .ok (.putfield 15, 3) := by decide +kernel
theorem dX3_init_22 : decode cX3_init 22 = .ok (.aload_n 0, 1) := by decide +kernel
theorem dX3_init_23 : decode cX3_init 23 = .ok (.iconst 0, 1) := by decide +kernel
theorem dX3_init_24 : decode cX3_init 24 = .ok (.putfield 18, 3) := by decide +kernel
theorem dX3_init_27 : decode cX3_init 27 = .ok (.aload_n 0, 1) := by decide +kernel
theorem dX3_init_28 : decode cX3_init 28 = .ok (.bipush 14, 2) := by decide +kernel
theorem dX3_init_30 : decode cX3_init 30 = .ok (.newarray .int, 2) := by decide +kernel
theorem dX3_init_32 : decode cX3_init 32 = .ok (.putfield 22, 3) := by decide +kernel
theorem dX3_init_35 : decode cX3_init 35 = .ok (.aload_n 0, 1) := by decide +kernel
theorem dX3_init_36 : decode cX3_init 36 = .ok (.bipush 14, 2) := by decide +kernel
theorem dX3_init_38 : decode cX3_init 38 = .ok (.newarray .int, 2) := by decide +kernel
theorem dX3_init_40 : decode cX3_init 40 = .ok (.putfield 25, 3) := by decide +kernel
theorem dX3_init_43 : decode cX3_init 43 = .ok (.aload_n 0, 1) := by decide +kernel
theorem dX3_init_44 : decode cX3_init 44 = .ok (.bipush 14, 2) := by decide +kernel
theorem dX3_init_46 : decode cX3_init 46 = .ok (.newarray .int, 2) := by decide +kernel
theorem dX3_init_48 : decode cX3_init 48 = .ok (.putfield 28, 3) := by decide +kernel
theorem dX3_init_51 : decode cX3_init 51 = .ok (.aload_n 0, 1) := by decide +kernel
theorem dX3_init_52 : decode cX3_init 52 = .ok (.iconst 0, 1) := by decide +kernel
theorem dX3_init_53 : decode cX3_init 53 = .ok (.putfield 31, 3) := by decide +kernel
theorem dX3_init_56 : decode cX3_init 56 = .ok (.aload_n 0, 1) := by decide +kernel
theorem dX3_init_57 : decode cX3_init 57 = .ok (.bipush 12, 2) := by decide +kernel
theorem dX3_init_59 : decode cX3_init 59 = .ok (.newarray .int, 2) := by decide +kernel
theorem dX3_init_61 : decode cX3_init 61 = .ok (.putfield 34, 3) := by decide +kernel
theorem dX3_init_64 : decode cX3_init 64 = .ok (.aload_n 0, 1) := by decide +kernel
theorem dX3_init_65 : decode cX3_init 65 = .ok (.bipush 64, 2) := by decide +kernel
theorem dX3_init_67 : decode cX3_init 67 = .ok (.newarray .int, 2) := by decide +kernel
theorem dX3_init_69 : decode cX3_init 69 = .ok (.putfield 37, 3) := by decide +kernel
theorem dX3_init_72 : decode cX3_init 72 = .ok (.aload_n 0, 1) := by decide +kernel
theorem dX3_init_73 : decode cX3_init 73 = .ok (.iconst 0, 1) := by decide +kernel
theorem dX3_init_74 : decode cX3_init 74 = .ok (.putfield 40, 3) := by decide +kernel
theorem dX3_init_77 : decode cX3_init 77 = .ok (.return_, 1) := by decide +kernel
theorem dX3_clear_0 : decode cX3_clear 0 = .ok (.aload_n 0, 1) := by decide +kernel
theorem dX3_clear_1 : decode cX3_clear 1 = .ok (.iconst 0, 1) := by decide +kernel
theorem dX3_clear_2 : decode cX3_clear 2 = .ok (.putfield 18, 3) := by decide +kernel
theorem dX3_clear_5 : decode cX3_clear 5 = .ok (.aload_n 0, 1) := by decide +kernel
theorem dX3_clear_6 : decode cX3_clear 6 = .ok (.iconst 0, 1) := by decide +kernel
theorem dX3_clear_7 : decode cX3_clear 7 = .ok (.putfield 31, 3) := by decide +kernel
theorem dX3_clear_10 : decode cX3_clear 10 = .ok (.return_, 1) := by decide +kernel
theorem dX3_beginClause_0 : decode cX3_beginClause 0 = .ok (.aload_n 0, 1) := by decide +kernel
theorem dX3_beginClause_1 : decode cX3_beginClause 1 = .ok (.getfield 31, 3) := by decide +kernel
theorem dX3_beginClause_4 : decode cX3_beginClause 4 = .ok (.bipush 14, 2) := by decide +kernel
theorem dX3_beginClause_6 : decode cX3_beginClause 6 = .ok (.if_icmp .ge 36, 3) := by decide +kernel
theorem dX3_beginClause_9 : decode cX3_beginClause 9 = .ok (.aload_n 0, 1) := by decide +kernel
theorem dX3_beginClause_10 : decode cX3_beginClause 10 = .ok (.getfield 22, 3) := by decide +kernel
theorem dX3_beginClause_13 : decode cX3_beginClause 13 = .ok (.aload_n 0, 1) := by decide +kernel
theorem dX3_beginClause_14 : decode cX3_beginClause 14 = .ok (.getfield 31, 3) := by decide +kernel
theorem dX3_beginClause_17 : decode cX3_beginClause 17 = .ok (.iload_n 1, 1) := by decide +kernel
theorem dX3_beginClause_18 : decode cX3_beginClause 18 = .ok (.iastore, 1) := by decide +kernel
theorem dX3_beginClause_19 : decode cX3_beginClause 19 = .ok (.aload_n 0, 1) := by decide +kernel
theorem dX3_beginClause_20 : decode cX3_beginClause 20 = .ok (.getfield 25, 3) := by decide +kernel
theorem dX3_beginClause_23 : decode cX3_beginClause 23 = .ok (.aload_n 0, 1) := by decide +kernel
theorem dX3_beginClause_24 : decode cX3_beginClause 24 = .ok (.getfield 31, 3) := by decide +kernel
theorem dX3_beginClause_27 : decode cX3_beginClause 27 = .ok (.aload_n 0, 1) := by decide +kernel
theorem dX3_beginClause_28 : decode cX3_beginClause 28 = .ok (.getfield 18, 3) := by decide +kernel
theorem dX3_beginClause_31 : decode cX3_beginClause 31 = .ok (.iastore, 1) := by decide +kernel
theorem dX3_beginClause_32 : decode cX3_beginClause 32 = .ok (.aload_n 0, 1) := by decide +kernel
theorem dX3_beginClause_33 : decode cX3_beginClause 33 = .ok (.dup, 1) := by decide +kernel
theorem dX3_beginClause_34 : decode cX3_beginClause 34 = .ok (.getfield 31, 3) := by decide +kernel
theorem dX3_beginClause_37 : decode cX3_beginClause 37 = .ok (.iconst 1, 1) := by decide +kernel
theorem dX3_beginClause_38 : decode cX3_beginClause 38 = .ok (.iadd, 1) := by decide +kernel
theorem dX3_beginClause_39 : decode cX3_beginClause 39 = .ok (.putfield 31, 3) := by decide +kernel
theorem dX3_beginClause_42 : decode cX3_beginClause 42 = .ok (.return_, 1) := by decide +kernel
theorem dX3_beginCondition_0 : decode cX3_beginCondition 0 = .ok (.aload_n 0, 1) := by decide +kernel
theorem dX3_beginCondition_1 : decode cX3_beginCondition 1 = .ok (.getfield 31, 3) := by decide +kernel
theorem dX3_beginCondition_4 : decode cX3_beginCondition 4 = .ok (.ifCond .le 18, 3) := by decide +kernel
theorem dX3_beginCondition_7 : decode cX3_beginCondition 7 = .ok (.aload_n 0, 1) := by decide +kernel
theorem dX3_beginCondition_8 : decode cX3_beginCondition 8 = .ok (.getfield 28, 3) := by decide +kernel
theorem dX3_beginCondition_11 : decode cX3_beginCondition 11 = .ok (.aload_n 0, 1) := by decide +kernel
theorem dX3_beginCondition_12 : decode cX3_beginCondition 12 = .ok (.getfield 31, 3) := by decide +kernel
theorem dX3_beginCondition_15 : decode cX3_beginCondition 15 = .ok (.iconst 1, 1) := by decide +kernel
theorem dX3_beginCondition_16 : decode cX3_beginCondition 16 = .ok (.isub, 1) := by decide +kernel
theorem dX3_beginCondition_17 : decode cX3_beginCondition 17 = .ok (.aload_n 0, 1) := by decide +kernel
theorem dX3_beginCondition_18 : decode cX3_beginCondition 18 = .ok (.getfield 18, 3) := by decide +kernel
theorem dX3_beginCondition_21 : decode cX3_beginCondition 21 = .ok (.iastore, 1) := by decide +kernel
theorem dX3_beginCondition_22 : decode cX3_beginCondition 22 = .ok (.return_, 1) := by decide +kernel
theorem dX3_put_0 : decode cX3_put 0 = .ok (.aload_n 0, 1) := by decide +kernel
theorem dX3_put_1 : decode cX3_put 1 = .ok (.getfield 18, 3) := by decide +kernel
theorem dX3_put_4 : decode cX3_put 4 = .ok (.sipush 200, 3) := by decide +kernel
theorem dX3_put_7 : decode cX3_put 7 = .ok (.if_icmp .lt 5, 3) := by decide +kernel
theorem dX3_put_10 : decode cX3_put 10 = .ok (.iconst (-1), 1) := by decide +kernel
theorem dX3_put_11 : decode cX3_put 11 = .ok (.ireturn, 1) := by decide +kernel
theorem dX3_put_12 : decode cX3_put 12 = .ok (.aload_n 0, 1) := by decide +kernel
theorem dX3_put_13 : decode cX3_put 13 = .ok (.getfield 11, 3) := by decide +kernel
theorem dX3_put_16 : decode cX3_put 16 = .ok (.aload_n 0, 1) := by decide +kernel
theorem dX3_put_17 : decode cX3_put 17 = .ok (.getfield 18, 3) := by decide +kernel
theorem dX3_put_20 : decode cX3_put 20 = .ok (.iload_n 1, 1) := by decide +kernel
theorem dX3_put_21 : decode cX3_put 21 = .ok (.iastore, 1) := by decide +kernel
theorem dX3_put_22 : decode cX3_put 22 = .ok (.aload_n 0, 1) := by decide +kernel
theorem dX3_put_23 : decode cX3_put 23 = .ok (.getfield 15, 3) := by decide +kernel
theorem dX3_put_26 : decode cX3_put 26 = .ok (.aload_n 0, 1) := by decide +kernel
theorem dX3_put_27 : decode cX3_put 27 = .ok (.getfield 18, 3) := by decide +kernel
theorem dX3_put_30 : decode cX3_put 30 = .ok (.iload_n 2, 1) := by decide +kernel
theorem dX3_put_31 : decode cX3_put 31 = .ok (.iastore, 1) := by decide +kernel
theorem dX3_put_32 : decode cX3_put 32 = .ok (.aload_n 0, 1) := by decide +kernel
theorem dX3_put_33 : decode cX3_put 33 = .ok (.dup, 1) := by decide +kernel
theorem dX3_put_34 : decode cX3_put 34 = .ok (.getfield 18, 3) := by decide +kernel
theorem dX3_put_37 : decode cX3_put 37 = .ok (.iconst 1, 1) := by decide +kernel
theorem dX3_put_38 : decode cX3_put 38 = .ok (.iadd, 1) := by decide +kernel
theorem dX3_put_39 : decode cX3_put 39 = .ok (.putfield 18, 3) := by decide +kernel
theorem dX3_put_42 : decode cX3_put 42 = .ok (.aload_n 0, 1) := by decide +kernel
theorem dX3_put_43 : decode cX3_put 43 = .ok (.getfield 18, 3) := by decide +kernel
theorem dX3_put_46 : decode cX3_put 46 = .ok (.iconst 1, 1) := by decide +kernel
theorem dX3_put_47 : decode cX3_put 47 = .ok (.isub, 1) := by decide +kernel
theorem dX3_put_48 : decode cX3_put 48 = .ok (.ireturn, 1) := by decide +kernel
theorem dX3_landHere_0 : decode cX3_landHere 0 = .ok (.iload_n 1, 1) := by decide +kernel
theorem dX3_landHere_1 : decode cX3_landHere 1 = .ok (.istore_n 2, 1) := by decide +kernel
theorem dX3_landHere_2 : decode cX3_landHere 2 = .ok (.iconst 0, 1) := by decide +kernel
theorem dX3_landHere_3 : decode cX3_landHere 3 = .ok (.istore_n 3, 1) := by decide +kernel
theorem dX3_landHere_4 : decode cX3_landHere 4 = .ok (.iload_n 3, 1) := by decide +kernel
theorem dX3_landHere_5 : decode cX3_landHere 5 = .ok (.sipush 200, 3) := by decide +kernel
theorem dX3_landHere_8 : decode cX3_landHere 8 = .ok (.if_icmp .ge 42, 3) := by decide +kernel
theorem dX3_landHere_11 : decode cX3_landHere 11 = .ok (.iload_n 2, 1) := by decide +kernel
theorem dX3_landHere_12 : decode cX3_landHere 12 = .ok (.ifCond .lt 38, 3) := by decide +kernel
theorem dX3_landHere_15 : decode cX3_landHere 15 = .ok (.iload_n 2, 1) := by decide +kernel
theorem dX3_landHere_16 : decode cX3_landHere 16 = .ok (.aload_n 0, 1) := by decide +kernel
theorem dX3_landHere_17 : decode cX3_landHere 17 = .ok (.getfield 18, 3) := by decide +kernel
theorem dX3_landHere_20 : decode cX3_landHere 20 = .ok (.if_icmp .ge 30, 3) := by decide +kernel
theorem dX3_landHere_23 : decode cX3_landHere 23 = .ok (.aload_n 0, 1) := by decide +kernel
theorem dX3_landHere_24 : decode cX3_landHere 24 = .ok (.getfield 15, 3) := by decide +kernel
theorem dX3_landHere_27 : decode cX3_landHere 27 = .ok (.iload_n 2, 1) := by decide +kernel
theorem dX3_landHere_28 : decode cX3_landHere 28 = .ok (.iaload, 1) := by decide +kernel
theorem dX3_landHere_29 : decode cX3_landHere 29 = .ok (.istore 4, 2) := by decide +kernel
theorem dX3_landHere_31 : decode cX3_landHere 31 = .ok (.aload_n 0, 1) := by decide +kernel
theorem dX3_landHere_32 : decode cX3_landHere 32 = .ok (.getfield 15, 3) := by decide +kernel
theorem dX3_landHere_35 : decode cX3_landHere 35 = .ok (.iload_n 2, 1) := by decide +kernel
theorem dX3_landHere_36 : decode cX3_landHere 36 = .ok (.aload_n 0, 1) := by decide +kernel
theorem dX3_landHere_37 : decode cX3_landHere 37 = .ok (.getfield 18, 3) := by decide +kernel
theorem dX3_landHere_40 : decode cX3_landHere 40 = .ok (.iastore, 1) := by decide +kernel
theorem dX3_landHere_41 : decode cX3_landHere 41 = .ok (.iload 4, 2) := by decide +kernel
theorem dX3_landHere_43 : decode cX3_landHere 43 = .ok (.istore_n 2, 1) := by decide +kernel
theorem dX3_landHere_44 : decode cX3_landHere 44 = .ok (.iinc 3 1, 3) := by decide +kernel
theorem dX3_landHere_47 : decode cX3_landHere 47 = .ok (.goto (-43), 3) := by decide +kernel
theorem dX3_landHere_50 : decode cX3_landHere 50 = .ok (.return_, 1) := by decide +kernel
theorem dX3_has_0 : decode cX3_has 0 = .ok (.iconst 0, 1) := by decide +kernel
theorem dX3_has_1 : decode cX3_has 1 = .ok (.istore_n 2, 1) := by decide +kernel
theorem dX3_has_2 : decode cX3_has 2 = .ok (.iload_n 2, 1) := by decide +kernel
theorem dX3_has_3 : decode cX3_has 3 = .ok (.aload_n 0, 1) := by decide +kernel
theorem dX3_has_4 : decode cX3_has 4 = .ok (.getfield 31, 3) := by decide +kernel
theorem dX3_has_7 : decode cX3_has 7 = .ok (.if_icmp .ge 21, 3) := by decide +kernel
theorem dX3_has_10 : decode cX3_has 10 = .ok (.aload_n 0, 1) := by decide +kernel
theorem dX3_has_11 : decode cX3_has 11 = .ok (.getfield 22, 3) := by decide +kernel
theorem dX3_has_14 : decode cX3_has 14 = .ok (.iload_n 2, 1) := by decide +kernel
theorem dX3_has_15 : decode cX3_has 15 = .ok (.iaload, 1) := by decide +kernel
theorem dX3_has_16 : decode cX3_has 16 = .ok (.iload_n 1, 1) := by decide +kernel
theorem dX3_has_17 : decode cX3_has 17 = .ok (.if_icmp .ne 5, 3) := by decide +kernel
theorem dX3_has_20 : decode cX3_has 20 = .ok (.iconst 1, 1) := by decide +kernel
theorem dX3_has_21 : decode cX3_has 21 = .ok (.ireturn, 1) := by decide +kernel
theorem dX3_has_22 : decode cX3_has 22 = .ok (.iinc 2 1, 3) := by decide +kernel
theorem dX3_has_25 : decode cX3_has 25 = .ok (.goto (-23), 3) := by decide +kernel
theorem dX3_has_28 : decode cX3_has 28 = .ok (.iconst 0, 1) := by decide +kernel
theorem dX3_has_29 : decode cX3_has 29 = .ok (.ireturn, 1) := by decide +kernel
theorem dX3_lookAt_0 : decode cX3_lookAt 0 = .ok (.aload_n 0, 1) := by decide +kernel
theorem dX3_lookAt_1 : decode cX3_lookAt 1 = .ok (.getfield 34, 3) := by decide +kernel
theorem dX3_lookAt_4 : decode cX3_lookAt 4 = .ok (.iconst 0, 1) := by decide +kernel
theorem dX3_lookAt_5 : decode cX3_lookAt 5 = .ok (.aload_n 1, 1) := by decide +kernel
theorem dX3_lookAt_6 : decode cX3_lookAt 6 = .ok (.getfield 44, 3) := by decide +kernel
theorem dX3_lookAt_9 : decode cX3_lookAt 9 = .ok (.iload_n 2, 1) := by decide +kernel
theorem dX3_lookAt_10 : decode cX3_lookAt 10 = .ok (.iaload, 1) := by decide +kernel
theorem dX3_lookAt_11 : decode cX3_lookAt 11 = .ok (.iastore, 1) := by decide +kernel
theorem dX3_lookAt_12 : decode cX3_lookAt 12 = .ok (.aload_n 0, 1) := by decide +kernel
theorem dX3_lookAt_13 : decode cX3_lookAt 13 = .ok (.getfield 34, 3) := by decide +kernel
theorem dX3_lookAt_16 : decode cX3_lookAt 16 = .ok (.iconst 1, 1) := by decide +kernel
theorem dX3_lookAt_17 : decode cX3_lookAt 17 = .ok (.aload_n 1, 1) := by decide +kernel
theorem dX3_lookAt_18 : decode cX3_lookAt 18 = .ok (.getfield 49, 3) := by decide +kernel
theorem dX3_lookAt_21 : decode cX3_lookAt 21 = .ok (.iload_n 2, 1) := by decide +kernel
theorem dX3_lookAt_22 : decode cX3_lookAt 22 = .ok (.iaload, 1) := by decide +kernel
theorem dX3_lookAt_23 : decode cX3_lookAt 23 = .ok (.iastore, 1) := by decide +kernel
theorem dX3_lookAt_24 : decode cX3_lookAt 24 = .ok (.aload_n 0, 1) := by decide +kernel
theorem dX3_lookAt_25 : decode cX3_lookAt 25 = .ok (.getfield 34, 3) := by decide +kernel
theorem dX3_lookAt_28 : decode cX3_lookAt 28 = .ok (.iconst 2, 1) := by decide +kernel
theorem dX3_lookAt_29 : decode cX3_lookAt 29 = .ok (.aload_n 1, 1) := by decide +kernel
theorem dX3_lookAt_30 : decode cX3_lookAt 30 = .ok (.getfield 52, 3) := by decide +kernel
theorem dX3_lookAt_33 : decode cX3_lookAt 33 = .ok (.iload_n 2, 1) := by decide +kernel
theorem dX3_lookAt_34 : decode cX3_lookAt 34 = .ok (.iaload, 1) := by decide +kernel
theorem dX3_lookAt_35 : decode cX3_lookAt 35 = .ok (.iastore, 1) := by decide +kernel
theorem dX3_lookAt_36 : decode cX3_lookAt 36 = .ok (.aload_n 0, 1) := by decide +kernel
theorem dX3_lookAt_37 : decode cX3_lookAt 37 = .ok (.getfield 34, 3) := by decide +kernel
theorem dX3_lookAt_40 : decode cX3_lookAt 40 = .ok (.iconst 3, 1) := by decide +kernel
theorem dX3_lookAt_41 : decode cX3_lookAt 41 = .ok (.iload_n 2, 1) := by decide +kernel
theorem dX3_lookAt_42 : decode cX3_lookAt 42 = .ok (.invokestatic 55, 3) := by decide +kernel
theorem dX3_lookAt_45 : decode cX3_lookAt 45 = .ok (.iastore, 1) := by decide +kernel
theorem dX3_lookAt_46 : decode cX3_lookAt 46 = .ok (.aload_n 0, 1) := by decide +kernel
theorem dX3_lookAt_47 : decode cX3_lookAt 47 = .ok (.getfield 34, 3) := by decide +kernel
theorem dX3_lookAt_50 : decode cX3_lookAt 50 = .ok (.iconst 4, 1) := by decide +kernel
theorem dX3_lookAt_51 : decode cX3_lookAt 51 = .ok (.iload_n 2, 1) := by decide +kernel
theorem dX3_lookAt_52 : decode cX3_lookAt 52 = .ok (.invokestatic 61, 3) := by decide +kernel
theorem dX3_lookAt_55 : decode cX3_lookAt 55 = .ok (.iastore, 1) := by decide +kernel
theorem dX3_lookAt_56 : decode cX3_lookAt 56 = .ok (.aload_n 0, 1) := by decide +kernel
theorem dX3_lookAt_57 : decode cX3_lookAt 57 = .ok (.getfield 34, 3) := by decide +kernel
theorem dX3_lookAt_60 : decode cX3_lookAt 60 = .ok (.iconst 5, 1) := by decide +kernel
theorem dX3_lookAt_61 : decode cX3_lookAt 61 = .ok (.aload_n 1, 1) := by decide +kernel
theorem dX3_lookAt_62 : decode cX3_lookAt 62 = .ok (.getfield 64, 3) := by decide +kernel
theorem dX3_lookAt_65 : decode cX3_lookAt 65 = .ok (.iastore, 1) := by decide +kernel
theorem dX3_lookAt_66 : decode cX3_lookAt 66 = .ok (.aload_n 0, 1) := by decide +kernel
theorem dX3_lookAt_67 : decode cX3_lookAt 67 = .ok (.getfield 34, 3) := by decide +kernel
theorem dX3_lookAt_70 : decode cX3_lookAt 70 = .ok (.bipush 6, 2) := by decide +kernel
theorem dX3_lookAt_72 : decode cX3_lookAt 72 = .ok (.iload_n 3, 1) := by decide +kernel
theorem dX3_lookAt_73 : decode cX3_lookAt 73 = .ok (.iastore, 1) := by decide +kernel
theorem dX3_lookAt_74 : decode cX3_lookAt 74 = .ok (.bipush 7, 2) := by decide +kernel
theorem dX3_lookAt_76 : decode cX3_lookAt 76 = .ok (.istore 4, 2) := by decide +kernel
theorem dX3_lookAt_78 : decode cX3_lookAt 78 = .ok (.iload 4, 2) := by decide +kernel
theorem dX3_lookAt_80 : decode cX3_lookAt 80 = .ok (.bipush 12, 2) := by decide +kernel
theorem dX3_lookAt_82 : decode cX3_lookAt 82 = .ok (.if_icmp .ge 17, 3) := by decide +kernel
theorem dX3_lookAt_85 : decode cX3_lookAt 85 = .ok (.aload_n 0, 1) := by decide +kernel
theorem dX3_lookAt_86 : decode cX3_lookAt 86 = .ok (.getfield 34, 3) := by decide +kernel
theorem dX3_lookAt_89 : decode cX3_lookAt 89 = .ok (.iload 4, 2) := by decide +kernel
theorem dX3_lookAt_91 : decode cX3_lookAt 91 = .ok (.iconst 0, 1) := by decide +kernel
theorem dX3_lookAt_92 : decode cX3_lookAt 92 = .ok (.iastore, 1) := by decide +kernel
theorem dX3_lookAt_93 : decode cX3_lookAt 93 = .ok (.iinc 4 1, 3) := by decide +kernel
theorem dX3_lookAt_96 : decode cX3_lookAt 96 = .ok (.goto (-18), 3) := by decide +kernel
theorem dX3_lookAt_99 : decode cX3_lookAt 99 = .ok (.return_, 1) := by decide +kernel
theorem dX3_lookLater_0 : decode cX3_lookLater 0 = .ok (.aload_n 0, 1) := by decide +kernel
theorem dX3_lookLater_1 : decode cX3_lookLater 1 = .ok (.getfield 34, 3) := by decide +kernel
theorem dX3_lookLater_4 : decode cX3_lookLater 4 = .ok (.iconst 0, 1) := by decide +kernel
theorem dX3_lookLater_5 : decode cX3_lookLater 5 = .ok (.iload_n 1, 1) := by decide +kernel
theorem dX3_lookLater_6 : decode cX3_lookLater 6 = .ok (.iastore, 1) := by decide +kernel
theorem dX3_lookLater_7 : decode cX3_lookLater 7 = .ok (.aload_n 0, 1) := by decide +kernel
theorem dX3_lookLater_8 : decode cX3_lookLater 8 = .ok (.getfield 34, 3) := by decide +kernel
theorem dX3_lookLater_11 : decode cX3_lookLater 11 = .ok (.iconst 5, 1) := by decide +kernel
theorem dX3_lookLater_12 : decode cX3_lookLater 12 = .ok (.iload_n 2, 1) := by decide +kernel
theorem dX3_lookLater_13 : decode cX3_lookLater 13 = .ok (.iastore, 1) := by decide +kernel
theorem dX3_lookLater_14 : decode cX3_lookLater 14 = .ok (.return_, 1) := by decide +kernel
theorem dX3_lookFrom_0 : decode cX3_lookFrom 0 = .ok (.aload_n 1, 1) := by decide +kernel
theorem dX3_lookFrom_1 : decode cX3_lookFrom 1 = .ok (.getfield 67, 3) := by decide +kernel
theorem dX3_lookFrom_4 : decode cX3_lookFrom 4 = .ok (.iload_n 2, 1) := by decide +kernel
theorem dX3_lookFrom_5 : decode cX3_lookFrom 5 = .ok (.iaload, 1) := by decide +kernel
theorem dX3_lookFrom_6 : decode cX3_lookFrom 6 = .ok (.istore 4, 2) := by decide +kernel
theorem dX3_lookFrom_8 : decode cX3_lookFrom 8 = .ok (.aload_n 0, 1) := by decide +kernel
theorem dX3_lookFrom_9 : decode cX3_lookFrom 9 = .ok (.aload_n 1, 1) := by decide +kernel
theorem dX3_lookFrom_10 : decode cX3_lookFrom 10 = .ok (.iload 4, 2) := by decide +kernel
theorem dX3_lookFrom_12 : decode cX3_lookFrom 12 = .ok (.aload_n 1, 1) := by decide +kernel
theorem dX3_lookFrom_13 : decode cX3_lookFrom 13 = .ok (.getfield 70, 3) := by decide +kernel
theorem dX3_lookFrom_16 : decode cX3_lookFrom 16 = .ok (.iload_n 2, 1) := by decide +kernel
theorem dX3_lookFrom_17 : decode cX3_lookFrom 17 = .ok (.iaload, 1) := by decide +kernel
theorem dX3_lookFrom_18 : decode cX3_lookFrom 18 = .ok (.invokevirtual 73, 3) := by decide +kernel
theorem dX3_lookFrom_21 : decode cX3_lookFrom 21 = .ok (.aload_n 0, 1) := by decide +kernel
theorem dX3_lookFrom_22 : decode cX3_lookFrom 22 = .ok (.getfield 34, 3) := by decide +kernel
theorem dX3_lookFrom_25 : decode cX3_lookFrom 25 = .ok (.bipush 7, 2) := by decide +kernel
theorem dX3_lookFrom_27 : decode cX3_lookFrom 27 = .ok (.aload_n 1, 1) := by decide +kernel
theorem dX3_lookFrom_28 : decode cX3_lookFrom 28 = .ok (.getfield 77, 3) := by decide +kernel
theorem dX3_lookFrom_31 : decode cX3_lookFrom 31 = .ok (.iload_n 2, 1) := by decide +kernel
theorem dX3_lookFrom_32 : decode cX3_lookFrom 32 = .ok (.iaload, 1) := by decide +kernel
theorem dX3_lookFrom_33 : decode cX3_lookFrom 33 = .ok (.iastore, 1) := by decide +kernel
theorem dX3_lookFrom_34 : decode cX3_lookFrom 34 = .ok (.aload_n 0, 1) := by decide +kernel
theorem dX3_lookFrom_35 : decode cX3_lookFrom 35 = .ok (.getfield 34, 3) := by decide +kernel
theorem dX3_lookFrom_38 : decode cX3_lookFrom 38 = .ok (.bipush 8, 2) := by decide +kernel
theorem dX3_lookFrom_40 : decode cX3_lookFrom 40 = .ok (.aload_n 1, 1) := by decide +kernel
theorem dX3_lookFrom_41 : decode cX3_lookFrom 41 = .ok (.getfield 80, 3) := by decide +kernel
theorem dX3_lookFrom_44 : decode cX3_lookFrom 44 = .ok (.iload_n 2, 1) := by decide +kernel
theorem dX3_lookFrom_45 : decode cX3_lookFrom 45 = .ok (.iaload, 1) := by decide +kernel
theorem dX3_lookFrom_46 : decode cX3_lookFrom 46 = .ok (.iastore, 1) := by decide +kernel
theorem dX3_lookFrom_47 : decode cX3_lookFrom 47 = .ok (.aload_n 0, 1) := by decide +kernel
theorem dX3_lookFrom_48 : decode cX3_lookFrom 48 = .ok (.getfield 34, 3) := by decide +kernel
theorem dX3_lookFrom_51 : decode cX3_lookFrom 51 = .ok (.bipush 9, 2) := by decide +kernel
theorem dX3_lookFrom_53 : decode cX3_lookFrom 53 = .ok (.iload 4, 2) := by decide +kernel
theorem dX3_lookFrom_55 : decode cX3_lookFrom 55 = .ok (.aload_n 1, 1) := by decide +kernel
theorem dX3_lookFrom_56 : decode cX3_lookFrom 56 = .ok (.getfield 83, 3) := by decide +kernel
theorem dX3_lookFrom_59 : decode cX3_lookFrom 59 = .ok (.iload_n 3, 1) := by decide +kernel
theorem dX3_lookFrom_60 : decode cX3_lookFrom 60 = .ok (.iaload, 1) := by decide +kernel
theorem dX3_lookFrom_61 : decode cX3_lookFrom 61 = .ok (.invokestatic 86, 3) := by decide +kernel
theorem dX3_lookFrom_64 : decode cX3_lookFrom 64 = .ok (.iastore, 1) := by decide +kernel
theorem dX3_lookFrom_65 : decode cX3_lookFrom 65 = .ok (.aload_n 0, 1) := by decide +kernel
theorem dX3_lookFrom_66 : decode cX3_lookFrom 66 = .ok (.getfield 34, 3) := by decide +kernel
theorem dX3_lookFrom_69 : decode cX3_lookFrom 69 = .ok (.bipush 10, 2) := by decide +kernel
theorem dX3_lookFrom_71 : decode cX3_lookFrom 71 = .ok (.aload_n 1, 1) := by decide +kernel
theorem dX3_lookFrom_72 : decode cX3_lookFrom 72 = .ok (.getfield 90, 3) := by decide +kernel
theorem dX3_lookFrom_75 : decode cX3_lookFrom 75 = .ok (.iload_n 3, 1) := by decide +kernel
theorem dX3_lookFrom_76 : decode cX3_lookFrom 76 = .ok (.iaload, 1) := by decide +kernel
theorem dX3_lookFrom_77 : decode cX3_lookFrom 77 = .ok (.iastore, 1) := by decide +kernel
theorem dX3_lookFrom_78 : decode cX3_lookFrom 78 = .ok (.aload_n 0, 1) := by decide +kernel
theorem dX3_lookFrom_79 : decode cX3_lookFrom 79 = .ok (.getfield 34, 3) := by decide +kernel
theorem dX3_lookFrom_82 : decode cX3_lookFrom 82 = .ok (.bipush 11, 2) := by decide +kernel
theorem dX3_lookFrom_84 : decode cX3_lookFrom 84 = .ok (.aload_n 1, 1) := by decide +kernel
theorem dX3_lookFrom_85 : decode cX3_lookFrom 85 = .ok (.iload 4, 2) := by decide +kernel
theorem dX3_lookFrom_87 : decode cX3_lookFrom 87 = .ok (.invokevirtual 93, 3) := by decide +kernel
theorem dX3_lookFrom_90 : decode cX3_lookFrom 90 = .ok (.iastore, 1) := by decide +kernel
theorem dX3_lookFrom_91 : decode cX3_lookFrom 91 = .ok (.return_, 1) := by decide +kernel
theorem dX3_says_0 : decode cX3_says 0 = .ok (.iconst 0, 1) := by decide +kernel
theorem dX3_says_1 : decode cX3_says 1 = .ok (.istore_n 3, 1) := by decide +kernel
theorem dX3_says_2 : decode cX3_says 2 = .ok (.iload_n 3, 1) := by decide +kernel
theorem dX3_says_3 : decode cX3_says 3 = .ok (.aload_n 0, 1) := by decide +kernel
theorem dX3_says_4 : decode cX3_says 4 = .ok (.getfield 31, 3) := by decide +kernel
theorem dX3_says_7 : decode cX3_says 7 = .ok (.if_icmp .ge 73, 3) := by decide +kernel
theorem dX3_says_10 : decode cX3_says 10 = .ok (.aload_n 0, 1) := by decide +kernel
theorem dX3_says_11 : decode cX3_says 11 = .ok (.getfield 22, 3) := by decide +kernel
theorem dX3_says_14 : decode cX3_says 14 = .ok (.iload_n 3, 1) := by decide +kernel
theorem dX3_says_15 : decode cX3_says 15 = .ok (.iaload, 1) := by decide +kernel
theorem dX3_says_16 : decode cX3_says 16 = .ok (.iload_n 1, 1) := by decide +kernel
theorem dX3_says_17 : decode cX3_says 17 = .ok (.if_icmp .ne 57, 3) := by decide +kernel
theorem dX3_says_20 : decode cX3_says 20 = .ok (.aload_n 0, 1) := by decide +kernel
theorem dX3_says_21 : decode cX3_says 21 = .ok (.aload_n 0, 1) := by decide +kernel
theorem dX3_says_22 : decode cX3_says 22 = .ok (.getfield 28, 3) := by decide +kernel
theorem dX3_says_25 : decode cX3_says 25 = .ok (.iload_n 3, 1) := by decide +kernel
theorem dX3_says_26 : decode cX3_says 26 = .ok (.iaload, 1) := by decide +kernel
theorem dX3_says_27 : decode cX3_says 27 = .ok (.invokevirtual 96, 3) := by decide +kernel
theorem dX3_says_30 : decode cX3_says 30 = .ok (.ifCond .eq 44, 3) := by decide +kernel
theorem dX3_says_33 : decode cX3_says 33 = .ok (.aload_n 0, 1) := by decide +kernel
theorem dX3_says_34 : decode cX3_says 34 = .ok (.getfield 40, 3) := by decide +kernel
theorem dX3_says_37 : decode cX3_says 37 = .ok (.ifCond .ne 37, 3) := by decide +kernel
theorem dX3_says_40 : decode cX3_says 40 = .ok (.aload_n 0, 1) := by decide +kernel
theorem dX3_says_41 : decode cX3_says 41 = .ok (.aload_n 0, 1) := by decide +kernel
theorem dX3_says_42 : decode cX3_says 42 = .ok (.getfield 25, 3) := by decide +kernel
theorem dX3_says_45 : decode cX3_says 45 = .ok (.iload_n 3, 1) := by decide +kernel
theorem dX3_says_46 : decode cX3_says 46 = .ok (.iaload, 1) := by decide +kernel
theorem dX3_says_47 : decode cX3_says 47 = .ok (.invokevirtual 96, 3) := by decide +kernel
theorem dX3_says_50 : decode cX3_says 50 = .ok (.istore 4, 2) := by decide +kernel
theorem dX3_says_52 : decode cX3_says 52 = .ok (.aload_n 0, 1) := by decide +kernel
theorem dX3_says_53 : decode cX3_says 53 = .ok (.getfield 40, 3) := by decide +kernel
theorem dX3_says_56 : decode cX3_says 56 = .ok (.ifCond .eq 7, 3) := by decide +kernel
theorem dX3_says_59 : decode cX3_says 59 = .ok (.iconst 0, 1) := by decide +kernel
theorem dX3_says_60 : decode cX3_says 60 = .ok (.goto 13, 3) := by decide +kernel
theorem dX3_says_63 : decode cX3_says 63 = .ok (.iconst 0, 1) := by decide +kernel
theorem dX3_says_64 : decode cX3_says 64 = .ok (.iload_n 2, 1) := by decide +kernel
theorem dX3_says_65 : decode cX3_says 65 = .ok (.iload 4, 2) := by decide +kernel
theorem dX3_says_67 : decode cX3_says 67 = .ok (.invokestatic 99, 3) := by decide +kernel
theorem dX3_says_70 : decode cX3_says 70 = .ok (.invokestatic 104, 3) := by decide +kernel
theorem dX3_says_73 : decode cX3_says 73 = .ok (.ireturn, 1) := by decide +kernel
theorem dX3_says_74 : decode cX3_says 74 = .ok (.iinc 3 1, 3) := by decide +kernel
theorem dX3_says_77 : decode cX3_says 77 = .ok (.goto (-75), 3) := by decide +kernel
theorem dX3_says_80 : decode cX3_says 80 = .ok (.iconst 0, 1) := by decide +kernel
theorem dX3_says_81 : decode cX3_says 81 = .ok (.ireturn, 1) := by decide +kernel
theorem dX3_reckon_0 : decode cX3_reckon 0 = .ok (.aload_n 0, 1) := by decide +kernel
theorem dX3_reckon_1 : decode cX3_reckon 1 = .ok (.iconst 0, 1) := by decide +kernel
theorem dX3_reckon_2 : decode cX3_reckon 2 = .ok (.putfield 40, 3) := by decide +kernel
theorem dX3_reckon_5 : decode cX3_reckon 5 = .ok (.iconst 0, 1) := by decide +kernel
theorem dX3_reckon_6 : decode cX3_reckon 6 = .ok (.istore_n 2, 1) := by decide +kernel
theorem dX3_reckon_7 : decode cX3_reckon 7 = .ok (.iload_n 1, 1) := by decide +kernel
theorem dX3_reckon_8 : decode cX3_reckon 8 = .ok (.istore_n 3, 1) := by decide +kernel
theorem dX3_reckon_9 : decode cX3_reckon 9 = .ok (.iconst 0, 1) := by decide +kernel
theorem dX3_reckon_10 : decode cX3_reckon 10 = .ok (.istore 4, 2) := by decide +kernel
theorem dX3_reckon_12 : decode cX3_reckon 12 = .ok (.iload 4, 2) := by decide +kernel
theorem dX3_reckon_14 : decode cX3_reckon 14 = .ok (.sipush 200, 3) := by decide +kernel
theorem dX3_reckon_17 : decode cX3_reckon 17 = .ok (.if_icmp .ge 242, 3) := by decide +kernel
theorem dX3_reckon_20 : decode cX3_reckon 20 = .ok (.iload_n 3, 1) := by decide +kernel
theorem dX3_reckon_21 : decode cX3_reckon 21 = .ok (.ifCond .lt 238, 3) := by decide +kernel
theorem dX3_reckon_24 : decode cX3_reckon 24 = .ok (.iload_n 3, 1) := by decide +kernel
theorem dX3_reckon_25 : decode cX3_reckon 25 = .ok (.aload_n 0, 1) := by decide +kernel
theorem dX3_reckon_26 : decode cX3_reckon 26 = .ok (.getfield 18, 3) := by decide +kernel
theorem dX3_reckon_29 : decode cX3_reckon 29 = .ok (.if_icmp .ge 230, 3) := by decide +kernel
theorem dX3_reckon_32 : decode cX3_reckon 32 = .ok (.aload_n 0, 1) := by decide +kernel
theorem dX3_reckon_33 : decode cX3_reckon 33 = .ok (.getfield 11, 3) := by decide +kernel
theorem dX3_reckon_36 : decode cX3_reckon 36 = .ok (.iload_n 3, 1) := by decide +kernel
theorem dX3_reckon_37 : decode cX3_reckon 37 = .ok (.iaload, 1) := by decide +kernel
theorem dX3_reckon_38 : decode cX3_reckon 38 = .ok (.ifCond .eq 221, 3) := by decide +kernel
theorem dX3_reckon_41 : decode cX3_reckon 41 = .ok (.aload_n 0, 1) := by decide +kernel
theorem dX3_reckon_42 : decode cX3_reckon 42 = .ok (.getfield 11, 3) := by decide +kernel
theorem dX3_reckon_45 : decode cX3_reckon 45 = .ok (.iload_n 3, 1) := by decide +kernel
theorem dX3_reckon_46 : decode cX3_reckon 46 = .ok (.iaload, 1) := by decide +kernel
theorem dX3_reckon_47 : decode cX3_reckon 47 = .ok (.istore 5, 2) := by decide +kernel
theorem dX3_reckon_49 : decode cX3_reckon 49 = .ok (.aload_n 0, 1) := by decide +kernel
theorem dX3_reckon_50 : decode cX3_reckon 50 = .ok (.getfield 15, 3) := by decide +kernel
theorem dX3_reckon_53 : decode cX3_reckon 53 = .ok (.iload_n 3, 1) := by decide +kernel
theorem dX3_reckon_54 : decode cX3_reckon 54 = .ok (.iaload, 1) := by decide +kernel
theorem dX3_reckon_55 : decode cX3_reckon 55 = .ok (.istore 6, 2) := by decide +kernel
theorem dX3_reckon_57 : decode cX3_reckon 57 = .ok (.iinc 3 1, 3) := by decide +kernel
theorem dX3_reckon_60 : decode cX3_reckon 60 = .ok (.iload 5, 2) := by decide +kernel
theorem dX3_reckon_62 : decode cX3_reckon 62 = .ok (.iconst 1, 1) := by decide +kernel
theorem dX3_reckon_63 : decode cX3_reckon 63 = .ok (.if_icmp .eq 9, 3) := by decide +kernel
theorem dX3_reckon_66 : decode cX3_reckon 66 = .ok (.iload 5, 2) := by decide +kernel
theorem dX3_reckon_68 : decode cX3_reckon 68 = .ok (.iconst 2, 1) := by decide +kernel
theorem dX3_reckon_69 : decode cX3_reckon 69 = .ok (.if_icmp .ne 45, 3) := by decide +kernel
theorem dX3_reckon_72 : decode cX3_reckon 72 = .ok (.iload_n 2, 1) := by decide +kernel
theorem dX3_reckon_73 : decode cX3_reckon 73 = .ok (.bipush 64, 2) := by decide +kernel
theorem dX3_reckon_75 : decode cX3_reckon 75 = .ok (.if_icmp .lt 10, 3) := by decide +kernel
theorem dX3_reckon_78 : decode cX3_reckon 78 = .ok (.aload_n 0, 1) := by decide +kernel
theorem dX3_reckon_79 : decode cX3_reckon 79 = .ok (.iconst 1, 1) := by decide +kernel
theorem dX3_reckon_80 : decode cX3_reckon 80 = .ok (.putfield 40, 3) := by decide +kernel
theorem dX3_reckon_83 : decode cX3_reckon 83 = .ok (.iconst 0, 1) := by decide +kernel
theorem dX3_reckon_84 : decode cX3_reckon 84 = .ok (.ireturn, 1) := by decide +kernel
theorem dX3_reckon_85 : decode cX3_reckon 85 = .ok (.aload_n 0, 1) := by decide +kernel
theorem dX3_reckon_86 : decode cX3_reckon 86 = .ok (.getfield 37, 3) := by decide +kernel
theorem dX3_reckon_89 : decode cX3_reckon 89 = .ok (.iload_n 2, 1) := by decide +kernel
theorem dX3_reckon_90 : decode cX3_reckon 90 = .ok (.iload 5, 2) := by decide +kernel
theorem dX3_reckon_92 : decode cX3_reckon 92 = .ok (.iconst 1, 1) := by decide +kernel
theorem dX3_reckon_93 : decode cX3_reckon 93 = .ok (.if_icmp .ne 8, 3) := by decide +kernel
theorem dX3_reckon_96 : decode cX3_reckon 96 = .ok (.iload 6, 2) := by decide +kernel
theorem dX3_reckon_98 : decode cX3_reckon 98 = .ok (.goto 9, 3) := by decide +kernel
theorem dX3_reckon_101 : decode cX3_reckon 101 = .ok (.aload_n 0, 1) := by decide +kernel
theorem dX3_reckon_102 : decode cX3_reckon 102 = .ok (.iload 6, 2) := by decide +kernel
theorem dX3_reckon_104 : decode cX3_reckon 104 = .ok (.invokevirtual 107, 3) := by decide +kernel
theorem dX3_reckon_107 : decode cX3_reckon 107 = .ok (.iastore, 1) := by decide +kernel
theorem dX3_reckon_108 : decode cX3_reckon 108 = .ok (.iinc 2 1, 3) := by decide +kernel
theorem dX3_reckon_111 : decode cX3_reckon 111 = .ok (.goto 142, 3) := by decide +kernel
theorem dX3_reckon_114 : decode cX3_reckon 114 = .ok (.iload_n 2, 1) := by decide +kernel
theorem dX3_reckon_115 : decode cX3_reckon 115 = .ok (.iconst 1, 1) := by decide +kernel
theorem dX3_reckon_116 : decode cX3_reckon 116 = .ok (.if_icmp .ge 5, 3) := by decide +kernel
theorem dX3_reckon_119 : decode cX3_reckon 119 = .ok (.iconst 0, 1) := by decide +kernel
theorem dX3_reckon_120 : decode cX3_reckon 120 = .ok (.ireturn, 1) := by decide +kernel
theorem dX3_reckon_121 : decode cX3_reckon 121 = .ok (.iload 5, 2) := by decide +kernel
theorem dX3_reckon_123 : decode cX3_reckon 123 = .ok (.iconst 3, 1) := by decide +kernel
theorem dX3_reckon_124 : decode cX3_reckon 124 = .ok (.if_icmp .ne 24, 3) := by decide +kernel
theorem dX3_reckon_127 : decode cX3_reckon 127 = .ok (.aload_n 0, 1) := by decide +kernel
theorem dX3_reckon_128 : decode cX3_reckon 128 = .ok (.getfield 37, 3) := by decide +kernel
theorem dX3_reckon_131 : decode cX3_reckon 131 = .ok (.iload_n 2, 1) := by decide +kernel
theorem dX3_reckon_132 : decode cX3_reckon 132 = .ok (.iconst 1, 1) := by decide +kernel
theorem dX3_reckon_133 : decode cX3_reckon 133 = .ok (.isub, 1) := by decide +kernel
theorem dX3_reckon_134 : decode cX3_reckon 134 = .ok (.iconst 1, 1) := by decide +kernel
theorem dX3_reckon_135 : decode cX3_reckon 135 = .ok (.aload_n 0, 1) := by decide +kernel
theorem dX3_reckon_136 : decode cX3_reckon 136 = .ok (.getfield 37, 3) := by decide +kernel
theorem dX3_reckon_139 : decode cX3_reckon 139 = .ok (.iload_n 2, 1) := by decide +kernel
theorem dX3_reckon_140 : decode cX3_reckon 140 = .ok (.iconst 1, 1) := by decide +kernel
theorem dX3_reckon_141 : decode cX3_reckon 141 = .ok (.isub, 1) := by decide +kernel
theorem dX3_reckon_142 : decode cX3_reckon 142 = .ok (.iaload, 1) := by decide +kernel
theorem dX3_reckon_143 : decode cX3_reckon 143 = .ok (.isub, 1) := by decide +kernel
theorem dX3_reckon_144 : decode cX3_reckon 144 = .ok (.iastore, 1) := by decide +kernel
theorem dX3_reckon_145 : decode cX3_reckon 145 = .ok (.goto 108, 3) := by decide +kernel
theorem dX3_reckon_148 : decode cX3_reckon 148 = .ok (.iload 5, 2) := by decide +kernel
theorem dX3_reckon_150 : decode cX3_reckon 150 = .ok (.iconst 5, 1) := by decide +kernel
theorem dX3_reckon_151 : decode cX3_reckon 151 = .ok (.if_icmp .eq 9, 3) := by decide +kernel
theorem dX3_reckon_154 : decode cX3_reckon 154 = .ok (.iload 5, 2) := by decide +kernel
theorem dX3_reckon_156 : decode cX3_reckon 156 = .ok (.iconst 4, 1) := by decide +kernel
theorem dX3_reckon_157 : decode cX3_reckon 157 = .ok (.if_icmp .ne 49, 3) := by decide +kernel
theorem dX3_reckon_160 : decode cX3_reckon 160 = .ok (.aload_n 0, 1) := by decide +kernel
theorem dX3_reckon_161 : decode cX3_reckon 161 = .ok (.getfield 37, 3) := by decide +kernel
theorem dX3_reckon_164 : decode cX3_reckon 164 = .ok (.iload_n 2, 1) := by decide +kernel
theorem dX3_reckon_165 : decode cX3_reckon 165 = .ok (.iconst 1, 1) := by decide +kernel
theorem dX3_reckon_166 : decode cX3_reckon 166 = .ok (.isub, 1) := by decide +kernel
theorem dX3_reckon_167 : decode cX3_reckon 167 = .ok (.iaload, 1) := by decide +kernel
theorem dX3_reckon_168 : decode cX3_reckon 168 = .ok (.ifCond .eq 7, 3) := by decide +kernel
theorem dX3_reckon_171 : decode cX3_reckon 171 = .ok (.iconst 1, 1) := by decide +kernel
theorem dX3_reckon_172 : decode cX3_reckon 172 = .ok (.goto 4, 3) := by decide +kernel
theorem dX3_reckon_175 : decode cX3_reckon 175 = .ok (.iconst 0, 1) := by decide +kernel
theorem dX3_reckon_176 : decode cX3_reckon 176 = .ok (.istore 7, 2) := by decide +kernel
theorem dX3_reckon_178 : decode cX3_reckon 178 = .ok (.iload 7, 2) := by decide +kernel
theorem dX3_reckon_180 : decode cX3_reckon 180 = .ok (.iload 5, 2) := by decide +kernel
theorem dX3_reckon_182 : decode cX3_reckon 182 = .ok (.iconst 5, 1) := by decide +kernel
theorem dX3_reckon_183 : decode cX3_reckon 183 = .ok (.if_icmp .ne 7, 3) := by decide +kernel
theorem dX3_reckon_186 : decode cX3_reckon 186 = .ok (.iconst 1, 1) := by decide +kernel
theorem dX3_reckon_187 : decode cX3_reckon 187 = .ok (.goto 4, 3) := by decide +kernel
theorem dX3_reckon_190 : decode cX3_reckon 190 = .ok (.iconst 0, 1) := by decide +kernel
theorem dX3_reckon_191 : decode cX3_reckon 191 = .ok (.if_icmp .ne 9, 3) := by decide +kernel
theorem dX3_reckon_194 : decode cX3_reckon 194 = .ok (.iload 6, 2) := by decide +kernel
theorem dX3_reckon_196 : decode cX3_reckon 196 = .ok (.istore_n 3, 1) := by decide +kernel
theorem dX3_reckon_197 : decode cX3_reckon 197 = .ok (.goto 6, 3) := by decide +kernel
theorem dX3_reckon_200 : decode cX3_reckon 200 = .ok (.iinc 2 (-1), 3) := by decide +kernel
theorem dX3_reckon_203 : decode cX3_reckon 203 = .ok (.goto 50, 3) := by decide +kernel
theorem dX3_reckon_206 : decode cX3_reckon 206 = .ok (.iload_n 2, 1) := by decide +kernel
theorem dX3_reckon_207 : decode cX3_reckon 207 = .ok (.iconst 2, 1) := by decide +kernel
theorem dX3_reckon_208 : decode cX3_reckon 208 = .ok (.if_icmp .ge 5, 3) := by decide +kernel
theorem dX3_reckon_211 : decode cX3_reckon 211 = .ok (.iconst 0, 1) := by decide +kernel
theorem dX3_reckon_212 : decode cX3_reckon 212 = .ok (.ireturn, 1) := by decide +kernel
theorem dX3_reckon_213 : decode cX3_reckon 213 = .ok (.iinc 2 (-1), 3) := by decide +kernel
theorem dX3_reckon_216 : decode cX3_reckon 216 = .ok (.aload_n 0, 1) := by decide +kernel
theorem dX3_reckon_217 : decode cX3_reckon 217 = .ok (.getfield 37, 3) := by decide +kernel
theorem dX3_reckon_220 : decode cX3_reckon 220 = .ok (.iload_n 2, 1) := by decide +kernel
theorem dX3_reckon_221 : decode cX3_reckon 221 = .ok (.iconst 1, 1) := by decide +kernel
theorem dX3_reckon_222 : decode cX3_reckon 222 = .ok (.isub, 1) := by decide +kernel
theorem dX3_reckon_223 : decode cX3_reckon 223 = .ok (.aload_n 0, 1) := by decide +kernel
theorem dX3_reckon_224 : decode cX3_reckon 224 = .ok (.iload 5, 2) := by decide +kernel
theorem dX3_reckon_226 : decode cX3_reckon 226 = .ok (.aload_n 0, 1) := by decide +kernel
theorem dX3_reckon_227 : decode cX3_reckon 227 = .ok (.getfield 37, 3) := by decide +kernel
theorem dX3_reckon_230 : decode cX3_reckon 230 = .ok (.iload_n 2, 1) := by decide +kernel
theorem dX3_reckon_231 : decode cX3_reckon 231 = .ok (.iconst 1, 1) := by decide +kernel
theorem dX3_reckon_232 : decode cX3_reckon 232 = .ok (.isub, 1) := by decide +kernel
theorem dX3_reckon_233 : decode cX3_reckon 233 = .ok (.iaload, 1) := by decide +kernel
theorem dX3_reckon_234 : decode cX3_reckon 234 = .ok (.aload_n 0, 1) := by decide +kernel
theorem dX3_reckon_235 : decode cX3_reckon 235 = .ok (.getfield 37, 3) := by decide +kernel
theorem dX3_reckon_238 : decode cX3_reckon 238 = .ok (.iload_n 2, 1) := by decide +kernel
theorem dX3_reckon_239 : decode cX3_reckon 239 = .ok (.iaload, 1) := by decide +kernel
theorem dX3_reckon_240 : decode cX3_reckon 240 = .ok (.invokevirtual 110, 3) := by decide +kernel
theorem dX3_reckon_243 : decode cX3_reckon 243 = .ok (.iastore, 1) := by decide +kernel
theorem dX3_reckon_244 : decode cX3_reckon 244 = .ok (.aload_n 0, 1) := by decide +kernel
theorem dX3_reckon_245 : decode cX3_reckon 245 = .ok (.getfield 40, 3) := by decide +kernel
theorem dX3_reckon_248 : decode cX3_reckon 248 = .ok (.ifCond .eq 5, 3) := by decide +kernel
theorem dX3_reckon_251 : decode cX3_reckon 251 = .ok (.iconst 0, 1) := by decide +kernel
theorem dX3_reckon_252 : decode cX3_reckon 252 = .ok (.ireturn, 1) := by decide +kernel
theorem dX3_reckon_253 : decode cX3_reckon 253 = .ok (.iinc 4 1, 3) := by decide +kernel
theorem dX3_reckon_256 : decode cX3_reckon 256 = .ok (.goto (-244), 3) := by decide +kernel
theorem dX3_reckon_259 : decode cX3_reckon 259 = .ok (.aload_n 0, 1) := by decide +kernel
theorem dX3_reckon_260 : decode cX3_reckon 260 = .ok (.getfield 37, 3) := by decide +kernel
theorem dX3_reckon_263 : decode cX3_reckon 263 = .ok (.iconst 0, 1) := by decide +kernel
theorem dX3_reckon_264 : decode cX3_reckon 264 = .ok (.iaload, 1) := by decide +kernel
theorem dX3_reckon_265 : decode cX3_reckon 265 = .ok (.ireturn, 1) := by decide +kernel
theorem dX3_valueOf_0 : decode cX3_valueOf 0 = .ok (.iload_n 1, 1) := by decide +kernel
theorem dX3_valueOf_1 : decode cX3_valueOf 1 = .ok (.ifCond .lt 21, 3) := by decide +kernel
theorem dX3_valueOf_4 : decode cX3_valueOf 4 = .ok (.iload_n 1, 1) := by decide +kernel
theorem dX3_valueOf_5 : decode cX3_valueOf 5 = .ok (.aload_n 0, 1) := by decide +kernel
theorem dX3_valueOf_6 : decode cX3_valueOf 6 = .ok (.getfield 34, 3) := by decide +kernel
theorem dX3_valueOf_9 : decode cX3_valueOf 9 = .ok (.arraylength, 1) := by decide +kernel
theorem dX3_valueOf_10 : decode cX3_valueOf 10 = .ok (.if_icmp .ge 12, 3) := by decide +kernel
theorem dX3_valueOf_13 : decode cX3_valueOf 13 = .ok (.aload_n 0, 1) := by decide +kernel
theorem dX3_valueOf_14 : decode cX3_valueOf 14 = .ok (.getfield 34, 3) := by decide +kernel
theorem dX3_valueOf_17 : decode cX3_valueOf 17 = .ok (.iload_n 1, 1) := by decide +kernel
theorem dX3_valueOf_18 : decode cX3_valueOf 18 = .ok (.iaload, 1) := by decide +kernel
theorem dX3_valueOf_19 : decode cX3_valueOf 19 = .ok (.goto 4, 3) := by decide +kernel
theorem dX3_valueOf_22 : decode cX3_valueOf 22 = .ok (.iconst 0, 1) := by decide +kernel
theorem dX3_valueOf_23 : decode cX3_valueOf 23 = .ok (.ireturn, 1) := by decide +kernel
theorem dX3_join_0 : decode cX3_join 0 = .ok (.iload_n 1, 1) := by decide +kernel
theorem dX3_join_1 : decode cX3_join 1 = .ok (.lookupswitch 104 #[(42, 67), (43, 59), (45, 63), (60, 71), (61, 93), (62, 82)], 59) := by decide +kernel
theorem dX3_join_60 : decode cX3_join 60 = .ok (.iload_n 2, 1) := by decide +kernel
theorem dX3_join_61 : decode cX3_join 61 = .ok (.iload_n 3, 1) := by decide +kernel
theorem dX3_join_62 : decode cX3_join 62 = .ok (.iadd, 1) := by decide +kernel
theorem dX3_join_63 : decode cX3_join 63 = .ok (.ireturn, 1) := by decide +kernel
theorem dX3_join_64 : decode cX3_join 64 = .ok (.iload_n 2, 1) := by decide +kernel
theorem dX3_join_65 : decode cX3_join 65 = .ok (.iload_n 3, 1) := by decide +kernel
theorem dX3_join_66 : decode cX3_join 66 = .ok (.isub, 1) := by decide +kernel
theorem dX3_join_67 : decode cX3_join 67 = .ok (.ireturn, 1) := by decide +kernel
theorem dX3_join_68 : decode cX3_join 68 = .ok (.iload_n 2, 1) := by decide +kernel
theorem dX3_join_69 : decode cX3_join 69 = .ok (.iload_n 3, 1) := by decide +kernel
theorem dX3_join_70 : decode cX3_join 70 = .ok (.imul, 1) := by decide +kernel
theorem dX3_join_71 : decode cX3_join 71 = .ok (.ireturn, 1) := by decide +kernel
theorem dX3_join_72 : decode cX3_join 72 = .ok (.iload_n 2, 1) := by decide +kernel
theorem dX3_join_73 : decode cX3_join 73 = .ok (.iload_n 3, 1) := by decide +kernel
theorem dX3_join_74 : decode cX3_join 74 = .ok (.if_icmp .ge 7, 3) := by decide +kernel
theorem dX3_join_77 : decode cX3_join 77 = .ok (.iconst 1, 1) := by decide +kernel
theorem dX3_join_78 : decode cX3_join 78 = .ok (.goto 4, 3) := by decide +kernel
theorem dX3_join_81 : decode cX3_join 81 = .ok (.iconst 0, 1) := by decide +kernel
theorem dX3_join_82 : decode cX3_join 82 = .ok (.ireturn, 1) := by decide +kernel
theorem dX3_join_83 : decode cX3_join 83 = .ok (.iload_n 2, 1) := by decide +kernel
theorem dX3_join_84 : decode cX3_join 84 = .ok (.iload_n 3, 1) := by decide +kernel
theorem dX3_join_85 : decode cX3_join 85 = .ok (.if_icmp .le 7, 3) := by decide +kernel
theorem dX3_join_88 : decode cX3_join 88 = .ok (.iconst 1, 1) := by decide +kernel
theorem dX3_join_89 : decode cX3_join 89 = .ok (.goto 4, 3) := by decide +kernel
theorem dX3_join_92 : decode cX3_join 92 = .ok (.iconst 0, 1) := by decide +kernel
theorem dX3_join_93 : decode cX3_join 93 = .ok (.ireturn, 1) := by decide +kernel
theorem dX3_join_94 : decode cX3_join 94 = .ok (.iload_n 2, 1) := by decide +kernel
theorem dX3_join_95 : decode cX3_join 95 = .ok (.iload_n 3, 1) := by decide +kernel
theorem dX3_join_96 : decode cX3_join 96 = .ok (.if_icmp .ne 7, 3) := by decide +kernel
theorem dX3_join_99 : decode cX3_join 99 = .ok (.iconst 1, 1) := by decide +kernel
theorem dX3_join_100 : decode cX3_join 100 = .ok (.goto 4, 3) := by decide +kernel
theorem dX3_join_103 : decode cX3_join 103 = .ok (.iconst 0, 1) := by decide +kernel
theorem dX3_join_104 : decode cX3_join 104 = .ok (.ireturn, 1) := by decide +kernel
theorem dX3_join_105 : decode cX3_join 105 = .ok (.iload_n 3, 1) := by decide +kernel
theorem dX3_join_106 : decode cX3_join 106 = .ok (.ifCond .ne 10, 3) := by decide +kernel
theorem dX3_join_109 : decode cX3_join 109 = .ok (.aload_n 0, 1) := by decide +kernel
theorem dX3_join_110 : decode cX3_join 110 = .ok (.iconst 1, 1) := by decide +kernel
theorem dX3_join_111 : decode cX3_join 111 = .ok (.putfield 40, 3) := by decide +kernel
theorem dX3_join_114 : decode cX3_join 114 = .ok (.iconst 0, 1) := by decide +kernel
theorem dX3_join_115 : decode cX3_join 115 = .ok (.ireturn, 1) := by decide +kernel
theorem dX3_join_116 : decode cX3_join 116 = .ok (.iload_n 1, 1) := by decide +kernel
theorem dX3_join_117 : decode cX3_join 117 = .ok (.bipush 47, 2) := by decide +kernel
theorem dX3_join_119 : decode cX3_join 119 = .ok (.if_icmp .ne 9, 3) := by decide +kernel
theorem dX3_join_122 : decode cX3_join 122 = .ok (.iload_n 2, 1) := by decide +kernel
theorem dX3_join_123 : decode cX3_join 123 = .ok (.iload_n 3, 1) := by decide +kernel
theorem dX3_join_124 : decode cX3_join 124 = .ok (.idiv, 1) := by decide +kernel
theorem dX3_join_125 : decode cX3_join 125 = .ok (.goto 6, 3) := by decide +kernel
theorem dX3_join_128 : decode cX3_join 128 = .ok (.iload_n 2, 1) := by decide +kernel
theorem dX3_join_129 : decode cX3_join 129 = .ok (.iload_n 3, 1) := by decide +kernel
theorem dX3_join_130 : decode cX3_join 130 = .ok (.irem, 1) := by decide +kernel
theorem dX3_join_131 : decode cX3_join 131 = .ok (.ireturn, 1) := by decide +kernel
theorem dX4_init_0 : decode cX4_init 0 = .ok (.aload_n 0, 1) := by decide +kernel
theorem dX4_init_1 : decode cX4_init 1 = .ok (.invokespecial 3, 3) := by decide +kernel
theorem dX4_init_4 : decode cX4_init 4 = .ok (.aload_n 0, 1) := by decide +kernel
theorem dX4_init_5 : decode cX4_init 5 = .ok (.new 9, 3) := by decide +kernel
theorem dX4_init_8 : decode cX4_init 8 = .ok (.dup, 1) := by decide +kernel
theorem dX4_init_9 : decode cX4_init 9 = .ok (.invokespecial 11, 3) := by decide +kernel
theorem dX4_init_12 : decode cX4_init 12 = .ok (.putfield 12, 3) := by decide +kernel
theorem dX4_init_15 : decode cX4_init 15 = .ok (.aload_n 0, 1) := by decide +kernel
theorem dX4_init_16 : decode cX4_init 16 = .ok (.iconst 0, 1) := by decide +kernel
theorem dX4_init_17 : decode cX4_init 17 = .ok (.putfield 18, 3) := by decide +kernel
theorem dX4_init_20 : decode cX4_init 20 = .ok (.aload_n 0, 1) := by decide +kernel
theorem dX4_init_21 : decode cX4_init 21 = .ok (.iconst 0, 1) := by decide +kernel
theorem dX4_init_22 : decode cX4_init 22 = .ok (.putfield 22, 3) := by decide +kernel
theorem dX4_init_25 : decode cX4_init 25 = .ok (.aload_n 0, 1) := by decide +kernel
theorem dX4_init_26 : decode cX4_init 26 = .ok (.iconst 0, 1) := by decide +kernel
theorem dX4_init_27 : decode cX4_init 27 = .ok (.putfield 25, 3) := by decide +kernel
theorem dX4_init_30 : decode cX4_init 30 = .ok (.aload_n 0, 1) := by decide +kernel
theorem dX4_init_31 : decode cX4_init 31 = .ok (.aload_n 1, 1) := by decide +kernel
theorem dX4_init_32 : decode cX4_init 32 = .ok (.putfield 28, 3) := by decide +kernel
theorem dX4_init_35 : decode cX4_init 35 = .ok (.return_, 1) := by decide +kernel
theorem dX4_handOver_0 : decode cX4_handOver 0 = .ok (.aload_n 0, 1) := by decide +kernel
theorem dX4_handOver_1 : decode cX4_handOver 1 = .ok (.getfield 12, 3) := by decide +kernel
theorem dX4_handOver_4 : decode cX4_handOver 4 = .ok (.astore_n 2, 1) := by decide +kernel
theorem dX4_handOver_5 : decode cX4_handOver 5 = .ok (.aload_n 0, 1) := by decide +kernel
theorem dX4_handOver_6 : decode cX4_handOver 6 = .ok (.aload_n 1, 1) := by decide +kernel
theorem dX4_handOver_7 : decode cX4_handOver 7 = .ok (.putfield 12, 3) := by decide +kernel
theorem dX4_handOver_10 : decode cX4_handOver 10 = .ok (.aload_n 2, 1) := by decide +kernel
theorem dX4_handOver_11 : decode cX4_handOver 11 = .ok (.areturn, 1) := by decide +kernel
theorem dX4_read_0 : decode cX4_read 0 = .ok (.aload_n 0, 1) := by decide +kernel
theorem dX4_read_1 : decode cX4_read 1 = .ok (.iload_n 1, 1) := by decide +kernel
theorem dX4_read_2 : decode cX4_read 2 = .ok (.putfield 18, 3) := by decide +kernel
theorem dX4_read_5 : decode cX4_read 5 = .ok (.aload_n 0, 1) := by decide +kernel
theorem dX4_read_6 : decode cX4_read 6 = .ok (.iconst 0, 1) := by decide +kernel
theorem dX4_read_7 : decode cX4_read 7 = .ok (.putfield 22, 3) := by decide +kernel
theorem dX4_read_10 : decode cX4_read 10 = .ok (.aload_n 0, 1) := by decide +kernel
theorem dX4_read_11 : decode cX4_read 11 = .ok (.iconst 0, 1) := by decide +kernel
theorem dX4_read_12 : decode cX4_read 12 = .ok (.putfield 25, 3) := by decide +kernel
theorem dX4_read_15 : decode cX4_read 15 = .ok (.aload_n 0, 1) := by decide +kernel
theorem dX4_read_16 : decode cX4_read 16 = .ok (.getfield 12, 3) := by decide +kernel
theorem dX4_read_19 : decode cX4_read 19 = .ok (.invokevirtual 32, 3) := by decide +kernel
theorem dX4_read_22 : decode cX4_read 22 = .ok (.iconst 1, 1) := by decide +kernel
theorem dX4_read_23 : decode cX4_read 23 = .ok (.istore_n 2, 1) := by decide +kernel
theorem dX4_read_24 : decode cX4_read 24 = .ok (.iconst 0, 1) := by decide +kernel
theorem dX4_read_25 : decode cX4_read 25 = .ok (.istore_n 3, 1) := by decide +kernel
theorem dX4_read_26 : decode cX4_read 26 = .ok (.iload_n 3, 1) := by decide +kernel
theorem dX4_read_27 : decode cX4_read 27 = .ok (.bipush 14, 2) := by decide +kernel
theorem dX4_read_29 : decode cX4_read 29 = .ok (.if_icmp .gt 101, 3) := by decide +kernel
theorem dX4_read_32 : decode cX4_read 32 = .ok (.iload_n 2, 1) := by decide +kernel
theorem dX4_read_33 : decode cX4_read 33 = .ok (.ifCond .eq 97, 3) := by decide +kernel
theorem dX4_read_36 : decode cX4_read 36 = .ok (.aload_n 0, 1) := by decide +kernel
theorem dX4_read_37 : decode cX4_read 37 = .ok (.iload_n 3, 1) := by decide +kernel
theorem dX4_read_38 : decode cX4_read 38 = .ok (.invokevirtual 35, 3) := by decide +kernel
theorem dX4_read_41 : decode cX4_read 41 = .ok (.aload_n 0, 1) := by decide +kernel
theorem dX4_read_42 : decode cX4_read 42 = .ok (.iconst 0, 1) := by decide +kernel
theorem dX4_read_43 : decode cX4_read 43 = .ok (.invokevirtual 39, 3) := by decide +kernel
theorem dX4_read_46 : decode cX4_read 46 = .ok (.aload_n 0, 1) := by decide +kernel
theorem dX4_read_47 : decode cX4_read 47 = .ok (.bipush 40, 2) := by decide +kernel
theorem dX4_read_49 : decode cX4_read 49 = .ok (.invokevirtual 42, 3) := by decide +kernel
theorem dX4_read_52 : decode cX4_read 52 = .ok (.aload_n 0, 1) := by decide +kernel
theorem dX4_read_53 : decode cX4_read 53 = .ok (.getfield 12, 3) := by decide +kernel
theorem dX4_read_56 : decode cX4_read 56 = .ok (.iconst 0, 1) := by decide +kernel
theorem dX4_read_57 : decode cX4_read 57 = .ok (.iconst 0, 1) := by decide +kernel
theorem dX4_read_58 : decode cX4_read 58 = .ok (.invokevirtual 45, 3) := by decide +kernel
theorem dX4_read_61 : decode cX4_read 61 = .ok (.pop, 1) := by decide +kernel
theorem dX4_read_62 : decode cX4_read 62 = .ok (.aload_n 0, 1) := by decide +kernel
theorem dX4_read_63 : decode cX4_read 63 = .ok (.getfield 12, 3) := by decide +kernel
theorem dX4_read_66 : decode cX4_read 66 = .ok (.invokevirtual 49, 3) := by decide +kernel
theorem dX4_read_69 : decode cX4_read 69 = .ok (.aload_n 0, 1) := by decide +kernel
theorem dX4_read_70 : decode cX4_read 70 = .ok (.iconst 1, 1) := by decide +kernel
theorem dX4_read_71 : decode cX4_read 71 = .ok (.invokevirtual 52, 3) := by decide +kernel
theorem dX4_read_74 : decode cX4_read 74 = .ok (.aload_n 0, 1) := by decide +kernel
theorem dX4_read_75 : decode cX4_read 75 = .ok (.bipush 41, 2) := by decide +kernel
theorem dX4_read_77 : decode cX4_read 77 = .ok (.invokevirtual 42, 3) := by decide +kernel
theorem dX4_read_80 : decode cX4_read 80 = .ok (.aload_n 0, 1) := by decide +kernel
theorem dX4_read_81 : decode cX4_read 81 = .ok (.getfield 12, 3) := by decide +kernel
theorem dX4_read_84 : decode cX4_read 84 = .ok (.iconst 0, 1) := by decide +kernel
theorem dX4_read_85 : decode cX4_read 85 = .ok (.iconst 0, 1) := by decide +kernel
theorem dX4_read_86 : decode cX4_read 86 = .ok (.invokevirtual 45, 3) := by decide +kernel
theorem dX4_read_89 : decode cX4_read 89 = .ok (.pop, 1) := by decide +kernel
theorem dX4_read_90 : decode cX4_read 90 = .ok (.aload_n 0, 1) := by decide +kernel
theorem dX4_read_91 : decode cX4_read 91 = .ok (.getfield 25, 3) := by decide +kernel
theorem dX4_read_94 : decode cX4_read 94 = .ok (.ifCond .ne 18, 3) := by decide +kernel
theorem dX4_read_97 : decode cX4_read 97 = .ok (.aload_n 0, 1) := by decide +kernel
theorem dX4_read_98 : decode cX4_read 98 = .ok (.getfield 22, 3) := by decide +kernel
theorem dX4_read_101 : decode cX4_read 101 = .ok (.aload_n 0, 1) := by decide +kernel
theorem dX4_read_102 : decode cX4_read 102 = .ok (.getfield 18, 3) := by decide +kernel
theorem dX4_read_105 : decode cX4_read 105 = .ok (.if_icmp .ge 7, 3) := by decide +kernel
theorem dX4_read_108 : decode cX4_read 108 = .ok (.iconst 1, 1) := by decide +kernel
theorem dX4_read_109 : decode cX4_read 109 = .ok (.goto 4, 3) := by decide +kernel
theorem dX4_read_112 : decode cX4_read 112 = .ok (.iconst 0, 1) := by decide +kernel
theorem dX4_read_113 : decode cX4_read 113 = .ok (.istore_n 2, 1) := by decide +kernel
theorem dX4_read_114 : decode cX4_read 114 = .ok (.iload_n 2, 1) := by decide +kernel
theorem dX4_read_115 : decode cX4_read 115 = .ok (.ifCond .eq 9, 3) := by decide +kernel
theorem dX4_read_118 : decode cX4_read 118 = .ok (.aload_n 0, 1) := by decide +kernel
theorem dX4_read_119 : decode cX4_read 119 = .ok (.bipush 59, 2) := by decide +kernel
theorem dX4_read_121 : decode cX4_read 121 = .ok (.invokevirtual 42, 3) := by decide +kernel
theorem dX4_read_124 : decode cX4_read 124 = .ok (.iinc 3 1, 3) := by decide +kernel
theorem dX4_read_127 : decode cX4_read 127 = .ok (.goto (-101), 3) := by decide +kernel
theorem dX4_read_130 : decode cX4_read 130 = .ok (.aload_n 0, 1) := by decide +kernel
theorem dX4_read_131 : decode cX4_read 131 = .ok (.getfield 25, 3) := by decide +kernel
theorem dX4_read_134 : decode cX4_read 134 = .ok (.ireturn, 1) := by decide +kernel
theorem dX4_letterOfClause_0 : decode cX4_letterOfClause 0 = .ok (.aload_n 0, 1) := by decide +kernel
theorem dX4_letterOfClause_1 : decode cX4_letterOfClause 1 = .ok (.invokevirtual 55, 3) := by decide +kernel
theorem dX4_letterOfClause_4 : decode cX4_letterOfClause 4 = .ok (.istore_n 2, 1) := by decide +kernel
theorem dX4_letterOfClause_5 : decode cX4_letterOfClause 5 = .ok (.iload_n 2, 1) := by decide +kernel
theorem dX4_letterOfClause_6 : decode cX4_letterOfClause 6 = .ok (.bipush 98, 2) := by decide +kernel
theorem dX4_letterOfClause_8 : decode cX4_letterOfClause 8 = .ok (.if_icmp .eq 29, 3) := by decide +kernel
theorem dX4_letterOfClause_11 : decode cX4_letterOfClause 11 = .ok (.iload_n 2, 1) := by decide +kernel
theorem dX4_letterOfClause_12 : decode cX4_letterOfClause 12 = .ok (.bipush 116, 2) := by decide +kernel
theorem dX4_letterOfClause_14 : decode cX4_letterOfClause 14 = .ok (.if_icmp .eq 23, 3) := by decide +kernel
theorem dX4_letterOfClause_17 : decode cX4_letterOfClause 17 = .ok (.iload_n 2, 1) := by decide +kernel
theorem dX4_letterOfClause_18 : decode cX4_letterOfClause 18 = .ok (.bipush 99, 2) := by decide +kernel
theorem dX4_letterOfClause_20 : decode cX4_letterOfClause 20 = .ok (.if_icmp .eq 17, 3) := by decide +kernel
theorem dX4_letterOfClause_23 : decode cX4_letterOfClause 23 = .ok (.iload_n 2, 1) := by decide +kernel
theorem dX4_letterOfClause_24 : decode cX4_letterOfClause 24 = .ok (.bipush 103, 2) := by decide +kernel
theorem dX4_letterOfClause_26 : decode cX4_letterOfClause 26 = .ok (.if_icmp .eq 11, 3) := by decide +kernel
theorem dX4_letterOfClause_29 : decode cX4_letterOfClause 29 = .ok (.aload_n 0, 1) := by decide +kernel
theorem dX4_letterOfClause_30 : decode cX4_letterOfClause 30 = .ok (.iconst 1, 1) := by decide +kernel
theorem dX4_letterOfClause_31 : decode cX4_letterOfClause 31 = .ok (.invokevirtual 59, 3) := by decide +kernel
theorem dX4_letterOfClause_34 : decode cX4_letterOfClause 34 = .ok (.goto 14, 3) := by decide +kernel
theorem dX4_letterOfClause_37 : decode cX4_letterOfClause 37 = .ok (.iload_n 1, 1) := by decide +kernel
theorem dX4_letterOfClause_38 : decode cX4_letterOfClause 38 = .ok (.bipush 14, 2) := by decide +kernel
theorem dX4_letterOfClause_40 : decode cX4_letterOfClause 40 = .ok (.if_icmp .lt 8, 3) := by decide +kernel
theorem dX4_letterOfClause_43 : decode cX4_letterOfClause 43 = .ok (.aload_n 0, 1) := by decide +kernel
theorem dX4_letterOfClause_44 : decode cX4_letterOfClause 44 = .ok (.iconst 4, 1) := by decide +kernel
theorem dX4_letterOfClause_45 : decode cX4_letterOfClause 45 = .ok (.invokevirtual 59, 3) := by decide +kernel
theorem dX4_letterOfClause_48 : decode cX4_letterOfClause 48 = .ok (.aload_n 0, 1) := by decide +kernel
theorem dX4_letterOfClause_49 : decode cX4_letterOfClause 49 = .ok (.getfield 25, 3) := by decide +kernel
theorem dX4_letterOfClause_52 : decode cX4_letterOfClause 52 = .ok (.ifCond .ne 21, 3) := by decide +kernel
theorem dX4_letterOfClause_55 : decode cX4_letterOfClause 55 = .ok (.aload_n 0, 1) := by decide +kernel
theorem dX4_letterOfClause_56 : decode cX4_letterOfClause 56 = .ok (.dup, 1) := by decide +kernel
theorem dX4_letterOfClause_57 : decode cX4_letterOfClause 57 = .ok (.getfield 22, 3) := by decide +kernel
theorem dX4_letterOfClause_60 : decode cX4_letterOfClause 60 = .ok (.iconst 1, 1) := by decide +kernel
theorem dX4_letterOfClause_61 : decode cX4_letterOfClause 61 = .ok (.iadd, 1) := by decide +kernel
theorem dX4_letterOfClause_62 : decode cX4_letterOfClause 62 = .ok (.putfield 22, 3) := by decide +kernel
theorem dX4_letterOfClause_65 : decode cX4_letterOfClause 65 = .ok (.aload_n 0, 1) := by decide +kernel
theorem dX4_letterOfClause_66 : decode cX4_letterOfClause 66 = .ok (.getfield 12, 3) := by decide +kernel
theorem dX4_letterOfClause_69 : decode cX4_letterOfClause 69 = .ok (.iload_n 2, 1) := by decide +kernel
theorem dX4_letterOfClause_70 : decode cX4_letterOfClause 70 = .ok (.invokevirtual 62, 3) := by decide +kernel
theorem dX4_letterOfClause_73 : decode cX4_letterOfClause 73 = .ok (.return_, 1) := by decide +kernel
theorem dX4_condition_0 : decode cX4_condition 0 = .ok (.iconst (-1), 1) := by decide +kernel
theorem dX4_condition_1 : decode cX4_condition 1 = .ok (.istore_n 2, 1) := by decide +kernel
theorem dX4_condition_2 : decode cX4_condition 2 = .ok (.iconst (-1), 1) := by decide +kernel
theorem dX4_condition_3 : decode cX4_condition 3 = .ok (.istore_n 3, 1) := by decide +kernel
theorem dX4_condition_4 : decode cX4_condition 4 = .ok (.aload_n 0, 1) := by decide +kernel
theorem dX4_condition_5 : decode cX4_condition 5 = .ok (.iload_n 1, 1) := by decide +kernel
theorem dX4_condition_6 : decode cX4_condition 6 = .ok (.invokevirtual 65, 3) := by decide +kernel
theorem dX4_condition_9 : decode cX4_condition 9 = .ok (.iconst 0, 1) := by decide +kernel
theorem dX4_condition_10 : decode cX4_condition 10 = .ok (.istore 4, 2) := by decide +kernel
theorem dX4_condition_12 : decode cX4_condition 12 = .ok (.iload 4, 2) := by decide +kernel
theorem dX4_condition_14 : decode cX4_condition 14 = .ok (.aload_n 0, 1) := by decide +kernel
theorem dX4_condition_15 : decode cX4_condition 15 = .ok (.getfield 18, 3) := by decide +kernel
theorem dX4_condition_18 : decode cX4_condition 18 = .ok (.if_icmp .ge 84, 3) := by decide +kernel
theorem dX4_condition_21 : decode cX4_condition 21 = .ok (.aload_n 0, 1) := by decide +kernel
theorem dX4_condition_22 : decode cX4_condition 22 = .ok (.getfield 25, 3) := by decide +kernel
theorem dX4_condition_25 : decode cX4_condition 25 = .ok (.ifCond .ne 77, 3) := by decide +kernel
theorem dX4_condition_28 : decode cX4_condition 28 = .ok (.aload_n 0, 1) := by decide +kernel
theorem dX4_condition_29 : decode cX4_condition 29 = .ok (.invokevirtual 55, 3) := by decide +kernel
theorem dX4_condition_32 : decode cX4_condition 32 = .ok (.istore 5, 2) := by decide +kernel
theorem dX4_condition_34 : decode cX4_condition 34 = .ok (.iload 5, 2) := by decide +kernel
theorem dX4_condition_36 : decode cX4_condition 36 = .ok (.bipush 38, 2) := by decide +kernel
theorem dX4_condition_38 : decode cX4_condition 38 = .ok (.if_icmp .ne 16, 3) := by decide +kernel
theorem dX4_condition_41 : decode cX4_condition 41 = .ok (.aload_n 0, 1) := by decide +kernel
theorem dX4_condition_42 : decode cX4_condition 42 = .ok (.getfield 12, 3) := by decide +kernel
theorem dX4_condition_45 : decode cX4_condition 45 = .ok (.iconst 4, 1) := by decide +kernel
theorem dX4_condition_46 : decode cX4_condition 46 = .ok (.iload_n 2, 1) := by decide +kernel
theorem dX4_condition_47 : decode cX4_condition 47 = .ok (.invokevirtual 45, 3) := by decide +kernel
theorem dX4_condition_50 : decode cX4_condition 50 = .ok (.istore_n 2, 1) := by decide +kernel
theorem dX4_condition_51 : decode cX4_condition 51 = .ok (.goto 30, 3) := by decide +kernel
theorem dX4_condition_54 : decode cX4_condition 54 = .ok (.iload 5, 2) := by decide +kernel
theorem dX4_condition_56 : decode cX4_condition 56 = .ok (.bipush 124, 2) := by decide +kernel
theorem dX4_condition_58 : decode cX4_condition 58 = .ok (.if_icmp .ne 44, 3) := by decide +kernel
theorem dX4_condition_61 : decode cX4_condition 61 = .ok (.aload_n 0, 1) := by decide +kernel
theorem dX4_condition_62 : decode cX4_condition 62 = .ok (.getfield 12, 3) := by decide +kernel
theorem dX4_condition_65 : decode cX4_condition 65 = .ok (.iload_n 2, 1) := by decide +kernel
theorem dX4_condition_66 : decode cX4_condition 66 = .ok (.invokevirtual 68, 3) := by decide +kernel
theorem dX4_condition_69 : decode cX4_condition 69 = .ok (.iconst (-1), 1) := by decide +kernel
theorem dX4_condition_70 : decode cX4_condition 70 = .ok (.istore_n 2, 1) := by decide +kernel
theorem dX4_condition_71 : decode cX4_condition 71 = .ok (.aload_n 0, 1) := by decide +kernel
theorem dX4_condition_72 : decode cX4_condition 72 = .ok (.getfield 12, 3) := by decide +kernel
theorem dX4_condition_75 : decode cX4_condition 75 = .ok (.iconst 5, 1) := by decide +kernel
theorem dX4_condition_76 : decode cX4_condition 76 = .ok (.iload_n 3, 1) := by decide +kernel
theorem dX4_condition_77 : decode cX4_condition 77 = .ok (.invokevirtual 45, 3) := by decide +kernel
theorem dX4_condition_80 : decode cX4_condition 80 = .ok (.istore_n 3, 1) := by decide +kernel
theorem dX4_condition_81 : decode cX4_condition 81 = .ok (.aload_n 0, 1) := by decide +kernel
theorem dX4_condition_82 : decode cX4_condition 82 = .ok (.dup, 1) := by decide +kernel
theorem dX4_condition_83 : decode cX4_condition 83 = .ok (.getfield 22, 3) := by decide +kernel
theorem dX4_condition_86 : decode cX4_condition 86 = .ok (.iconst 1, 1) := by decide +kernel
theorem dX4_condition_87 : decode cX4_condition 87 = .ok (.iadd, 1) := by decide +kernel
theorem dX4_condition_88 : decode cX4_condition 88 = .ok (.putfield 22, 3) := by decide +kernel
theorem dX4_condition_91 : decode cX4_condition 91 = .ok (.aload_n 0, 1) := by decide +kernel
theorem dX4_condition_92 : decode cX4_condition 92 = .ok (.iload_n 1, 1) := by decide +kernel
theorem dX4_condition_93 : decode cX4_condition 93 = .ok (.invokevirtual 65, 3) := by decide +kernel
theorem dX4_condition_96 : decode cX4_condition 96 = .ok (.iinc 4 1, 3) := by decide +kernel
theorem dX4_condition_99 : decode cX4_condition 99 = .ok (.goto (-87), 3) := by decide +kernel
theorem dX4_condition_102 : decode cX4_condition 102 = .ok (.aload_n 0, 1) := by decide +kernel
theorem dX4_condition_103 : decode cX4_condition 103 = .ok (.getfield 12, 3) := by decide +kernel
theorem dX4_condition_106 : decode cX4_condition 106 = .ok (.iload_n 2, 1) := by decide +kernel
theorem dX4_condition_107 : decode cX4_condition 107 = .ok (.invokevirtual 68, 3) := by decide +kernel
theorem dX4_condition_110 : decode cX4_condition 110 = .ok (.aload_n 0, 1) := by decide +kernel
theorem dX4_condition_111 : decode cX4_condition 111 = .ok (.getfield 12, 3) := by decide +kernel
theorem dX4_condition_114 : decode cX4_condition 114 = .ok (.iload_n 3, 1) := by decide +kernel
theorem dX4_condition_115 : decode cX4_condition 115 = .ok (.invokevirtual 68, 3) := by decide +kernel
theorem dX4_condition_118 : decode cX4_condition 118 = .ok (.return_, 1) := by decide +kernel
theorem dX4_piece_0 : decode cX4_piece 0 = .ok (.aload_n 0, 1) := by decide +kernel
theorem dX4_piece_1 : decode cX4_piece 1 = .ok (.getfield 25, 3) := by decide +kernel
theorem dX4_piece_4 : decode cX4_piece 4 = .ok (.ifCond .eq 4, 3) := by decide +kernel
theorem dX4_piece_7 : decode cX4_piece 7 = .ok (.return_, 1) := by decide +kernel
theorem dX4_piece_8 : decode cX4_piece 8 = .ok (.aload_n 0, 1) := by decide +kernel
theorem dX4_piece_9 : decode cX4_piece 9 = .ok (.invokevirtual 55, 3) := by decide +kernel
theorem dX4_piece_12 : decode cX4_piece 12 = .ok (.istore_n 2, 1) := by decide +kernel
theorem dX4_piece_13 : decode cX4_piece 13 = .ok (.iload_n 2, 1) := by decide +kernel
theorem dX4_piece_14 : decode cX4_piece 14 = .ok (.bipush 33, 2) := by decide +kernel
theorem dX4_piece_16 : decode cX4_piece 16 = .ok (.if_icmp .ne 31, 3) := by decide +kernel
theorem dX4_piece_19 : decode cX4_piece 19 = .ok (.aload_n 0, 1) := by decide +kernel
theorem dX4_piece_20 : decode cX4_piece 20 = .ok (.iload_n 1, 1) := by decide +kernel
theorem dX4_piece_21 : decode cX4_piece 21 = .ok (.invokevirtual 71, 3) := by decide +kernel
theorem dX4_piece_24 : decode cX4_piece 24 = .ok (.ifCond .eq 23, 3) := by decide +kernel
theorem dX4_piece_27 : decode cX4_piece 27 = .ok (.aload_n 0, 1) := by decide +kernel
theorem dX4_piece_28 : decode cX4_piece 28 = .ok (.iload_n 1, 1) := by decide +kernel
theorem dX4_piece_29 : decode cX4_piece 29 = .ok (.iconst 1, 1) := by decide +kernel
theorem dX4_piece_30 : decode cX4_piece 30 = .ok (.iadd, 1) := by decide +kernel
theorem dX4_piece_31 : decode cX4_piece 31 = .ok (.invokevirtual 65, 3) := by decide +kernel
theorem dX4_piece_34 : decode cX4_piece 34 = .ok (.aload_n 0, 1) := by decide +kernel
theorem dX4_piece_35 : decode cX4_piece 35 = .ok (.getfield 12, 3) := by decide +kernel
theorem dX4_piece_38 : decode cX4_piece 38 = .ok (.iconst 3, 1) := by decide +kernel
theorem dX4_piece_39 : decode cX4_piece 39 = .ok (.iconst 0, 1) := by decide +kernel
theorem dX4_piece_40 : decode cX4_piece 40 = .ok (.invokevirtual 45, 3) := by decide +kernel
theorem dX4_piece_43 : decode cX4_piece 43 = .ok (.pop, 1) := by decide +kernel
theorem dX4_piece_44 : decode cX4_piece 44 = .ok (.goto 98, 3) := by decide +kernel
theorem dX4_piece_47 : decode cX4_piece 47 = .ok (.iload_n 2, 1) := by decide +kernel
theorem dX4_piece_48 : decode cX4_piece 48 = .ok (.bipush 40, 2) := by decide +kernel
theorem dX4_piece_50 : decode cX4_piece 50 = .ok (.if_icmp .ne 27, 3) := by decide +kernel
theorem dX4_piece_53 : decode cX4_piece 53 = .ok (.aload_n 0, 1) := by decide +kernel
theorem dX4_piece_54 : decode cX4_piece 54 = .ok (.iload_n 1, 1) := by decide +kernel
theorem dX4_piece_55 : decode cX4_piece 55 = .ok (.invokevirtual 71, 3) := by decide +kernel
theorem dX4_piece_58 : decode cX4_piece 58 = .ok (.ifCond .eq 19, 3) := by decide +kernel
theorem dX4_piece_61 : decode cX4_piece 61 = .ok (.aload_n 0, 1) := by decide +kernel
theorem dX4_piece_62 : decode cX4_piece 62 = .ok (.iload_n 1, 1) := by decide +kernel
theorem dX4_piece_63 : decode cX4_piece 63 = .ok (.iconst 1, 1) := by decide +kernel
theorem dX4_piece_64 : decode cX4_piece 64 = .ok (.iadd, 1) := by decide +kernel
theorem dX4_piece_65 : decode cX4_piece 65 = .ok (.invokevirtual 52, 3) := by decide +kernel
theorem dX4_piece_68 : decode cX4_piece 68 = .ok (.aload_n 0, 1) := by decide +kernel
theorem dX4_piece_69 : decode cX4_piece 69 = .ok (.bipush 41, 2) := by decide +kernel
theorem dX4_piece_71 : decode cX4_piece 71 = .ok (.invokevirtual 42, 3) := by decide +kernel
theorem dX4_piece_74 : decode cX4_piece 74 = .ok (.goto 68, 3) := by decide +kernel
theorem dX4_piece_77 : decode cX4_piece 77 = .ok (.aload_n 0, 1) := by decide +kernel
theorem dX4_piece_78 : decode cX4_piece 78 = .ok (.iload_n 1, 1) := by decide +kernel
theorem dX4_piece_79 : decode cX4_piece 79 = .ok (.invokevirtual 39, 3) := by decide +kernel
theorem dX4_piece_82 : decode cX4_piece 82 = .ok (.aload_n 0, 1) := by decide +kernel
theorem dX4_piece_83 : decode cX4_piece 83 = .ok (.invokevirtual 55, 3) := by decide +kernel
theorem dX4_piece_86 : decode cX4_piece 86 = .ok (.istore_n 3, 1) := by decide +kernel
theorem dX4_piece_87 : decode cX4_piece 87 = .ok (.iload_n 3, 1) := by decide +kernel
theorem dX4_piece_88 : decode cX4_piece 88 = .ok (.bipush 60, 2) := by decide +kernel
theorem dX4_piece_90 : decode cX4_piece 90 = .ok (.if_icmp .eq 20, 3) := by decide +kernel
theorem dX4_piece_93 : decode cX4_piece 93 = .ok (.iload_n 3, 1) := by decide +kernel
theorem dX4_piece_94 : decode cX4_piece 94 = .ok (.bipush 62, 2) := by decide +kernel
theorem dX4_piece_96 : decode cX4_piece 96 = .ok (.if_icmp .eq 14, 3) := by decide +kernel
theorem dX4_piece_99 : decode cX4_piece 99 = .ok (.iload_n 3, 1) := by decide +kernel
theorem dX4_piece_100 : decode cX4_piece 100 = .ok (.bipush 61, 2) := by decide +kernel
theorem dX4_piece_102 : decode cX4_piece 102 = .ok (.if_icmp .eq 8, 3) := by decide +kernel
theorem dX4_piece_105 : decode cX4_piece 105 = .ok (.aload_n 0, 1) := by decide +kernel
theorem dX4_piece_106 : decode cX4_piece 106 = .ok (.iconst 1, 1) := by decide +kernel
theorem dX4_piece_107 : decode cX4_piece 107 = .ok (.invokevirtual 59, 3) := by decide +kernel
theorem dX4_piece_110 : decode cX4_piece 110 = .ok (.aload_n 0, 1) := by decide +kernel
theorem dX4_piece_111 : decode cX4_piece 111 = .ok (.getfield 25, 3) := by decide +kernel
theorem dX4_piece_114 : decode cX4_piece 114 = .ok (.ifCond .ne 28, 3) := by decide +kernel
theorem dX4_piece_117 : decode cX4_piece 117 = .ok (.aload_n 0, 1) := by decide +kernel
theorem dX4_piece_118 : decode cX4_piece 118 = .ok (.dup, 1) := by decide +kernel
theorem dX4_piece_119 : decode cX4_piece 119 = .ok (.getfield 22, 3) := by decide +kernel
theorem dX4_piece_122 : decode cX4_piece 122 = .ok (.iconst 1, 1) := by decide +kernel
theorem dX4_piece_123 : decode cX4_piece 123 = .ok (.iadd, 1) := by decide +kernel
theorem dX4_piece_124 : decode cX4_piece 124 = .ok (.putfield 22, 3) := by decide +kernel
theorem dX4_piece_127 : decode cX4_piece 127 = .ok (.aload_n 0, 1) := by decide +kernel
theorem dX4_piece_128 : decode cX4_piece 128 = .ok (.iload_n 1, 1) := by decide +kernel
theorem dX4_piece_129 : decode cX4_piece 129 = .ok (.invokevirtual 39, 3) := by decide +kernel
theorem dX4_piece_132 : decode cX4_piece 132 = .ok (.aload_n 0, 1) := by decide +kernel
theorem dX4_piece_133 : decode cX4_piece 133 = .ok (.getfield 12, 3) := by decide +kernel
theorem dX4_piece_136 : decode cX4_piece 136 = .ok (.iload_n 3, 1) := by decide +kernel
theorem dX4_piece_137 : decode cX4_piece 137 = .ok (.iconst 0, 1) := by decide +kernel
theorem dX4_piece_138 : decode cX4_piece 138 = .ok (.invokevirtual 45, 3) := by decide +kernel
theorem dX4_piece_141 : decode cX4_piece 141 = .ok (.pop, 1) := by decide +kernel
theorem dX4_piece_142 : decode cX4_piece 142 = .ok (.return_, 1) := by decide +kernel
theorem dX4_expression_0 : decode cX4_expression 0 = .ok (.iconst (-1), 1) := by decide +kernel
theorem dX4_expression_1 : decode cX4_expression 1 = .ok (.istore_n 2, 1) := by decide +kernel
theorem dX4_expression_2 : decode cX4_expression 2 = .ok (.aload_n 0, 1) := by decide +kernel
theorem dX4_expression_3 : decode cX4_expression 3 = .ok (.iload_n 1, 1) := by decide +kernel
theorem dX4_expression_4 : decode cX4_expression 4 = .ok (.invokevirtual 75, 3) := by decide +kernel
theorem dX4_expression_7 : decode cX4_expression 7 = .ok (.iconst 0, 1) := by decide +kernel
theorem dX4_expression_8 : decode cX4_expression 8 = .ok (.istore_n 3, 1) := by decide +kernel
theorem dX4_expression_9 : decode cX4_expression 9 = .ok (.iload_n 3, 1) := by decide +kernel
theorem dX4_expression_10 : decode cX4_expression 10 = .ok (.aload_n 0, 1) := by decide +kernel
theorem dX4_expression_11 : decode cX4_expression 11 = .ok (.getfield 18, 3) := by decide +kernel
theorem dX4_expression_14 : decode cX4_expression 14 = .ok (.if_icmp .ge 119, 3) := by decide +kernel
theorem dX4_expression_17 : decode cX4_expression 17 = .ok (.aload_n 0, 1) := by decide +kernel
theorem dX4_expression_18 : decode cX4_expression 18 = .ok (.getfield 25, 3) := by decide +kernel
theorem dX4_expression_21 : decode cX4_expression 21 = .ok (.ifCond .ne 112, 3) := by decide +kernel
theorem dX4_expression_24 : decode cX4_expression 24 = .ok (.aload_n 0, 1) := by decide +kernel
theorem dX4_expression_25 : decode cX4_expression 25 = .ok (.invokevirtual 55, 3) := by decide +kernel
theorem dX4_expression_28 : decode cX4_expression 28 = .ok (.istore 4, 2) := by decide +kernel
theorem dX4_expression_30 : decode cX4_expression 30 = .ok (.iload 4, 2) := by decide +kernel
theorem dX4_expression_32 : decode cX4_expression 32 = .ok (.bipush 43, 2) := by decide +kernel
theorem dX4_expression_34 : decode cX4_expression 34 = .ok (.if_icmp .eq 10, 3) := by decide +kernel
theorem dX4_expression_37 : decode cX4_expression 37 = .ok (.iload 4, 2) := by decide +kernel
theorem dX4_expression_39 : decode cX4_expression 39 = .ok (.bipush 45, 2) := by decide +kernel
theorem dX4_expression_41 : decode cX4_expression 41 = .ok (.if_icmp .ne 39, 3) := by decide +kernel
theorem dX4_expression_44 : decode cX4_expression 44 = .ok (.iload_n 2, 1) := by decide +kernel
theorem dX4_expression_45 : decode cX4_expression 45 = .ok (.iconst (-1), 1) := by decide +kernel
theorem dX4_expression_46 : decode cX4_expression 46 = .ok (.if_icmp .eq 13, 3) := by decide +kernel
theorem dX4_expression_49 : decode cX4_expression 49 = .ok (.aload_n 0, 1) := by decide +kernel
theorem dX4_expression_50 : decode cX4_expression 50 = .ok (.getfield 12, 3) := by decide +kernel
theorem dX4_expression_53 : decode cX4_expression 53 = .ok (.iload_n 2, 1) := by decide +kernel
theorem dX4_expression_54 : decode cX4_expression 54 = .ok (.iconst 0, 1) := by decide +kernel
theorem dX4_expression_55 : decode cX4_expression 55 = .ok (.invokevirtual 45, 3) := by decide +kernel
theorem dX4_expression_58 : decode cX4_expression 58 = .ok (.pop, 1) := by decide +kernel
theorem dX4_expression_59 : decode cX4_expression 59 = .ok (.iload 4, 2) := by decide +kernel
theorem dX4_expression_61 : decode cX4_expression 61 = .ok (.istore_n 2, 1) := by decide +kernel
theorem dX4_expression_62 : decode cX4_expression 62 = .ok (.aload_n 0, 1) := by decide +kernel
theorem dX4_expression_63 : decode cX4_expression 63 = .ok (.dup, 1) := by decide +kernel
theorem dX4_expression_64 : decode cX4_expression 64 = .ok (.getfield 22, 3) := by decide +kernel
theorem dX4_expression_67 : decode cX4_expression 67 = .ok (.iconst 1, 1) := by decide +kernel
theorem dX4_expression_68 : decode cX4_expression 68 = .ok (.iadd, 1) := by decide +kernel
theorem dX4_expression_69 : decode cX4_expression 69 = .ok (.putfield 22, 3) := by decide +kernel
theorem dX4_expression_72 : decode cX4_expression 72 = .ok (.aload_n 0, 1) := by decide +kernel
theorem dX4_expression_73 : decode cX4_expression 73 = .ok (.iload_n 1, 1) := by decide +kernel
theorem dX4_expression_74 : decode cX4_expression 74 = .ok (.invokevirtual 75, 3) := by decide +kernel
theorem dX4_expression_77 : decode cX4_expression 77 = .ok (.goto 50, 3) := by decide +kernel
theorem dX4_expression_80 : decode cX4_expression 80 = .ok (.iload 4, 2) := by decide +kernel
theorem dX4_expression_82 : decode cX4_expression 82 = .ok (.bipush 42, 2) := by decide +kernel
theorem dX4_expression_84 : decode cX4_expression 84 = .ok (.if_icmp .eq 17, 3) := by decide +kernel
theorem dX4_expression_87 : decode cX4_expression 87 = .ok (.iload 4, 2) := by decide +kernel
theorem dX4_expression_89 : decode cX4_expression 89 = .ok (.bipush 47, 2) := by decide +kernel
theorem dX4_expression_91 : decode cX4_expression 91 = .ok (.if_icmp .eq 10, 3) := by decide +kernel
theorem dX4_expression_94 : decode cX4_expression 94 = .ok (.iload 4, 2) := by decide +kernel
theorem dX4_expression_96 : decode cX4_expression 96 = .ok (.bipush 37, 2) := by decide +kernel
theorem dX4_expression_98 : decode cX4_expression 98 = .ok (.if_icmp .ne 35, 3) := by decide +kernel
theorem dX4_expression_101 : decode cX4_expression 101 = .ok (.aload_n 0, 1) := by decide +kernel
theorem dX4_expression_102 : decode cX4_expression 102 = .ok (.dup, 1) := by decide +kernel
theorem dX4_expression_103 : decode cX4_expression 103 = .ok (.getfield 22, 3) := by decide +kernel
theorem dX4_expression_106 : decode cX4_expression 106 = .ok (.iconst 1, 1) := by decide +kernel
theorem dX4_expression_107 : decode cX4_expression 107 = .ok (.iadd, 1) := by decide +kernel
theorem dX4_expression_108 : decode cX4_expression 108 = .ok (.putfield 22, 3) := by decide +kernel
theorem dX4_expression_111 : decode cX4_expression 111 = .ok (.aload_n 0, 1) := by decide +kernel
theorem dX4_expression_112 : decode cX4_expression 112 = .ok (.iload_n 1, 1) := by decide +kernel
theorem dX4_expression_113 : decode cX4_expression 113 = .ok (.invokevirtual 75, 3) := by decide +kernel
theorem dX4_expression_116 : decode cX4_expression 116 = .ok (.aload_n 0, 1) := by decide +kernel
theorem dX4_expression_117 : decode cX4_expression 117 = .ok (.getfield 12, 3) := by decide +kernel
theorem dX4_expression_120 : decode cX4_expression 120 = .ok (.iload 4, 2) := by decide +kernel
theorem dX4_expression_122 : decode cX4_expression 122 = .ok (.iconst 0, 1) := by decide +kernel
theorem dX4_expression_123 : decode cX4_expression 123 = .ok (.invokevirtual 45, 3) := by decide +kernel
theorem dX4_expression_126 : decode cX4_expression 126 = .ok (.pop, 1) := by decide +kernel
theorem dX4_expression_127 : decode cX4_expression 127 = .ok (.iinc 3 1, 3) := by decide +kernel
theorem dX4_expression_130 : decode cX4_expression 130 = .ok (.goto (-121), 3) := by decide +kernel
theorem dX4_expression_133 : decode cX4_expression 133 = .ok (.iload_n 2, 1) := by decide +kernel
theorem dX4_expression_134 : decode cX4_expression 134 = .ok (.iconst (-1), 1) := by decide +kernel
theorem dX4_expression_135 : decode cX4_expression 135 = .ok (.if_icmp .eq 13, 3) := by decide +kernel
theorem dX4_expression_138 : decode cX4_expression 138 = .ok (.aload_n 0, 1) := by decide +kernel
theorem dX4_expression_139 : decode cX4_expression 139 = .ok (.getfield 12, 3) := by decide +kernel
theorem dX4_expression_142 : decode cX4_expression 142 = .ok (.iload_n 2, 1) := by decide +kernel
theorem dX4_expression_143 : decode cX4_expression 143 = .ok (.iconst 0, 1) := by decide +kernel
theorem dX4_expression_144 : decode cX4_expression 144 = .ok (.invokevirtual 45, 3) := by decide +kernel
theorem dX4_expression_147 : decode cX4_expression 147 = .ok (.pop, 1) := by decide +kernel
theorem dX4_expression_148 : decode cX4_expression 148 = .ok (.return_, 1) := by decide +kernel
theorem dX4_factor_0 : decode cX4_factor 0 = .ok (.aload_n 0, 1) := by decide +kernel
theorem dX4_factor_1 : decode cX4_factor 1 = .ok (.getfield 25, 3) := by decide +kernel
theorem dX4_factor_4 : decode cX4_factor 4 = .ok (.ifCond .eq 4, 3) := by decide +kernel
theorem dX4_factor_7 : decode cX4_factor 7 = .ok (.return_, 1) := by decide +kernel
theorem dX4_factor_8 : decode cX4_factor 8 = .ok (.aload_n 0, 1) := by decide +kernel
theorem dX4_factor_9 : decode cX4_factor 9 = .ok (.invokevirtual 55, 3) := by decide +kernel
theorem dX4_factor_12 : decode cX4_factor 12 = .ok (.istore_n 2, 1) := by decide +kernel
theorem dX4_factor_13 : decode cX4_factor 13 = .ok (.iload_n 2, 1) := by decide +kernel
theorem dX4_factor_14 : decode cX4_factor 14 = .ok (.invokestatic 78, 3) := by decide +kernel
theorem dX4_factor_17 : decode cX4_factor 17 = .ok (.ifCond .eq 10, 3) := by decide +kernel
theorem dX4_factor_20 : decode cX4_factor 20 = .ok (.aload_n 0, 1) := by decide +kernel
theorem dX4_factor_21 : decode cX4_factor 21 = .ok (.invokevirtual 81, 3) := by decide +kernel
theorem dX4_factor_24 : decode cX4_factor 24 = .ok (.goto 45, 3) := by decide +kernel
theorem dX4_factor_27 : decode cX4_factor 27 = .ok (.iload_n 2, 1) := by decide +kernel
theorem dX4_factor_28 : decode cX4_factor 28 = .ok (.bipush 91, 2) := by decide +kernel
theorem dX4_factor_30 : decode cX4_factor 30 = .ok (.if_icmp .ne 27, 3) := by decide +kernel
theorem dX4_factor_33 : decode cX4_factor 33 = .ok (.aload_n 0, 1) := by decide +kernel
theorem dX4_factor_34 : decode cX4_factor 34 = .ok (.iload_n 1, 1) := by decide +kernel
theorem dX4_factor_35 : decode cX4_factor 35 = .ok (.invokevirtual 71, 3) := by decide +kernel
theorem dX4_factor_38 : decode cX4_factor 38 = .ok (.ifCond .eq 19, 3) := by decide +kernel
theorem dX4_factor_41 : decode cX4_factor 41 = .ok (.aload_n 0, 1) := by decide +kernel
theorem dX4_factor_42 : decode cX4_factor 42 = .ok (.iload_n 1, 1) := by decide +kernel
theorem dX4_factor_43 : decode cX4_factor 43 = .ok (.iconst 1, 1) := by decide +kernel
theorem dX4_factor_44 : decode cX4_factor 44 = .ok (.iadd, 1) := by decide +kernel
theorem dX4_factor_45 : decode cX4_factor 45 = .ok (.invokevirtual 39, 3) := by decide +kernel
theorem dX4_factor_48 : decode cX4_factor 48 = .ok (.aload_n 0, 1) := by decide +kernel
theorem dX4_factor_49 : decode cX4_factor 49 = .ok (.bipush 93, 2) := by decide +kernel
theorem dX4_factor_51 : decode cX4_factor 51 = .ok (.invokevirtual 42, 3) := by decide +kernel
theorem dX4_factor_54 : decode cX4_factor 54 = .ok (.goto 15, 3) := by decide +kernel
theorem dX4_factor_57 : decode cX4_factor 57 = .ok (.aload_n 0, 1) := by decide +kernel
theorem dX4_factor_58 : decode cX4_factor 58 = .ok (.getfield 25, 3) := by decide +kernel
theorem dX4_factor_61 : decode cX4_factor 61 = .ok (.ifCond .ne 8, 3) := by decide +kernel
theorem dX4_factor_64 : decode cX4_factor 64 = .ok (.aload_n 0, 1) := by decide +kernel
theorem dX4_factor_65 : decode cX4_factor 65 = .ok (.iload_n 2, 1) := by decide +kernel
theorem dX4_factor_66 : decode cX4_factor 66 = .ok (.invokevirtual 84, 3) := by decide +kernel
theorem dX4_factor_69 : decode cX4_factor 69 = .ok (.return_, 1) := by decide +kernel
theorem dX4_letter_0 : decode cX4_letter 0 = .ok (.iload_n 1, 1) := by decide +kernel
theorem dX4_letter_1 : decode cX4_letter 1 = .ok (.ifCond .ge 7, 3) := by decide +kernel
theorem dX4_letter_4 : decode cX4_letter 4 = .ok (.iconst (-1), 1) := by decide +kernel
theorem dX4_letter_5 : decode cX4_letter 5 = .ok (.goto 10, 3) := by decide +kernel
theorem dX4_letter_8 : decode cX4_letter 8 = .ok (.ldc 87, 2) := by decide +kernel
theorem dX4_letter_10 : decode cX4_letter 10 = .ok (.iload_n 1, 1) := by decide +kernel
theorem dX4_letter_11 : decode cX4_letter 11 = .ok (.i2c, 1) := by decide +kernel
theorem dX4_letter_12 : decode cX4_letter 12 = .ok (.invokevirtual 89, 3) := by decide +kernel
theorem dX4_letter_15 : decode cX4_letter 15 = .ok (.istore_n 2, 1) := by decide +kernel
theorem dX4_letter_16 : decode cX4_letter 16 = .ok (.iload_n 2, 1) := by decide +kernel
theorem dX4_letter_17 : decode cX4_letter 17 = .ok (.iconst (-1), 1) := by decide +kernel
theorem dX4_letter_18 : decode cX4_letter 18 = .ok (.if_icmp .ne 9, 3) := by decide +kernel
theorem dX4_letter_21 : decode cX4_letter 21 = .ok (.aload_n 0, 1) := by decide +kernel
theorem dX4_letter_22 : decode cX4_letter 22 = .ok (.iconst 1, 1) := by decide +kernel
theorem dX4_letter_23 : decode cX4_letter 23 = .ok (.invokevirtual 59, 3) := by decide +kernel
theorem dX4_letter_26 : decode cX4_letter 26 = .ok (.return_, 1) := by decide +kernel
theorem dX4_letter_27 : decode cX4_letter 27 = .ok (.aload_n 0, 1) := by decide +kernel
theorem dX4_letter_28 : decode cX4_letter 28 = .ok (.getfield 12, 3) := by decide +kernel
theorem dX4_letter_31 : decode cX4_letter 31 = .ok (.iconst 2, 1) := by decide +kernel
theorem dX4_letter_32 : decode cX4_letter 32 = .ok (.iload_n 2, 1) := by decide +kernel
theorem dX4_letter_33 : decode cX4_letter 33 = .ok (.invokevirtual 45, 3) := by decide +kernel
theorem dX4_letter_36 : decode cX4_letter 36 = .ok (.pop, 1) := by decide +kernel
theorem dX4_letter_37 : decode cX4_letter 37 = .ok (.aload_n 0, 1) := by decide +kernel
theorem dX4_letter_38 : decode cX4_letter 38 = .ok (.dup, 1) := by decide +kernel
theorem dX4_letter_39 : decode cX4_letter 39 = .ok (.getfield 22, 3) := by decide +kernel
theorem dX4_letter_42 : decode cX4_letter 42 = .ok (.iconst 1, 1) := by decide +kernel
theorem dX4_letter_43 : decode cX4_letter 43 = .ok (.iadd, 1) := by decide +kernel
theorem dX4_letter_44 : decode cX4_letter 44 = .ok (.putfield 22, 3) := by decide +kernel
theorem dX4_letter_47 : decode cX4_letter 47 = .ok (.return_, 1) := by decide +kernel
theorem dX4_number_0 : decode cX4_number 0 = .ok (.iconst 0, 1) := by decide +kernel
theorem dX4_number_1 : decode cX4_number 1 = .ok (.istore_n 1, 1) := by decide +kernel
theorem dX4_number_2 : decode cX4_number 2 = .ok (.iconst 0, 1) := by decide +kernel
theorem dX4_number_3 : decode cX4_number 3 = .ok (.istore_n 2, 1) := by decide +kernel
theorem dX4_number_4 : decode cX4_number 4 = .ok (.iload_n 2, 1) := by decide +kernel
theorem dX4_number_5 : decode cX4_number 5 = .ok (.iconst 5, 1) := by decide +kernel
theorem dX4_number_6 : decode cX4_number 6 = .ok (.if_icmp .ge 42, 3) := by decide +kernel
theorem dX4_number_9 : decode cX4_number 9 = .ok (.aload_n 0, 1) := by decide +kernel
theorem dX4_number_10 : decode cX4_number 10 = .ok (.invokevirtual 55, 3) := by decide +kernel
theorem dX4_number_13 : decode cX4_number 13 = .ok (.invokestatic 78, 3) := by decide +kernel
theorem dX4_number_16 : decode cX4_number 16 = .ok (.ifCond .eq 32, 3) := by decide +kernel
theorem dX4_number_19 : decode cX4_number 19 = .ok (.bipush 10, 2) := by decide +kernel
theorem dX4_number_21 : decode cX4_number 21 = .ok (.iload_n 1, 1) := by decide +kernel
theorem dX4_number_22 : decode cX4_number 22 = .ok (.imul, 1) := by decide +kernel
theorem dX4_number_23 : decode cX4_number 23 = .ok (.aload_n 0, 1) := by decide +kernel
theorem dX4_number_24 : decode cX4_number 24 = .ok (.invokevirtual 55, 3) := by decide +kernel
theorem dX4_number_27 : decode cX4_number 27 = .ok (.iadd, 1) := by decide +kernel
theorem dX4_number_28 : decode cX4_number 28 = .ok (.bipush 48, 2) := by decide +kernel
theorem dX4_number_30 : decode cX4_number 30 = .ok (.isub, 1) := by decide +kernel
theorem dX4_number_31 : decode cX4_number 31 = .ok (.istore_n 1, 1) := by decide +kernel
theorem dX4_number_32 : decode cX4_number 32 = .ok (.aload_n 0, 1) := by decide +kernel
theorem dX4_number_33 : decode cX4_number 33 = .ok (.dup, 1) := by decide +kernel
theorem dX4_number_34 : decode cX4_number 34 = .ok (.getfield 22, 3) := by decide +kernel
theorem dX4_number_37 : decode cX4_number 37 = .ok (.iconst 1, 1) := by decide +kernel
theorem dX4_number_38 : decode cX4_number 38 = .ok (.iadd, 1) := by decide +kernel
theorem dX4_number_39 : decode cX4_number 39 = .ok (.putfield 22, 3) := by decide +kernel
theorem dX4_number_42 : decode cX4_number 42 = .ok (.iinc 2 1, 3) := by decide +kernel
theorem dX4_number_45 : decode cX4_number 45 = .ok (.goto (-41), 3) := by decide +kernel
theorem dX4_number_48 : decode cX4_number 48 = .ok (.aload_n 0, 1) := by decide +kernel
theorem dX4_number_49 : decode cX4_number 49 = .ok (.invokevirtual 55, 3) := by decide +kernel
theorem dX4_number_52 : decode cX4_number 52 = .ok (.invokestatic 78, 3) := by decide +kernel
theorem dX4_number_55 : decode cX4_number 55 = .ok (.ifCond .eq 8, 3) := by decide +kernel
theorem dX4_number_58 : decode cX4_number 58 = .ok (.aload_n 0, 1) := by decide +kernel
theorem dX4_number_59 : decode cX4_number 59 = .ok (.iconst 2, 1) := by decide +kernel
theorem dX4_number_60 : decode cX4_number 60 = .ok (.invokevirtual 59, 3) := by decide +kernel
theorem dX4_number_63 : decode cX4_number 63 = .ok (.aload_n 0, 1) := by decide +kernel
theorem dX4_number_64 : decode cX4_number 64 = .ok (.getfield 12, 3) := by decide +kernel
theorem dX4_number_67 : decode cX4_number 67 = .ok (.iconst 1, 1) := by decide +kernel
theorem dX4_number_68 : decode cX4_number 68 = .ok (.iload_n 1, 1) := by decide +kernel
theorem dX4_number_69 : decode cX4_number 69 = .ok (.invokevirtual 45, 3) := by decide +kernel
theorem dX4_number_72 : decode cX4_number 72 = .ok (.pop, 1) := by decide +kernel
theorem dX4_number_73 : decode cX4_number 73 = .ok (.return_, 1) := by decide +kernel
theorem dX4_enter_0 : decode cX4_enter 0 = .ok (.iload_n 1, 1) := by decide +kernel
theorem dX4_enter_1 : decode cX4_enter 1 = .ok (.bipush 6, 2) := by decide +kernel
theorem dX4_enter_3 : decode cX4_enter 3 = .ok (.if_icmp .lt 10, 3) := by decide +kernel
theorem dX4_enter_6 : decode cX4_enter 6 = .ok (.aload_n 0, 1) := by decide +kernel
theorem dX4_enter_7 : decode cX4_enter 7 = .ok (.iconst 5, 1) := by decide +kernel
theorem dX4_enter_8 : decode cX4_enter 8 = .ok (.invokevirtual 59, 3) := by decide +kernel
theorem dX4_enter_11 : decode cX4_enter 11 = .ok (.iconst 0, 1) := by decide +kernel
theorem dX4_enter_12 : decode cX4_enter 12 = .ok (.ireturn, 1) := by decide +kernel
theorem dX4_enter_13 : decode cX4_enter 13 = .ok (.aload_n 0, 1) := by decide +kernel
theorem dX4_enter_14 : decode cX4_enter 14 = .ok (.dup, 1) := by decide +kernel
theorem dX4_enter_15 : decode cX4_enter 15 = .ok (.getfield 22, 3) := by decide +kernel
theorem dX4_enter_18 : decode cX4_enter 18 = .ok (.iconst 1, 1) := by decide +kernel
theorem dX4_enter_19 : decode cX4_enter 19 = .ok (.iadd, 1) := by decide +kernel
theorem dX4_enter_20 : decode cX4_enter 20 = .ok (.putfield 22, 3) := by decide +kernel
theorem dX4_enter_23 : decode cX4_enter 23 = .ok (.iconst 1, 1) := by decide +kernel
theorem dX4_enter_24 : decode cX4_enter 24 = .ok (.ireturn, 1) := by decide +kernel
theorem dX4_take_0 : decode cX4_take 0 = .ok (.aload_n 0, 1) := by decide +kernel
theorem dX4_take_1 : decode cX4_take 1 = .ok (.invokevirtual 55, 3) := by decide +kernel
theorem dX4_take_4 : decode cX4_take 4 = .ok (.iload_n 1, 1) := by decide +kernel
theorem dX4_take_5 : decode cX4_take 5 = .ok (.if_icmp .eq 8, 3) := by decide +kernel
theorem dX4_take_8 : decode cX4_take 8 = .ok (.aload_n 0, 1) := by decide +kernel
theorem dX4_take_9 : decode cX4_take 9 = .ok (.iconst 1, 1) := by decide +kernel
theorem dX4_take_10 : decode cX4_take 10 = .ok (.invokevirtual 59, 3) := by decide +kernel
theorem dX4_take_13 : decode cX4_take 13 = .ok (.aload_n 0, 1) := by decide +kernel
theorem dX4_take_14 : decode cX4_take 14 = .ok (.getfield 25, 3) := by decide +kernel
theorem dX4_take_17 : decode cX4_take 17 = .ok (.ifCond .ne 13, 3) := by decide +kernel
theorem dX4_take_20 : decode cX4_take 20 = .ok (.aload_n 0, 1) := by decide +kernel
theorem dX4_take_21 : decode cX4_take 21 = .ok (.dup, 1) := by decide +kernel
theorem dX4_take_22 : decode cX4_take 22 = .ok (.getfield 22, 3) := by decide +kernel
theorem dX4_take_25 : decode cX4_take 25 = .ok (.iconst 1, 1) := by decide +kernel
theorem dX4_take_26 : decode cX4_take 26 = .ok (.iadd, 1) := by decide +kernel
theorem dX4_take_27 : decode cX4_take 27 = .ok (.putfield 22, 3) := by decide +kernel
theorem dX4_take_30 : decode cX4_take 30 = .ok (.return_, 1) := by decide +kernel
theorem dX4_blame_0 : decode cX4_blame 0 = .ok (.aload_n 0, 1) := by decide +kernel
theorem dX4_blame_1 : decode cX4_blame 1 = .ok (.getfield 25, 3) := by decide +kernel
theorem dX4_blame_4 : decode cX4_blame 4 = .ok (.ifCond .ne 17, 3) := by decide +kernel
theorem dX4_blame_7 : decode cX4_blame 7 = .ok (.aload_n 0, 1) := by decide +kernel
theorem dX4_blame_8 : decode cX4_blame 8 = .ok (.sipush (-1000), 3) := by decide +kernel
theorem dX4_blame_11 : decode cX4_blame 11 = .ok (.iload_n 1, 1) := by decide +kernel
theorem dX4_blame_12 : decode cX4_blame 12 = .ok (.imul, 1) := by decide +kernel
theorem dX4_blame_13 : decode cX4_blame 13 = .ok (.aload_n 0, 1) := by decide +kernel
theorem dX4_blame_14 : decode cX4_blame 14 = .ok (.getfield 22, 3) := by decide +kernel
theorem dX4_blame_17 : decode cX4_blame 17 = .ok (.isub, 1) := by decide +kernel
theorem dX4_blame_18 : decode cX4_blame 18 = .ok (.putfield 25, 3) := by decide +kernel
theorem dX4_blame_21 : decode cX4_blame 21 = .ok (.return_, 1) := by decide +kernel
theorem dX4_next_0 : decode cX4_next 0 = .ok (.aload_n 0, 1) := by decide +kernel
theorem dX4_next_1 : decode cX4_next 1 = .ok (.getfield 22, 3) := by decide +kernel
theorem dX4_next_4 : decode cX4_next 4 = .ok (.ifCond .lt 44, 3) := by decide +kernel
theorem dX4_next_7 : decode cX4_next 7 = .ok (.aload_n 0, 1) := by decide +kernel
theorem dX4_next_8 : decode cX4_next 8 = .ok (.getfield 22, 3) := by decide +kernel
theorem dX4_next_11 : decode cX4_next 11 = .ok (.aload_n 0, 1) := by decide +kernel
theorem dX4_next_12 : decode cX4_next 12 = .ok (.getfield 18, 3) := by decide +kernel
theorem dX4_next_15 : decode cX4_next 15 = .ok (.if_icmp .ge 33, 3) := by decide +kernel
theorem dX4_next_18 : decode cX4_next 18 = .ok (.aload_n 0, 1) := by decide +kernel
theorem dX4_next_19 : decode cX4_next 19 = .ok (.getfield 22, 3) := by decide +kernel
theorem dX4_next_22 : decode cX4_next 22 = .ok (.aload_n 0, 1) := by decide +kernel
theorem dX4_next_23 : decode cX4_next 23 = .ok (.getfield 28, 3) := by decide +kernel
theorem dX4_next_26 : decode cX4_next 26 = .ok (.getfield 95, 3) := by decide +kernel
theorem dX4_next_29 : decode cX4_next 29 = .ok (.arraylength, 1) := by decide +kernel
theorem dX4_next_30 : decode cX4_next 30 = .ok (.if_icmp .ge 18, 3) := by decide +kernel
theorem dX4_next_33 : decode cX4_next 33 = .ok (.aload_n 0, 1) := by decide +kernel
theorem dX4_next_34 : decode cX4_next 34 = .ok (.getfield 28, 3) := by decide +kernel
theorem dX4_next_37 : decode cX4_next 37 = .ok (.getfield 95, 3) := by decide +kernel
theorem dX4_next_40 : decode cX4_next 40 = .ok (.aload_n 0, 1) := by decide +kernel
theorem dX4_next_41 : decode cX4_next 41 = .ok (.getfield 22, 3) := by decide +kernel
theorem dX4_next_44 : decode cX4_next 44 = .ok (.iaload, 1) := by decide +kernel
theorem dX4_next_45 : decode cX4_next 45 = .ok (.goto 4, 3) := by decide +kernel
theorem dX4_next_48 : decode cX4_next 48 = .ok (.iconst (-1), 1) := by decide +kernel
theorem dX4_next_49 : decode cX4_next 49 = .ok (.ireturn, 1) := by decide +kernel
theorem dX4_isDigit_0 : decode cX4_isDigit 0 = .ok (.iload_n 0, 1) := by decide +kernel
theorem dX4_isDigit_1 : decode cX4_isDigit 1 = .ok (.bipush 48, 2) := by decide +kernel
theorem dX4_isDigit_3 : decode cX4_isDigit 3 = .ok (.if_icmp .lt 13, 3) := by decide +kernel
theorem dX4_isDigit_6 : decode cX4_isDigit 6 = .ok (.iload_n 0, 1) := by decide +kernel
theorem dX4_isDigit_7 : decode cX4_isDigit 7 = .ok (.bipush 57, 2) := by decide +kernel
theorem dX4_isDigit_9 : decode cX4_isDigit 9 = .ok (.if_icmp .gt 7, 3) := by decide +kernel
theorem dX4_isDigit_12 : decode cX4_isDigit 12 = .ok (.iconst 1, 1) := by decide +kernel
theorem dX4_isDigit_13 : decode cX4_isDigit 13 = .ok (.goto 4, 3) := by decide +kernel
theorem dX4_isDigit_16 : decode cX4_isDigit 16 = .ok (.iconst 0, 1) := by decide +kernel
theorem dX4_isDigit_17 : decode cX4_isDigit 17 = .ok (.ireturn, 1) := by decide +kernel
theorem dX5_init_0 : decode cX5_init 0 = .ok (.aload_n 0, 1) := by decide +kernel
theorem dX5_init_1 : decode cX5_init 1 = .ok (.invokespecial 3, 3) := by decide +kernel
theorem dX5_init_4 : decode cX5_init 4 = .ok (.aload_n 0, 1) := by decide +kernel
theorem dX5_init_5 : decode cX5_init 5 = .ok (.new 9, 3) := by decide +kernel
theorem dX5_init_8 : decode cX5_init 8 = .ok (.dup, 1) := by decide +kernel
theorem dX5_init_9 : decode cX5_init 9 = .ok (.invokespecial 11, 3) := by decide +kernel
theorem dX5_init_12 : decode cX5_init 12 = .ok (.putfield 12, 3) := by decide +kernel
theorem dX5_init_15 : decode cX5_init 15 = .ok (.aload_n 0, 1) := by decide +kernel
theorem dX5_init_16 : decode cX5_init 16 = .ok (.bipush 8, 2) := by decide +kernel
theorem dX5_init_18 : decode cX5_init 18 = .ok (.newarray .int, 2) := by decide +kernel
theorem dX5_init_20 : decode cX5_init 20 = .ok (.putfield 18, 3) := by decide +kernel
theorem dX5_init_23 : decode cX5_init 23 = .ok (.return_, 1) := by decide +kernel
theorem dX5_bears_0 : decode cX5_bears 0 = .ok (.aload_n 0, 1) := by decide +kernel
theorem dX5_bears_1 : decode cX5_bears 1 = .ok (.getfield 12, 3) := by decide +kernel
theorem dX5_bears_4 : decode cX5_bears 4 = .ok (.aload_n 1, 1) := by decide +kernel
theorem dX5_bears_5 : decode cX5_bears 5 = .ok (.iload_n 2, 1) := by decide +kernel
theorem dX5_bears_6 : decode cX5_bears 6 = .ok (.aload_n 1, 1) := by decide +kernel
theorem dX5_bears_7 : decode cX5_bears 7 = .ok (.iload_n 2, 1) := by decide +kernel
theorem dX5_bears_8 : decode cX5_bears 8 = .ok (.invokevirtual 22, 3) := by decide +kernel
theorem dX5_bears_11 : decode cX5_bears 11 = .ok (.invokevirtual 28, 3) := by decide +kernel
theorem dX5_bears_14 : decode cX5_bears 14 = .ok (.aload_n 0, 1) := by decide +kernel
theorem dX5_bears_15 : decode cX5_bears 15 = .ok (.getfield 12, 3) := by decide +kernel
theorem dX5_bears_18 : decode cX5_bears 18 = .ok (.bipush 98, 2) := by decide +kernel
theorem dX5_bears_20 : decode cX5_bears 20 = .ok (.sipush 9999, 3) := by decide +kernel
theorem dX5_bears_23 : decode cX5_bears 23 = .ok (.invokevirtual 32, 3) := by decide +kernel
theorem dX5_bears_26 : decode cX5_bears 26 = .ok (.ireturn, 1) := by decide +kernel
theorem dX5_allows_0 : decode cX5_allows 0 = .ok (.aload_n 0, 1) := by decide +kernel
theorem dX5_allows_1 : decode cX5_allows 1 = .ok (.getfield 12, 3) := by decide +kernel
theorem dX5_allows_4 : decode cX5_allows 4 = .ok (.aload_n 1, 1) := by decide +kernel
theorem dX5_allows_5 : decode cX5_allows 5 = .ok (.iload_n 2, 1) := by decide +kernel
theorem dX5_allows_6 : decode cX5_allows 6 = .ok (.iload_n 3, 1) := by decide +kernel
theorem dX5_allows_7 : decode cX5_allows 7 = .ok (.invokevirtual 28, 3) := by decide +kernel
theorem dX5_allows_10 : decode cX5_allows 10 = .ok (.aload_n 0, 1) := by decide +kernel
theorem dX5_allows_11 : decode cX5_allows 11 = .ok (.getfield 12, 3) := by decide +kernel
theorem dX5_allows_14 : decode cX5_allows 14 = .ok (.bipush 99, 2) := by decide +kernel
theorem dX5_allows_16 : decode cX5_allows 16 = .ok (.iconst 1, 1) := by decide +kernel
theorem dX5_allows_17 : decode cX5_allows 17 = .ok (.invokevirtual 32, 3) := by decide +kernel
theorem dX5_allows_20 : decode cX5_allows 20 = .ok (.ifCond .le 7, 3) := by decide +kernel
theorem dX5_allows_23 : decode cX5_allows 23 = .ok (.iconst 1, 1) := by decide +kernel
theorem dX5_allows_24 : decode cX5_allows 24 = .ok (.goto 4, 3) := by decide +kernel
theorem dX5_allows_27 : decode cX5_allows 27 = .ok (.iconst 0, 1) := by decide +kernel
theorem dX5_allows_28 : decode cX5_allows 28 = .ok (.ireturn, 1) := by decide +kernel
theorem dX5_pull_0 : decode cX5_pull 0 = .ok (.aload_n 0, 1) := by decide +kernel
theorem dX5_pull_1 : decode cX5_pull 1 = .ok (.getfield 12, 3) := by decide +kernel
theorem dX5_pull_4 : decode cX5_pull 4 = .ok (.aload_n 1, 1) := by decide +kernel
theorem dX5_pull_5 : decode cX5_pull 5 = .ok (.iload_n 2, 1) := by decide +kernel
theorem dX5_pull_6 : decode cX5_pull 6 = .ok (.iload_n 3, 1) := by decide +kernel
theorem dX5_pull_7 : decode cX5_pull 7 = .ok (.invokevirtual 36, 3) := by decide +kernel
theorem dX5_pull_10 : decode cX5_pull 10 = .ok (.aload_n 0, 1) := by decide +kernel
theorem dX5_pull_11 : decode cX5_pull 11 = .ok (.getfield 12, 3) := by decide +kernel
theorem dX5_pull_14 : decode cX5_pull 14 = .ok (.bipush 103, 2) := by decide +kernel
theorem dX5_pull_16 : decode cX5_pull 16 = .ok (.sipush 999, 3) := by decide +kernel
theorem dX5_pull_19 : decode cX5_pull 19 = .ok (.invokevirtual 32, 3) := by decide +kernel
theorem dX5_pull_22 : decode cX5_pull 22 = .ok (.ireturn, 1) := by decide +kernel
theorem dX5_strongest_0 : decode cX5_strongest 0 = .ok (.iconst (-1), 1) := by decide +kernel
theorem dX5_strongest_1 : decode cX5_strongest 1 = .ok (.istore_n 3, 1) := by decide +kernel
theorem dX5_strongest_2 : decode cX5_strongest 2 = .ok (.iconst 0, 1) := by decide +kernel
theorem dX5_strongest_3 : decode cX5_strongest 3 = .ok (.istore 4, 2) := by decide +kernel
theorem dX5_strongest_5 : decode cX5_strongest 5 = .ok (.iconst 0, 1) := by decide +kernel
theorem dX5_strongest_6 : decode cX5_strongest 6 = .ok (.istore 5, 2) := by decide +kernel
theorem dX5_strongest_8 : decode cX5_strongest 8 = .ok (.iload 5, 2) := by decide +kernel
theorem dX5_strongest_10 : decode cX5_strongest 10 = .ok (.aload_n 1, 1) := by decide +kernel
theorem dX5_strongest_11 : decode cX5_strongest 11 = .ok (.getfield 39, 3) := by decide +kernel
theorem dX5_strongest_14 : decode cX5_strongest 14 = .ok (.if_icmp .ge 46, 3) := by decide +kernel
theorem dX5_strongest_17 : decode cX5_strongest 17 = .ok (.aload_n 1, 1) := by decide +kernel
theorem dX5_strongest_18 : decode cX5_strongest 18 = .ok (.iload 5, 2) := by decide +kernel
theorem dX5_strongest_20 : decode cX5_strongest 20 = .ok (.invokevirtual 43, 3) := by decide +kernel
theorem dX5_strongest_23 : decode cX5_strongest 23 = .ok (.ifCond .eq 14, 3) := by decide +kernel
theorem dX5_strongest_26 : decode cX5_strongest 26 = .ok (.aload_n 0, 1) := by decide +kernel
theorem dX5_strongest_27 : decode cX5_strongest 27 = .ok (.aload_n 1, 1) := by decide +kernel
theorem dX5_strongest_28 : decode cX5_strongest 28 = .ok (.iload 5, 2) := by decide +kernel
theorem dX5_strongest_30 : decode cX5_strongest 30 = .ok (.iload_n 2, 1) := by decide +kernel
theorem dX5_strongest_31 : decode cX5_strongest 31 = .ok (.invokevirtual 47, 3) := by decide +kernel
theorem dX5_strongest_34 : decode cX5_strongest 34 = .ok (.goto 4, 3) := by decide +kernel
theorem dX5_strongest_37 : decode cX5_strongest 37 = .ok (.iconst 0, 1) := by decide +kernel
theorem dX5_strongest_38 : decode cX5_strongest 38 = .ok (.istore 6, 2) := by decide +kernel
theorem dX5_strongest_40 : decode cX5_strongest 40 = .ok (.iload 6, 2) := by decide +kernel
theorem dX5_strongest_42 : decode cX5_strongest 42 = .ok (.iload 4, 2) := by decide +kernel
theorem dX5_strongest_44 : decode cX5_strongest 44 = .ok (.if_icmp .le 10, 3) := by decide +kernel
theorem dX5_strongest_47 : decode cX5_strongest 47 = .ok (.iload 6, 2) := by decide +kernel
theorem dX5_strongest_49 : decode cX5_strongest 49 = .ok (.istore 4, 2) := by decide +kernel
theorem dX5_strongest_51 : decode cX5_strongest 51 = .ok (.iload 5, 2) := by decide +kernel
theorem dX5_strongest_53 : decode cX5_strongest 53 = .ok (.istore_n 3, 1) := by decide +kernel
theorem dX5_strongest_54 : decode cX5_strongest 54 = .ok (.iinc 5 1, 3) := by decide +kernel
theorem dX5_strongest_57 : decode cX5_strongest 57 = .ok (.goto (-49), 3) := by decide +kernel
theorem dX5_strongest_60 : decode cX5_strongest 60 = .ok (.iload_n 3, 1) := by decide +kernel
theorem dX5_strongest_61 : decode cX5_strongest 61 = .ok (.ireturn, 1) := by decide +kernel
theorem dX5_pass_0 : decode cX5_pass 0 = .ok (.aload_n 1, 1) := by decide +kernel
theorem dX5_pass_1 : decode cX5_pass 1 = .ok (.invokevirtual 51, 3) := by decide +kernel
theorem dX5_pass_4 : decode cX5_pass 4 = .ok (.istore_n 3, 1) := by decide +kernel
theorem dX5_pass_5 : decode cX5_pass 5 = .ok (.iconst 0, 1) := by decide +kernel
theorem dX5_pass_6 : decode cX5_pass 6 = .ok (.istore 4, 2) := by decide +kernel
theorem dX5_pass_8 : decode cX5_pass 8 = .ok (.iload 4, 2) := by decide +kernel
theorem dX5_pass_10 : decode cX5_pass 10 = .ok (.iload_n 2, 1) := by decide +kernel
theorem dX5_pass_11 : decode cX5_pass 11 = .ok (.if_icmp .ge 75, 3) := by decide +kernel
theorem dX5_pass_14 : decode cX5_pass 14 = .ok (.aload_n 0, 1) := by decide +kernel
theorem dX5_pass_15 : decode cX5_pass 15 = .ok (.aload_n 1, 1) := by decide +kernel
theorem dX5_pass_16 : decode cX5_pass 16 = .ok (.invokevirtual 55, 3) := by decide +kernel
theorem dX5_pass_19 : decode cX5_pass 19 = .ok (.iconst 0, 1) := by decide +kernel
theorem dX5_pass_20 : decode cX5_pass 20 = .ok (.istore 5, 2) := by decide +kernel
theorem dX5_pass_22 : decode cX5_pass 22 = .ok (.iload 5, 2) := by decide +kernel
theorem dX5_pass_24 : decode cX5_pass 24 = .ok (.aload_n 1, 1) := by decide +kernel
theorem dX5_pass_25 : decode cX5_pass 25 = .ok (.getfield 59, 3) := by decide +kernel
theorem dX5_pass_28 : decode cX5_pass 28 = .ok (.if_icmp .ge 36, 3) := by decide +kernel
theorem dX5_pass_31 : decode cX5_pass 31 = .ok (.aload_n 0, 1) := by decide +kernel
theorem dX5_pass_32 : decode cX5_pass 32 = .ok (.aload_n 1, 1) := by decide +kernel
theorem dX5_pass_33 : decode cX5_pass 33 = .ok (.iload 5, 2) := by decide +kernel
theorem dX5_pass_35 : decode cX5_pass 35 = .ok (.aload_n 1, 1) := by decide +kernel
theorem dX5_pass_36 : decode cX5_pass 36 = .ok (.iload 5, 2) := by decide +kernel
theorem dX5_pass_38 : decode cX5_pass 38 = .ok (.invokevirtual 62, 3) := by decide +kernel
theorem dX5_pass_41 : decode cX5_pass 41 = .ok (.ifCond .eq 13, 3) := by decide +kernel
theorem dX5_pass_44 : decode cX5_pass 44 = .ok (.aload_n 0, 1) := by decide +kernel
theorem dX5_pass_45 : decode cX5_pass 45 = .ok (.aload_n 1, 1) := by decide +kernel
theorem dX5_pass_46 : decode cX5_pass 46 = .ok (.iload 5, 2) := by decide +kernel
theorem dX5_pass_48 : decode cX5_pass 48 = .ok (.invokevirtual 65, 3) := by decide +kernel
theorem dX5_pass_51 : decode cX5_pass 51 = .ok (.goto 4, 3) := by decide +kernel
theorem dX5_pass_54 : decode cX5_pass 54 = .ok (.iconst (-1), 1) := by decide +kernel
theorem dX5_pass_55 : decode cX5_pass 55 = .ok (.invokevirtual 69, 3) := by decide +kernel
theorem dX5_pass_58 : decode cX5_pass 58 = .ok (.iinc 5 1, 3) := by decide +kernel
theorem dX5_pass_61 : decode cX5_pass 61 = .ok (.goto (-39), 3) := by decide +kernel
theorem dX5_pass_64 : decode cX5_pass 64 = .ok (.aload_n 0, 1) := by decide +kernel
theorem dX5_pass_65 : decode cX5_pass 65 = .ok (.aload_n 1, 1) := by decide +kernel
theorem dX5_pass_66 : decode cX5_pass 66 = .ok (.invokevirtual 72, 3) := by decide +kernel
theorem dX5_pass_69 : decode cX5_pass 69 = .ok (.pop, 1) := by decide +kernel
theorem dX5_pass_70 : decode cX5_pass 70 = .ok (.aload_n 1, 1) := by decide +kernel
theorem dX5_pass_71 : decode cX5_pass 71 = .ok (.dup, 1) := by decide +kernel
theorem dX5_pass_72 : decode cX5_pass 72 = .ok (.getfield 76, 3) := by decide +kernel
theorem dX5_pass_75 : decode cX5_pass 75 = .ok (.iconst 1, 1) := by decide +kernel
theorem dX5_pass_76 : decode cX5_pass 76 = .ok (.iadd, 1) := by decide +kernel
theorem dX5_pass_77 : decode cX5_pass 77 = .ok (.putfield 76, 3) := by decide +kernel
theorem dX5_pass_80 : decode cX5_pass 80 = .ok (.iinc 4 1, 3) := by decide +kernel
theorem dX5_pass_83 : decode cX5_pass 83 = .ok (.goto (-75), 3) := by decide +kernel
theorem dX5_pass_86 : decode cX5_pass 86 = .ok (.aload_n 1, 1) := by decide +kernel
theorem dX5_pass_87 : decode cX5_pass 87 = .ok (.invokevirtual 51, 3) := by decide +kernel
theorem dX5_pass_90 : decode cX5_pass 90 = .ok (.iload_n 3, 1) := by decide +kernel
theorem dX5_pass_91 : decode cX5_pass 91 = .ok (.isub, 1) := by decide +kernel
theorem dX5_pass_92 : decode cX5_pass 92 = .ok (.ireturn, 1) := by decide +kernel
theorem dX5_thaw_0 : decode cX5_thaw 0 = .ok (.aload_n 0, 1) := by decide +kernel
theorem dX5_thaw_1 : decode cX5_thaw 1 = .ok (.getfield 12, 3) := by decide +kernel
theorem dX5_thaw_4 : decode cX5_thaw 4 = .ok (.bipush 116, 2) := by decide +kernel
theorem dX5_thaw_6 : decode cX5_thaw 6 = .ok (.invokevirtual 79, 3) := by decide +kernel
theorem dX5_thaw_9 : decode cX5_thaw 9 = .ok (.ifCond .ne 4, 3) := by decide +kernel
theorem dX5_thaw_12 : decode cX5_thaw 12 = .ok (.return_, 1) := by decide +kernel
theorem dX5_thaw_13 : decode cX5_thaw 13 = .ok (.iconst 0, 1) := by decide +kernel
theorem dX5_thaw_14 : decode cX5_thaw 14 = .ok (.istore_n 2, 1) := by decide +kernel
theorem dX5_thaw_15 : decode cX5_thaw 15 = .ok (.iload_n 2, 1) := by decide +kernel
theorem dX5_thaw_16 : decode cX5_thaw 16 = .ok (.sipush 256, 3) := by decide +kernel
theorem dX5_thaw_19 : decode cX5_thaw 19 = .ok (.if_icmp .ge 68, 3) := by decide +kernel
theorem dX5_thaw_22 : decode cX5_thaw 22 = .ok (.aload_n 1, 1) := by decide +kernel
theorem dX5_thaw_23 : decode cX5_thaw 23 = .ok (.getfield 82, 3) := by decide +kernel
theorem dX5_thaw_26 : decode cX5_thaw 26 = .ok (.iload_n 2, 1) := by decide +kernel
theorem dX5_thaw_27 : decode cX5_thaw 27 = .ok (.iaload, 1) := by decide +kernel
theorem dX5_thaw_28 : decode cX5_thaw 28 = .ok (.ifCond .le 53, 3) := by decide +kernel
theorem dX5_thaw_31 : decode cX5_thaw 31 = .ok (.aload_n 1, 1) := by decide +kernel
theorem dX5_thaw_32 : decode cX5_thaw 32 = .ok (.iload_n 2, 1) := by decide +kernel
theorem dX5_thaw_33 : decode cX5_thaw 33 = .ok (.invokevirtual 85, 3) := by decide +kernel
theorem dX5_thaw_36 : decode cX5_thaw 36 = .ok (.ifCond .ne 45, 3) := by decide +kernel
theorem dX5_thaw_39 : decode cX5_thaw 39 = .ok (.aload_n 0, 1) := by decide +kernel
theorem dX5_thaw_40 : decode cX5_thaw 40 = .ok (.getfield 12, 3) := by decide +kernel
theorem dX5_thaw_43 : decode cX5_thaw 43 = .ok (.aload_n 1, 1) := by decide +kernel
theorem dX5_thaw_44 : decode cX5_thaw 44 = .ok (.iload_n 2, 1) := by decide +kernel
theorem dX5_thaw_45 : decode cX5_thaw 45 = .ok (.aload_n 1, 1) := by decide +kernel
theorem dX5_thaw_46 : decode cX5_thaw 46 = .ok (.iload_n 2, 1) := by decide +kernel
theorem dX5_thaw_47 : decode cX5_thaw 47 = .ok (.invokevirtual 22, 3) := by decide +kernel
theorem dX5_thaw_50 : decode cX5_thaw 50 = .ok (.invokevirtual 28, 3) := by decide +kernel
theorem dX5_thaw_53 : decode cX5_thaw 53 = .ok (.aload_n 1, 1) := by decide +kernel
theorem dX5_thaw_54 : decode cX5_thaw 54 = .ok (.getfield 82, 3) := by decide +kernel
theorem dX5_thaw_57 : decode cX5_thaw 57 = .ok (.iload_n 2, 1) := by decide +kernel
theorem dX5_thaw_58 : decode cX5_thaw 58 = .ok (.iconst 0, 1) := by decide +kernel
theorem dX5_thaw_59 : decode cX5_thaw 59 = .ok (.aload_n 1, 1) := by decide +kernel
theorem dX5_thaw_60 : decode cX5_thaw 60 = .ok (.getfield 82, 3) := by decide +kernel
theorem dX5_thaw_63 : decode cX5_thaw 63 = .ok (.iload_n 2, 1) := by decide +kernel
theorem dX5_thaw_64 : decode cX5_thaw 64 = .ok (.iaload, 1) := by decide +kernel
theorem dX5_thaw_65 : decode cX5_thaw 65 = .ok (.aload_n 0, 1) := by decide +kernel
theorem dX5_thaw_66 : decode cX5_thaw 66 = .ok (.getfield 12, 3) := by decide +kernel
theorem dX5_thaw_69 : decode cX5_thaw 69 = .ok (.bipush 116, 2) := by decide +kernel
theorem dX5_thaw_71 : decode cX5_thaw 71 = .ok (.bipush 9, 2) := by decide +kernel
theorem dX5_thaw_73 : decode cX5_thaw 73 = .ok (.invokevirtual 32, 3) := by decide +kernel
theorem dX5_thaw_76 : decode cX5_thaw 76 = .ok (.isub, 1) := by decide +kernel
theorem dX5_thaw_77 : decode cX5_thaw 77 = .ok (.invokestatic 88, 3) := by decide +kernel
theorem dX5_thaw_80 : decode cX5_thaw 80 = .ok (.iastore, 1) := by decide +kernel
theorem dX5_thaw_81 : decode cX5_thaw 81 = .ok (.iinc 2 1, 3) := by decide +kernel
theorem dX5_thaw_84 : decode cX5_thaw 84 = .ok (.goto (-69), 3) := by decide +kernel
theorem dX5_thaw_87 : decode cX5_thaw 87 = .ok (.return_, 1) := by decide +kernel
theorem dX5_walk_0 : decode cX5_walk 0 = .ok (.iload_n 3, 1) := by decide +kernel
theorem dX5_walk_1 : decode cX5_walk 1 = .ok (.iconst (-1), 1) := by decide +kernel
theorem dX5_walk_2 : decode cX5_walk 2 = .ok (.if_icmp .ne 4, 3) := by decide +kernel
theorem dX5_walk_5 : decode cX5_walk 5 = .ok (.return_, 1) := by decide +kernel
theorem dX5_walk_6 : decode cX5_walk 6 = .ok (.aload_n 1, 1) := by decide +kernel
theorem dX5_walk_7 : decode cX5_walk 7 = .ok (.getfield 93, 3) := by decide +kernel
theorem dX5_walk_10 : decode cX5_walk 10 = .ok (.iload_n 2, 1) := by decide +kernel
theorem dX5_walk_11 : decode cX5_walk 11 = .ok (.iaload, 1) := by decide +kernel
theorem dX5_walk_12 : decode cX5_walk 12 = .ok (.istore 4, 2) := by decide +kernel
theorem dX5_walk_14 : decode cX5_walk 14 = .ok (.aload_n 1, 1) := by decide +kernel
theorem dX5_walk_15 : decode cX5_walk 15 = .ok (.getfield 96, 3) := by decide +kernel
theorem dX5_walk_18 : decode cX5_walk 18 = .ok (.iload_n 3, 1) := by decide +kernel
theorem dX5_walk_19 : decode cX5_walk 19 = .ok (.iaload, 1) := by decide +kernel
theorem dX5_walk_20 : decode cX5_walk 20 = .ok (.istore 5, 2) := by decide +kernel
theorem dX5_walk_22 : decode cX5_walk 22 = .ok (.iload 4, 2) := by decide +kernel
theorem dX5_walk_24 : decode cX5_walk 24 = .ok (.iload 5, 2) := by decide +kernel
theorem dX5_walk_26 : decode cX5_walk 26 = .ok (.invokestatic 99, 3) := by decide +kernel
theorem dX5_walk_29 : decode cX5_walk 29 = .ok (.iconst 1, 1) := by decide +kernel
theorem dX5_walk_30 : decode cX5_walk 30 = .ok (.if_icmp .gt 4, 3) := by decide +kernel
theorem dX5_walk_33 : decode cX5_walk 33 = .ok (.return_, 1) := by decide +kernel
theorem dX5_walk_34 : decode cX5_walk 34 = .ok (.iload 5, 2) := by decide +kernel
theorem dX5_walk_36 : decode cX5_walk 36 = .ok (.invokestatic 104, 3) := by decide +kernel
theorem dX5_walk_39 : decode cX5_walk 39 = .ok (.iload 4, 2) := by decide +kernel
theorem dX5_walk_41 : decode cX5_walk 41 = .ok (.invokestatic 104, 3) := by decide +kernel
theorem dX5_walk_44 : decode cX5_walk 44 = .ok (.invokestatic 107, 3) := by decide +kernel
theorem dX5_walk_47 : decode cX5_walk 47 = .ok (.istore 6, 2) := by decide +kernel
theorem dX5_walk_49 : decode cX5_walk 49 = .ok (.iload 5, 2) := by decide +kernel
theorem dX5_walk_51 : decode cX5_walk 51 = .ok (.invokestatic 112, 3) := by decide +kernel
theorem dX5_walk_54 : decode cX5_walk 54 = .ok (.iload 4, 2) := by decide +kernel
theorem dX5_walk_56 : decode cX5_walk 56 = .ok (.invokestatic 112, 3) := by decide +kernel
theorem dX5_walk_59 : decode cX5_walk 59 = .ok (.invokestatic 107, 3) := by decide +kernel
theorem dX5_walk_62 : decode cX5_walk 62 = .ok (.istore 7, 2) := by decide +kernel
theorem dX5_walk_64 : decode cX5_walk 64 = .ok (.iload 6, 2) := by decide +kernel
theorem dX5_walk_66 : decode cX5_walk 66 = .ok (.ifCond .eq 18, 3) := by decide +kernel
theorem dX5_walk_69 : decode cX5_walk 69 = .ok (.aload_n 1, 1) := by decide +kernel
theorem dX5_walk_70 : decode cX5_walk 70 = .ok (.iload_n 2, 1) := by decide +kernel
theorem dX5_walk_71 : decode cX5_walk 71 = .ok (.iload 6, 2) := by decide +kernel
theorem dX5_walk_73 : decode cX5_walk 73 = .ok (.iconst 0, 1) := by decide +kernel
theorem dX5_walk_74 : decode cX5_walk 74 = .ok (.invokevirtual 115, 3) := by decide +kernel
theorem dX5_walk_77 : decode cX5_walk 77 = .ok (.ifCond .eq 7, 3) := by decide +kernel
theorem dX5_walk_80 : decode cX5_walk 80 = .ok (.iconst 1, 1) := by decide +kernel
theorem dX5_walk_81 : decode cX5_walk 81 = .ok (.goto 4, 3) := by decide +kernel
theorem dX5_walk_84 : decode cX5_walk 84 = .ok (.iconst 0, 1) := by decide +kernel
theorem dX5_walk_85 : decode cX5_walk 85 = .ok (.istore 8, 2) := by decide +kernel
theorem dX5_walk_87 : decode cX5_walk 87 = .ok (.iload 8, 2) := by decide +kernel
theorem dX5_walk_89 : decode cX5_walk 89 = .ok (.ifCond .ne 17, 3) := by decide +kernel
theorem dX5_walk_92 : decode cX5_walk 92 = .ok (.iload 7, 2) := by decide +kernel
theorem dX5_walk_94 : decode cX5_walk 94 = .ok (.ifCond .eq 12, 3) := by decide +kernel
theorem dX5_walk_97 : decode cX5_walk 97 = .ok (.aload_n 1, 1) := by decide +kernel
theorem dX5_walk_98 : decode cX5_walk 98 = .ok (.iload_n 2, 1) := by decide +kernel
theorem dX5_walk_99 : decode cX5_walk 99 = .ok (.iconst 0, 1) := by decide +kernel
theorem dX5_walk_100 : decode cX5_walk 100 = .ok (.iload 7, 2) := by decide +kernel
theorem dX5_walk_102 : decode cX5_walk 102 = .ok (.invokevirtual 115, 3) := by decide +kernel
theorem dX5_walk_105 : decode cX5_walk 105 = .ok (.pop, 1) := by decide +kernel
theorem dX5_walk_106 : decode cX5_walk 106 = .ok (.return_, 1) := by decide +kernel
theorem dX5_settleAll_0 : decode cX5_settleAll 0 = .ok (.iconst 0, 1) := by decide +kernel
theorem dX5_settleAll_1 : decode cX5_settleAll 1 = .ok (.istore_n 2, 1) := by decide +kernel
theorem dX5_settleAll_2 : decode cX5_settleAll 2 = .ok (.iconst 0, 1) := by decide +kernel
theorem dX5_settleAll_3 : decode cX5_settleAll 3 = .ok (.istore_n 3, 1) := by decide +kernel
theorem dX5_settleAll_4 : decode cX5_settleAll 4 = .ok (.iload_n 3, 1) := by decide +kernel
theorem dX5_settleAll_5 : decode cX5_settleAll 5 = .ok (.bipush 8, 2) := by decide +kernel
theorem dX5_settleAll_7 : decode cX5_settleAll 7 = .ok (.if_icmp .ge 56, 3) := by decide +kernel
theorem dX5_settleAll_10 : decode cX5_settleAll 10 = .ok (.aload_n 0, 1) := by decide +kernel
theorem dX5_settleAll_11 : decode cX5_settleAll 11 = .ok (.aload_n 1, 1) := by decide +kernel
theorem dX5_settleAll_12 : decode cX5_settleAll 12 = .ok (.invokevirtual 119, 3) := by decide +kernel
theorem dX5_settleAll_15 : decode cX5_settleAll 15 = .ok (.istore 4, 2) := by decide +kernel
theorem dX5_settleAll_17 : decode cX5_settleAll 17 = .ok (.iload 4, 2) := by decide +kernel
theorem dX5_settleAll_19 : decode cX5_settleAll 19 = .ok (.ifCond .ne 6, 3) := by decide +kernel
theorem dX5_settleAll_22 : decode cX5_settleAll 22 = .ok (.goto 41, 3) := by decide +kernel
theorem dX5_settleAll_25 : decode cX5_settleAll 25 = .ok (.iconst 0, 1) := by decide +kernel
theorem dX5_settleAll_26 : decode cX5_settleAll 26 = .ok (.istore 5, 2) := by decide +kernel
theorem dX5_settleAll_28 : decode cX5_settleAll 28 = .ok (.iload 5, 2) := by decide +kernel
theorem dX5_settleAll_30 : decode cX5_settleAll 30 = .ok (.iload 4, 2) := by decide +kernel
theorem dX5_settleAll_32 : decode cX5_settleAll 32 = .ok (.if_icmp .ge 20, 3) := by decide +kernel
theorem dX5_settleAll_35 : decode cX5_settleAll 35 = .ok (.aload_n 1, 1) := by decide +kernel
theorem dX5_settleAll_36 : decode cX5_settleAll 36 = .ok (.aload_n 0, 1) := by decide +kernel
theorem dX5_settleAll_37 : decode cX5_settleAll 37 = .ok (.getfield 18, 3) := by decide +kernel
theorem dX5_settleAll_40 : decode cX5_settleAll 40 = .ok (.iload 5, 2) := by decide +kernel
theorem dX5_settleAll_42 : decode cX5_settleAll 42 = .ok (.iaload, 1) := by decide +kernel
theorem dX5_settleAll_43 : decode cX5_settleAll 43 = .ok (.invokevirtual 122, 3) := by decide +kernel
theorem dX5_settleAll_46 : decode cX5_settleAll 46 = .ok (.iinc 5 1, 3) := by decide +kernel
theorem dX5_settleAll_49 : decode cX5_settleAll 49 = .ok (.goto (-21), 3) := by decide +kernel
theorem dX5_settleAll_52 : decode cX5_settleAll 52 = .ok (.iload_n 2, 1) := by decide +kernel
theorem dX5_settleAll_53 : decode cX5_settleAll 53 = .ok (.iload 4, 2) := by decide +kernel
theorem dX5_settleAll_55 : decode cX5_settleAll 55 = .ok (.iadd, 1) := by decide +kernel
theorem dX5_settleAll_56 : decode cX5_settleAll 56 = .ok (.istore_n 2, 1) := by decide +kernel
theorem dX5_settleAll_57 : decode cX5_settleAll 57 = .ok (.iinc 3 1, 3) := by decide +kernel
theorem dX5_settleAll_60 : decode cX5_settleAll 60 = .ok (.goto (-56), 3) := by decide +kernel
theorem dX5_settleAll_63 : decode cX5_settleAll 63 = .ok (.iload_n 2, 1) := by decide +kernel
theorem dX5_settleAll_64 : decode cX5_settleAll 64 = .ok (.ireturn, 1) := by decide +kernel
theorem dX5_findOverloaded_0 : decode cX5_findOverloaded 0 = .ok (.iconst 0, 1) := by decide +kernel
theorem dX5_findOverloaded_1 : decode cX5_findOverloaded 1 = .ok (.istore_n 2, 1) := by decide +kernel
theorem dX5_findOverloaded_2 : decode cX5_findOverloaded 2 = .ok (.iconst 0, 1) := by decide +kernel
theorem dX5_findOverloaded_3 : decode cX5_findOverloaded 3 = .ok (.istore_n 3, 1) := by decide +kernel
theorem dX5_findOverloaded_4 : decode cX5_findOverloaded 4 = .ok (.iload_n 3, 1) := by decide +kernel
theorem dX5_findOverloaded_5 : decode cX5_findOverloaded 5 = .ok (.aload_n 1, 1) := by decide +kernel
theorem dX5_findOverloaded_6 : decode cX5_findOverloaded 6 = .ok (.getfield 59, 3) := by decide +kernel
theorem dX5_findOverloaded_9 : decode cX5_findOverloaded 9 = .ok (.if_icmp .ge 63, 3) := by decide +kernel
theorem dX5_findOverloaded_12 : decode cX5_findOverloaded 12 = .ok (.aload_n 1, 1) := by decide +kernel
theorem dX5_findOverloaded_13 : decode cX5_findOverloaded 13 = .ok (.getfield 93, 3) := by decide +kernel
theorem dX5_findOverloaded_16 : decode cX5_findOverloaded 16 = .ok (.iload_n 3, 1) := by decide +kernel
theorem dX5_findOverloaded_17 : decode cX5_findOverloaded 17 = .ok (.iaload, 1) := by decide +kernel
theorem dX5_findOverloaded_18 : decode cX5_findOverloaded 18 = .ok (.istore 4, 2) := by decide +kernel
theorem dX5_findOverloaded_20 : decode cX5_findOverloaded 20 = .ok (.aload_n 1, 1) := by decide +kernel
theorem dX5_findOverloaded_21 : decode cX5_findOverloaded 21 = .ok (.iload 4, 2) := by decide +kernel
theorem dX5_findOverloaded_23 : decode cX5_findOverloaded 23 = .ok (.invokevirtual 126, 3) := by decide +kernel
theorem dX5_findOverloaded_26 : decode cX5_findOverloaded 26 = .ok (.ifCond .eq 40, 3) := by decide +kernel
theorem dX5_findOverloaded_29 : decode cX5_findOverloaded 29 = .ok (.aload_n 0, 1) := by decide +kernel
theorem dX5_findOverloaded_30 : decode cX5_findOverloaded 30 = .ok (.iload 4, 2) := by decide +kernel
theorem dX5_findOverloaded_32 : decode cX5_findOverloaded 32 = .ok (.iload_n 2, 1) := by decide +kernel
theorem dX5_findOverloaded_33 : decode cX5_findOverloaded 33 = .ok (.invokevirtual 129, 3) := by decide +kernel
theorem dX5_findOverloaded_36 : decode cX5_findOverloaded 36 = .ok (.ifCond .ne 30, 3) := by decide +kernel
theorem dX5_findOverloaded_39 : decode cX5_findOverloaded 39 = .ok (.aload_n 1, 1) := by decide +kernel
theorem dX5_findOverloaded_40 : decode cX5_findOverloaded 40 = .ok (.iload 4, 2) := by decide +kernel
theorem dX5_findOverloaded_42 : decode cX5_findOverloaded 42 = .ok (.invokevirtual 133, 3) := by decide +kernel
theorem dX5_findOverloaded_45 : decode cX5_findOverloaded 45 = .ok (.aload_n 0, 1) := by decide +kernel
theorem dX5_findOverloaded_46 : decode cX5_findOverloaded 46 = .ok (.aload_n 1, 1) := by decide +kernel
theorem dX5_findOverloaded_47 : decode cX5_findOverloaded 47 = .ok (.iload 4, 2) := by decide +kernel
theorem dX5_findOverloaded_49 : decode cX5_findOverloaded 49 = .ok (.invokevirtual 136, 3) := by decide +kernel
theorem dX5_findOverloaded_52 : decode cX5_findOverloaded 52 = .ok (.if_icmp .le 14, 3) := by decide +kernel
theorem dX5_findOverloaded_55 : decode cX5_findOverloaded 55 = .ok (.aload_n 0, 1) := by decide +kernel
theorem dX5_findOverloaded_56 : decode cX5_findOverloaded 56 = .ok (.getfield 18, 3) := by decide +kernel
theorem dX5_findOverloaded_59 : decode cX5_findOverloaded 59 = .ok (.iload_n 2, 1) := by decide +kernel
theorem dX5_findOverloaded_60 : decode cX5_findOverloaded 60 = .ok (.iload 4, 2) := by decide +kernel
theorem dX5_findOverloaded_62 : decode cX5_findOverloaded 62 = .ok (.iastore, 1) := by decide +kernel
theorem dX5_findOverloaded_63 : decode cX5_findOverloaded 63 = .ok (.iinc 2 1, 3) := by decide +kernel
theorem dX5_findOverloaded_66 : decode cX5_findOverloaded 66 = .ok (.iinc 3 1, 3) := by decide +kernel
theorem dX5_findOverloaded_69 : decode cX5_findOverloaded 69 = .ok (.goto (-65), 3) := by decide +kernel
theorem dX5_findOverloaded_72 : decode cX5_findOverloaded 72 = .ok (.iload_n 2, 1) := by decide +kernel
theorem dX5_findOverloaded_73 : decode cX5_findOverloaded 73 = .ok (.ireturn, 1) := by decide +kernel
theorem dX5_isListed_0 : decode cX5_isListed 0 = .ok (.iconst 0, 1) := by decide +kernel
theorem dX5_isListed_1 : decode cX5_isListed 1 = .ok (.istore_n 3, 1) := by decide +kernel
theorem dX5_isListed_2 : decode cX5_isListed 2 = .ok (.iload_n 3, 1) := by decide +kernel
theorem dX5_isListed_3 : decode cX5_isListed 3 = .ok (.iload_n 2, 1) := by decide +kernel
theorem dX5_isListed_4 : decode cX5_isListed 4 = .ok (.if_icmp .ge 21, 3) := by decide +kernel
theorem dX5_isListed_7 : decode cX5_isListed 7 = .ok (.aload_n 0, 1) := by decide +kernel
theorem dX5_isListed_8 : decode cX5_isListed 8 = .ok (.getfield 18, 3) := by decide +kernel
theorem dX5_isListed_11 : decode cX5_isListed 11 = .ok (.iload_n 3, 1) := by decide +kernel
theorem dX5_isListed_12 : decode cX5_isListed 12 = .ok (.iaload, 1) := by decide +kernel
theorem dX5_isListed_13 : decode cX5_isListed 13 = .ok (.iload_n 1, 1) := by decide +kernel
theorem dX5_isListed_14 : decode cX5_isListed 14 = .ok (.if_icmp .ne 5, 3) := by decide +kernel
theorem dX5_isListed_17 : decode cX5_isListed 17 = .ok (.iconst 1, 1) := by decide +kernel
theorem dX5_isListed_18 : decode cX5_isListed 18 = .ok (.ireturn, 1) := by decide +kernel
theorem dX5_isListed_19 : decode cX5_isListed 19 = .ok (.iinc 3 1, 3) := by decide +kernel
theorem dX5_isListed_22 : decode cX5_isListed 22 = .ok (.goto (-20), 3) := by decide +kernel
theorem dX5_isListed_25 : decode cX5_isListed 25 = .ok (.iconst 0, 1) := by decide +kernel
theorem dX5_isListed_26 : decode cX5_isListed 26 = .ok (.ireturn, 1) := by decide +kernel
theorem dX5_fellsJust_0 : decode cX5_fellsJust 0 = .ok (.aload_n 1, 1) := by decide +kernel
theorem dX5_fellsJust_1 : decode cX5_fellsJust 1 = .ok (.iload_n 2, 1) := by decide +kernel
theorem dX5_fellsJust_2 : decode cX5_fellsJust 2 = .ok (.invokevirtual 122, 3) := by decide +kernel
theorem dX5_fellsJust_5 : decode cX5_fellsJust 5 = .ok (.iconst 1, 1) := by decide +kernel
theorem dX5_fellsJust_6 : decode cX5_fellsJust 6 = .ok (.aload_n 0, 1) := by decide +kernel
theorem dX5_fellsJust_7 : decode cX5_fellsJust 7 = .ok (.aload_n 1, 1) := by decide +kernel
theorem dX5_fellsJust_8 : decode cX5_fellsJust 8 = .ok (.invokevirtual 72, 3) := by decide +kernel
theorem dX5_fellsJust_11 : decode cX5_fellsJust 11 = .ok (.iadd, 1) := by decide +kernel
theorem dX5_fellsJust_12 : decode cX5_fellsJust 12 = .ok (.istore 4, 2) := by decide +kernel
theorem dX5_fellsJust_14 : decode cX5_fellsJust 14 = .ok (.iload 4, 2) := by decide +kernel
theorem dX5_fellsJust_16 : decode cX5_fellsJust 16 = .ok (.aload_n 3, 1) := by decide +kernel
theorem dX5_fellsJust_17 : decode cX5_fellsJust 17 = .ok (.getfield 139, 3) := by decide +kernel
theorem dX5_fellsJust_20 : decode cX5_fellsJust 20 = .ok (.if_icmp .ne 15, 3) := by decide +kernel
theorem dX5_fellsJust_23 : decode cX5_fellsJust 23 = .ok (.aload_n 3, 1) := by decide +kernel
theorem dX5_fellsJust_24 : decode cX5_fellsJust 24 = .ok (.aload_n 1, 1) := by decide +kernel
theorem dX5_fellsJust_25 : decode cX5_fellsJust 25 = .ok (.invokevirtual 144, 3) := by decide +kernel
theorem dX5_fellsJust_28 : decode cX5_fellsJust 28 = .ok (.ifCond .eq 7, 3) := by decide +kernel
theorem dX5_fellsJust_31 : decode cX5_fellsJust 31 = .ok (.iconst 1, 1) := by decide +kernel
theorem dX5_fellsJust_32 : decode cX5_fellsJust 32 = .ok (.goto 4, 3) := by decide +kernel
theorem dX5_fellsJust_35 : decode cX5_fellsJust 35 = .ok (.iconst 0, 1) := by decide +kernel
theorem dX5_fellsJust_36 : decode cX5_fellsJust 36 = .ok (.ireturn, 1) := by decide +kernel
theorem dX5_soundTime_0 : decode cX5_soundTime 0 = .ok (.bipush 60, 2) := by decide +kernel
theorem dX5_soundTime_2 : decode cX5_soundTime 2 = .ok (.istore 4, 2) := by decide +kernel
theorem dX5_soundTime_4 : decode cX5_soundTime 4 = .ok (.iconst 0, 1) := by decide +kernel
theorem dX5_soundTime_5 : decode cX5_soundTime 5 = .ok (.istore 5, 2) := by decide +kernel
theorem dX5_soundTime_7 : decode cX5_soundTime 7 = .ok (.iload 5, 2) := by decide +kernel
theorem dX5_soundTime_9 : decode cX5_soundTime 9 = .ok (.bipush 8, 2) := by decide +kernel
theorem dX5_soundTime_11 : decode cX5_soundTime 11 = .ok (.if_icmp .ge 49, 3) := by decide +kernel
theorem dX5_soundTime_14 : decode cX5_soundTime 14 = .ok (.aload_n 1, 1) := by decide +kernel
theorem dX5_soundTime_15 : decode cX5_soundTime 15 = .ok (.getfield 96, 3) := by decide +kernel
theorem dX5_soundTime_18 : decode cX5_soundTime 18 = .ok (.iload_n 2, 1) := by decide +kernel
theorem dX5_soundTime_19 : decode cX5_soundTime 19 = .ok (.iaload, 1) := by decide +kernel
theorem dX5_soundTime_20 : decode cX5_soundTime 20 = .ok (.iload 5, 2) := by decide +kernel
theorem dX5_soundTime_22 : decode cX5_soundTime 22 = .ok (.invokestatic 148, 3) := by decide +kernel
theorem dX5_soundTime_25 : decode cX5_soundTime 25 = .ok (.istore 6, 2) := by decide +kernel
theorem dX5_soundTime_27 : decode cX5_soundTime 27 = .ok (.iload 6, 2) := by decide +kernel
theorem dX5_soundTime_29 : decode cX5_soundTime 29 = .ok (.iconst (-1), 1) := by decide +kernel
theorem dX5_soundTime_30 : decode cX5_soundTime 30 = .ok (.if_icmp .eq 24, 3) := by decide +kernel
theorem dX5_soundTime_33 : decode cX5_soundTime 33 = .ok (.aload_n 1, 1) := by decide +kernel
theorem dX5_soundTime_34 : decode cX5_soundTime 34 = .ok (.iload 6, 2) := by decide +kernel
theorem dX5_soundTime_36 : decode cX5_soundTime 36 = .ok (.invokevirtual 126, 3) := by decide +kernel
theorem dX5_soundTime_39 : decode cX5_soundTime 39 = .ok (.ifCond .eq 15, 3) := by decide +kernel
theorem dX5_soundTime_42 : decode cX5_soundTime 42 = .ok (.aload_n 0, 1) := by decide +kernel
theorem dX5_soundTime_43 : decode cX5_soundTime 43 = .ok (.aload_n 1, 1) := by decide +kernel
theorem dX5_soundTime_44 : decode cX5_soundTime 44 = .ok (.iload 6, 2) := by decide +kernel
theorem dX5_soundTime_46 : decode cX5_soundTime 46 = .ok (.iload_n 3, 1) := by decide +kernel
theorem dX5_soundTime_47 : decode cX5_soundTime 47 = .ok (.iload 4, 2) := by decide +kernel
theorem dX5_soundTime_49 : decode cX5_soundTime 49 = .ok (.invokevirtual 151, 3) := by decide +kernel
theorem dX5_soundTime_52 : decode cX5_soundTime 52 = .ok (.istore 4, 2) := by decide +kernel
theorem dX5_soundTime_54 : decode cX5_soundTime 54 = .ok (.iinc 5 1, 3) := by decide +kernel
theorem dX5_soundTime_57 : decode cX5_soundTime 57 = .ok (.goto (-50), 3) := by decide +kernel
theorem dX5_soundTime_60 : decode cX5_soundTime 60 = .ok (.iload 4, 2) := by decide +kernel
theorem dX5_soundTime_62 : decode cX5_soundTime 62 = .ok (.ireturn, 1) := by decide +kernel
theorem dX5_bearingTime_0 : decode cX5_bearingTime 0 = .ok (.aload_n 0, 1) := by decide +kernel
theorem dX5_bearingTime_1 : decode cX5_bearingTime 1 = .ok (.getfield 12, 3) := by decide +kernel
theorem dX5_bearingTime_4 : decode cX5_bearingTime 4 = .ok (.aload_n 1, 1) := by decide +kernel
theorem dX5_bearingTime_5 : decode cX5_bearingTime 5 = .ok (.iload_n 2, 1) := by decide +kernel
theorem dX5_bearingTime_6 : decode cX5_bearingTime 6 = .ok (.aload_n 1, 1) := by decide +kernel
theorem dX5_bearingTime_7 : decode cX5_bearingTime 7 = .ok (.iload_n 2, 1) := by decide +kernel
theorem dX5_bearingTime_8 : decode cX5_bearingTime 8 = .ok (.invokevirtual 22, 3) := by decide +kernel
theorem dX5_bearingTime_11 : decode cX5_bearingTime 11 = .ok (.invokevirtual 28, 3) := by decide +kernel
theorem dX5_bearingTime_14 : decode cX5_bearingTime 14 = .ok (.aload_n 1, 1) := by decide +kernel
theorem dX5_bearingTime_15 : decode cX5_bearingTime 15 = .ok (.getfield 82, 3) := by decide +kernel
theorem dX5_bearingTime_18 : decode cX5_bearingTime 18 = .ok (.iload_n 2, 1) := by decide +kernel
theorem dX5_bearingTime_19 : decode cX5_bearingTime 19 = .ok (.iaload, 1) := by decide +kernel
theorem dX5_bearingTime_20 : decode cX5_bearingTime 20 = .ok (.istore 5, 2) := by decide +kernel
theorem dX5_bearingTime_22 : decode cX5_bearingTime 22 = .ok (.iconst 0, 1) := by decide +kernel
theorem dX5_bearingTime_23 : decode cX5_bearingTime 23 = .ok (.istore 6, 2) := by decide +kernel
theorem dX5_bearingTime_25 : decode cX5_bearingTime 25 = .ok (.iload 6, 2) := by decide +kernel
theorem dX5_bearingTime_27 : decode cX5_bearingTime 27 = .ok (.iload 4, 2) := by decide +kernel
theorem dX5_bearingTime_29 : decode cX5_bearingTime 29 = .ok (.if_icmp .ge 64, 3) := by decide +kernel
theorem dX5_bearingTime_32 : decode cX5_bearingTime 32 = .ok (.aload_n 0, 1) := by decide +kernel
theorem dX5_bearingTime_33 : decode cX5_bearingTime 33 = .ok (.getfield 12, 3) := by decide +kernel
theorem dX5_bearingTime_36 : decode cX5_bearingTime 36 = .ok (.iload 5, 2) := by decide +kernel
theorem dX5_bearingTime_38 : decode cX5_bearingTime 38 = .ok (.aload_n 1, 1) := by decide +kernel
theorem dX5_bearingTime_39 : decode cX5_bearingTime 39 = .ok (.getfield 76, 3) := by decide +kernel
theorem dX5_bearingTime_42 : decode cX5_bearingTime 42 = .ok (.iload 6, 2) := by decide +kernel
theorem dX5_bearingTime_44 : decode cX5_bearingTime 44 = .ok (.iadd, 1) := by decide +kernel
theorem dX5_bearingTime_45 : decode cX5_bearingTime 45 = .ok (.invokevirtual 155, 3) := by decide +kernel
theorem dX5_bearingTime_48 : decode cX5_bearingTime 48 = .ok (.aload_n 0, 1) := by decide +kernel
theorem dX5_bearingTime_49 : decode cX5_bearingTime 49 = .ok (.getfield 12, 3) := by decide +kernel
theorem dX5_bearingTime_52 : decode cX5_bearingTime 52 = .ok (.bipush 98, 2) := by decide +kernel
theorem dX5_bearingTime_54 : decode cX5_bearingTime 54 = .ok (.sipush 9999, 3) := by decide +kernel
theorem dX5_bearingTime_57 : decode cX5_bearingTime 57 = .ok (.invokevirtual 32, 3) := by decide +kernel
theorem dX5_bearingTime_60 : decode cX5_bearingTime 60 = .ok (.iload_n 3, 1) := by decide +kernel
theorem dX5_bearingTime_61 : decode cX5_bearingTime 61 = .ok (.if_icmp .ge 6, 3) := by decide +kernel
theorem dX5_bearingTime_64 : decode cX5_bearingTime 64 = .ok (.iload 6, 2) := by decide +kernel
theorem dX5_bearingTime_66 : decode cX5_bearingTime 66 = .ok (.ireturn, 1) := by decide +kernel
theorem dX5_bearingTime_67 : decode cX5_bearingTime 67 = .ok (.iconst 0, 1) := by decide +kernel
theorem dX5_bearingTime_68 : decode cX5_bearingTime 68 = .ok (.iload 5, 2) := by decide +kernel
theorem dX5_bearingTime_70 : decode cX5_bearingTime 70 = .ok (.aload_n 0, 1) := by decide +kernel
theorem dX5_bearingTime_71 : decode cX5_bearingTime 71 = .ok (.getfield 12, 3) := by decide +kernel
theorem dX5_bearingTime_74 : decode cX5_bearingTime 74 = .ok (.bipush 116, 2) := by decide +kernel
theorem dX5_bearingTime_76 : decode cX5_bearingTime 76 = .ok (.bipush 9, 2) := by decide +kernel
theorem dX5_bearingTime_78 : decode cX5_bearingTime 78 = .ok (.invokevirtual 32, 3) := by decide +kernel
theorem dX5_bearingTime_81 : decode cX5_bearingTime 81 = .ok (.isub, 1) := by decide +kernel
theorem dX5_bearingTime_82 : decode cX5_bearingTime 82 = .ok (.invokestatic 88, 3) := by decide +kernel
theorem dX5_bearingTime_85 : decode cX5_bearingTime 85 = .ok (.istore 5, 2) := by decide +kernel
theorem dX5_bearingTime_87 : decode cX5_bearingTime 87 = .ok (.iinc 6 1, 3) := by decide +kernel
theorem dX5_bearingTime_90 : decode cX5_bearingTime 90 = .ok (.goto (-65), 3) := by decide +kernel
theorem dX5_bearingTime_93 : decode cX5_bearingTime 93 = .ok (.iload 4, 2) := by decide +kernel
theorem dX5_bearingTime_95 : decode cX5_bearingTime 95 = .ok (.ireturn, 1) := by decide +kernel
theorem dX6_init_0 : decode cX6_init 0 = .ok (.aload_n 0, 1) := by decide +kernel
theorem dX6_init_1 : decode cX6_init 1 = .ok (.invokespecial 3, 3) := by decide +kernel
theorem dX6_init_4 : decode cX6_init 4 = .ok (.aload_n 0, 1) := by decide +kernel
theorem dX6_init_5 : decode cX6_init 5 = .ok (.sipush 256, 3) := by decide +kernel
theorem dX6_init_8 : decode cX6_init 8 = .ok (.newarray .int, 2) := by decide +kernel
theorem dX6_init_10 : decode cX6_init 10 = .ok (.putfield 9, 3) := by decide +kernel
theorem dX6_init_13 : decode cX6_init 13 = .ok (.aload_n 0, 1) := by decide +kernel
theorem dX6_init_14 : decode cX6_init 14 = .ok (.sipush 256, 3) := by decide +kernel
theorem dX6_init_17 : decode cX6_init 17 = .ok (.newarray .int, 2) := by decide +kernel
theorem dX6_init_19 : decode cX6_init 19 = .ok (.putfield 15, 3) := by decide +kernel
theorem dX6_init_22 : decode cX6_init 22 = .ok (.aload_n 0, 1) := by decide +kernel
theorem dX6_init_23 : decode cX6_init 23 = .ok (.sipush 256, 3) := by decide +kernel
theorem dX6_init_26 : decode cX6_init 26 = .ok (.newarray .int, 2) := by decide +kernel
theorem dX6_init_28 : decode cX6_init 28 = .ok (.putfield 18, 3) := by decide +kernel
theorem dX6_init_31 : decode cX6_init 31 = .ok (.aload_n 0, 1) := by decide +kernel
theorem dX6_init_32 : decode cX6_init 32 = .ok (.sipush 256, 3) := by decide +kernel
theorem dX6_init_35 : decode cX6_init 35 = .ok (.newarray .boolean, 2) := by decide +kernel
theorem dX6_init_37 : decode cX6_init 37 = .ok (.putfield 21, 3) := by decide +kernel
theorem dX6_init_40 : decode cX6_init 40 = .ok (.aload_n 0, 1) := by decide +kernel
theorem dX6_init_41 : decode cX6_init 41 = .ok (.iconst 0, 1) := by decide +kernel
theorem dX6_init_42 : decode cX6_init 42 = .ok (.putfield 25, 3) := by decide +kernel
theorem dX6_init_45 : decode cX6_init 45 = .ok (.return_, 1) := by decide +kernel
theorem dX6_solve_0 : decode cX6_solve 0 = .ok (.aload_n 0, 1) := by decide +kernel
theorem dX6_solve_1 : decode cX6_solve 1 = .ok (.iload_n 3, 1) := by decide +kernel
theorem dX6_solve_2 : decode cX6_solve 2 = .ok (.putfield 25, 3) := by decide +kernel
theorem dX6_solve_5 : decode cX6_solve 5 = .ok (.iconst 0, 1) := by decide +kernel
theorem dX6_solve_6 : decode cX6_solve 6 = .ok (.istore 6, 2) := by decide +kernel
theorem dX6_solve_8 : decode cX6_solve 8 = .ok (.iload 6, 2) := by decide +kernel
theorem dX6_solve_10 : decode cX6_solve 10 = .ok (.sipush 256, 3) := by decide +kernel
theorem dX6_solve_13 : decode cX6_solve 13 = .ok (.if_icmp .ge 42, 3) := by decide +kernel
theorem dX6_solve_16 : decode cX6_solve 16 = .ok (.aload_n 0, 1) := by decide +kernel
theorem dX6_solve_17 : decode cX6_solve 17 = .ok (.getfield 9, 3) := by decide +kernel
theorem dX6_solve_20 : decode cX6_solve 20 = .ok (.iload 6, 2) := by decide +kernel
theorem dX6_solve_22 : decode cX6_solve 22 = .ok (.aload_n 1, 1) := by decide +kernel
theorem dX6_solve_23 : decode cX6_solve 23 = .ok (.aload_n 2, 1) := by decide +kernel
theorem dX6_solve_24 : decode cX6_solve 24 = .ok (.iload 6, 2) := by decide +kernel
theorem dX6_solve_26 : decode cX6_solve 26 = .ok (.iload 5, 2) := by decide +kernel
theorem dX6_solve_28 : decode cX6_solve 28 = .ok (.invokestatic 29, 3) := by decide +kernel
theorem dX6_solve_31 : decode cX6_solve 31 = .ok (.iastore, 1) := by decide +kernel
theorem dX6_solve_32 : decode cX6_solve 32 = .ok (.aload_n 0, 1) := by decide +kernel
theorem dX6_solve_33 : decode cX6_solve 33 = .ok (.getfield 15, 3) := by decide +kernel
theorem dX6_solve_36 : decode cX6_solve 36 = .ok (.iload 6, 2) := by decide +kernel
theorem dX6_solve_38 : decode cX6_solve 38 = .ok (.ldc 33, 2) := by decide +kernel
theorem dX6_solve_40 : decode cX6_solve 40 = .ok (.iastore, 1) := by decide +kernel
theorem dX6_solve_41 : decode cX6_solve 41 = .ok (.aload_n 0, 1) := by decide +kernel
theorem dX6_solve_42 : decode cX6_solve 42 = .ok (.getfield 21, 3) := by decide +kernel
theorem dX6_solve_45 : decode cX6_solve 45 = .ok (.iload 6, 2) := by decide +kernel
theorem dX6_solve_47 : decode cX6_solve 47 = .ok (.iconst 0, 1) := by decide +kernel
theorem dX6_solve_48 : decode cX6_solve 48 = .ok (.bastore, 1) := by decide +kernel
theorem dX6_solve_49 : decode cX6_solve 49 = .ok (.iinc 6 1, 3) := by decide +kernel
theorem dX6_solve_52 : decode cX6_solve 52 = .ok (.goto (-44), 3) := by decide +kernel
theorem dX6_solve_55 : decode cX6_solve 55 = .ok (.aload_n 0, 1) := by decide +kernel
theorem dX6_solve_56 : decode cX6_solve 56 = .ok (.getfield 9, 3) := by decide +kernel
theorem dX6_solve_59 : decode cX6_solve 59 = .ok (.iload_n 3, 1) := by decide +kernel
theorem dX6_solve_60 : decode cX6_solve 60 = .ok (.iaload, 1) := by decide +kernel
theorem dX6_solve_61 : decode cX6_solve 61 = .ok (.iconst (-1), 1) := by decide +kernel
theorem dX6_solve_62 : decode cX6_solve 62 = .ok (.if_icmp .eq 14, 3) := by decide +kernel
theorem dX6_solve_65 : decode cX6_solve 65 = .ok (.aload_n 0, 1) := by decide +kernel
theorem dX6_solve_66 : decode cX6_solve 66 = .ok (.getfield 9, 3) := by decide +kernel
theorem dX6_solve_69 : decode cX6_solve 69 = .ok (.iload 4, 2) := by decide +kernel
theorem dX6_solve_71 : decode cX6_solve 71 = .ok (.iaload, 1) := by decide +kernel
theorem dX6_solve_72 : decode cX6_solve 72 = .ok (.iconst (-1), 1) := by decide +kernel
theorem dX6_solve_73 : decode cX6_solve 73 = .ok (.if_icmp .ne 5, 3) := by decide +kernel
theorem dX6_solve_76 : decode cX6_solve 76 = .ok (.iconst 0, 1) := by decide +kernel
theorem dX6_solve_77 : decode cX6_solve 77 = .ok (.ireturn, 1) := by decide +kernel
theorem dX6_solve_78 : decode cX6_solve 78 = .ok (.aload_n 0, 1) := by decide +kernel
theorem dX6_solve_79 : decode cX6_solve 79 = .ok (.getfield 15, 3) := by decide +kernel
theorem dX6_solve_82 : decode cX6_solve 82 = .ok (.iload 4, 2) := by decide +kernel
theorem dX6_solve_84 : decode cX6_solve 84 = .ok (.aload_n 0, 1) := by decide +kernel
theorem dX6_solve_85 : decode cX6_solve 85 = .ok (.getfield 9, 3) := by decide +kernel
theorem dX6_solve_88 : decode cX6_solve 88 = .ok (.iload 4, 2) := by decide +kernel
theorem dX6_solve_90 : decode cX6_solve 90 = .ok (.iaload, 1) := by decide +kernel
theorem dX6_solve_91 : decode cX6_solve 91 = .ok (.sipush 1024, 3) := by decide +kernel
theorem dX6_solve_94 : decode cX6_solve 94 = .ok (.imul, 1) := by decide +kernel
theorem dX6_solve_95 : decode cX6_solve 95 = .ok (.iastore, 1) := by decide +kernel
theorem dX6_solve_96 : decode cX6_solve 96 = .ok (.aload_n 0, 1) := by decide +kernel
theorem dX6_solve_97 : decode cX6_solve 97 = .ok (.iload 4, 2) := by decide +kernel
theorem dX6_solve_99 : decode cX6_solve 99 = .ok (.invokevirtual 34, 3) := by decide +kernel
theorem dX6_solve_102 : decode cX6_solve 102 = .ok (.aload_n 0, 1) := by decide +kernel
theorem dX6_solve_103 : decode cX6_solve 103 = .ok (.getfield 15, 3) := by decide +kernel
theorem dX6_solve_106 : decode cX6_solve 106 = .ok (.iload_n 3, 1) := by decide +kernel
theorem dX6_solve_107 : decode cX6_solve 107 = .ok (.iaload, 1) := by decide +kernel
theorem dX6_solve_108 : decode cX6_solve 108 = .ok (.ldc 33, 2) := by decide +kernel
theorem dX6_solve_110 : decode cX6_solve 110 = .ok (.if_icmp .eq 7, 3) := by decide +kernel
theorem dX6_solve_113 : decode cX6_solve 113 = .ok (.iconst 1, 1) := by decide +kernel
theorem dX6_solve_114 : decode cX6_solve 114 = .ok (.goto 4, 3) := by decide +kernel
theorem dX6_solve_117 : decode cX6_solve 117 = .ok (.iconst 0, 1) := by decide +kernel
theorem dX6_solve_118 : decode cX6_solve 118 = .ok (.ireturn, 1) := by decide +kernel
theorem dX6_planksAt_0 : decode cX6_planksAt 0 = .ok (.aload_n 0, 1) := by decide +kernel
theorem dX6_planksAt_1 : decode cX6_planksAt 1 = .ok (.iload_n 2, 1) := by decide +kernel
theorem dX6_planksAt_2 : decode cX6_planksAt 2 = .ok (.invokevirtual 38, 3) := by decide +kernel
theorem dX6_planksAt_5 : decode cX6_planksAt 5 = .ok (.ifCond .ne 5, 3) := by decide +kernel
theorem dX6_planksAt_8 : decode cX6_planksAt 8 = .ok (.iconst (-1), 1) := by decide +kernel
theorem dX6_planksAt_9 : decode cX6_planksAt 9 = .ok (.ireturn, 1) := by decide +kernel
theorem dX6_planksAt_10 : decode cX6_planksAt 10 = .ok (.aload_n 1, 1) := by decide +kernel
theorem dX6_planksAt_11 : decode cX6_planksAt 11 = .ok (.aload_n 0, 1) := by decide +kernel
theorem dX6_planksAt_12 : decode cX6_planksAt 12 = .ok (.iload_n 2, 1) := by decide +kernel
theorem dX6_planksAt_13 : decode cX6_planksAt 13 = .ok (.invokevirtual 44, 3) := by decide +kernel
theorem dX6_planksAt_16 : decode cX6_planksAt 16 = .ok (.istore 4, 2) := by decide +kernel
theorem dX6_planksAt_18 : decode cX6_planksAt 18 = .ok (.iload 4, 2) := by decide +kernel
theorem dX6_planksAt_20 : decode cX6_planksAt 20 = .ok (.iload_n 3, 1) := by decide +kernel
theorem dX6_planksAt_21 : decode cX6_planksAt 21 = .ok (.if_icmp .lt 5, 3) := by decide +kernel
theorem dX6_planksAt_24 : decode cX6_planksAt 24 = .ok (.iconst 0, 1) := by decide +kernel
theorem dX6_planksAt_25 : decode cX6_planksAt 25 = .ok (.ireturn, 1) := by decide +kernel
theorem dX6_planksAt_26 : decode cX6_planksAt 26 = .ok (.iload 4, 2) := by decide +kernel
theorem dX6_planksAt_28 : decode cX6_planksAt 28 = .ok (.bipush 100, 2) := by decide +kernel
theorem dX6_planksAt_30 : decode cX6_planksAt 30 = .ok (.iadd, 1) := by decide +kernel
theorem dX6_planksAt_31 : decode cX6_planksAt 31 = .ok (.iload_n 3, 1) := by decide +kernel
theorem dX6_planksAt_32 : decode cX6_planksAt 32 = .ok (.if_icmp .lt 7, 3) := by decide +kernel
theorem dX6_planksAt_35 : decode cX6_planksAt 35 = .ok (.iconst 1, 1) := by decide +kernel
theorem dX6_planksAt_36 : decode cX6_planksAt 36 = .ok (.goto 4, 3) := by decide +kernel
theorem dX6_planksAt_39 : decode cX6_planksAt 39 = .ok (.iconst (-1), 1) := by decide +kernel
theorem dX6_planksAt_40 : decode cX6_planksAt 40 = .ok (.ireturn, 1) := by decide +kernel
theorem dX6_spreadFrom_0 : decode cX6_spreadFrom 0 = .ok (.iconst 0, 1) := by decide +kernel
theorem dX6_spreadFrom_1 : decode cX6_spreadFrom 1 = .ok (.istore_n 2, 1) := by decide +kernel
theorem dX6_spreadFrom_2 : decode cX6_spreadFrom 2 = .ok (.iconst 1, 1) := by decide +kernel
theorem dX6_spreadFrom_3 : decode cX6_spreadFrom 3 = .ok (.istore_n 3, 1) := by decide +kernel
theorem dX6_spreadFrom_4 : decode cX6_spreadFrom 4 = .ok (.aload_n 0, 1) := by decide +kernel
theorem dX6_spreadFrom_5 : decode cX6_spreadFrom 5 = .ok (.getfield 18, 3) := by decide +kernel
theorem dX6_spreadFrom_8 : decode cX6_spreadFrom 8 = .ok (.iconst 0, 1) := by decide +kernel
theorem dX6_spreadFrom_9 : decode cX6_spreadFrom 9 = .ok (.iload_n 1, 1) := by decide +kernel
theorem dX6_spreadFrom_10 : decode cX6_spreadFrom 10 = .ok (.iastore, 1) := by decide +kernel
theorem dX6_spreadFrom_11 : decode cX6_spreadFrom 11 = .ok (.aload_n 0, 1) := by decide +kernel
theorem dX6_spreadFrom_12 : decode cX6_spreadFrom 12 = .ok (.getfield 21, 3) := by decide +kernel
theorem dX6_spreadFrom_15 : decode cX6_spreadFrom 15 = .ok (.iload_n 1, 1) := by decide +kernel
theorem dX6_spreadFrom_16 : decode cX6_spreadFrom 16 = .ok (.iconst 1, 1) := by decide +kernel
theorem dX6_spreadFrom_17 : decode cX6_spreadFrom 17 = .ok (.bastore, 1) := by decide +kernel
theorem dX6_spreadFrom_18 : decode cX6_spreadFrom 18 = .ok (.iconst 0, 1) := by decide +kernel
theorem dX6_spreadFrom_19 : decode cX6_spreadFrom 19 = .ok (.istore 4, 2) := by decide +kernel
theorem dX6_spreadFrom_21 : decode cX6_spreadFrom 21 = .ok (.iload 4, 2) := by decide +kernel
theorem dX6_spreadFrom_23 : decode cX6_spreadFrom 23 = .ok (.ldc 50, 2) := by decide +kernel
theorem dX6_spreadFrom_25 : decode cX6_spreadFrom 25 = .ok (.if_icmp .ge 123, 3) := by decide +kernel
theorem dX6_spreadFrom_28 : decode cX6_spreadFrom 28 = .ok (.iload_n 3, 1) := by decide +kernel
theorem dX6_spreadFrom_29 : decode cX6_spreadFrom 29 = .ok (.ifCond .le 119, 3) := by decide +kernel
theorem dX6_spreadFrom_32 : decode cX6_spreadFrom 32 = .ok (.aload_n 0, 1) := by decide +kernel
theorem dX6_spreadFrom_33 : decode cX6_spreadFrom 33 = .ok (.getfield 18, 3) := by decide +kernel
theorem dX6_spreadFrom_36 : decode cX6_spreadFrom 36 = .ok (.iload_n 2, 1) := by decide +kernel
theorem dX6_spreadFrom_37 : decode cX6_spreadFrom 37 = .ok (.iaload, 1) := by decide +kernel
theorem dX6_spreadFrom_38 : decode cX6_spreadFrom 38 = .ok (.istore 5, 2) := by decide +kernel
theorem dX6_spreadFrom_40 : decode cX6_spreadFrom 40 = .ok (.iload_n 2, 1) := by decide +kernel
theorem dX6_spreadFrom_41 : decode cX6_spreadFrom 41 = .ok (.iconst 1, 1) := by decide +kernel
theorem dX6_spreadFrom_42 : decode cX6_spreadFrom 42 = .ok (.iadd, 1) := by decide +kernel
theorem dX6_spreadFrom_43 : decode cX6_spreadFrom 43 = .ok (.sipush 256, 3) := by decide +kernel
theorem dX6_spreadFrom_46 : decode cX6_spreadFrom 46 = .ok (.irem, 1) := by decide +kernel
theorem dX6_spreadFrom_47 : decode cX6_spreadFrom 47 = .ok (.istore_n 2, 1) := by decide +kernel
theorem dX6_spreadFrom_48 : decode cX6_spreadFrom 48 = .ok (.iinc 3 (-1), 3) := by decide +kernel
theorem dX6_spreadFrom_51 : decode cX6_spreadFrom 51 = .ok (.aload_n 0, 1) := by decide +kernel
theorem dX6_spreadFrom_52 : decode cX6_spreadFrom 52 = .ok (.getfield 21, 3) := by decide +kernel
theorem dX6_spreadFrom_55 : decode cX6_spreadFrom 55 = .ok (.iload 5, 2) := by decide +kernel
theorem dX6_spreadFrom_57 : decode cX6_spreadFrom 57 = .ok (.iconst 0, 1) := by decide +kernel
theorem dX6_spreadFrom_58 : decode cX6_spreadFrom 58 = .ok (.bastore, 1) := by decide +kernel
theorem dX6_spreadFrom_59 : decode cX6_spreadFrom 59 = .ok (.iconst 0, 1) := by decide +kernel
theorem dX6_spreadFrom_60 : decode cX6_spreadFrom 60 = .ok (.istore 6, 2) := by decide +kernel
theorem dX6_spreadFrom_62 : decode cX6_spreadFrom 62 = .ok (.iload 6, 2) := by decide +kernel
theorem dX6_spreadFrom_64 : decode cX6_spreadFrom 64 = .ok (.iconst 4, 1) := by decide +kernel
theorem dX6_spreadFrom_65 : decode cX6_spreadFrom 65 = .ok (.if_icmp .ge 77, 3) := by decide +kernel
theorem dX6_spreadFrom_68 : decode cX6_spreadFrom 68 = .ok (.iload 5, 2) := by decide +kernel
theorem dX6_spreadFrom_70 : decode cX6_spreadFrom 70 = .ok (.iload 6, 2) := by decide +kernel
theorem dX6_spreadFrom_72 : decode cX6_spreadFrom 72 = .ok (.invokestatic 51, 3) := by decide +kernel
theorem dX6_spreadFrom_75 : decode cX6_spreadFrom 75 = .ok (.istore 7, 2) := by decide +kernel
theorem dX6_spreadFrom_77 : decode cX6_spreadFrom 77 = .ok (.iload 7, 2) := by decide +kernel
theorem dX6_spreadFrom_79 : decode cX6_spreadFrom 79 = .ok (.iconst (-1), 1) := by decide +kernel
theorem dX6_spreadFrom_80 : decode cX6_spreadFrom 80 = .ok (.if_icmp .eq 56, 3) := by decide +kernel
theorem dX6_spreadFrom_83 : decode cX6_spreadFrom 83 = .ok (.aload_n 0, 1) := by decide +kernel
theorem dX6_spreadFrom_84 : decode cX6_spreadFrom 84 = .ok (.iload 7, 2) := by decide +kernel
theorem dX6_spreadFrom_86 : decode cX6_spreadFrom 86 = .ok (.aload_n 0, 1) := by decide +kernel
theorem dX6_spreadFrom_87 : decode cX6_spreadFrom 87 = .ok (.getfield 15, 3) := by decide +kernel
theorem dX6_spreadFrom_90 : decode cX6_spreadFrom 90 = .ok (.iload 5, 2) := by decide +kernel
theorem dX6_spreadFrom_92 : decode cX6_spreadFrom 92 = .ok (.iaload, 1) := by decide +kernel
theorem dX6_spreadFrom_93 : decode cX6_spreadFrom 93 = .ok (.iconst 1, 1) := by decide +kernel
theorem dX6_spreadFrom_94 : decode cX6_spreadFrom 94 = .ok (.iadd, 1) := by decide +kernel
theorem dX6_spreadFrom_95 : decode cX6_spreadFrom 95 = .ok (.invokevirtual 57, 3) := by decide +kernel
theorem dX6_spreadFrom_98 : decode cX6_spreadFrom 98 = .ok (.ifCond .eq 38, 3) := by decide +kernel
theorem dX6_spreadFrom_101 : decode cX6_spreadFrom 101 = .ok (.aload_n 0, 1) := by decide +kernel
theorem dX6_spreadFrom_102 : decode cX6_spreadFrom 102 = .ok (.getfield 21, 3) := by decide +kernel
theorem dX6_spreadFrom_105 : decode cX6_spreadFrom 105 = .ok (.iload 7, 2) := by decide +kernel
theorem dX6_spreadFrom_107 : decode cX6_spreadFrom 107 = .ok (.baload, 1) := by decide +kernel
theorem dX6_spreadFrom_108 : decode cX6_spreadFrom 108 = .ok (.ifCond .ne 28, 3) := by decide +kernel
theorem dX6_spreadFrom_111 : decode cX6_spreadFrom 111 = .ok (.aload_n 0, 1) := by decide +kernel
theorem dX6_spreadFrom_112 : decode cX6_spreadFrom 112 = .ok (.getfield 21, 3) := by decide +kernel
theorem dX6_spreadFrom_115 : decode cX6_spreadFrom 115 = .ok (.iload 7, 2) := by decide +kernel
theorem dX6_spreadFrom_117 : decode cX6_spreadFrom 117 = .ok (.iconst 1, 1) := by decide +kernel
theorem dX6_spreadFrom_118 : decode cX6_spreadFrom 118 = .ok (.bastore, 1) := by decide +kernel
theorem dX6_spreadFrom_119 : decode cX6_spreadFrom 119 = .ok (.aload_n 0, 1) := by decide +kernel
theorem dX6_spreadFrom_120 : decode cX6_spreadFrom 120 = .ok (.getfield 18, 3) := by decide +kernel
theorem dX6_spreadFrom_123 : decode cX6_spreadFrom 123 = .ok (.iload_n 2, 1) := by decide +kernel
theorem dX6_spreadFrom_124 : decode cX6_spreadFrom 124 = .ok (.iload_n 3, 1) := by decide +kernel
theorem dX6_spreadFrom_125 : decode cX6_spreadFrom 125 = .ok (.iadd, 1) := by decide +kernel
theorem dX6_spreadFrom_126 : decode cX6_spreadFrom 126 = .ok (.sipush 256, 3) := by decide +kernel
theorem dX6_spreadFrom_129 : decode cX6_spreadFrom 129 = .ok (.irem, 1) := by decide +kernel
theorem dX6_spreadFrom_130 : decode cX6_spreadFrom 130 = .ok (.iload 7, 2) := by decide +kernel
theorem dX6_spreadFrom_132 : decode cX6_spreadFrom 132 = .ok (.iastore, 1) := by decide +kernel
theorem dX6_spreadFrom_133 : decode cX6_spreadFrom 133 = .ok (.iinc 3 1, 3) := by decide +kernel
theorem dX6_spreadFrom_136 : decode cX6_spreadFrom 136 = .ok (.iinc 6 1, 3) := by decide +kernel
theorem dX6_spreadFrom_139 : decode cX6_spreadFrom 139 = .ok (.goto (-77), 3) := by decide +kernel
theorem dX6_spreadFrom_142 : decode cX6_spreadFrom 142 = .ok (.iinc 4 1, 3) := by decide +kernel
theorem dX6_spreadFrom_145 : decode cX6_spreadFrom 145 = .ok (.goto (-124), 3) := by decide +kernel
theorem dX6_spreadFrom_148 : decode cX6_spreadFrom 148 = .ok (.return_, 1) := by decide +kernel
theorem dX6_isBettered_0 : decode cX6_isBettered 0 = .ok (.aload_n 0, 1) := by decide +kernel
theorem dX6_isBettered_1 : decode cX6_isBettered 1 = .ok (.getfield 9, 3) := by decide +kernel
theorem dX6_isBettered_4 : decode cX6_isBettered 4 = .ok (.iload_n 1, 1) := by decide +kernel
theorem dX6_isBettered_5 : decode cX6_isBettered 5 = .ok (.iaload, 1) := by decide +kernel
theorem dX6_isBettered_6 : decode cX6_isBettered 6 = .ok (.iconst (-1), 1) := by decide +kernel
theorem dX6_isBettered_7 : decode cX6_isBettered 7 = .ok (.if_icmp .eq 24, 3) := by decide +kernel
theorem dX6_isBettered_10 : decode cX6_isBettered 10 = .ok (.iload_n 2, 1) := by decide +kernel
theorem dX6_isBettered_11 : decode cX6_isBettered 11 = .ok (.aload_n 0, 1) := by decide +kernel
theorem dX6_isBettered_12 : decode cX6_isBettered 12 = .ok (.getfield 9, 3) := by decide +kernel
theorem dX6_isBettered_15 : decode cX6_isBettered 15 = .ok (.iload_n 1, 1) := by decide +kernel
theorem dX6_isBettered_16 : decode cX6_isBettered 16 = .ok (.iaload, 1) := by decide +kernel
theorem dX6_isBettered_17 : decode cX6_isBettered 17 = .ok (.sipush 1024, 3) := by decide +kernel
theorem dX6_isBettered_20 : decode cX6_isBettered 20 = .ok (.imul, 1) := by decide +kernel
theorem dX6_isBettered_21 : decode cX6_isBettered 21 = .ok (.iadd, 1) := by decide +kernel
theorem dX6_isBettered_22 : decode cX6_isBettered 22 = .ok (.aload_n 0, 1) := by decide +kernel
theorem dX6_isBettered_23 : decode cX6_isBettered 23 = .ok (.getfield 15, 3) := by decide +kernel
theorem dX6_isBettered_26 : decode cX6_isBettered 26 = .ok (.iload_n 1, 1) := by decide +kernel
theorem dX6_isBettered_27 : decode cX6_isBettered 27 = .ok (.iaload, 1) := by decide +kernel
theorem dX6_isBettered_28 : decode cX6_isBettered 28 = .ok (.if_icmp .lt 5, 3) := by decide +kernel
theorem dX6_isBettered_31 : decode cX6_isBettered 31 = .ok (.iconst 0, 1) := by decide +kernel
theorem dX6_isBettered_32 : decode cX6_isBettered 32 = .ok (.ireturn, 1) := by decide +kernel
theorem dX6_isBettered_33 : decode cX6_isBettered 33 = .ok (.aload_n 0, 1) := by decide +kernel
theorem dX6_isBettered_34 : decode cX6_isBettered 34 = .ok (.getfield 15, 3) := by decide +kernel
theorem dX6_isBettered_37 : decode cX6_isBettered 37 = .ok (.iload_n 1, 1) := by decide +kernel
theorem dX6_isBettered_38 : decode cX6_isBettered 38 = .ok (.iload_n 2, 1) := by decide +kernel
theorem dX6_isBettered_39 : decode cX6_isBettered 39 = .ok (.aload_n 0, 1) := by decide +kernel
theorem dX6_isBettered_40 : decode cX6_isBettered 40 = .ok (.getfield 9, 3) := by decide +kernel
theorem dX6_isBettered_43 : decode cX6_isBettered 43 = .ok (.iload_n 1, 1) := by decide +kernel
theorem dX6_isBettered_44 : decode cX6_isBettered 44 = .ok (.iaload, 1) := by decide +kernel
theorem dX6_isBettered_45 : decode cX6_isBettered 45 = .ok (.sipush 1024, 3) := by decide +kernel
theorem dX6_isBettered_48 : decode cX6_isBettered 48 = .ok (.imul, 1) := by decide +kernel
theorem dX6_isBettered_49 : decode cX6_isBettered 49 = .ok (.iadd, 1) := by decide +kernel
theorem dX6_isBettered_50 : decode cX6_isBettered 50 = .ok (.iastore, 1) := by decide +kernel
theorem dX6_isBettered_51 : decode cX6_isBettered 51 = .ok (.iconst 1, 1) := by decide +kernel
theorem dX6_isBettered_52 : decode cX6_isBettered 52 = .ok (.ireturn, 1) := by decide +kernel
theorem dX6_planks_0 : decode cX6_planks 0 = .ok (.aload_n 0, 1) := by decide +kernel
theorem dX6_planks_1 : decode cX6_planks 1 = .ok (.getfield 15, 3) := by decide +kernel
theorem dX6_planks_4 : decode cX6_planks 4 = .ok (.aload_n 0, 1) := by decide +kernel
theorem dX6_planks_5 : decode cX6_planks 5 = .ok (.getfield 25, 3) := by decide +kernel
theorem dX6_planks_8 : decode cX6_planks 8 = .ok (.iaload, 1) := by decide +kernel
theorem dX6_planks_9 : decode cX6_planks 9 = .ok (.sipush 1024, 3) := by decide +kernel
theorem dX6_planks_12 : decode cX6_planks 12 = .ok (.idiv, 1) := by decide +kernel
theorem dX6_planks_13 : decode cX6_planks 13 = .ok (.ireturn, 1) := by decide +kernel
theorem dX6_steps_0 : decode cX6_steps 0 = .ok (.aload_n 0, 1) := by decide +kernel
theorem dX6_steps_1 : decode cX6_steps 1 = .ok (.getfield 15, 3) := by decide +kernel
theorem dX6_steps_4 : decode cX6_steps 4 = .ok (.aload_n 0, 1) := by decide +kernel
theorem dX6_steps_5 : decode cX6_steps 5 = .ok (.getfield 25, 3) := by decide +kernel
theorem dX6_steps_8 : decode cX6_steps 8 = .ok (.iaload, 1) := by decide +kernel
theorem dX6_steps_9 : decode cX6_steps 9 = .ok (.sipush 1024, 3) := by decide +kernel
theorem dX6_steps_12 : decode cX6_steps 12 = .ok (.irem, 1) := by decide +kernel
theorem dX6_steps_13 : decode cX6_steps 13 = .ok (.ireturn, 1) := by decide +kernel
theorem dX6_squareAt_0 : decode cX6_squareAt 0 = .ok (.aload_n 0, 1) := by decide +kernel
theorem dX6_squareAt_1 : decode cX6_squareAt 1 = .ok (.getfield 25, 3) := by decide +kernel
theorem dX6_squareAt_4 : decode cX6_squareAt 4 = .ok (.istore_n 2, 1) := by decide +kernel
theorem dX6_squareAt_5 : decode cX6_squareAt 5 = .ok (.iconst 0, 1) := by decide +kernel
theorem dX6_squareAt_6 : decode cX6_squareAt 6 = .ok (.istore_n 3, 1) := by decide +kernel
theorem dX6_squareAt_7 : decode cX6_squareAt 7 = .ok (.iload_n 3, 1) := by decide +kernel
theorem dX6_squareAt_8 : decode cX6_squareAt 8 = .ok (.iload_n 1, 1) := by decide +kernel
theorem dX6_squareAt_9 : decode cX6_squareAt 9 = .ok (.if_icmp .ge 22, 3) := by decide +kernel
theorem dX6_squareAt_12 : decode cX6_squareAt 12 = .ok (.iload_n 3, 1) := by decide +kernel
theorem dX6_squareAt_13 : decode cX6_squareAt 13 = .ok (.sipush 256, 3) := by decide +kernel
theorem dX6_squareAt_16 : decode cX6_squareAt 16 = .ok (.if_icmp .ge 15, 3) := by decide +kernel
theorem dX6_squareAt_19 : decode cX6_squareAt 19 = .ok (.aload_n 0, 1) := by decide +kernel
theorem dX6_squareAt_20 : decode cX6_squareAt 20 = .ok (.iload_n 2, 1) := by decide +kernel
theorem dX6_squareAt_21 : decode cX6_squareAt 21 = .ok (.invokevirtual 61, 3) := by decide +kernel
theorem dX6_squareAt_24 : decode cX6_squareAt 24 = .ok (.istore_n 2, 1) := by decide +kernel
theorem dX6_squareAt_25 : decode cX6_squareAt 25 = .ok (.iinc 3 1, 3) := by decide +kernel
theorem dX6_squareAt_28 : decode cX6_squareAt 28 = .ok (.goto (-21), 3) := by decide +kernel
theorem dX6_squareAt_31 : decode cX6_squareAt 31 = .ok (.iload_n 2, 1) := by decide +kernel
theorem dX6_squareAt_32 : decode cX6_squareAt 32 = .ok (.ireturn, 1) := by decide +kernel
theorem dX6_nextFrom_0 : decode cX6_nextFrom 0 = .ok (.aload_n 0, 1) := by decide +kernel
theorem dX6_nextFrom_1 : decode cX6_nextFrom 1 = .ok (.getfield 15, 3) := by decide +kernel
theorem dX6_nextFrom_4 : decode cX6_nextFrom 4 = .ok (.iload_n 1, 1) := by decide +kernel
theorem dX6_nextFrom_5 : decode cX6_nextFrom 5 = .ok (.iaload, 1) := by decide +kernel
theorem dX6_nextFrom_6 : decode cX6_nextFrom 6 = .ok (.aload_n 0, 1) := by decide +kernel
theorem dX6_nextFrom_7 : decode cX6_nextFrom 7 = .ok (.getfield 9, 3) := by decide +kernel
theorem dX6_nextFrom_10 : decode cX6_nextFrom 10 = .ok (.iload_n 1, 1) := by decide +kernel
theorem dX6_nextFrom_11 : decode cX6_nextFrom 11 = .ok (.iaload, 1) := by decide +kernel
theorem dX6_nextFrom_12 : decode cX6_nextFrom 12 = .ok (.sipush 1024, 3) := by decide +kernel
theorem dX6_nextFrom_15 : decode cX6_nextFrom 15 = .ok (.imul, 1) := by decide +kernel
theorem dX6_nextFrom_16 : decode cX6_nextFrom 16 = .ok (.isub, 1) := by decide +kernel
theorem dX6_nextFrom_17 : decode cX6_nextFrom 17 = .ok (.iconst 1, 1) := by decide +kernel
theorem dX6_nextFrom_18 : decode cX6_nextFrom 18 = .ok (.isub, 1) := by decide +kernel
theorem dX6_nextFrom_19 : decode cX6_nextFrom 19 = .ok (.istore_n 2, 1) := by decide +kernel
theorem dX6_nextFrom_20 : decode cX6_nextFrom 20 = .ok (.iconst 0, 1) := by decide +kernel
theorem dX6_nextFrom_21 : decode cX6_nextFrom 21 = .ok (.istore_n 3, 1) := by decide +kernel
theorem dX6_nextFrom_22 : decode cX6_nextFrom 22 = .ok (.iload_n 3, 1) := by decide +kernel
theorem dX6_nextFrom_23 : decode cX6_nextFrom 23 = .ok (.iconst 4, 1) := by decide +kernel
theorem dX6_nextFrom_24 : decode cX6_nextFrom 24 = .ok (.if_icmp .ge 36, 3) := by decide +kernel
theorem dX6_nextFrom_27 : decode cX6_nextFrom 27 = .ok (.iload_n 1, 1) := by decide +kernel
theorem dX6_nextFrom_28 : decode cX6_nextFrom 28 = .ok (.iload_n 3, 1) := by decide +kernel
theorem dX6_nextFrom_29 : decode cX6_nextFrom 29 = .ok (.invokestatic 51, 3) := by decide +kernel
theorem dX6_nextFrom_32 : decode cX6_nextFrom 32 = .ok (.istore 4, 2) := by decide +kernel
theorem dX6_nextFrom_34 : decode cX6_nextFrom 34 = .ok (.iload 4, 2) := by decide +kernel
theorem dX6_nextFrom_36 : decode cX6_nextFrom 36 = .ok (.iconst (-1), 1) := by decide +kernel
theorem dX6_nextFrom_37 : decode cX6_nextFrom 37 = .ok (.if_icmp .eq 17, 3) := by decide +kernel
theorem dX6_nextFrom_40 : decode cX6_nextFrom 40 = .ok (.aload_n 0, 1) := by decide +kernel
theorem dX6_nextFrom_41 : decode cX6_nextFrom 41 = .ok (.getfield 15, 3) := by decide +kernel
theorem dX6_nextFrom_44 : decode cX6_nextFrom 44 = .ok (.iload 4, 2) := by decide +kernel
theorem dX6_nextFrom_46 : decode cX6_nextFrom 46 = .ok (.iaload, 1) := by decide +kernel
theorem dX6_nextFrom_47 : decode cX6_nextFrom 47 = .ok (.iload_n 2, 1) := by decide +kernel
theorem dX6_nextFrom_48 : decode cX6_nextFrom 48 = .ok (.if_icmp .ne 6, 3) := by decide +kernel
theorem dX6_nextFrom_51 : decode cX6_nextFrom 51 = .ok (.iload 4, 2) := by decide +kernel
theorem dX6_nextFrom_53 : decode cX6_nextFrom 53 = .ok (.ireturn, 1) := by decide +kernel
theorem dX6_nextFrom_54 : decode cX6_nextFrom 54 = .ok (.iinc 3 1, 3) := by decide +kernel
theorem dX6_nextFrom_57 : decode cX6_nextFrom 57 = .ok (.goto (-35), 3) := by decide +kernel
theorem dX6_nextFrom_60 : decode cX6_nextFrom 60 = .ok (.iload_n 1, 1) := by decide +kernel
theorem dX6_nextFrom_61 : decode cX6_nextFrom 61 = .ok (.ireturn, 1) := by decide +kernel
theorem dX7_init_0 : decode cX7_init 0 = .ok (.aload_n 0, 1) := by decide +kernel
theorem dX7_init_1 : decode cX7_init 1 = .ok (.invokespecial 3, 3) := by decide +kernel
theorem dX7_init_4 : decode cX7_init 4 = .ok (.aload_n 0, 1) := by decide +kernel
theorem dX7_init_5 : decode cX7_init 5 = .ok (.sipush 1024, 3) := by decide +kernel
theorem dX7_init_8 : decode cX7_init 8 = .ok (.newarray .int, 2) := by decide +kernel
theorem dX7_init_10 : decode cX7_init 10 = .ok (.putfield 9, 3) := by decide +kernel
theorem dX7_init_13 : decode cX7_init 13 = .ok (.aload_n 0, 1) := by decide +kernel
theorem dX7_init_14 : decode cX7_init 14 = .ok (.bipush 10, 2) := by decide +kernel
theorem dX7_init_16 : decode cX7_init 16 = .ok (.newarray .boolean, 2) := by decide +kernel
theorem dX7_init_18 : decode cX7_init 18 = .ok (.putfield 15, 3) := by decide +kernel
theorem dX7_init_21 : decode cX7_init 21 = .ok (.aload_n 0, 1) := by decide +kernel
theorem dX7_init_22 : decode cX7_init 22 = .ok (.bipush 100, 2) := by decide +kernel
theorem dX7_init_24 : decode cX7_init 24 = .ok (.newarray .int, 2) := by decide +kernel
theorem dX7_init_26 : decode cX7_init 26 = .ok (.putfield 19, 3) := by decide +kernel
theorem dX7_init_29 : decode cX7_init 29 = .ok (.aload_n 0, 1) := by decide +kernel
theorem dX7_init_30 : decode cX7_init 30 = .ok (.bipush 10, 2) := by decide +kernel
theorem dX7_init_32 : decode cX7_init 32 = .ok (.newarray .int, 2) := by decide +kernel
theorem dX7_init_34 : decode cX7_init 34 = .ok (.putfield 22, 3) := by decide +kernel
theorem dX7_init_37 : decode cX7_init 37 = .ok (.return_, 1) := by decide +kernel
theorem dX7_worthOf_0 : decode cX7_worthOf 0 = .ok (.iload_n 1, 1) := by decide +kernel
theorem dX7_worthOf_1 : decode cX7_worthOf 1 = .ok (.ifCond .lt 21, 3) := by decide +kernel
theorem dX7_worthOf_4 : decode cX7_worthOf 4 = .ok (.iload_n 1, 1) := by decide +kernel
theorem dX7_worthOf_5 : decode cX7_worthOf 5 = .ok (.aload_n 0, 1) := by decide +kernel
theorem dX7_worthOf_6 : decode cX7_worthOf 6 = .ok (.getfield 9, 3) := by decide +kernel
theorem dX7_worthOf_9 : decode cX7_worthOf 9 = .ok (.arraylength, 1) := by decide +kernel
theorem dX7_worthOf_10 : decode cX7_worthOf 10 = .ok (.if_icmp .ge 12, 3) := by decide +kernel
theorem dX7_worthOf_13 : decode cX7_worthOf 13 = .ok (.aload_n 0, 1) := by decide +kernel
theorem dX7_worthOf_14 : decode cX7_worthOf 14 = .ok (.getfield 9, 3) := by decide +kernel
theorem dX7_worthOf_17 : decode cX7_worthOf 17 = .ok (.iload_n 1, 1) := by decide +kernel
theorem dX7_worthOf_18 : decode cX7_worthOf 18 = .ok (.iaload, 1) := by decide +kernel
theorem dX7_worthOf_19 : decode cX7_worthOf 19 = .ok (.goto 4, 3) := by decide +kernel
theorem dX7_worthOf_22 : decode cX7_worthOf 22 = .ok (.iconst (-1), 1) := by decide +kernel
theorem dX7_worthOf_23 : decode cX7_worthOf 23 = .ok (.ireturn, 1) := by decide +kernel
theorem dX7_best_0 : decode cX7_best 0 = .ok (.aload_n 3, 1) := by decide +kernel
theorem dX7_best_1 : decode cX7_best 1 = .ok (.getfield 25, 3) := by decide +kernel
theorem dX7_best_4 : decode cX7_best 4 = .ok (.bipush 10, 2) := by decide +kernel
theorem dX7_best_6 : decode cX7_best 6 = .ok (.invokestatic 31, 3) := by decide +kernel
theorem dX7_best_9 : decode cX7_best 9 = .ok (.istore 4, 2) := by decide +kernel
theorem dX7_best_11 : decode cX7_best 11 = .ok (.iconst 0, 1) := by decide +kernel
theorem dX7_best_12 : decode cX7_best 12 = .ok (.istore 5, 2) := by decide +kernel
theorem dX7_best_14 : decode cX7_best 14 = .ok (.iload 5, 2) := by decide +kernel
theorem dX7_best_16 : decode cX7_best 16 = .ok (.iload 4, 2) := by decide +kernel
theorem dX7_best_18 : decode cX7_best 18 = .ok (.if_icmp .ge 102, 3) := by decide +kernel
theorem dX7_best_21 : decode cX7_best 21 = .ok (.aload_n 3, 1) := by decide +kernel
theorem dX7_best_22 : decode cX7_best 22 = .ok (.getfield 37, 3) := by decide +kernel
theorem dX7_best_25 : decode cX7_best 25 = .ok (.iload 5, 2) := by decide +kernel
theorem dX7_best_27 : decode cX7_best 27 = .ok (.iaload, 1) := by decide +kernel
theorem dX7_best_28 : decode cX7_best 28 = .ok (.istore 6, 2) := by decide +kernel
theorem dX7_best_30 : decode cX7_best 30 = .ok (.aload_n 0, 1) := by decide +kernel
theorem dX7_best_31 : decode cX7_best 31 = .ok (.getfield 15, 3) := by decide +kernel
theorem dX7_best_34 : decode cX7_best 34 = .ok (.iload 5, 2) := by decide +kernel
theorem dX7_best_36 : decode cX7_best 36 = .ok (.aload_n 1, 1) := by decide +kernel
theorem dX7_best_37 : decode cX7_best 37 = .ok (.iload 6, 2) := by decide +kernel
theorem dX7_best_39 : decode cX7_best 39 = .ok (.invokevirtual 40, 3) := by decide +kernel
theorem dX7_best_42 : decode cX7_best 42 = .ok (.ifCond .eq 36, 3) := by decide +kernel
theorem dX7_best_45 : decode cX7_best 45 = .ok (.aload_n 1, 1) := by decide +kernel
theorem dX7_best_46 : decode cX7_best 46 = .ok (.iload 6, 2) := by decide +kernel
theorem dX7_best_48 : decode cX7_best 48 = .ok (.invokevirtual 46, 3) := by decide +kernel
theorem dX7_best_51 : decode cX7_best 51 = .ok (.ifCond .ne 27, 3) := by decide +kernel
theorem dX7_best_54 : decode cX7_best 54 = .ok (.aload_n 1, 1) := by decide +kernel
theorem dX7_best_55 : decode cX7_best 55 = .ok (.iload 6, 2) := by decide +kernel
theorem dX7_best_57 : decode cX7_best 57 = .ok (.invokevirtual 49, 3) := by decide +kernel
theorem dX7_best_60 : decode cX7_best 60 = .ok (.ifCond .ne 18, 3) := by decide +kernel
theorem dX7_best_63 : decode cX7_best 63 = .ok (.aload_n 2, 1) := by decide +kernel
theorem dX7_best_64 : decode cX7_best 64 = .ok (.aload_n 1, 1) := by decide +kernel
theorem dX7_best_65 : decode cX7_best 65 = .ok (.iload 6, 2) := by decide +kernel
theorem dX7_best_67 : decode cX7_best 67 = .ok (.iconst 0, 1) := by decide +kernel
theorem dX7_best_68 : decode cX7_best 68 = .ok (.invokevirtual 52, 3) := by decide +kernel
theorem dX7_best_71 : decode cX7_best 71 = .ok (.ifCond .eq 7, 3) := by decide +kernel
theorem dX7_best_74 : decode cX7_best 74 = .ok (.iconst 1, 1) := by decide +kernel
theorem dX7_best_75 : decode cX7_best 75 = .ok (.goto 4, 3) := by decide +kernel
theorem dX7_best_78 : decode cX7_best 78 = .ok (.iconst 0, 1) := by decide +kernel
theorem dX7_best_79 : decode cX7_best 79 = .ok (.bastore, 1) := by decide +kernel
theorem dX7_best_80 : decode cX7_best 80 = .ok (.aload_n 0, 1) := by decide +kernel
theorem dX7_best_81 : decode cX7_best 81 = .ok (.getfield 22, 3) := by decide +kernel
theorem dX7_best_84 : decode cX7_best 84 = .ok (.iload 5, 2) := by decide +kernel
theorem dX7_best_86 : decode cX7_best 86 = .ok (.iconst 0, 1) := by decide +kernel
theorem dX7_best_87 : decode cX7_best 87 = .ok (.iastore, 1) := by decide +kernel
theorem dX7_best_88 : decode cX7_best 88 = .ok (.iconst 0, 1) := by decide +kernel
theorem dX7_best_89 : decode cX7_best 89 = .ok (.istore 7, 2) := by decide +kernel
theorem dX7_best_91 : decode cX7_best 91 = .ok (.iload 7, 2) := by decide +kernel
theorem dX7_best_93 : decode cX7_best 93 = .ok (.iload 5, 2) := by decide +kernel
theorem dX7_best_95 : decode cX7_best 95 = .ok (.if_icmp .ge 19, 3) := by decide +kernel
theorem dX7_best_98 : decode cX7_best 98 = .ok (.aload_n 0, 1) := by decide +kernel
theorem dX7_best_99 : decode cX7_best 99 = .ok (.aload_n 1, 1) := by decide +kernel
theorem dX7_best_100 : decode cX7_best 100 = .ok (.aload_n 3, 1) := by decide +kernel
theorem dX7_best_101 : decode cX7_best 101 = .ok (.iload 5, 2) := by decide +kernel
theorem dX7_best_103 : decode cX7_best 103 = .ok (.iload 7, 2) := by decide +kernel
theorem dX7_best_105 : decode cX7_best 105 = .ok (.invokevirtual 58, 3) := by decide +kernel
theorem dX7_best_108 : decode cX7_best 108 = .ok (.iinc 7 1, 3) := by decide +kernel
theorem dX7_best_111 : decode cX7_best 111 = .ok (.goto (-20), 3) := by decide +kernel
theorem dX7_best_114 : decode cX7_best 114 = .ok (.iinc 5 1, 3) := by decide +kernel
theorem dX7_best_117 : decode cX7_best 117 = .ok (.goto (-103), 3) := by decide +kernel
theorem dX7_best_120 : decode cX7_best 120 = .ok (.aload_n 0, 1) := by decide +kernel
theorem dX7_best_121 : decode cX7_best 121 = .ok (.getfield 9, 3) := by decide +kernel
theorem dX7_best_124 : decode cX7_best 124 = .ok (.iconst 0, 1) := by decide +kernel
theorem dX7_best_125 : decode cX7_best 125 = .ok (.iconst 0, 1) := by decide +kernel
theorem dX7_best_126 : decode cX7_best 126 = .ok (.iastore, 1) := by decide +kernel
theorem dX7_best_127 : decode cX7_best 127 = .ok (.iconst 0, 1) := by decide +kernel
theorem dX7_best_128 : decode cX7_best 128 = .ok (.istore 5, 2) := by decide +kernel
theorem dX7_best_130 : decode cX7_best 130 = .ok (.iconst 0, 1) := by decide +kernel
theorem dX7_best_131 : decode cX7_best 131 = .ok (.istore 6, 2) := by decide +kernel
theorem dX7_best_133 : decode cX7_best 133 = .ok (.iload 6, 2) := by decide +kernel
theorem dX7_best_135 : decode cX7_best 135 = .ok (.iload 4, 2) := by decide +kernel
theorem dX7_best_137 : decode cX7_best 137 = .ok (.if_icmp .ge 116, 3) := by decide +kernel
theorem dX7_best_140 : decode cX7_best 140 = .ok (.iconst 0, 1) := by decide +kernel
theorem dX7_best_141 : decode cX7_best 141 = .ok (.istore 7, 2) := by decide +kernel
theorem dX7_best_143 : decode cX7_best 143 = .ok (.iload 7, 2) := by decide +kernel
theorem dX7_best_145 : decode cX7_best 145 = .ok (.iconst 1, 1) := by decide +kernel
theorem dX7_best_146 : decode cX7_best 146 = .ok (.iload 6, 2) := by decide +kernel
theorem dX7_best_148 : decode cX7_best 148 = .ok (.ishl, 1) := by decide +kernel
theorem dX7_best_149 : decode cX7_best 149 = .ok (.if_icmp .ge 98, 3) := by decide +kernel
theorem dX7_best_152 : decode cX7_best 152 = .ok (.iload 7, 2) := by decide +kernel
theorem dX7_best_154 : decode cX7_best 154 = .ok (.iconst 1, 1) := by decide +kernel
theorem dX7_best_155 : decode cX7_best 155 = .ok (.iload 6, 2) := by decide +kernel
theorem dX7_best_157 : decode cX7_best 157 = .ok (.ishl, 1) := by decide +kernel
theorem dX7_best_158 : decode cX7_best 158 = .ok (.ior, 1) := by decide +kernel
theorem dX7_best_159 : decode cX7_best 159 = .ok (.istore 8, 2) := by decide +kernel
theorem dX7_best_161 : decode cX7_best 161 = .ok (.aload_n 0, 1) := by decide +kernel
theorem dX7_best_162 : decode cX7_best 162 = .ok (.getfield 9, 3) := by decide +kernel
theorem dX7_best_165 : decode cX7_best 165 = .ok (.iload 7, 2) := by decide +kernel
theorem dX7_best_167 : decode cX7_best 167 = .ok (.iaload, 1) := by decide +kernel
theorem dX7_best_168 : decode cX7_best 168 = .ok (.iconst (-1), 1) := by decide +kernel
theorem dX7_best_169 : decode cX7_best 169 = .ok (.if_icmp .eq 18, 3) := by decide +kernel
theorem dX7_best_172 : decode cX7_best 172 = .ok (.aload_n 0, 1) := by decide +kernel
theorem dX7_best_173 : decode cX7_best 173 = .ok (.iload 6, 2) := by decide +kernel
theorem dX7_best_175 : decode cX7_best 175 = .ok (.iload 7, 2) := by decide +kernel
theorem dX7_best_177 : decode cX7_best 177 = .ok (.invokevirtual 62, 3) := by decide +kernel
theorem dX7_best_180 : decode cX7_best 180 = .ok (.ifCond .eq 7, 3) := by decide +kernel
theorem dX7_best_183 : decode cX7_best 183 = .ok (.iconst 1, 1) := by decide +kernel
theorem dX7_best_184 : decode cX7_best 184 = .ok (.goto 4, 3) := by decide +kernel
theorem dX7_best_187 : decode cX7_best 187 = .ok (.iconst 0, 1) := by decide +kernel
theorem dX7_best_188 : decode cX7_best 188 = .ok (.istore 9, 2) := by decide +kernel
theorem dX7_best_190 : decode cX7_best 190 = .ok (.aload_n 0, 1) := by decide +kernel
theorem dX7_best_191 : decode cX7_best 191 = .ok (.getfield 9, 3) := by decide +kernel
theorem dX7_best_194 : decode cX7_best 194 = .ok (.iload 8, 2) := by decide +kernel
theorem dX7_best_196 : decode cX7_best 196 = .ok (.iload 9, 2) := by decide +kernel
theorem dX7_best_198 : decode cX7_best 198 = .ok (.ifCond .eq 21, 3) := by decide +kernel
theorem dX7_best_201 : decode cX7_best 201 = .ok (.aload_n 0, 1) := by decide +kernel
theorem dX7_best_202 : decode cX7_best 202 = .ok (.getfield 9, 3) := by decide +kernel
theorem dX7_best_205 : decode cX7_best 205 = .ok (.iload 7, 2) := by decide +kernel
theorem dX7_best_207 : decode cX7_best 207 = .ok (.iaload, 1) := by decide +kernel
theorem dX7_best_208 : decode cX7_best 208 = .ok (.aload_n 3, 1) := by decide +kernel
theorem dX7_best_209 : decode cX7_best 209 = .ok (.getfield 66, 3) := by decide +kernel
theorem dX7_best_212 : decode cX7_best 212 = .ok (.iload 6, 2) := by decide +kernel
theorem dX7_best_214 : decode cX7_best 214 = .ok (.iaload, 1) := by decide +kernel
theorem dX7_best_215 : decode cX7_best 215 = .ok (.iadd, 1) := by decide +kernel
theorem dX7_best_216 : decode cX7_best 216 = .ok (.goto 4, 3) := by decide +kernel
theorem dX7_best_219 : decode cX7_best 219 = .ok (.iconst (-1), 1) := by decide +kernel
theorem dX7_best_220 : decode cX7_best 220 = .ok (.iastore, 1) := by decide +kernel
theorem dX7_best_221 : decode cX7_best 221 = .ok (.aload_n 0, 1) := by decide +kernel
theorem dX7_best_222 : decode cX7_best 222 = .ok (.iload 8, 2) := by decide +kernel
theorem dX7_best_224 : decode cX7_best 224 = .ok (.iload 5, 2) := by decide +kernel
theorem dX7_best_226 : decode cX7_best 226 = .ok (.invokevirtual 67, 3) := by decide +kernel
theorem dX7_best_229 : decode cX7_best 229 = .ok (.ifCond .eq 8, 3) := by decide +kernel
theorem dX7_best_232 : decode cX7_best 232 = .ok (.iload 8, 2) := by decide +kernel
theorem dX7_best_234 : decode cX7_best 234 = .ok (.goto 5, 3) := by decide +kernel
theorem dX7_best_237 : decode cX7_best 237 = .ok (.iload 5, 2) := by decide +kernel
theorem dX7_best_239 : decode cX7_best 239 = .ok (.istore 5, 2) := by decide +kernel
theorem dX7_best_241 : decode cX7_best 241 = .ok (.iinc 7 1, 3) := by decide +kernel
theorem dX7_best_244 : decode cX7_best 244 = .ok (.goto (-101), 3) := by decide +kernel
theorem dX7_best_247 : decode cX7_best 247 = .ok (.iinc 6 1, 3) := by decide +kernel
theorem dX7_best_250 : decode cX7_best 250 = .ok (.goto (-117), 3) := by decide +kernel
theorem dX7_best_253 : decode cX7_best 253 = .ok (.iload 5, 2) := by decide +kernel
theorem dX7_best_255 : decode cX7_best 255 = .ok (.ireturn, 1) := by decide +kernel
theorem dX7_bar_0 : decode cX7_bar 0 = .ok (.aload_n 2, 1) := by decide +kernel
theorem dX7_bar_1 : decode cX7_bar 1 = .ok (.getfield 37, 3) := by decide +kernel
theorem dX7_bar_4 : decode cX7_bar 4 = .ok (.iload_n 3, 1) := by decide +kernel
theorem dX7_bar_5 : decode cX7_bar 5 = .ok (.iaload, 1) := by decide +kernel
theorem dX7_bar_6 : decode cX7_bar 6 = .ok (.istore 5, 2) := by decide +kernel
theorem dX7_bar_8 : decode cX7_bar 8 = .ok (.aload_n 2, 1) := by decide +kernel
theorem dX7_bar_9 : decode cX7_bar 9 = .ok (.getfield 37, 3) := by decide +kernel
theorem dX7_bar_12 : decode cX7_bar 12 = .ok (.iload 4, 2) := by decide +kernel
theorem dX7_bar_14 : decode cX7_bar 14 = .ok (.iaload, 1) := by decide +kernel
theorem dX7_bar_15 : decode cX7_bar 15 = .ok (.istore 6, 2) := by decide +kernel
theorem dX7_bar_17 : decode cX7_bar 17 = .ok (.iload 5, 2) := by decide +kernel
theorem dX7_bar_19 : decode cX7_bar 19 = .ok (.iload 6, 2) := by decide +kernel
theorem dX7_bar_21 : decode cX7_bar 21 = .ok (.invokestatic 70, 3) := by decide +kernel
theorem dX7_bar_24 : decode cX7_bar 24 = .ok (.istore 7, 2) := by decide +kernel
theorem dX7_bar_26 : decode cX7_bar 26 = .ok (.iconst 0, 1) := by decide +kernel
theorem dX7_bar_27 : decode cX7_bar 27 = .ok (.istore 8, 2) := by decide +kernel
theorem dX7_bar_29 : decode cX7_bar 29 = .ok (.iload 8, 2) := by decide +kernel
theorem dX7_bar_31 : decode cX7_bar 31 = .ok (.aload_n 1, 1) := by decide +kernel
theorem dX7_bar_32 : decode cX7_bar 32 = .ok (.getfield 75, 3) := by decide +kernel
theorem dX7_bar_35 : decode cX7_bar 35 = .ok (.if_icmp .ge 47, 3) := by decide +kernel
theorem dX7_bar_38 : decode cX7_bar 38 = .ok (.iload 7, 2) := by decide +kernel
theorem dX7_bar_40 : decode cX7_bar 40 = .ok (.ifCond .ne 29, 3) := by decide +kernel
theorem dX7_bar_43 : decode cX7_bar 43 = .ok (.aload_n 1, 1) := by decide +kernel
theorem dX7_bar_44 : decode cX7_bar 44 = .ok (.iload 8, 2) := by decide +kernel
theorem dX7_bar_46 : decode cX7_bar 46 = .ok (.invokevirtual 78, 3) := by decide +kernel
theorem dX7_bar_49 : decode cX7_bar 49 = .ok (.ifCond .eq 24, 3) := by decide +kernel
theorem dX7_bar_52 : decode cX7_bar 52 = .ok (.iload 5, 2) := by decide +kernel
theorem dX7_bar_54 : decode cX7_bar 54 = .ok (.iload 6, 2) := by decide +kernel
theorem dX7_bar_56 : decode cX7_bar 56 = .ok (.aload_n 1, 1) := by decide +kernel
theorem dX7_bar_57 : decode cX7_bar 57 = .ok (.getfield 81, 3) := by decide +kernel
theorem dX7_bar_60 : decode cX7_bar 60 = .ok (.iload 8, 2) := by decide +kernel
theorem dX7_bar_62 : decode cX7_bar 62 = .ok (.iaload, 1) := by decide +kernel
theorem dX7_bar_63 : decode cX7_bar 63 = .ok (.invokestatic 84, 3) := by decide +kernel
theorem dX7_bar_66 : decode cX7_bar 66 = .ok (.ifCond .eq 7, 3) := by decide +kernel
theorem dX7_bar_69 : decode cX7_bar 69 = .ok (.iconst 1, 1) := by decide +kernel
theorem dX7_bar_70 : decode cX7_bar 70 = .ok (.goto 4, 3) := by decide +kernel
theorem dX7_bar_73 : decode cX7_bar 73 = .ok (.iconst 0, 1) := by decide +kernel
theorem dX7_bar_74 : decode cX7_bar 74 = .ok (.istore 7, 2) := by decide +kernel
theorem dX7_bar_76 : decode cX7_bar 76 = .ok (.iinc 8 1, 3) := by decide +kernel
theorem dX7_bar_79 : decode cX7_bar 79 = .ok (.goto (-50), 3) := by decide +kernel
theorem dX7_bar_82 : decode cX7_bar 82 = .ok (.iload 7, 2) := by decide +kernel
theorem dX7_bar_84 : decode cX7_bar 84 = .ok (.ifCond .eq 16, 3) := by decide +kernel
theorem dX7_bar_87 : decode cX7_bar 87 = .ok (.aload_n 0, 1) := by decide +kernel
theorem dX7_bar_88 : decode cX7_bar 88 = .ok (.getfield 22, 3) := by decide +kernel
theorem dX7_bar_91 : decode cX7_bar 91 = .ok (.iload_n 3, 1) := by decide +kernel
theorem dX7_bar_92 : decode cX7_bar 92 = .ok (.dup2, 1) := by decide +kernel
theorem dX7_bar_93 : decode cX7_bar 93 = .ok (.iaload, 1) := by decide +kernel
theorem dX7_bar_94 : decode cX7_bar 94 = .ok (.iconst 1, 1) := by decide +kernel
theorem dX7_bar_95 : decode cX7_bar 95 = .ok (.iload 4, 2) := by decide +kernel
theorem dX7_bar_97 : decode cX7_bar 97 = .ok (.ishl, 1) := by decide +kernel
theorem dX7_bar_98 : decode cX7_bar 98 = .ok (.ior, 1) := by decide +kernel
theorem dX7_bar_99 : decode cX7_bar 99 = .ok (.iastore, 1) := by decide +kernel
theorem dX7_bar_100 : decode cX7_bar 100 = .ok (.iconst 0, 1) := by decide +kernel
theorem dX7_bar_101 : decode cX7_bar 101 = .ok (.istore 8, 2) := by decide +kernel
theorem dX7_bar_103 : decode cX7_bar 103 = .ok (.iconst 0, 1) := by decide +kernel
theorem dX7_bar_104 : decode cX7_bar 104 = .ok (.istore 9, 2) := by decide +kernel
theorem dX7_bar_106 : decode cX7_bar 106 = .ok (.iload 9, 2) := by decide +kernel
theorem dX7_bar_108 : decode cX7_bar 108 = .ok (.iload 4, 2) := by decide +kernel
theorem dX7_bar_110 : decode cX7_bar 110 = .ok (.if_icmp .ge 35, 3) := by decide +kernel
theorem dX7_bar_113 : decode cX7_bar 113 = .ok (.iload 5, 2) := by decide +kernel
theorem dX7_bar_115 : decode cX7_bar 115 = .ok (.iload 6, 2) := by decide +kernel
theorem dX7_bar_117 : decode cX7_bar 117 = .ok (.aload_n 2, 1) := by decide +kernel
theorem dX7_bar_118 : decode cX7_bar 118 = .ok (.getfield 37, 3) := by decide +kernel
theorem dX7_bar_121 : decode cX7_bar 121 = .ok (.iload 9, 2) := by decide +kernel
theorem dX7_bar_123 : decode cX7_bar 123 = .ok (.iaload, 1) := by decide +kernel
theorem dX7_bar_124 : decode cX7_bar 124 = .ok (.invokestatic 84, 3) := by decide +kernel
theorem dX7_bar_127 : decode cX7_bar 127 = .ok (.ifCond .eq 12, 3) := by decide +kernel
theorem dX7_bar_130 : decode cX7_bar 130 = .ok (.iload 8, 2) := by decide +kernel
theorem dX7_bar_132 : decode cX7_bar 132 = .ok (.iconst 1, 1) := by decide +kernel
theorem dX7_bar_133 : decode cX7_bar 133 = .ok (.iload 9, 2) := by decide +kernel
theorem dX7_bar_135 : decode cX7_bar 135 = .ok (.ishl, 1) := by decide +kernel
theorem dX7_bar_136 : decode cX7_bar 136 = .ok (.ior, 1) := by decide +kernel
theorem dX7_bar_137 : decode cX7_bar 137 = .ok (.istore 8, 2) := by decide +kernel
theorem dX7_bar_139 : decode cX7_bar 139 = .ok (.iinc 9 1, 3) := by decide +kernel
theorem dX7_bar_142 : decode cX7_bar 142 = .ok (.goto (-36), 3) := by decide +kernel
theorem dX7_bar_145 : decode cX7_bar 145 = .ok (.aload_n 0, 1) := by decide +kernel
theorem dX7_bar_146 : decode cX7_bar 146 = .ok (.getfield 19, 3) := by decide +kernel
theorem dX7_bar_149 : decode cX7_bar 149 = .ok (.iload_n 3, 1) := by decide +kernel
theorem dX7_bar_150 : decode cX7_bar 150 = .ok (.bipush 10, 2) := by decide +kernel
theorem dX7_bar_152 : decode cX7_bar 152 = .ok (.imul, 1) := by decide +kernel
theorem dX7_bar_153 : decode cX7_bar 153 = .ok (.iload 4, 2) := by decide +kernel
theorem dX7_bar_155 : decode cX7_bar 155 = .ok (.iadd, 1) := by decide +kernel
theorem dX7_bar_156 : decode cX7_bar 156 = .ok (.iload 8, 2) := by decide +kernel
theorem dX7_bar_158 : decode cX7_bar 158 = .ok (.iastore, 1) := by decide +kernel
theorem dX7_bar_159 : decode cX7_bar 159 = .ok (.return_, 1) := by decide +kernel
theorem dX7_isFine_0 : decode cX7_isFine 0 = .ok (.aload_n 0, 1) := by decide +kernel
theorem dX7_isFine_1 : decode cX7_isFine 1 = .ok (.getfield 15, 3) := by decide +kernel
theorem dX7_isFine_4 : decode cX7_isFine 4 = .ok (.iload_n 1, 1) := by decide +kernel
theorem dX7_isFine_5 : decode cX7_isFine 5 = .ok (.baload, 1) := by decide +kernel
theorem dX7_isFine_6 : decode cX7_isFine 6 = .ok (.ifCond .eq 14, 3) := by decide +kernel
theorem dX7_isFine_9 : decode cX7_isFine 9 = .ok (.aload_n 0, 1) := by decide +kernel
theorem dX7_isFine_10 : decode cX7_isFine 10 = .ok (.getfield 22, 3) := by decide +kernel
theorem dX7_isFine_13 : decode cX7_isFine 13 = .ok (.iload_n 1, 1) := by decide +kernel
theorem dX7_isFine_14 : decode cX7_isFine 14 = .ok (.iaload, 1) := by decide +kernel
theorem dX7_isFine_15 : decode cX7_isFine 15 = .ok (.iload_n 2, 1) := by decide +kernel
theorem dX7_isFine_16 : decode cX7_isFine 16 = .ok (.iand, 1) := by decide +kernel
theorem dX7_isFine_17 : decode cX7_isFine 17 = .ok (.ifCond .eq 5, 3) := by decide +kernel
theorem dX7_isFine_20 : decode cX7_isFine 20 = .ok (.iconst 0, 1) := by decide +kernel
theorem dX7_isFine_21 : decode cX7_isFine 21 = .ok (.ireturn, 1) := by decide +kernel
theorem dX7_isFine_22 : decode cX7_isFine 22 = .ok (.iconst 0, 1) := by decide +kernel
theorem dX7_isFine_23 : decode cX7_isFine 23 = .ok (.istore_n 3, 1) := by decide +kernel
theorem dX7_isFine_24 : decode cX7_isFine 24 = .ok (.iload_n 3, 1) := by decide +kernel
theorem dX7_isFine_25 : decode cX7_isFine 25 = .ok (.iload_n 1, 1) := by decide +kernel
theorem dX7_isFine_26 : decode cX7_isFine 26 = .ok (.if_icmp .ge 35, 3) := by decide +kernel
theorem dX7_isFine_29 : decode cX7_isFine 29 = .ok (.iload_n 2, 1) := by decide +kernel
theorem dX7_isFine_30 : decode cX7_isFine 30 = .ok (.iload_n 3, 1) := by decide +kernel
theorem dX7_isFine_31 : decode cX7_isFine 31 = .ok (.ishr, 1) := by decide +kernel
theorem dX7_isFine_32 : decode cX7_isFine 32 = .ok (.iconst 1, 1) := by decide +kernel
theorem dX7_isFine_33 : decode cX7_isFine 33 = .ok (.iand, 1) := by decide +kernel
theorem dX7_isFine_34 : decode cX7_isFine 34 = .ok (.ifCond .eq 21, 3) := by decide +kernel
theorem dX7_isFine_37 : decode cX7_isFine 37 = .ok (.aload_n 0, 1) := by decide +kernel
theorem dX7_isFine_38 : decode cX7_isFine 38 = .ok (.getfield 19, 3) := by decide +kernel
theorem dX7_isFine_41 : decode cX7_isFine 41 = .ok (.iload_n 1, 1) := by decide +kernel
theorem dX7_isFine_42 : decode cX7_isFine 42 = .ok (.bipush 10, 2) := by decide +kernel
theorem dX7_isFine_44 : decode cX7_isFine 44 = .ok (.imul, 1) := by decide +kernel
theorem dX7_isFine_45 : decode cX7_isFine 45 = .ok (.iload_n 3, 1) := by decide +kernel
theorem dX7_isFine_46 : decode cX7_isFine 46 = .ok (.iadd, 1) := by decide +kernel
theorem dX7_isFine_47 : decode cX7_isFine 47 = .ok (.iaload, 1) := by decide +kernel
theorem dX7_isFine_48 : decode cX7_isFine 48 = .ok (.iload_n 2, 1) := by decide +kernel
theorem dX7_isFine_49 : decode cX7_isFine 49 = .ok (.iand, 1) := by decide +kernel
theorem dX7_isFine_50 : decode cX7_isFine 50 = .ok (.ifCond .eq 5, 3) := by decide +kernel
theorem dX7_isFine_53 : decode cX7_isFine 53 = .ok (.iconst 0, 1) := by decide +kernel
theorem dX7_isFine_54 : decode cX7_isFine 54 = .ok (.ireturn, 1) := by decide +kernel
theorem dX7_isFine_55 : decode cX7_isFine 55 = .ok (.iinc 3 1, 3) := by decide +kernel
theorem dX7_isFine_58 : decode cX7_isFine 58 = .ok (.goto (-34), 3) := by decide +kernel
theorem dX7_isFine_61 : decode cX7_isFine 61 = .ok (.iconst 1, 1) := by decide +kernel
theorem dX7_isFine_62 : decode cX7_isFine 62 = .ok (.ireturn, 1) := by decide +kernel
theorem dX7_isBetter_0 : decode cX7_isBetter 0 = .ok (.aload_n 0, 1) := by decide +kernel
theorem dX7_isBetter_1 : decode cX7_isBetter 1 = .ok (.getfield 9, 3) := by decide +kernel
theorem dX7_isBetter_4 : decode cX7_isBetter 4 = .ok (.iload_n 1, 1) := by decide +kernel
theorem dX7_isBetter_5 : decode cX7_isBetter 5 = .ok (.iaload, 1) := by decide +kernel
theorem dX7_isBetter_6 : decode cX7_isBetter 6 = .ok (.aload_n 0, 1) := by decide +kernel
theorem dX7_isBetter_7 : decode cX7_isBetter 7 = .ok (.getfield 9, 3) := by decide +kernel
theorem dX7_isBetter_10 : decode cX7_isBetter 10 = .ok (.iload_n 2, 1) := by decide +kernel
theorem dX7_isBetter_11 : decode cX7_isBetter 11 = .ok (.iaload, 1) := by decide +kernel
theorem dX7_isBetter_12 : decode cX7_isBetter 12 = .ok (.if_icmp .gt 29, 3) := by decide +kernel
theorem dX7_isBetter_15 : decode cX7_isBetter 15 = .ok (.aload_n 0, 1) := by decide +kernel
theorem dX7_isBetter_16 : decode cX7_isBetter 16 = .ok (.getfield 9, 3) := by decide +kernel
theorem dX7_isBetter_19 : decode cX7_isBetter 19 = .ok (.iload_n 1, 1) := by decide +kernel
theorem dX7_isBetter_20 : decode cX7_isBetter 20 = .ok (.iaload, 1) := by decide +kernel
theorem dX7_isBetter_21 : decode cX7_isBetter 21 = .ok (.aload_n 0, 1) := by decide +kernel
theorem dX7_isBetter_22 : decode cX7_isBetter 22 = .ok (.getfield 9, 3) := by decide +kernel
theorem dX7_isBetter_25 : decode cX7_isBetter 25 = .ok (.iload_n 2, 1) := by decide +kernel
theorem dX7_isBetter_26 : decode cX7_isBetter 26 = .ok (.iaload, 1) := by decide +kernel
theorem dX7_isBetter_27 : decode cX7_isBetter 27 = .ok (.if_icmp .ne 18, 3) := by decide +kernel
theorem dX7_isBetter_30 : decode cX7_isBetter 30 = .ok (.iload_n 1, 1) := by decide +kernel
theorem dX7_isBetter_31 : decode cX7_isBetter 31 = .ok (.invokestatic 88, 3) := by decide +kernel
theorem dX7_isBetter_34 : decode cX7_isBetter 34 = .ok (.iload_n 2, 1) := by decide +kernel
theorem dX7_isBetter_35 : decode cX7_isBetter 35 = .ok (.invokestatic 88, 3) := by decide +kernel
theorem dX7_isBetter_38 : decode cX7_isBetter 38 = .ok (.if_icmp .ge 7, 3) := by decide +kernel
theorem dX7_isBetter_41 : decode cX7_isBetter 41 = .ok (.iconst 1, 1) := by decide +kernel
theorem dX7_isBetter_42 : decode cX7_isBetter 42 = .ok (.goto 4, 3) := by decide +kernel
theorem dX7_isBetter_45 : decode cX7_isBetter 45 = .ok (.iconst 0, 1) := by decide +kernel
theorem dX7_isBetter_46 : decode cX7_isBetter 46 = .ok (.ireturn, 1) := by decide +kernel
theorem dX8_init_0 : decode cX8_init 0 = .ok (.aload_n 0, 1) := by decide +kernel
theorem dX8_init_1 : decode cX8_init 1 = .ok (.invokespecial 3, 3) := by decide +kernel
theorem dX8_init_4 : decode cX8_init 4 = .ok (.aload_n 0, 1) := by decide +kernel
theorem dX8_init_5 : decode cX8_init 5 = .ok (.sipush 220, 3) := by decide +kernel
theorem dX8_init_8 : decode cX8_init 8 = .ok (.newarray .int, 2) := by decide +kernel
theorem dX8_init_10 : decode cX8_init 10 = .ok (.putfield 9, 3) := by decide +kernel
theorem dX8_init_13 : decode cX8_init 13 = .ok (.aload_n 0, 1) := by decide +kernel
theorem dX8_init_14 : decode cX8_init 14 = .ok (.iconst 0, 1) := by decide +kernel
theorem dX8_init_15 : decode cX8_init 15 = .ok (.putfield 15, 3) := by decide +kernel
theorem dX8_init_18 : decode cX8_init 18 = .ok (.return_, 1) := by decide +kernel
theorem dX8_putInt_0 : decode cX8_putInt 0 = .ok (.aload_n 0, 1) := by decide +kernel
theorem dX8_putInt_1 : decode cX8_putInt 1 = .ok (.getfield 15, 3) := by decide +kernel
theorem dX8_putInt_4 : decode cX8_putInt 4 = .ok (.iconst 4, 1) := by decide +kernel
theorem dX8_putInt_5 : decode cX8_putInt 5 = .ok (.iadd, 1) := by decide +kernel
theorem dX8_putInt_6 : decode cX8_putInt 6 = .ok (.sipush 220, 3) := by decide +kernel
theorem dX8_putInt_9 : decode cX8_putInt 9 = .ok (.if_icmp .le 4, 3) := by decide +kernel
theorem dX8_putInt_12 : decode cX8_putInt 12 = .ok (.return_, 1) := by decide +kernel
theorem dX8_putInt_13 : decode cX8_putInt 13 = .ok (.bipush 24, 2) := by decide +kernel
theorem dX8_putInt_15 : decode cX8_putInt 15 = .ok (.istore_n 2, 1) := by decide +kernel
theorem dX8_putInt_16 : decode cX8_putInt 16 = .ok (.iload_n 2, 1) := by decide +kernel
theorem dX8_putInt_17 : decode cX8_putInt 17 = .ok (.ifCond .lt 35, 3) := by decide +kernel
theorem dX8_putInt_20 : decode cX8_putInt 20 = .ok (.aload_n 0, 1) := by decide +kernel
theorem dX8_putInt_21 : decode cX8_putInt 21 = .ok (.getfield 9, 3) := by decide +kernel
theorem dX8_putInt_24 : decode cX8_putInt 24 = .ok (.aload_n 0, 1) := by decide +kernel
theorem dX8_putInt_25 : decode cX8_putInt 25 = .ok (.getfield 15, 3) := by decide +kernel
theorem dX8_putInt_28 : decode cX8_putInt 28 = .ok (.iload_n 1, 1) := by decide +kernel
theorem dX8_putInt_29 : decode cX8_putInt 29 = .ok (.iload_n 2, 1) := by decide +kernel
theorem dX8_putInt_30 : decode cX8_putInt 30 = .ok (.ishr, 1) := by decide +kernel
theorem dX8_putInt_31 : decode cX8_putInt 31 = .ok (.sipush 255, 3) := by decide +kernel
theorem dX8_putInt_34 : decode cX8_putInt 34 = .ok (.iand, 1) := by decide +kernel
theorem dX8_putInt_35 : decode cX8_putInt 35 = .ok (.iastore, 1) := by decide +kernel
theorem dX8_putInt_36 : decode cX8_putInt 36 = .ok (.aload_n 0, 1) := by decide +kernel
theorem dX8_putInt_37 : decode cX8_putInt 37 = .ok (.dup, 1) := by decide +kernel
theorem dX8_putInt_38 : decode cX8_putInt 38 = .ok (.getfield 15, 3) := by decide +kernel
theorem dX8_putInt_41 : decode cX8_putInt 41 = .ok (.iconst 1, 1) := by decide +kernel
theorem dX8_putInt_42 : decode cX8_putInt 42 = .ok (.iadd, 1) := by decide +kernel
theorem dX8_putInt_43 : decode cX8_putInt 43 = .ok (.putfield 15, 3) := by decide +kernel
theorem dX8_putInt_46 : decode cX8_putInt 46 = .ok (.iinc 2 (-8), 3) := by decide +kernel
theorem dX8_putInt_49 : decode cX8_putInt 49 = .ok (.goto (-33), 3) := by decide +kernel
theorem dX8_putInt_52 : decode cX8_putInt 52 = .ok (.return_, 1) := by decide +kernel
theorem dX8_byteAt_0 : decode cX8_byteAt 0 = .ok (.iload_n 1, 1) := by decide +kernel
theorem dX8_byteAt_1 : decode cX8_byteAt 1 = .ok (.ifCond .lt 19, 3) := by decide +kernel
theorem dX8_byteAt_4 : decode cX8_byteAt 4 = .ok (.iload_n 1, 1) := by decide +kernel
theorem dX8_byteAt_5 : decode cX8_byteAt 5 = .ok (.sipush 220, 3) := by decide +kernel
theorem dX8_byteAt_8 : decode cX8_byteAt 8 = .ok (.if_icmp .ge 12, 3) := by decide +kernel
theorem dX8_byteAt_11 : decode cX8_byteAt 11 = .ok (.aload_n 0, 1) := by decide +kernel
theorem dX8_byteAt_12 : decode cX8_byteAt 12 = .ok (.getfield 9, 3) := by decide +kernel
theorem dX8_byteAt_15 : decode cX8_byteAt 15 = .ok (.iload_n 1, 1) := by decide +kernel
theorem dX8_byteAt_16 : decode cX8_byteAt 16 = .ok (.iaload, 1) := by decide +kernel
theorem dX8_byteAt_17 : decode cX8_byteAt 17 = .ok (.goto 4, 3) := by decide +kernel
theorem dX8_byteAt_20 : decode cX8_byteAt 20 = .ok (.iconst 0, 1) := by decide +kernel
theorem dX8_byteAt_21 : decode cX8_byteAt 21 = .ok (.ireturn, 1) := by decide +kernel
theorem dX8_intAt_0 : decode cX8_intAt 0 = .ok (.aload_n 0, 1) := by decide +kernel
theorem dX8_intAt_1 : decode cX8_intAt 1 = .ok (.iload_n 1, 1) := by decide +kernel
theorem dX8_intAt_2 : decode cX8_intAt 2 = .ok (.invokevirtual 19, 3) := by decide +kernel
theorem dX8_intAt_5 : decode cX8_intAt 5 = .ok (.bipush 24, 2) := by decide +kernel
theorem dX8_intAt_7 : decode cX8_intAt 7 = .ok (.ishl, 1) := by decide +kernel
theorem dX8_intAt_8 : decode cX8_intAt 8 = .ok (.aload_n 0, 1) := by decide +kernel
theorem dX8_intAt_9 : decode cX8_intAt 9 = .ok (.iload_n 1, 1) := by decide +kernel
theorem dX8_intAt_10 : decode cX8_intAt 10 = .ok (.iconst 1, 1) := by decide +kernel
theorem dX8_intAt_11 : decode cX8_intAt 11 = .ok (.iadd, 1) := by decide +kernel
theorem dX8_intAt_12 : decode cX8_intAt 12 = .ok (.invokevirtual 19, 3) := by decide +kernel
theorem dX8_intAt_15 : decode cX8_intAt 15 = .ok (.bipush 16, 2) := by decide +kernel
theorem dX8_intAt_17 : decode cX8_intAt 17 = .ok (.ishl, 1) := by decide +kernel
theorem dX8_intAt_18 : decode cX8_intAt 18 = .ok (.ior, 1) := by decide +kernel
theorem dX8_intAt_19 : decode cX8_intAt 19 = .ok (.aload_n 0, 1) := by decide +kernel
theorem dX8_intAt_20 : decode cX8_intAt 20 = .ok (.iload_n 1, 1) := by decide +kernel
theorem dX8_intAt_21 : decode cX8_intAt 21 = .ok (.iconst 2, 1) := by decide +kernel
theorem dX8_intAt_22 : decode cX8_intAt 22 = .ok (.iadd, 1) := by decide +kernel
theorem dX8_intAt_23 : decode cX8_intAt 23 = .ok (.invokevirtual 19, 3) := by decide +kernel
theorem dX8_intAt_26 : decode cX8_intAt 26 = .ok (.bipush 8, 2) := by decide +kernel
theorem dX8_intAt_28 : decode cX8_intAt 28 = .ok (.ishl, 1) := by decide +kernel
theorem dX8_intAt_29 : decode cX8_intAt 29 = .ok (.ior, 1) := by decide +kernel
theorem dX8_intAt_30 : decode cX8_intAt 30 = .ok (.aload_n 0, 1) := by decide +kernel
theorem dX8_intAt_31 : decode cX8_intAt 31 = .ok (.iload_n 1, 1) := by decide +kernel
theorem dX8_intAt_32 : decode cX8_intAt 32 = .ok (.iconst 3, 1) := by decide +kernel
theorem dX8_intAt_33 : decode cX8_intAt 33 = .ok (.iadd, 1) := by decide +kernel
theorem dX8_intAt_34 : decode cX8_intAt 34 = .ok (.invokevirtual 19, 3) := by decide +kernel
theorem dX8_intAt_37 : decode cX8_intAt 37 = .ok (.ior, 1) := by decide +kernel
theorem dX8_intAt_38 : decode cX8_intAt 38 = .ok (.ireturn, 1) := by decide +kernel
theorem dX9_init_0 : decode cX9_init 0 = .ok (.aload_n 0, 1) := by decide +kernel
theorem dX9_init_1 : decode cX9_init 1 = .ok (.invokespecial 3, 3) := by decide +kernel
theorem dX9_init_4 : decode cX9_init 4 = .ok (.aload_n 0, 1) := by decide +kernel
theorem dX9_init_5 : decode cX9_init 5 = .ok (.bipush 40, 2) := by decide +kernel
theorem dX9_init_7 : decode cX9_init 7 = .ok (.newarray .int, 2) := by decide +kernel
theorem dX9_init_9 : decode cX9_init 9 = .ok (.putfield 9, 3) := by decide +kernel
theorem dX9_init_12 : decode cX9_init 12 = .ok (.aload_n 0, 1) := by decide +kernel
theorem dX9_init_13 : decode cX9_init 13 = .ok (.bipush 40, 2) := by decide +kernel
theorem dX9_init_15 : decode cX9_init 15 = .ok (.newarray .int, 2) := by decide +kernel
theorem dX9_init_17 : decode cX9_init 17 = .ok (.putfield 15, 3) := by decide +kernel
theorem dX9_init_20 : decode cX9_init 20 = .ok (.aload_n 0, 1) := by decide +kernel
theorem dX9_init_21 : decode cX9_init 21 = .ok (.iconst 0, 1) := by decide +kernel
theorem dX9_init_22 : decode cX9_init 22 = .ok (.putfield 18, 3) := by decide +kernel
theorem dX9_init_25 : decode cX9_init 25 = .ok (.return_, 1) := by decide +kernel
theorem dX9_readSquares_0 : decode cX9_readSquares 0 = .ok (.aload_n 0, 1) := by decide +kernel
theorem dX9_readSquares_1 : decode cX9_readSquares 1 = .ok (.iload_n 2, 1) := by decide +kernel
theorem dX9_readSquares_2 : decode cX9_readSquares 2 = .ok (.bipush 40, 2) := by decide +kernel
theorem dX9_readSquares_4 : decode cX9_readSquares 4 = .ok (.invokestatic 22, 3) := by decide +kernel
theorem dX9_readSquares_7 : decode cX9_readSquares 7 = .ok (.putfield 18, 3) := by decide +kernel
theorem dX9_readSquares_10 : decode cX9_readSquares 10 = .ok (.iconst 0, 1) := by decide +kernel
theorem dX9_readSquares_11 : decode cX9_readSquares 11 = .ok (.istore_n 3, 1) := by decide +kernel
theorem dX9_readSquares_12 : decode cX9_readSquares 12 = .ok (.iload_n 3, 1) := by decide +kernel
theorem dX9_readSquares_13 : decode cX9_readSquares 13 = .ok (.aload_n 0, 1) := by decide +kernel
theorem dX9_readSquares_14 : decode cX9_readSquares 14 = .ok (.getfield 18, 3) := by decide +kernel
theorem dX9_readSquares_17 : decode cX9_readSquares 17 = .ok (.if_icmp .ge 27, 3) := by decide +kernel
theorem dX9_readSquares_20 : decode cX9_readSquares 20 = .ok (.aload_n 0, 1) := by decide +kernel
theorem dX9_readSquares_21 : decode cX9_readSquares 21 = .ok (.getfield 9, 3) := by decide +kernel
theorem dX9_readSquares_24 : decode cX9_readSquares 24 = .ok (.iload_n 3, 1) := by decide +kernel
theorem dX9_readSquares_25 : decode cX9_readSquares 25 = .ok (.aload_n 1, 1) := by decide +kernel
theorem dX9_readSquares_26 : decode cX9_readSquares 26 = .ok (.iload_n 3, 1) := by decide +kernel
theorem dX9_readSquares_27 : decode cX9_readSquares 27 = .ok (.invokevirtual 28, 3) := by decide +kernel
theorem dX9_readSquares_30 : decode cX9_readSquares 30 = .ok (.iastore, 1) := by decide +kernel
theorem dX9_readSquares_31 : decode cX9_readSquares 31 = .ok (.aload_n 0, 1) := by decide +kernel
theorem dX9_readSquares_32 : decode cX9_readSquares 32 = .ok (.getfield 15, 3) := by decide +kernel
theorem dX9_readSquares_35 : decode cX9_readSquares 35 = .ok (.iload_n 3, 1) := by decide +kernel
theorem dX9_readSquares_36 : decode cX9_readSquares 36 = .ok (.iconst 0, 1) := by decide +kernel
theorem dX9_readSquares_37 : decode cX9_readSquares 37 = .ok (.iastore, 1) := by decide +kernel
theorem dX9_readSquares_38 : decode cX9_readSquares 38 = .ok (.iinc 3 1, 3) := by decide +kernel
theorem dX9_readSquares_41 : decode cX9_readSquares 41 = .ok (.goto (-29), 3) := by decide +kernel
theorem dX9_readSquares_44 : decode cX9_readSquares 44 = .ok (.aload_n 1, 1) := by decide +kernel
theorem dX9_readSquares_45 : decode cX9_readSquares 45 = .ok (.iconst 0, 1) := by decide +kernel
theorem dX9_readSquares_46 : decode cX9_readSquares 46 = .ok (.putfield 34, 3) := by decide +kernel
theorem dX9_readSquares_49 : decode cX9_readSquares 49 = .ok (.return_, 1) := by decide +kernel
theorem dX9_readPairs_0 : decode cX9_readPairs 0 = .ok (.aload_n 0, 1) := by decide +kernel
theorem dX9_readPairs_1 : decode cX9_readPairs 1 = .ok (.iload_n 2, 1) := by decide +kernel
theorem dX9_readPairs_2 : decode cX9_readPairs 2 = .ok (.bipush 40, 2) := by decide +kernel
theorem dX9_readPairs_4 : decode cX9_readPairs 4 = .ok (.invokestatic 22, 3) := by decide +kernel
theorem dX9_readPairs_7 : decode cX9_readPairs 7 = .ok (.putfield 18, 3) := by decide +kernel
theorem dX9_readPairs_10 : decode cX9_readPairs 10 = .ok (.iconst 0, 1) := by decide +kernel
theorem dX9_readPairs_11 : decode cX9_readPairs 11 = .ok (.istore_n 3, 1) := by decide +kernel
theorem dX9_readPairs_12 : decode cX9_readPairs 12 = .ok (.iload_n 3, 1) := by decide +kernel
theorem dX9_readPairs_13 : decode cX9_readPairs 13 = .ok (.aload_n 0, 1) := by decide +kernel
theorem dX9_readPairs_14 : decode cX9_readPairs 14 = .ok (.getfield 18, 3) := by decide +kernel
theorem dX9_readPairs_17 : decode cX9_readPairs 17 = .ok (.if_icmp .ge 37, 3) := by decide +kernel
theorem dX9_readPairs_20 : decode cX9_readPairs 20 = .ok (.aload_n 0, 1) := by decide +kernel
theorem dX9_readPairs_21 : decode cX9_readPairs 21 = .ok (.getfield 9, 3) := by decide +kernel
theorem dX9_readPairs_24 : decode cX9_readPairs 24 = .ok (.iload_n 3, 1) := by decide +kernel
theorem dX9_readPairs_25 : decode cX9_readPairs 25 = .ok (.aload_n 1, 1) := by decide +kernel
theorem dX9_readPairs_26 : decode cX9_readPairs 26 = .ok (.iconst 2, 1) := by decide +kernel
theorem dX9_readPairs_27 : decode cX9_readPairs 27 = .ok (.iload_n 3, 1) := by decide +kernel
theorem dX9_readPairs_28 : decode cX9_readPairs 28 = .ok (.imul, 1) := by decide +kernel
theorem dX9_readPairs_29 : decode cX9_readPairs 29 = .ok (.invokevirtual 28, 3) := by decide +kernel
theorem dX9_readPairs_32 : decode cX9_readPairs 32 = .ok (.iastore, 1) := by decide +kernel
theorem dX9_readPairs_33 : decode cX9_readPairs 33 = .ok (.aload_n 0, 1) := by decide +kernel
theorem dX9_readPairs_34 : decode cX9_readPairs 34 = .ok (.getfield 15, 3) := by decide +kernel
theorem dX9_readPairs_37 : decode cX9_readPairs 37 = .ok (.iload_n 3, 1) := by decide +kernel
theorem dX9_readPairs_38 : decode cX9_readPairs 38 = .ok (.aload_n 1, 1) := by decide +kernel
theorem dX9_readPairs_39 : decode cX9_readPairs 39 = .ok (.iconst 2, 1) := by decide +kernel
theorem dX9_readPairs_40 : decode cX9_readPairs 40 = .ok (.iload_n 3, 1) := by decide +kernel
theorem dX9_readPairs_41 : decode cX9_readPairs 41 = .ok (.imul, 1) := by decide +kernel
theorem dX9_readPairs_42 : decode cX9_readPairs 42 = .ok (.iconst 1, 1) := by decide +kernel
theorem dX9_readPairs_43 : decode cX9_readPairs 43 = .ok (.iadd, 1) := by decide +kernel
theorem dX9_readPairs_44 : decode cX9_readPairs 44 = .ok (.invokevirtual 28, 3) := by decide +kernel
theorem dX9_readPairs_47 : decode cX9_readPairs 47 = .ok (.iastore, 1) := by decide +kernel
theorem dX9_readPairs_48 : decode cX9_readPairs 48 = .ok (.iinc 3 1, 3) := by decide +kernel
theorem dX9_readPairs_51 : decode cX9_readPairs 51 = .ok (.goto (-39), 3) := by decide +kernel
theorem dX9_readPairs_54 : decode cX9_readPairs 54 = .ok (.aload_n 1, 1) := by decide +kernel
theorem dX9_readPairs_55 : decode cX9_readPairs 55 = .ok (.iconst 0, 1) := by decide +kernel
theorem dX9_readPairs_56 : decode cX9_readPairs 56 = .ok (.putfield 34, 3) := by decide +kernel
theorem dX9_readPairs_59 : decode cX9_readPairs 59 = .ok (.return_, 1) := by decide +kernel
theorem dX9_hasTwice_0 : decode cX9_hasTwice 0 = .ok (.iconst 1, 1) := by decide +kernel
theorem dX9_hasTwice_1 : decode cX9_hasTwice 1 = .ok (.istore_n 1, 1) := by decide +kernel
theorem dX9_hasTwice_2 : decode cX9_hasTwice 2 = .ok (.iload_n 1, 1) := by decide +kernel
theorem dX9_hasTwice_3 : decode cX9_hasTwice 3 = .ok (.aload_n 0, 1) := by decide +kernel
theorem dX9_hasTwice_4 : decode cX9_hasTwice 4 = .ok (.getfield 18, 3) := by decide +kernel
theorem dX9_hasTwice_7 : decode cX9_hasTwice 7 = .ok (.if_icmp .ge 39, 3) := by decide +kernel
theorem dX9_hasTwice_10 : decode cX9_hasTwice 10 = .ok (.iconst 0, 1) := by decide +kernel
theorem dX9_hasTwice_11 : decode cX9_hasTwice 11 = .ok (.istore_n 2, 1) := by decide +kernel
theorem dX9_hasTwice_12 : decode cX9_hasTwice 12 = .ok (.iload_n 2, 1) := by decide +kernel
theorem dX9_hasTwice_13 : decode cX9_hasTwice 13 = .ok (.iload_n 1, 1) := by decide +kernel
theorem dX9_hasTwice_14 : decode cX9_hasTwice 14 = .ok (.if_icmp .ge 26, 3) := by decide +kernel
theorem dX9_hasTwice_17 : decode cX9_hasTwice 17 = .ok (.aload_n 0, 1) := by decide +kernel
theorem dX9_hasTwice_18 : decode cX9_hasTwice 18 = .ok (.getfield 9, 3) := by decide +kernel
theorem dX9_hasTwice_21 : decode cX9_hasTwice 21 = .ok (.iload_n 1, 1) := by decide +kernel
theorem dX9_hasTwice_22 : decode cX9_hasTwice 22 = .ok (.iaload, 1) := by decide +kernel
theorem dX9_hasTwice_23 : decode cX9_hasTwice 23 = .ok (.aload_n 0, 1) := by decide +kernel
theorem dX9_hasTwice_24 : decode cX9_hasTwice 24 = .ok (.getfield 9, 3) := by decide +kernel
theorem dX9_hasTwice_27 : decode cX9_hasTwice 27 = .ok (.iload_n 2, 1) := by decide +kernel
theorem dX9_hasTwice_28 : decode cX9_hasTwice 28 = .ok (.iaload, 1) := by decide +kernel
theorem dX9_hasTwice_29 : decode cX9_hasTwice 29 = .ok (.if_icmp .ne 5, 3) := by decide +kernel
theorem dX9_hasTwice_32 : decode cX9_hasTwice 32 = .ok (.iconst 1, 1) := by decide +kernel
theorem dX9_hasTwice_33 : decode cX9_hasTwice 33 = .ok (.ireturn, 1) := by decide +kernel
theorem dX9_hasTwice_34 : decode cX9_hasTwice 34 = .ok (.iinc 2 1, 3) := by decide +kernel
theorem dX9_hasTwice_37 : decode cX9_hasTwice 37 = .ok (.goto (-25), 3) := by decide +kernel
theorem dX9_hasTwice_40 : decode cX9_hasTwice 40 = .ok (.iinc 1 1, 3) := by decide +kernel
theorem dX9_hasTwice_43 : decode cX9_hasTwice 43 = .ok (.goto (-41), 3) := by decide +kernel
theorem dX9_hasTwice_46 : decode cX9_hasTwice 46 = .ok (.iconst 0, 1) := by decide +kernel
theorem dX9_hasTwice_47 : decode cX9_hasTwice 47 = .ok (.ireturn, 1) := by decide +kernel
theorem dX9_allFirm_0 : decode cX9_allFirm 0 = .ok (.iconst 0, 1) := by decide +kernel
theorem dX9_allFirm_1 : decode cX9_allFirm 1 = .ok (.istore_n 2, 1) := by decide +kernel
theorem dX9_allFirm_2 : decode cX9_allFirm 2 = .ok (.iload_n 2, 1) := by decide +kernel
theorem dX9_allFirm_3 : decode cX9_allFirm 3 = .ok (.aload_n 0, 1) := by decide +kernel
theorem dX9_allFirm_4 : decode cX9_allFirm 4 = .ok (.getfield 18, 3) := by decide +kernel
theorem dX9_allFirm_7 : decode cX9_allFirm 7 = .ok (.if_icmp .ge 24, 3) := by decide +kernel
theorem dX9_allFirm_10 : decode cX9_allFirm 10 = .ok (.aload_n 1, 1) := by decide +kernel
theorem dX9_allFirm_11 : decode cX9_allFirm 11 = .ok (.aload_n 0, 1) := by decide +kernel
theorem dX9_allFirm_12 : decode cX9_allFirm 12 = .ok (.getfield 9, 3) := by decide +kernel
theorem dX9_allFirm_15 : decode cX9_allFirm 15 = .ok (.iload_n 2, 1) := by decide +kernel
theorem dX9_allFirm_16 : decode cX9_allFirm 16 = .ok (.iaload, 1) := by decide +kernel
theorem dX9_allFirm_17 : decode cX9_allFirm 17 = .ok (.invokevirtual 37, 3) := by decide +kernel
theorem dX9_allFirm_20 : decode cX9_allFirm 20 = .ok (.ifCond .ne 5, 3) := by decide +kernel
theorem dX9_allFirm_23 : decode cX9_allFirm 23 = .ok (.iconst 0, 1) := by decide +kernel
theorem dX9_allFirm_24 : decode cX9_allFirm 24 = .ok (.ireturn, 1) := by decide +kernel
theorem dX9_allFirm_25 : decode cX9_allFirm 25 = .ok (.iinc 2 1, 3) := by decide +kernel
theorem dX9_allFirm_28 : decode cX9_allFirm 28 = .ok (.goto (-26), 3) := by decide +kernel
theorem dX9_allFirm_31 : decode cX9_allFirm 31 = .ok (.iconst 1, 1) := by decide +kernel
theorem dX9_allFirm_32 : decode cX9_allFirm 32 = .ok (.ireturn, 1) := by decide +kernel
theorem dX9_allBroken_0 : decode cX9_allBroken 0 = .ok (.iconst 0, 1) := by decide +kernel
theorem dX9_allBroken_1 : decode cX9_allBroken 1 = .ok (.istore_n 2, 1) := by decide +kernel
theorem dX9_allBroken_2 : decode cX9_allBroken 2 = .ok (.iload_n 2, 1) := by decide +kernel
theorem dX9_allBroken_3 : decode cX9_allBroken 3 = .ok (.aload_n 0, 1) := by decide +kernel
theorem dX9_allBroken_4 : decode cX9_allBroken 4 = .ok (.getfield 18, 3) := by decide +kernel
theorem dX9_allBroken_7 : decode cX9_allBroken 7 = .ok (.if_icmp .ge 24, 3) := by decide +kernel
theorem dX9_allBroken_10 : decode cX9_allBroken 10 = .ok (.aload_n 1, 1) := by decide +kernel
theorem dX9_allBroken_11 : decode cX9_allBroken 11 = .ok (.aload_n 0, 1) := by decide +kernel
theorem dX9_allBroken_12 : decode cX9_allBroken 12 = .ok (.getfield 9, 3) := by decide +kernel
theorem dX9_allBroken_15 : decode cX9_allBroken 15 = .ok (.iload_n 2, 1) := by decide +kernel
theorem dX9_allBroken_16 : decode cX9_allBroken 16 = .ok (.iaload, 1) := by decide +kernel
theorem dX9_allBroken_17 : decode cX9_allBroken 17 = .ok (.invokevirtual 43, 3) := by decide +kernel
theorem dX9_allBroken_20 : decode cX9_allBroken 20 = .ok (.ifCond .ne 5, 3) := by decide +kernel
theorem dX9_allBroken_23 : decode cX9_allBroken 23 = .ok (.iconst 0, 1) := by decide +kernel
theorem dX9_allBroken_24 : decode cX9_allBroken 24 = .ok (.ireturn, 1) := by decide +kernel
theorem dX9_allBroken_25 : decode cX9_allBroken 25 = .ok (.iinc 2 1, 3) := by decide +kernel
theorem dX9_allBroken_28 : decode cX9_allBroken 28 = .ok (.goto (-26), 3) := by decide +kernel
theorem dX9_allBroken_31 : decode cX9_allBroken 31 = .ok (.iconst 1, 1) := by decide +kernel
theorem dX9_allBroken_32 : decode cX9_allBroken 32 = .ok (.ireturn, 1) := by decide +kernel
theorem dX10_init_0 : decode cX10_init 0 = .ok (.aload_n 0, 1) := by decide +kernel
theorem dX10_init_1 : decode cX10_init 1 = .ok (.invokespecial 1, 3) := by decide +kernel
theorem dX10_init_4 : decode cX10_init 4 = .ok (.aload_n 0, 1) := by decide +kernel
theorem dX10_init_5 : decode cX10_init 5 = .ok (.new 7, 3) := by decide +kernel
theorem dX10_init_8 : decode cX10_init 8 = .ok (.dup, 1) := by decide +kernel
theorem dX10_init_9 : decode cX10_init 9 = .ok (.invokespecial 9, 3) := by decide +kernel
theorem dX10_init_12 : decode cX10_init 12 = .ok (.putfield 10, 3) := by decide +kernel
theorem dX10_init_15 : decode cX10_init 15 = .ok (.aload_n 0, 1) := by decide +kernel
theorem dX10_init_16 : decode cX10_init 16 = .ok (.new 7, 3) := by decide +kernel
theorem dX10_init_19 : decode cX10_init 19 = .ok (.dup, 1) := by decide +kernel
theorem dX10_init_20 : decode cX10_init 20 = .ok (.invokespecial 9, 3) := by decide +kernel
theorem dX10_init_23 : decode cX10_init 23 = .ok (.putfield 16, 3) := by decide +kernel
theorem dX10_init_26 : decode cX10_init 26 = .ok (.aload_n 0, 1) := by decide +kernel
theorem dX10_init_27 : decode cX10_init 27 = .ok (.new 7, 3) := by decide +kernel
theorem dX10_init_30 : decode cX10_init 30 = .ok (.dup, 1) := by decide +kernel
theorem dX10_init_31 : decode cX10_init 31 = .ok (.invokespecial 9, 3) := by decide +kernel
theorem dX10_init_34 : decode cX10_init 34 = .ok (.putfield 19, 3) := by decide +kernel
theorem dX10_init_37 : decode cX10_init 37 = .ok (.aload_n 0, 1) := by decide +kernel
theorem dX10_init_38 : decode cX10_init 38 = .ok (.new 22, 3) := by decide +kernel
theorem dX10_init_41 : decode cX10_init 41 = .ok (.dup, 1) := by decide +kernel
theorem dX10_init_42 : decode cX10_init 42 = .ok (.invokespecial 24, 3) := by decide +kernel
theorem dX10_init_45 : decode cX10_init 45 = .ok (.putfield 25, 3) := by decide +kernel
theorem dX10_init_48 : decode cX10_init 48 = .ok (.aload_n 0, 1) := by decide +kernel
theorem dX10_init_49 : decode cX10_init 49 = .ok (.new 29, 3) := by decide +kernel
theorem dX10_init_52 : decode cX10_init 52 = .ok (.dup, 1) := by decide +kernel
theorem dX10_init_53 : decode cX10_init 53 = .ok (.invokespecial 31, 3) := by decide +kernel
theorem dX10_init_56 : decode cX10_init 56 = .ok (.putfield 32, 3) := by decide +kernel
theorem dX10_init_59 : decode cX10_init 59 = .ok (.aload_n 0, 1) := by decide +kernel
theorem dX10_init_60 : decode cX10_init 60 = .ok (.new 36, 3) := by decide +kernel
theorem dX10_init_63 : decode cX10_init 63 = .ok (.dup, 1) := by decide +kernel
theorem dX10_init_64 : decode cX10_init 64 = .ok (.invokespecial 38, 3) := by decide +kernel
theorem dX10_init_67 : decode cX10_init 67 = .ok (.putfield 39, 3) := by decide +kernel
theorem dX10_init_70 : decode cX10_init 70 = .ok (.aload_n 0, 1) := by decide +kernel
theorem dX10_init_71 : decode cX10_init 71 = .ok (.new 43, 3) := by decide +kernel
theorem dX10_init_74 : decode cX10_init 74 = .ok (.dup, 1) := by decide +kernel
theorem dX10_init_75 : decode cX10_init 75 = .ok (.aload_n 0, 1) := by decide +kernel
theorem dX10_init_76 : decode cX10_init 76 = .ok (.getfield 25, 3) := by decide +kernel
theorem dX10_init_79 : decode cX10_init 79 = .ok (.invokespecial 45, 3) := by decide +kernel
theorem dX10_init_82 : decode cX10_init 82 = .ok (.putfield 48, 3) := by decide +kernel
theorem dX10_init_85 : decode cX10_init 85 = .ok (.aload_n 0, 1) := by decide +kernel
theorem dX10_init_86 : decode cX10_init 86 = .ok (.new 52, 3) := by decide +kernel
theorem dX10_init_89 : decode cX10_init 89 = .ok (.dup, 1) := by decide +kernel
theorem dX10_init_90 : decode cX10_init 90 = .ok (.invokespecial 54, 3) := by decide +kernel
theorem dX10_init_93 : decode cX10_init 93 = .ok (.putfield 55, 3) := by decide +kernel
theorem dX10_init_96 : decode cX10_init 96 = .ok (.aload_n 0, 1) := by decide +kernel
theorem dX10_init_97 : decode cX10_init 97 = .ok (.new 59, 3) := by decide +kernel
theorem dX10_init_100 : decode cX10_init 100 = .ok (.dup, 1) := by decide +kernel
theorem dX10_init_101 : decode cX10_init 101 = .ok (.invokespecial 61, 3) := by decide +kernel
theorem dX10_init_104 : decode cX10_init 104 = .ok (.putfield 62, 3) := by decide +kernel
theorem dX10_init_107 : decode cX10_init 107 = .ok (.aload_n 0, 1) := by decide +kernel
theorem dX10_init_108 : decode cX10_init 108 = .ok (.new 66, 3) := by decide +kernel
theorem dX10_init_111 : decode cX10_init 111 = .ok (.dup, 1) := by decide +kernel
theorem dX10_init_112 : decode cX10_init 112 = .ok (.invokespecial 68, 3) := by decide +kernel
theorem dX10_init_115 : decode cX10_init 115 = .ok (.putfield 69, 3) := by decide +kernel
theorem dX10_init_118 : decode cX10_init 118 = .ok (.aload_n 0, 1) := by decide +kernel
theorem dX10_init_119 : decode cX10_init 119 = .ok (.iconst 0, 1) := by decide +kernel
theorem dX10_init_120 : decode cX10_init 120 = .ok (.putfield 73, 3) := by decide +kernel
theorem dX10_init_123 : decode cX10_init 123 = .ok (.return_, 1) := by decide +kernel
theorem dX10_ice_0 : decode cX10_ice 0 = .ok (.iload_n 1, 1) := by decide +kernel
theorem dX10_ice_1 : decode cX10_ice 1 = .ok (.iload_n 2, 1) := by decide +kernel
theorem dX10_ice_2 : decode cX10_ice 2 = .ok (.invokestatic 77, 3) := by decide +kernel
theorem dX10_ice_5 : decode cX10_ice 5 = .ok (.ifCond .eq 13, 3) := by decide +kernel
theorem dX10_ice_8 : decode cX10_ice 8 = .ok (.iload_n 3, 1) := by decide +kernel
theorem dX10_ice_9 : decode cX10_ice 9 = .ok (.iconst 0, 1) := by decide +kernel
theorem dX10_ice_10 : decode cX10_ice 10 = .ok (.bipush 99, 2) := by decide +kernel
theorem dX10_ice_12 : decode cX10_ice 12 = .ok (.invokestatic 83, 3) := by decide +kernel
theorem dX10_ice_15 : decode cX10_ice 15 = .ok (.ifCond .ne 5, 3) := by decide +kernel
theorem dX10_ice_18 : decode cX10_ice 18 = .ok (.iconst 0, 1) := by decide +kernel
theorem dX10_ice_19 : decode cX10_ice 19 = .ok (.ireturn, 1) := by decide +kernel
theorem dX10_ice_20 : decode cX10_ice 20 = .ok (.iload_n 1, 1) := by decide +kernel
theorem dX10_ice_21 : decode cX10_ice 21 = .ok (.iload_n 2, 1) := by decide +kernel
theorem dX10_ice_22 : decode cX10_ice 22 = .ok (.invokestatic 87, 3) := by decide +kernel
theorem dX10_ice_25 : decode cX10_ice 25 = .ok (.istore 4, 2) := by decide +kernel
theorem dX10_ice_27 : decode cX10_ice 27 = .ok (.aload_n 0, 1) := by decide +kernel
theorem dX10_ice_28 : decode cX10_ice 28 = .ok (.getfield 10, 3) := by decide +kernel
theorem dX10_ice_31 : decode cX10_ice 31 = .ok (.iload 4, 2) := by decide +kernel
theorem dX10_ice_33 : decode cX10_ice 33 = .ok (.invokevirtual 91, 3) := by decide +kernel
theorem dX10_ice_36 : decode cX10_ice 36 = .ok (.aload_n 0, 1) := by decide +kernel
theorem dX10_ice_37 : decode cX10_ice 37 = .ok (.getfield 10, 3) := by decide +kernel
theorem dX10_ice_40 : decode cX10_ice 40 = .ok (.getfield 95, 3) := by decide +kernel
theorem dX10_ice_43 : decode cX10_ice 43 = .ok (.iload 4, 2) := by decide +kernel
theorem dX10_ice_45 : decode cX10_ice 45 = .ok (.iload_n 3, 1) := by decide +kernel
theorem dX10_ice_46 : decode cX10_ice 46 = .ok (.iastore, 1) := by decide +kernel
theorem dX10_ice_47 : decode cX10_ice 47 = .ok (.iconst 1, 1) := by decide +kernel
theorem dX10_ice_48 : decode cX10_ice 48 = .ok (.ireturn, 1) := by decide +kernel
theorem dX10_feed_0 : decode cX10_feed 0 = .ok (.aload_n 0, 1) := by decide +kernel
theorem dX10_feed_1 : decode cX10_feed 1 = .ok (.getfield 25, 3) := by decide +kernel
theorem dX10_feed_4 : decode cX10_feed 4 = .ok (.getfield 99, 3) := by decide +kernel
theorem dX10_feed_7 : decode cX10_feed 7 = .ok (.bipush 20, 2) := by decide +kernel
theorem dX10_feed_9 : decode cX10_feed 9 = .ok (.iadd, 1) := by decide +kernel
theorem dX10_feed_10 : decode cX10_feed 10 = .ok (.sipush 220, 3) := by decide +kernel
theorem dX10_feed_13 : decode cX10_feed 13 = .ok (.if_icmp .le 5, 3) := by decide +kernel
theorem dX10_feed_16 : decode cX10_feed 16 = .ok (.iconst (-1), 1) := by decide +kernel
theorem dX10_feed_17 : decode cX10_feed 17 = .ok (.ireturn, 1) := by decide +kernel
theorem dX10_feed_18 : decode cX10_feed 18 = .ok (.aload_n 0, 1) := by decide +kernel
theorem dX10_feed_19 : decode cX10_feed 19 = .ok (.getfield 25, 3) := by decide +kernel
theorem dX10_feed_22 : decode cX10_feed 22 = .ok (.iload_n 1, 1) := by decide +kernel
theorem dX10_feed_23 : decode cX10_feed 23 = .ok (.invokevirtual 103, 3) := by decide +kernel
theorem dX10_feed_26 : decode cX10_feed 26 = .ok (.aload_n 0, 1) := by decide +kernel
theorem dX10_feed_27 : decode cX10_feed 27 = .ok (.getfield 25, 3) := by decide +kernel
theorem dX10_feed_30 : decode cX10_feed 30 = .ok (.iload_n 2, 1) := by decide +kernel
theorem dX10_feed_31 : decode cX10_feed 31 = .ok (.invokevirtual 103, 3) := by decide +kernel
theorem dX10_feed_34 : decode cX10_feed 34 = .ok (.aload_n 0, 1) := by decide +kernel
theorem dX10_feed_35 : decode cX10_feed 35 = .ok (.getfield 25, 3) := by decide +kernel
theorem dX10_feed_38 : decode cX10_feed 38 = .ok (.iload_n 3, 1) := by decide +kernel
theorem dX10_feed_39 : decode cX10_feed 39 = .ok (.invokevirtual 103, 3) := by decide +kernel
theorem dX10_feed_42 : decode cX10_feed 42 = .ok (.aload_n 0, 1) := by decide +kernel
theorem dX10_feed_43 : decode cX10_feed 43 = .ok (.getfield 25, 3) := by decide +kernel
theorem dX10_feed_46 : decode cX10_feed 46 = .ok (.iload 4, 2) := by decide +kernel
theorem dX10_feed_48 : decode cX10_feed 48 = .ok (.invokevirtual 103, 3) := by decide +kernel
theorem dX10_feed_51 : decode cX10_feed 51 = .ok (.aload_n 0, 1) := by decide +kernel
theorem dX10_feed_52 : decode cX10_feed 52 = .ok (.getfield 25, 3) := by decide +kernel
theorem dX10_feed_55 : decode cX10_feed 55 = .ok (.iload 5, 2) := by decide +kernel
theorem dX10_feed_57 : decode cX10_feed 57 = .ok (.invokevirtual 103, 3) := by decide +kernel
theorem dX10_feed_60 : decode cX10_feed 60 = .ok (.aload_n 0, 1) := by decide +kernel
theorem dX10_feed_61 : decode cX10_feed 61 = .ok (.getfield 25, 3) := by decide +kernel
theorem dX10_feed_64 : decode cX10_feed 64 = .ok (.getfield 99, 3) := by decide +kernel
theorem dX10_feed_67 : decode cX10_feed 67 = .ok (.ireturn, 1) := by decide +kernel
theorem dX10_law_0 : decode cX10_law 0 = .ok (.iload_n 1, 1) := by decide +kernel
theorem dX10_law_1 : decode cX10_law 1 = .ok (.iconst 1, 1) := by decide +kernel
theorem dX10_law_2 : decode cX10_law 2 = .ok (.sipush 200, 3) := by decide +kernel
theorem dX10_law_5 : decode cX10_law 5 = .ok (.invokestatic 83, 3) := by decide +kernel
theorem dX10_law_8 : decode cX10_law 8 = .ok (.ifCond .eq 14, 3) := by decide +kernel
theorem dX10_law_11 : decode cX10_law 11 = .ok (.iload_n 1, 1) := by decide +kernel
theorem dX10_law_12 : decode cX10_law 12 = .ok (.aload_n 0, 1) := by decide +kernel
theorem dX10_law_13 : decode cX10_law 13 = .ok (.getfield 25, 3) := by decide +kernel
theorem dX10_law_16 : decode cX10_law 16 = .ok (.getfield 99, 3) := by decide +kernel
theorem dX10_law_19 : decode cX10_law 19 = .ok (.if_icmp .le 5, 3) := by decide +kernel
theorem dX10_law_22 : decode cX10_law 22 = .ok (.iconst (-1), 1) := by decide +kernel
theorem dX10_law_23 : decode cX10_law 23 = .ok (.ireturn, 1) := by decide +kernel
theorem dX10_law_24 : decode cX10_law 24 = .ok (.aload_n 0, 1) := by decide +kernel
theorem dX10_law_25 : decode cX10_law 25 = .ok (.getfield 48, 3) := by decide +kernel
theorem dX10_law_28 : decode cX10_law 28 = .ok (.iload_n 1, 1) := by decide +kernel
theorem dX10_law_29 : decode cX10_law 29 = .ok (.invokevirtual 106, 3) := by decide +kernel
theorem dX10_law_32 : decode cX10_law 32 = .ok (.istore_n 2, 1) := by decide +kernel
theorem dX10_law_33 : decode cX10_law 33 = .ok (.aload_n 0, 1) := by decide +kernel
theorem dX10_law_34 : decode cX10_law 34 = .ok (.getfield 25, 3) := by decide +kernel
theorem dX10_law_37 : decode cX10_law 37 = .ok (.iconst 0, 1) := by decide +kernel
theorem dX10_law_38 : decode cX10_law 38 = .ok (.putfield 99, 3) := by decide +kernel
theorem dX10_law_41 : decode cX10_law 41 = .ok (.iload_n 2, 1) := by decide +kernel
theorem dX10_law_42 : decode cX10_law 42 = .ok (.ifCond .eq 5, 3) := by decide +kernel
theorem dX10_law_45 : decode cX10_law 45 = .ok (.iload_n 2, 1) := by decide +kernel
theorem dX10_law_46 : decode cX10_law 46 = .ok (.ireturn, 1) := by decide +kernel
theorem dX10_law_47 : decode cX10_law 47 = .ok (.aload_n 0, 1) := by decide +kernel
theorem dX10_law_48 : decode cX10_law 48 = .ok (.getfield 39, 3) := by decide +kernel
theorem dX10_law_51 : decode cX10_law 51 = .ok (.aload_n 0, 1) := by decide +kernel
theorem dX10_law_52 : decode cX10_law 52 = .ok (.getfield 48, 3) := by decide +kernel
theorem dX10_law_55 : decode cX10_law 55 = .ok (.aload_n 0, 1) := by decide +kernel
theorem dX10_law_56 : decode cX10_law 56 = .ok (.getfield 39, 3) := by decide +kernel
theorem dX10_law_59 : decode cX10_law 59 = .ok (.getfield 110, 3) := by decide +kernel
theorem dX10_law_62 : decode cX10_law 62 = .ok (.invokevirtual 114, 3) := by decide +kernel
theorem dX10_law_65 : decode cX10_law 65 = .ok (.putfield 110, 3) := by decide +kernel
theorem dX10_law_68 : decode cX10_law 68 = .ok (.aload_n 0, 1) := by decide +kernel
theorem dX10_law_69 : decode cX10_law 69 = .ok (.getfield 39, 3) := by decide +kernel
theorem dX10_law_72 : decode cX10_law 72 = .ok (.getfield 110, 3) := by decide +kernel
theorem dX10_law_75 : decode cX10_law 75 = .ok (.getfield 118, 3) := by decide +kernel
theorem dX10_law_78 : decode cX10_law 78 = .ok (.ireturn, 1) := by decide +kernel
theorem dX10_cut_0 : decode cX10_cut 0 = .ok (.iload_n 1, 1) := by decide +kernel
theorem dX10_cut_1 : decode cX10_cut 1 = .ok (.iload_n 2, 1) := by decide +kernel
theorem dX10_cut_2 : decode cX10_cut 2 = .ok (.invokestatic 77, 3) := by decide +kernel
theorem dX10_cut_5 : decode cX10_cut 5 = .ok (.ifCond .eq 45, 3) := by decide +kernel
theorem dX10_cut_8 : decode cX10_cut 8 = .ok (.iload_n 3, 1) := by decide +kernel
theorem dX10_cut_9 : decode cX10_cut 9 = .ok (.iconst 0, 1) := by decide +kernel
theorem dX10_cut_10 : decode cX10_cut 10 = .ok (.iconst 4, 1) := by decide +kernel
theorem dX10_cut_11 : decode cX10_cut 11 = .ok (.invokestatic 83, 3) := by decide +kernel
theorem dX10_cut_14 : decode cX10_cut 14 = .ok (.ifCond .eq 36, 3) := by decide +kernel
theorem dX10_cut_17 : decode cX10_cut 17 = .ok (.iload 4, 2) := by decide +kernel
theorem dX10_cut_19 : decode cX10_cut 19 = .ok (.iconst 0, 1) := by decide +kernel
theorem dX10_cut_20 : decode cX10_cut 20 = .ok (.bipush 9, 2) := by decide +kernel
theorem dX10_cut_22 : decode cX10_cut 22 = .ok (.invokestatic 83, 3) := by decide +kernel
theorem dX10_cut_25 : decode cX10_cut 25 = .ok (.ifCond .eq 25, 3) := by decide +kernel
theorem dX10_cut_28 : decode cX10_cut 28 = .ok (.iload 5, 2) := by decide +kernel
theorem dX10_cut_30 : decode cX10_cut 30 = .ok (.iconst 0, 1) := by decide +kernel
theorem dX10_cut_31 : decode cX10_cut 31 = .ok (.bipush 9, 2) := by decide +kernel
theorem dX10_cut_33 : decode cX10_cut 33 = .ok (.invokestatic 83, 3) := by decide +kernel
theorem dX10_cut_36 : decode cX10_cut 36 = .ok (.ifCond .eq 14, 3) := by decide +kernel
theorem dX10_cut_39 : decode cX10_cut 39 = .ok (.iload 6, 2) := by decide +kernel
theorem dX10_cut_41 : decode cX10_cut 41 = .ok (.iconst 0, 1) := by decide +kernel
theorem dX10_cut_42 : decode cX10_cut 42 = .ok (.bipush 9, 2) := by decide +kernel
theorem dX10_cut_44 : decode cX10_cut 44 = .ok (.invokestatic 83, 3) := by decide +kernel
theorem dX10_cut_47 : decode cX10_cut 47 = .ok (.ifCond .ne 5, 3) := by decide +kernel
theorem dX10_cut_50 : decode cX10_cut 50 = .ok (.iconst (-1), 1) := by decide +kernel
theorem dX10_cut_51 : decode cX10_cut 51 = .ok (.ireturn, 1) := by decide +kernel
theorem dX10_cut_52 : decode cX10_cut 52 = .ok (.iload_n 1, 1) := by decide +kernel
theorem dX10_cut_53 : decode cX10_cut 53 = .ok (.iload_n 2, 1) := by decide +kernel
theorem dX10_cut_54 : decode cX10_cut 54 = .ok (.invokestatic 87, 3) := by decide +kernel
theorem dX10_cut_57 : decode cX10_cut 57 = .ok (.istore 7, 2) := by decide +kernel
theorem dX10_cut_59 : decode cX10_cut 59 = .ok (.aload_n 0, 1) := by decide +kernel
theorem dX10_cut_60 : decode cX10_cut 60 = .ok (.getfield 10, 3) := by decide +kernel
theorem dX10_cut_63 : decode cX10_cut 63 = .ok (.getfield 123, 3) := by decide +kernel
theorem dX10_cut_66 : decode cX10_cut 66 = .ok (.bipush 12, 2) := by decide +kernel
theorem dX10_cut_68 : decode cX10_cut 68 = .ok (.if_icmp .ge 15, 3) := by decide +kernel
theorem dX10_cut_71 : decode cX10_cut 71 = .ok (.aload_n 0, 1) := by decide +kernel
theorem dX10_cut_72 : decode cX10_cut 72 = .ok (.getfield 10, 3) := by decide +kernel
theorem dX10_cut_75 : decode cX10_cut 75 = .ok (.iload 7, 2) := by decide +kernel
theorem dX10_cut_77 : decode cX10_cut 77 = .ok (.invokevirtual 126, 3) := by decide +kernel
theorem dX10_cut_80 : decode cX10_cut 80 = .ok (.ifCond .ne 5, 3) := by decide +kernel
theorem dX10_cut_83 : decode cX10_cut 83 = .ok (.iconst (-1), 1) := by decide +kernel
theorem dX10_cut_84 : decode cX10_cut 84 = .ok (.ireturn, 1) := by decide +kernel
theorem dX10_cut_85 : decode cX10_cut 85 = .ok (.aload_n 0, 1) := by decide +kernel
theorem dX10_cut_86 : decode cX10_cut 86 = .ok (.getfield 39, 3) := by decide +kernel
theorem dX10_cut_89 : decode cX10_cut 89 = .ok (.aload_n 0, 1) := by decide +kernel
theorem dX10_cut_90 : decode cX10_cut 90 = .ok (.getfield 10, 3) := by decide +kernel
theorem dX10_cut_93 : decode cX10_cut 93 = .ok (.iload 7, 2) := by decide +kernel
theorem dX10_cut_95 : decode cX10_cut 95 = .ok (.iload_n 3, 1) := by decide +kernel
theorem dX10_cut_96 : decode cX10_cut 96 = .ok (.invokevirtual 130, 3) := by decide +kernel
theorem dX10_cut_99 : decode cX10_cut 99 = .ok (.ifCond .ne 6, 3) := by decide +kernel
theorem dX10_cut_102 : decode cX10_cut 102 = .ok (.bipush (-2), 2) := by decide +kernel
theorem dX10_cut_104 : decode cX10_cut 104 = .ok (.ireturn, 1) := by decide +kernel
theorem dX10_cut_105 : decode cX10_cut 105 = .ok (.aload_n 0, 1) := by decide +kernel
theorem dX10_cut_106 : decode cX10_cut 106 = .ok (.getfield 10, 3) := by decide +kernel
theorem dX10_cut_109 : decode cX10_cut 109 = .ok (.iload 7, 2) := by decide +kernel
theorem dX10_cut_111 : decode cX10_cut 111 = .ok (.invokevirtual 134, 3) := by decide +kernel
theorem dX10_cut_114 : decode cX10_cut 114 = .ok (.ifCond .eq 6, 3) := by decide +kernel
theorem dX10_cut_117 : decode cX10_cut 117 = .ok (.bipush (-3), 2) := by decide +kernel
theorem dX10_cut_119 : decode cX10_cut 119 = .ok (.ireturn, 1) := by decide +kernel
theorem dX10_cut_120 : decode cX10_cut 120 = .ok (.aload_n 0, 1) := by decide +kernel
theorem dX10_cut_121 : decode cX10_cut 121 = .ok (.getfield 10, 3) := by decide +kernel
theorem dX10_cut_124 : decode cX10_cut 124 = .ok (.iload 7, 2) := by decide +kernel
theorem dX10_cut_126 : decode cX10_cut 126 = .ok (.iload_n 3, 1) := by decide +kernel
theorem dX10_cut_127 : decode cX10_cut 127 = .ok (.iload 4, 2) := by decide +kernel
theorem dX10_cut_129 : decode cX10_cut 129 = .ok (.iload 5, 2) := by decide +kernel
theorem dX10_cut_131 : decode cX10_cut 131 = .ok (.iload 6, 2) := by decide +kernel
theorem dX10_cut_133 : decode cX10_cut 133 = .ok (.invokevirtual 137, 3) := by decide +kernel
theorem dX10_cut_136 : decode cX10_cut 136 = .ok (.ireturn, 1) := by decide +kernel
theorem dX10_shut_0 : decode cX10_shut 0 = .ok (.aload_n 0, 1) := by decide +kernel
theorem dX10_shut_1 : decode cX10_shut 1 = .ok (.getfield 10, 3) := by decide +kernel
theorem dX10_shut_4 : decode cX10_shut 4 = .ok (.iload_n 1, 1) := by decide +kernel
theorem dX10_shut_5 : decode cX10_shut 5 = .ok (.invokevirtual 141, 3) := by decide +kernel
theorem dX10_shut_8 : decode cX10_shut 8 = .ok (.ifCond .ne 5, 3) := by decide +kernel
theorem dX10_shut_11 : decode cX10_shut 11 = .ok (.iconst 0, 1) := by decide +kernel
theorem dX10_shut_12 : decode cX10_shut 12 = .ok (.ireturn, 1) := by decide +kernel
theorem dX10_shut_13 : decode cX10_shut 13 = .ok (.aload_n 0, 1) := by decide +kernel
theorem dX10_shut_14 : decode cX10_shut 14 = .ok (.getfield 10, 3) := by decide +kernel
theorem dX10_shut_17 : decode cX10_shut 17 = .ok (.iload_n 1, 1) := by decide +kernel
theorem dX10_shut_18 : decode cX10_shut 18 = .ok (.invokevirtual 144, 3) := by decide +kernel
theorem dX10_shut_21 : decode cX10_shut 21 = .ok (.iconst 1, 1) := by decide +kernel
theorem dX10_shut_22 : decode cX10_shut 22 = .ok (.ireturn, 1) := by decide +kernel
theorem dX10_group_0 : decode cX10_group 0 = .ok (.iload_n 1, 1) := by decide +kernel
theorem dX10_group_1 : decode cX10_group 1 = .ok (.iload_n 2, 1) := by decide +kernel
theorem dX10_group_2 : decode cX10_group 2 = .ok (.invokestatic 77, 3) := by decide +kernel
theorem dX10_group_5 : decode cX10_group 5 = .ok (.ifCond .eq 13, 3) := by decide +kernel
theorem dX10_group_8 : decode cX10_group 8 = .ok (.iload_n 3, 1) := by decide +kernel
theorem dX10_group_9 : decode cX10_group 9 = .ok (.iconst 1, 1) := by decide +kernel
theorem dX10_group_10 : decode cX10_group 10 = .ok (.bipush 99, 2) := by decide +kernel
theorem dX10_group_12 : decode cX10_group 12 = .ok (.invokestatic 83, 3) := by decide +kernel
theorem dX10_group_15 : decode cX10_group 15 = .ok (.ifCond .ne 5, 3) := by decide +kernel
theorem dX10_group_18 : decode cX10_group 18 = .ok (.iconst (-1), 1) := by decide +kernel
theorem dX10_group_19 : decode cX10_group 19 = .ok (.ireturn, 1) := by decide +kernel
theorem dX10_group_20 : decode cX10_group 20 = .ok (.iload_n 1, 1) := by decide +kernel
theorem dX10_group_21 : decode cX10_group 21 = .ok (.iload_n 2, 1) := by decide +kernel
theorem dX10_group_22 : decode cX10_group 22 = .ok (.invokestatic 87, 3) := by decide +kernel
theorem dX10_group_25 : decode cX10_group 25 = .ok (.istore 4, 2) := by decide +kernel
theorem dX10_group_27 : decode cX10_group 27 = .ok (.aload_n 0, 1) := by decide +kernel
theorem dX10_group_28 : decode cX10_group 28 = .ok (.getfield 10, 3) := by decide +kernel
theorem dX10_group_31 : decode cX10_group 31 = .ok (.getfield 147, 3) := by decide +kernel
theorem dX10_group_34 : decode cX10_group 34 = .ok (.bipush 8, 2) := by decide +kernel
theorem dX10_group_36 : decode cX10_group 36 = .ok (.if_icmp .ge 15, 3) := by decide +kernel
theorem dX10_group_39 : decode cX10_group 39 = .ok (.aload_n 0, 1) := by decide +kernel
theorem dX10_group_40 : decode cX10_group 40 = .ok (.getfield 10, 3) := by decide +kernel
theorem dX10_group_43 : decode cX10_group 43 = .ok (.iload 4, 2) := by decide +kernel
theorem dX10_group_45 : decode cX10_group 45 = .ok (.invokevirtual 150, 3) := by decide +kernel
theorem dX10_group_48 : decode cX10_group 48 = .ok (.ifCond .ne 5, 3) := by decide +kernel
theorem dX10_group_51 : decode cX10_group 51 = .ok (.iconst (-1), 1) := by decide +kernel
theorem dX10_group_52 : decode cX10_group 52 = .ok (.ireturn, 1) := by decide +kernel
theorem dX10_group_53 : decode cX10_group 53 = .ok (.aload_n 0, 1) := by decide +kernel
theorem dX10_group_54 : decode cX10_group 54 = .ok (.getfield 10, 3) := by decide +kernel
theorem dX10_group_57 : decode cX10_group 57 = .ok (.iload 4, 2) := by decide +kernel
theorem dX10_group_59 : decode cX10_group 59 = .ok (.iload_n 3, 1) := by decide +kernel
theorem dX10_group_60 : decode cX10_group 60 = .ok (.invokevirtual 153, 3) := by decide +kernel
theorem dX10_group_63 : decode cX10_group 63 = .ok (.ireturn, 1) := by decide +kernel
theorem dX10_settle_0 : decode cX10_settle 0 = .ok (.aload_n 0, 1) := by decide +kernel
theorem dX10_settle_1 : decode cX10_settle 1 = .ok (.getfield 39, 3) := by decide +kernel
theorem dX10_settle_4 : decode cX10_settle 4 = .ok (.aload_n 0, 1) := by decide +kernel
theorem dX10_settle_5 : decode cX10_settle 5 = .ok (.getfield 10, 3) := by decide +kernel
theorem dX10_settle_8 : decode cX10_settle 8 = .ok (.invokevirtual 156, 3) := by decide +kernel
theorem dX10_settle_11 : decode cX10_settle 11 = .ok (.ireturn, 1) := by decide +kernel
theorem dX10_minutes_0 : decode cX10_minutes 0 = .ok (.iload_n 1, 1) := by decide +kernel
theorem dX10_minutes_1 : decode cX10_minutes 1 = .ok (.iconst 1, 1) := by decide +kernel
theorem dX10_minutes_2 : decode cX10_minutes 2 = .ok (.bipush 60, 2) := by decide +kernel
theorem dX10_minutes_4 : decode cX10_minutes 4 = .ok (.invokestatic 83, 3) := by decide +kernel
theorem dX10_minutes_7 : decode cX10_minutes 7 = .ok (.ifCond .eq 18, 3) := by decide +kernel
theorem dX10_minutes_10 : decode cX10_minutes 10 = .ok (.aload_n 0, 1) := by decide +kernel
theorem dX10_minutes_11 : decode cX10_minutes 11 = .ok (.getfield 39, 3) := by decide +kernel
theorem dX10_minutes_14 : decode cX10_minutes 14 = .ok (.aload_n 0, 1) := by decide +kernel
theorem dX10_minutes_15 : decode cX10_minutes 15 = .ok (.getfield 10, 3) := by decide +kernel
theorem dX10_minutes_18 : decode cX10_minutes 18 = .ok (.iload_n 1, 1) := by decide +kernel
theorem dX10_minutes_19 : decode cX10_minutes 19 = .ok (.invokevirtual 160, 3) := by decide +kernel
theorem dX10_minutes_22 : decode cX10_minutes 22 = .ok (.goto 4, 3) := by decide +kernel
theorem dX10_minutes_25 : decode cX10_minutes 25 = .ok (.iconst (-1), 1) := by decide +kernel
theorem dX10_minutes_26 : decode cX10_minutes 26 = .ok (.ireturn, 1) := by decide +kernel
theorem dX10_run_0 : decode cX10_run 0 = .ok (.iload_n 2, 1) := by decide +kernel
theorem dX10_run_1 : decode cX10_run 1 = .ok (.bipush 10, 2) := by decide +kernel
theorem dX10_run_3 : decode cX10_run 3 = .ok (.if_icmp .lt 21, 3) := by decide +kernel
theorem dX10_run_6 : decode cX10_run 6 = .ok (.aload_n 0, 1) := by decide +kernel
theorem dX10_run_7 : decode cX10_run 7 = .ok (.getfield 10, 3) := by decide +kernel
theorem dX10_run_10 : decode cX10_run 10 = .ok (.iload_n 2, 1) := by decide +kernel
theorem dX10_run_11 : decode cX10_run 11 = .ok (.bipush 10, 2) := by decide +kernel
theorem dX10_run_13 : decode cX10_run 13 = .ok (.isub, 1) := by decide +kernel
theorem dX10_run_14 : decode cX10_run 14 = .ok (.invokevirtual 164, 3) := by decide +kernel
theorem dX10_run_17 : decode cX10_run 17 = .ok (.ifCond .eq 7, 3) := by decide +kernel
theorem dX10_run_20 : decode cX10_run 20 = .ok (.iconst 1, 1) := by decide +kernel
theorem dX10_run_21 : decode cX10_run 21 = .ok (.goto 4, 3) := by decide +kernel
theorem dX10_run_24 : decode cX10_run 24 = .ok (.iconst 0, 1) := by decide +kernel
theorem dX10_run_25 : decode cX10_run 25 = .ok (.istore_n 3, 1) := by decide +kernel
theorem dX10_run_26 : decode cX10_run 26 = .ok (.iload_n 1, 1) := by decide +kernel
theorem dX10_run_27 : decode cX10_run 27 = .ok (.iconst 1, 1) := by decide +kernel
theorem dX10_run_28 : decode cX10_run 28 = .ok (.bipush 60, 2) := by decide +kernel
theorem dX10_run_30 : decode cX10_run 30 = .ok (.invokestatic 83, 3) := by decide +kernel
theorem dX10_run_33 : decode cX10_run 33 = .ok (.ifCond .eq 16, 3) := by decide +kernel
theorem dX10_run_36 : decode cX10_run 36 = .ok (.iload_n 2, 1) := by decide +kernel
theorem dX10_run_37 : decode cX10_run 37 = .ok (.ifCond .eq 14, 3) := by decide +kernel
theorem dX10_run_40 : decode cX10_run 40 = .ok (.iload_n 2, 1) := by decide +kernel
theorem dX10_run_41 : decode cX10_run 41 = .ok (.iconst 1, 1) := by decide +kernel
theorem dX10_run_42 : decode cX10_run 42 = .ok (.if_icmp .eq 9, 3) := by decide +kernel
theorem dX10_run_45 : decode cX10_run 45 = .ok (.iload_n 3, 1) := by decide +kernel
theorem dX10_run_46 : decode cX10_run 46 = .ok (.ifCond .ne 5, 3) := by decide +kernel
theorem dX10_run_49 : decode cX10_run 49 = .ok (.iconst (-1), 1) := by decide +kernel
theorem dX10_run_50 : decode cX10_run 50 = .ok (.ireturn, 1) := by decide +kernel
theorem dX10_run_51 : decode cX10_run 51 = .ok (.aload_n 0, 1) := by decide +kernel
theorem dX10_run_52 : decode cX10_run 52 = .ok (.getfield 19, 3) := by decide +kernel
theorem dX10_run_55 : decode cX10_run 55 = .ok (.aload_n 0, 1) := by decide +kernel
theorem dX10_run_56 : decode cX10_run 56 = .ok (.getfield 10, 3) := by decide +kernel
theorem dX10_run_59 : decode cX10_run 59 = .ok (.invokevirtual 167, 3) := by decide +kernel
theorem dX10_run_62 : decode cX10_run 62 = .ok (.aload_n 0, 1) := by decide +kernel
theorem dX10_run_63 : decode cX10_run 63 = .ok (.getfield 39, 3) := by decide +kernel
theorem dX10_run_66 : decode cX10_run 66 = .ok (.aload_n 0, 1) := by decide +kernel
theorem dX10_run_67 : decode cX10_run 67 = .ok (.getfield 19, 3) := by decide +kernel
theorem dX10_run_70 : decode cX10_run 70 = .ok (.iload_n 1, 1) := by decide +kernel
theorem dX10_run_71 : decode cX10_run 71 = .ok (.invokevirtual 160, 3) := by decide +kernel
theorem dX10_run_74 : decode cX10_run 74 = .ok (.istore 4, 2) := by decide +kernel
theorem dX10_run_76 : decode cX10_run 76 = .ok (.iload_n 2, 1) := by decide +kernel
theorem dX10_run_77 : decode cX10_run 77 = .ok (.ifCond .ne 6, 3) := by decide +kernel
theorem dX10_run_80 : decode cX10_run 80 = .ok (.iload 4, 2) := by decide +kernel
theorem dX10_run_82 : decode cX10_run 82 = .ok (.ireturn, 1) := by decide +kernel
theorem dX10_run_83 : decode cX10_run 83 = .ok (.iload_n 2, 1) := by decide +kernel
theorem dX10_run_84 : decode cX10_run 84 = .ok (.iconst 1, 1) := by decide +kernel
theorem dX10_run_85 : decode cX10_run 85 = .ok (.if_icmp .ne 13, 3) := by decide +kernel
theorem dX10_run_88 : decode cX10_run 88 = .ok (.aload_n 0, 1) := by decide +kernel
theorem dX10_run_89 : decode cX10_run 89 = .ok (.getfield 19, 3) := by decide +kernel
theorem dX10_run_92 : decode cX10_run 92 = .ok (.invokevirtual 171, 3) := by decide +kernel
theorem dX10_run_95 : decode cX10_run 95 = .ok (.goto 15, 3) := by decide +kernel
theorem dX10_run_98 : decode cX10_run 98 = .ok (.aload_n 0, 1) := by decide +kernel
theorem dX10_run_99 : decode cX10_run 99 = .ok (.getfield 19, 3) := by decide +kernel
theorem dX10_run_102 : decode cX10_run 102 = .ok (.getfield 175, 3) := by decide +kernel
theorem dX10_run_105 : decode cX10_run 105 = .ok (.iload_n 2, 1) := by decide +kernel
theorem dX10_run_106 : decode cX10_run 106 = .ok (.bipush 10, 2) := by decide +kernel
theorem dX10_run_108 : decode cX10_run 108 = .ok (.isub, 1) := by decide +kernel
theorem dX10_run_109 : decode cX10_run 109 = .ok (.iaload, 1) := by decide +kernel
theorem dX10_run_110 : decode cX10_run 110 = .ok (.ireturn, 1) := by decide +kernel
theorem dX10_square_0 : decode cX10_square 0 = .ok (.iload_n 1, 1) := by decide +kernel
theorem dX10_square_1 : decode cX10_square 1 = .ok (.iload_n 2, 1) := by decide +kernel
theorem dX10_square_2 : decode cX10_square 2 = .ok (.invokestatic 77, 3) := by decide +kernel
theorem dX10_square_5 : decode cX10_square 5 = .ok (.ifCond .ne 5, 3) := by decide +kernel
theorem dX10_square_8 : decode cX10_square 8 = .ok (.iconst (-1), 1) := by decide +kernel
theorem dX10_square_9 : decode cX10_square 9 = .ok (.ireturn, 1) := by decide +kernel
theorem dX10_square_10 : decode cX10_square 10 = .ok (.iload_n 1, 1) := by decide +kernel
theorem dX10_square_11 : decode cX10_square 11 = .ok (.iload_n 2, 1) := by decide +kernel
theorem dX10_square_12 : decode cX10_square 12 = .ok (.invokestatic 87, 3) := by decide +kernel
theorem dX10_square_15 : decode cX10_square 15 = .ok (.istore 4, 2) := by decide +kernel
theorem dX10_square_17 : decode cX10_square 17 = .ok (.iload_n 3, 1) := by decide +kernel
theorem dX10_square_18 : decode cX10_square 18 = .ok (.tableswitch 105 0 5 #[38, 49, 59, 73, 83, 94], 38) := by decide +kernel
theorem dX10_square_56 : decode cX10_square 56 = .ok (.aload_n 0, 1) := by decide +kernel
theorem dX10_square_57 : decode cX10_square 57 = .ok (.getfield 10, 3) := by decide +kernel
theorem dX10_square_60 : decode cX10_square 60 = .ok (.getfield 95, 3) := by decide +kernel
theorem dX10_square_63 : decode cX10_square 63 = .ok (.iload 4, 2) := by decide +kernel
theorem dX10_square_65 : decode cX10_square 65 = .ok (.iaload, 1) := by decide +kernel
theorem dX10_square_66 : decode cX10_square 66 = .ok (.ireturn, 1) := by decide +kernel
theorem dX10_square_67 : decode cX10_square 67 = .ok (.aload_n 0, 1) := by decide +kernel
theorem dX10_square_68 : decode cX10_square 68 = .ok (.getfield 10, 3) := by decide +kernel
theorem dX10_square_71 : decode cX10_square 71 = .ok (.iload 4, 2) := by decide +kernel
theorem dX10_square_73 : decode cX10_square 73 = .ok (.invokevirtual 178, 3) := by decide +kernel
theorem dX10_square_76 : decode cX10_square 76 = .ok (.ireturn, 1) := by decide +kernel
theorem dX10_square_77 : decode cX10_square 77 = .ok (.aload_n 0, 1) := by decide +kernel
theorem dX10_square_78 : decode cX10_square 78 = .ok (.getfield 39, 3) := by decide +kernel
theorem dX10_square_81 : decode cX10_square 81 = .ok (.aload_n 0, 1) := by decide +kernel
theorem dX10_square_82 : decode cX10_square 82 = .ok (.getfield 10, 3) := by decide +kernel
theorem dX10_square_85 : decode cX10_square 85 = .ok (.iload 4, 2) := by decide +kernel
theorem dX10_square_87 : decode cX10_square 87 = .ok (.invokevirtual 181, 3) := by decide +kernel
theorem dX10_square_90 : decode cX10_square 90 = .ok (.ireturn, 1) := by decide +kernel
theorem dX10_square_91 : decode cX10_square 91 = .ok (.aload_n 0, 1) := by decide +kernel
theorem dX10_square_92 : decode cX10_square 92 = .ok (.getfield 10, 3) := by decide +kernel
theorem dX10_square_95 : decode cX10_square 95 = .ok (.iload 4, 2) := by decide +kernel
theorem dX10_square_97 : decode cX10_square 97 = .ok (.invokevirtual 184, 3) := by decide +kernel
theorem dX10_square_100 : decode cX10_square 100 = .ok (.ireturn, 1) := by decide +kernel
theorem dX10_square_101 : decode cX10_square 101 = .ok (.aload_n 0, 1) := by decide +kernel
theorem dX10_square_102 : decode cX10_square 102 = .ok (.getfield 10, 3) := by decide +kernel
theorem dX10_square_105 : decode cX10_square 105 = .ok (.getfield 187, 3) := by decide +kernel
theorem dX10_square_108 : decode cX10_square 108 = .ok (.iload 4, 2) := by decide +kernel
theorem dX10_square_110 : decode cX10_square 110 = .ok (.iaload, 1) := by decide +kernel
theorem dX10_square_111 : decode cX10_square 111 = .ok (.ireturn, 1) := by decide +kernel
theorem dX10_square_112 : decode cX10_square 112 = .ok (.aload_n 0, 1) := by decide +kernel
theorem dX10_square_113 : decode cX10_square 113 = .ok (.getfield 10, 3) := by decide +kernel
theorem dX10_square_116 : decode cX10_square 116 = .ok (.getfield 190, 3) := by decide +kernel
theorem dX10_square_119 : decode cX10_square 119 = .ok (.iload 4, 2) := by decide +kernel
theorem dX10_square_121 : decode cX10_square 121 = .ok (.iaload, 1) := by decide +kernel
theorem dX10_square_122 : decode cX10_square 122 = .ok (.ireturn, 1) := by decide +kernel
theorem dX10_square_123 : decode cX10_square 123 = .ok (.iconst (-1), 1) := by decide +kernel
theorem dX10_square_124 : decode cX10_square 124 = .ok (.ireturn, 1) := by decide +kernel
theorem dX10_holeIs_0 : decode cX10_holeIs 0 = .ok (.aload_n 0, 1) := by decide +kernel
theorem dX10_holeIs_1 : decode cX10_holeIs 1 = .ok (.getfield 10, 3) := by decide +kernel
theorem dX10_holeIs_4 : decode cX10_holeIs 4 = .ok (.iload_n 1, 1) := by decide +kernel
theorem dX10_holeIs_5 : decode cX10_holeIs 5 = .ok (.invokevirtual 193, 3) := by decide +kernel
theorem dX10_holeIs_8 : decode cX10_holeIs 8 = .ok (.ifCond .ne 5, 3) := by decide +kernel
theorem dX10_holeIs_11 : decode cX10_holeIs 11 = .ok (.iconst (-1), 1) := by decide +kernel
theorem dX10_holeIs_12 : decode cX10_holeIs 12 = .ok (.ireturn, 1) := by decide +kernel
theorem dX10_holeIs_13 : decode cX10_holeIs 13 = .ok (.iload_n 2, 1) := by decide +kernel
theorem dX10_holeIs_14 : decode cX10_holeIs 14 = .ok (.tableswitch 105 0 5 #[38, 48, 65, 75, 85, 95], 38) := by decide +kernel
theorem dX10_holeIs_52 : decode cX10_holeIs 52 = .ok (.aload_n 0, 1) := by decide +kernel
theorem dX10_holeIs_53 : decode cX10_holeIs 53 = .ok (.getfield 10, 3) := by decide +kernel
theorem dX10_holeIs_56 : decode cX10_holeIs 56 = .ok (.getfield 196, 3) := by decide +kernel
theorem dX10_holeIs_59 : decode cX10_holeIs 59 = .ok (.iload_n 1, 1) := by decide +kernel
theorem dX10_holeIs_60 : decode cX10_holeIs 60 = .ok (.iaload, 1) := by decide +kernel
theorem dX10_holeIs_61 : decode cX10_holeIs 61 = .ok (.ireturn, 1) := by decide +kernel
theorem dX10_holeIs_62 : decode cX10_holeIs 62 = .ok (.aload_n 0, 1) := by decide +kernel
theorem dX10_holeIs_63 : decode cX10_holeIs 63 = .ok (.getfield 10, 3) := by decide +kernel
theorem dX10_holeIs_66 : decode cX10_holeIs 66 = .ok (.iload_n 1, 1) := by decide +kernel
theorem dX10_holeIs_67 : decode cX10_holeIs 67 = .ok (.invokevirtual 141, 3) := by decide +kernel
theorem dX10_holeIs_70 : decode cX10_holeIs 70 = .ok (.ifCond .eq 7, 3) := by decide +kernel
theorem dX10_holeIs_73 : decode cX10_holeIs 73 = .ok (.iconst 1, 1) := by decide +kernel
theorem dX10_holeIs_74 : decode cX10_holeIs 74 = .ok (.goto 4, 3) := by decide +kernel
theorem dX10_holeIs_77 : decode cX10_holeIs 77 = .ok (.iconst 0, 1) := by decide +kernel
theorem dX10_holeIs_78 : decode cX10_holeIs 78 = .ok (.ireturn, 1) := by decide +kernel
theorem dX10_holeIs_79 : decode cX10_holeIs 79 = .ok (.aload_n 0, 1) := by decide +kernel
theorem dX10_holeIs_80 : decode cX10_holeIs 80 = .ok (.getfield 10, 3) := by decide +kernel
theorem dX10_holeIs_83 : decode cX10_holeIs 83 = .ok (.getfield 199, 3) := by decide +kernel
theorem dX10_holeIs_86 : decode cX10_holeIs 86 = .ok (.iload_n 1, 1) := by decide +kernel
theorem dX10_holeIs_87 : decode cX10_holeIs 87 = .ok (.iaload, 1) := by decide +kernel
theorem dX10_holeIs_88 : decode cX10_holeIs 88 = .ok (.ireturn, 1) := by decide +kernel
theorem dX10_holeIs_89 : decode cX10_holeIs 89 = .ok (.aload_n 0, 1) := by decide +kernel
theorem dX10_holeIs_90 : decode cX10_holeIs 90 = .ok (.getfield 10, 3) := by decide +kernel
theorem dX10_holeIs_93 : decode cX10_holeIs 93 = .ok (.getfield 202, 3) := by decide +kernel
theorem dX10_holeIs_96 : decode cX10_holeIs 96 = .ok (.iload_n 1, 1) := by decide +kernel
theorem dX10_holeIs_97 : decode cX10_holeIs 97 = .ok (.iaload, 1) := by decide +kernel
theorem dX10_holeIs_98 : decode cX10_holeIs 98 = .ok (.ireturn, 1) := by decide +kernel
theorem dX10_holeIs_99 : decode cX10_holeIs 99 = .ok (.aload_n 0, 1) := by decide +kernel
theorem dX10_holeIs_100 : decode cX10_holeIs 100 = .ok (.getfield 10, 3) := by decide +kernel
theorem dX10_holeIs_103 : decode cX10_holeIs 103 = .ok (.getfield 205, 3) := by decide +kernel
theorem dX10_holeIs_106 : decode cX10_holeIs 106 = .ok (.iload_n 1, 1) := by decide +kernel
theorem dX10_holeIs_107 : decode cX10_holeIs 107 = .ok (.iaload, 1) := by decide +kernel
theorem dX10_holeIs_108 : decode cX10_holeIs 108 = .ok (.ireturn, 1) := by decide +kernel
theorem dX10_holeIs_109 : decode cX10_holeIs 109 = .ok (.aload_n 0, 1) := by decide +kernel
theorem dX10_holeIs_110 : decode cX10_holeIs 110 = .ok (.getfield 10, 3) := by decide +kernel
theorem dX10_holeIs_113 : decode cX10_holeIs 113 = .ok (.getfield 208, 3) := by decide +kernel
theorem dX10_holeIs_116 : decode cX10_holeIs 116 = .ok (.iload_n 1, 1) := by decide +kernel
theorem dX10_holeIs_117 : decode cX10_holeIs 117 = .ok (.iaload, 1) := by decide +kernel
theorem dX10_holeIs_118 : decode cX10_holeIs 118 = .ok (.ireturn, 1) := by decide +kernel
theorem dX10_holeIs_119 : decode cX10_holeIs 119 = .ok (.iconst (-1), 1) := by decide +kernel
theorem dX10_holeIs_120 : decode cX10_holeIs 120 = .ok (.ireturn, 1) := by decide +kernel
theorem dX10_groupIs_0 : decode cX10_groupIs 0 = .ok (.aload_n 0, 1) := by decide +kernel
theorem dX10_groupIs_1 : decode cX10_groupIs 1 = .ok (.getfield 10, 3) := by decide +kernel
theorem dX10_groupIs_4 : decode cX10_groupIs 4 = .ok (.iload_n 1, 1) := by decide +kernel
theorem dX10_groupIs_5 : decode cX10_groupIs 5 = .ok (.invokevirtual 164, 3) := by decide +kernel
theorem dX10_groupIs_8 : decode cX10_groupIs 8 = .ok (.ifCond .ne 5, 3) := by decide +kernel
theorem dX10_groupIs_11 : decode cX10_groupIs 11 = .ok (.iconst (-1), 1) := by decide +kernel
theorem dX10_groupIs_12 : decode cX10_groupIs 12 = .ok (.ireturn, 1) := by decide +kernel
theorem dX10_groupIs_13 : decode cX10_groupIs 13 = .ok (.iload_n 2, 1) := by decide +kernel
theorem dX10_groupIs_14 : decode cX10_groupIs 14 = .ok (.tableswitch 74 0 2 #[26, 36, 46], 26) := by decide +kernel
theorem dX10_groupIs_40 : decode cX10_groupIs 40 = .ok (.aload_n 0, 1) := by decide +kernel
theorem dX10_groupIs_41 : decode cX10_groupIs 41 = .ok (.getfield 10, 3) := by decide +kernel
theorem dX10_groupIs_44 : decode cX10_groupIs 44 = .ok (.getfield 175, 3) := by decide +kernel
theorem dX10_groupIs_47 : decode cX10_groupIs 47 = .ok (.iload_n 1, 1) := by decide +kernel
theorem dX10_groupIs_48 : decode cX10_groupIs 48 = .ok (.iaload, 1) := by decide +kernel
theorem dX10_groupIs_49 : decode cX10_groupIs 49 = .ok (.ireturn, 1) := by decide +kernel
theorem dX10_groupIs_50 : decode cX10_groupIs 50 = .ok (.aload_n 0, 1) := by decide +kernel
theorem dX10_groupIs_51 : decode cX10_groupIs 51 = .ok (.getfield 10, 3) := by decide +kernel
theorem dX10_groupIs_54 : decode cX10_groupIs 54 = .ok (.getfield 211, 3) := by decide +kernel
theorem dX10_groupIs_57 : decode cX10_groupIs 57 = .ok (.iload_n 1, 1) := by decide +kernel
theorem dX10_groupIs_58 : decode cX10_groupIs 58 = .ok (.iaload, 1) := by decide +kernel
theorem dX10_groupIs_59 : decode cX10_groupIs 59 = .ok (.ireturn, 1) := by decide +kernel
theorem dX10_groupIs_60 : decode cX10_groupIs 60 = .ok (.aload_n 0, 1) := by decide +kernel
theorem dX10_groupIs_61 : decode cX10_groupIs 61 = .ok (.getfield 10, 3) := by decide +kernel
theorem dX10_groupIs_64 : decode cX10_groupIs 64 = .ok (.iload_n 1, 1) := by decide +kernel
theorem dX10_groupIs_65 : decode cX10_groupIs 65 = .ok (.invokevirtual 214, 3) := by decide +kernel
theorem dX10_groupIs_68 : decode cX10_groupIs 68 = .ok (.ifCond .eq 18, 3) := by decide +kernel
theorem dX10_groupIs_71 : decode cX10_groupIs 71 = .ok (.aload_n 0, 1) := by decide +kernel
theorem dX10_groupIs_72 : decode cX10_groupIs 72 = .ok (.getfield 39, 3) := by decide +kernel
theorem dX10_groupIs_75 : decode cX10_groupIs 75 = .ok (.aload_n 0, 1) := by decide +kernel
theorem dX10_groupIs_76 : decode cX10_groupIs 76 = .ok (.getfield 10, 3) := by decide +kernel
theorem dX10_groupIs_79 : decode cX10_groupIs 79 = .ok (.iload_n 1, 1) := by decide +kernel
theorem dX10_groupIs_80 : decode cX10_groupIs 80 = .ok (.invokevirtual 217, 3) := by decide +kernel
theorem dX10_groupIs_83 : decode cX10_groupIs 83 = .ok (.goto 4, 3) := by decide +kernel
theorem dX10_groupIs_86 : decode cX10_groupIs 86 = .ok (.iconst (-1), 1) := by decide +kernel
theorem dX10_groupIs_87 : decode cX10_groupIs 87 = .ok (.ireturn, 1) := by decide +kernel
theorem dX10_groupIs_88 : decode cX10_groupIs 88 = .ok (.iconst (-1), 1) := by decide +kernel
theorem dX10_groupIs_89 : decode cX10_groupIs 89 = .ok (.ireturn, 1) := by decide +kernel
theorem dX10_draws_0 : decode cX10_draws 0 = .ok (.aload_n 0, 1) := by decide +kernel
theorem dX10_draws_1 : decode cX10_draws 1 = .ok (.getfield 10, 3) := by decide +kernel
theorem dX10_draws_4 : decode cX10_draws 4 = .ok (.iload_n 1, 1) := by decide +kernel
theorem dX10_draws_5 : decode cX10_draws 5 = .ok (.invokevirtual 141, 3) := by decide +kernel
theorem dX10_draws_8 : decode cX10_draws 8 = .ok (.ifCond .eq 30, 3) := by decide +kernel
theorem dX10_draws_11 : decode cX10_draws 11 = .ok (.aload_n 0, 1) := by decide +kernel
theorem dX10_draws_12 : decode cX10_draws 12 = .ok (.getfield 10, 3) := by decide +kernel
theorem dX10_draws_15 : decode cX10_draws 15 = .ok (.iload_n 2, 1) := by decide +kernel
theorem dX10_draws_16 : decode cX10_draws 16 = .ok (.invokevirtual 214, 3) := by decide +kernel
theorem dX10_draws_19 : decode cX10_draws 19 = .ok (.ifCond .eq 19, 3) := by decide +kernel
theorem dX10_draws_22 : decode cX10_draws 22 = .ok (.aload_n 0, 1) := by decide +kernel
theorem dX10_draws_23 : decode cX10_draws 23 = .ok (.getfield 39, 3) := by decide +kernel
theorem dX10_draws_26 : decode cX10_draws 26 = .ok (.aload_n 0, 1) := by decide +kernel
theorem dX10_draws_27 : decode cX10_draws 27 = .ok (.getfield 10, 3) := by decide +kernel
theorem dX10_draws_30 : decode cX10_draws 30 = .ok (.iload_n 1, 1) := by decide +kernel
theorem dX10_draws_31 : decode cX10_draws 31 = .ok (.iload_n 2, 1) := by decide +kernel
theorem dX10_draws_32 : decode cX10_draws 32 = .ok (.invokevirtual 220, 3) := by decide +kernel
theorem dX10_draws_35 : decode cX10_draws 35 = .ok (.goto 4, 3) := by decide +kernel
theorem dX10_draws_38 : decode cX10_draws 38 = .ok (.iconst (-1), 1) := by decide +kernel
theorem dX10_draws_39 : decode cX10_draws 39 = .ok (.ireturn, 1) := by decide +kernel
theorem dX10_sound_0 : decode cX10_sound 0 = .ok (.aload_n 0, 1) := by decide +kernel
theorem dX10_sound_1 : decode cX10_sound 1 = .ok (.getfield 10, 3) := by decide +kernel
theorem dX10_sound_4 : decode cX10_sound 4 = .ok (.iload_n 1, 1) := by decide +kernel
theorem dX10_sound_5 : decode cX10_sound 5 = .ok (.invokevirtual 141, 3) := by decide +kernel
theorem dX10_sound_8 : decode cX10_sound 8 = .ok (.ifCond .eq 14, 3) := by decide +kernel
theorem dX10_sound_11 : decode cX10_sound 11 = .ok (.iload_n 2, 1) := by decide +kernel
theorem dX10_sound_12 : decode cX10_sound 12 = .ok (.iconst 0, 1) := by decide +kernel
theorem dX10_sound_13 : decode cX10_sound 13 = .ok (.sipush 9999, 3) := by decide +kernel
theorem dX10_sound_16 : decode cX10_sound 16 = .ok (.invokestatic 83, 3) := by decide +kernel
theorem dX10_sound_19 : decode cX10_sound 19 = .ok (.ifCond .ne 5, 3) := by decide +kernel
theorem dX10_sound_22 : decode cX10_sound 22 = .ok (.iconst (-1), 1) := by decide +kernel
theorem dX10_sound_23 : decode cX10_sound 23 = .ok (.ireturn, 1) := by decide +kernel
theorem dX10_sound_24 : decode cX10_sound 24 = .ok (.aload_n 0, 1) := by decide +kernel
theorem dX10_sound_25 : decode cX10_sound 25 = .ok (.getfield 39, 3) := by decide +kernel
theorem dX10_sound_28 : decode cX10_sound 28 = .ok (.aload_n 0, 1) := by decide +kernel
theorem dX10_sound_29 : decode cX10_sound 29 = .ok (.getfield 10, 3) := by decide +kernel
theorem dX10_sound_32 : decode cX10_sound 32 = .ok (.iload_n 1, 1) := by decide +kernel
theorem dX10_sound_33 : decode cX10_sound 33 = .ok (.iload_n 2, 1) := by decide +kernel
theorem dX10_sound_34 : decode cX10_sound 34 = .ok (.invokevirtual 224, 3) := by decide +kernel
theorem dX10_sound_37 : decode cX10_sound 37 = .ok (.ireturn, 1) := by decide +kernel
theorem dX10_places_0 : decode cX10_places 0 = .ok (.iload_n 1, 1) := by decide +kernel
theorem dX10_places_1 : decode cX10_places 1 = .ok (.iconst 1, 1) := by decide +kernel
theorem dX10_places_2 : decode cX10_places 2 = .ok (.bipush 10, 2) := by decide +kernel
theorem dX10_places_4 : decode cX10_places 4 = .ok (.invokestatic 83, 3) := by decide +kernel
theorem dX10_places_7 : decode cX10_places 7 = .ok (.ifCond .eq 26, 3) := by decide +kernel
theorem dX10_places_10 : decode cX10_places 10 = .ok (.iload_n 2, 1) := by decide +kernel
theorem dX10_places_11 : decode cX10_places 11 = .ok (.iconst (-1), 1) := by decide +kernel
theorem dX10_places_12 : decode cX10_places 12 = .ok (.if_icmp .eq 8, 3) := by decide +kernel
theorem dX10_places_15 : decode cX10_places 15 = .ok (.iload_n 2, 1) := by decide +kernel
theorem dX10_places_16 : decode cX10_places 16 = .ok (.iconst 1, 1) := by decide +kernel
theorem dX10_places_17 : decode cX10_places 17 = .ok (.if_icmp .ne 16, 3) := by decide +kernel
theorem dX10_places_20 : decode cX10_places 20 = .ok (.iconst 2, 1) := by decide +kernel
theorem dX10_places_21 : decode cX10_places 21 = .ok (.iload_n 1, 1) := by decide +kernel
theorem dX10_places_22 : decode cX10_places 22 = .ok (.imul, 1) := by decide +kernel
theorem dX10_places_23 : decode cX10_places 23 = .ok (.aload_n 0, 1) := by decide +kernel
theorem dX10_places_24 : decode cX10_places 24 = .ok (.getfield 25, 3) := by decide +kernel
theorem dX10_places_27 : decode cX10_places 27 = .ok (.getfield 99, 3) := by decide +kernel
theorem dX10_places_30 : decode cX10_places 30 = .ok (.if_icmp .le 6, 3) := by decide +kernel
theorem dX10_places_33 : decode cX10_places 33 = .ok (.bipush (-3), 2) := by decide +kernel
theorem dX10_places_35 : decode cX10_places 35 = .ok (.ireturn, 1) := by decide +kernel
theorem dX10_places_36 : decode cX10_places 36 = .ok (.aload_n 0, 1) := by decide +kernel
theorem dX10_places_37 : decode cX10_places 37 = .ok (.getfield 32, 3) := by decide +kernel
theorem dX10_places_40 : decode cX10_places 40 = .ok (.aload_n 0, 1) := by decide +kernel
theorem dX10_places_41 : decode cX10_places 41 = .ok (.getfield 25, 3) := by decide +kernel
theorem dX10_places_44 : decode cX10_places 44 = .ok (.iload_n 1, 1) := by decide +kernel
theorem dX10_places_45 : decode cX10_places 45 = .ok (.invokevirtual 227, 3) := by decide +kernel
theorem dX10_places_48 : decode cX10_places 48 = .ok (.aload_n 0, 1) := by decide +kernel
theorem dX10_places_49 : decode cX10_places 49 = .ok (.getfield 32, 3) := by decide +kernel
theorem dX10_places_52 : decode cX10_places 52 = .ok (.invokevirtual 231, 3) := by decide +kernel
theorem dX10_places_55 : decode cX10_places 55 = .ok (.ifCond .eq 6, 3) := by decide +kernel
theorem dX10_places_58 : decode cX10_places 58 = .ok (.bipush (-2), 2) := by decide +kernel
theorem dX10_places_60 : decode cX10_places 60 = .ok (.ireturn, 1) := by decide +kernel
theorem dX10_places_61 : decode cX10_places 61 = .ok (.aload_n 0, 1) := by decide +kernel
theorem dX10_places_62 : decode cX10_places 62 = .ok (.getfield 55, 3) := by decide +kernel
theorem dX10_places_65 : decode cX10_places 65 = .ok (.aload_n 0, 1) := by decide +kernel
theorem dX10_places_66 : decode cX10_places 66 = .ok (.getfield 10, 3) := by decide +kernel
theorem dX10_places_69 : decode cX10_places 69 = .ok (.aload_n 0, 1) := by decide +kernel
theorem dX10_places_70 : decode cX10_places 70 = .ok (.getfield 39, 3) := by decide +kernel
theorem dX10_places_73 : decode cX10_places 73 = .ok (.aload_n 0, 1) := by decide +kernel
theorem dX10_places_74 : decode cX10_places 74 = .ok (.getfield 32, 3) := by decide +kernel
theorem dX10_places_77 : decode cX10_places 77 = .ok (.invokevirtual 235, 3) := by decide +kernel
theorem dX10_places_80 : decode cX10_places 80 = .ok (.istore_n 3, 1) := by decide +kernel
theorem dX10_places_81 : decode cX10_places 81 = .ok (.iload_n 2, 1) := by decide +kernel
theorem dX10_places_82 : decode cX10_places 82 = .ok (.iconst 1, 1) := by decide +kernel
theorem dX10_places_83 : decode cX10_places 83 = .ok (.if_icmp .ne 7, 3) := by decide +kernel
theorem dX10_places_86 : decode cX10_places 86 = .ok (.iload_n 3, 1) := by decide +kernel
theorem dX10_places_87 : decode cX10_places 87 = .ok (.goto 11, 3) := by decide +kernel
theorem dX10_places_90 : decode cX10_places 90 = .ok (.aload_n 0, 1) := by decide +kernel
theorem dX10_places_91 : decode cX10_places 91 = .ok (.getfield 55, 3) := by decide +kernel
theorem dX10_places_94 : decode cX10_places 94 = .ok (.iload_n 3, 1) := by decide +kernel
theorem dX10_places_95 : decode cX10_places 95 = .ok (.invokevirtual 239, 3) := by decide +kernel
theorem dX10_places_98 : decode cX10_places 98 = .ok (.ireturn, 1) := by decide +kernel
theorem dX10_closing_0 : decode cX10_closing 0 = .ok (.iload_n 1, 1) := by decide +kernel
theorem dX10_closing_1 : decode cX10_closing 1 = .ok (.invokestatic 242, 3) := by decide +kernel
theorem dX10_closing_4 : decode cX10_closing 4 = .ok (.istore 4, 2) := by decide +kernel
theorem dX10_closing_6 : decode cX10_closing 6 = .ok (.iload_n 1, 1) := by decide +kernel
theorem dX10_closing_7 : decode cX10_closing 7 = .ok (.ifCond .lt 48, 3) := by decide +kernel
theorem dX10_closing_10 : decode cX10_closing 10 = .ok (.iload_n 1, 1) := by decide +kernel
theorem dX10_closing_11 : decode cX10_closing 11 = .ok (.aload_n 0, 1) := by decide +kernel
theorem dX10_closing_12 : decode cX10_closing 12 = .ok (.getfield 10, 3) := by decide +kernel
theorem dX10_closing_15 : decode cX10_closing 15 = .ok (.getfield 123, 3) := by decide +kernel
theorem dX10_closing_18 : decode cX10_closing 18 = .ok (.ishr, 1) := by decide +kernel
theorem dX10_closing_19 : decode cX10_closing 19 = .ok (.ifCond .ne 36, 3) := by decide +kernel
theorem dX10_closing_22 : decode cX10_closing 22 = .ok (.iload 4, 2) := by decide +kernel
theorem dX10_closing_24 : decode cX10_closing 24 = .ok (.iconst 1, 1) := by decide +kernel
theorem dX10_closing_25 : decode cX10_closing 25 = .ok (.bipush 8, 2) := by decide +kernel
theorem dX10_closing_27 : decode cX10_closing 27 = .ok (.invokestatic 83, 3) := by decide +kernel
theorem dX10_closing_30 : decode cX10_closing 30 = .ok (.ifCond .eq 25, 3) := by decide +kernel
theorem dX10_closing_33 : decode cX10_closing 33 = .ok (.iload_n 2, 1) := by decide +kernel
theorem dX10_closing_34 : decode cX10_closing 34 = .ok (.iconst 0, 1) := by decide +kernel
theorem dX10_closing_35 : decode cX10_closing 35 = .ok (.sipush 9999, 3) := by decide +kernel
theorem dX10_closing_38 : decode cX10_closing 38 = .ok (.invokestatic 83, 3) := by decide +kernel
theorem dX10_closing_41 : decode cX10_closing 41 = .ok (.ifCond .eq 14, 3) := by decide +kernel
theorem dX10_closing_44 : decode cX10_closing 44 = .ok (.iload_n 3, 1) := by decide +kernel
theorem dX10_closing_45 : decode cX10_closing 45 = .ok (.iconst (-1), 1) := by decide +kernel
theorem dX10_closing_46 : decode cX10_closing 46 = .ok (.if_icmp .lt 9, 3) := by decide +kernel
theorem dX10_closing_49 : decode cX10_closing 49 = .ok (.iload_n 3, 1) := by decide +kernel
theorem dX10_closing_50 : decode cX10_closing 50 = .ok (.iload 4, 2) := by decide +kernel
theorem dX10_closing_52 : decode cX10_closing 52 = .ok (.if_icmp .lt 6, 3) := by decide +kernel
theorem dX10_closing_55 : decode cX10_closing 55 = .ok (.bipush (-3), 2) := by decide +kernel
theorem dX10_closing_57 : decode cX10_closing 57 = .ok (.ireturn, 1) := by decide +kernel
theorem dX10_closing_58 : decode cX10_closing 58 = .ok (.aload_n 0, 1) := by decide +kernel
theorem dX10_closing_59 : decode cX10_closing 59 = .ok (.getfield 10, 3) := by decide +kernel
theorem dX10_closing_62 : decode cX10_closing 62 = .ok (.iload_n 1, 1) := by decide +kernel
theorem dX10_closing_63 : decode cX10_closing 63 = .ok (.invokevirtual 247, 3) := by decide +kernel
theorem dX10_closing_66 : decode cX10_closing 66 = .ok (.ifCond .ne 6, 3) := by decide +kernel
theorem dX10_closing_69 : decode cX10_closing 69 = .ok (.bipush (-2), 2) := by decide +kernel
theorem dX10_closing_71 : decode cX10_closing 71 = .ok (.ireturn, 1) := by decide +kernel
theorem dX10_closing_72 : decode cX10_closing 72 = .ok (.aload_n 0, 1) := by decide +kernel
theorem dX10_closing_73 : decode cX10_closing 73 = .ok (.getfield 62, 3) := by decide +kernel
theorem dX10_closing_76 : decode cX10_closing 76 = .ok (.aload_n 0, 1) := by decide +kernel
theorem dX10_closing_77 : decode cX10_closing 77 = .ok (.getfield 10, 3) := by decide +kernel
theorem dX10_closing_80 : decode cX10_closing 80 = .ok (.aload_n 0, 1) := by decide +kernel
theorem dX10_closing_81 : decode cX10_closing 81 = .ok (.getfield 39, 3) := by decide +kernel
theorem dX10_closing_84 : decode cX10_closing 84 = .ok (.iload_n 1, 1) := by decide +kernel
theorem dX10_closing_85 : decode cX10_closing 85 = .ok (.iload_n 2, 1) := by decide +kernel
theorem dX10_closing_86 : decode cX10_closing 86 = .ok (.invokevirtual 250, 3) := by decide +kernel
theorem dX10_closing_89 : decode cX10_closing 89 = .ok (.iload_n 3, 1) := by decide +kernel
theorem dX10_closing_90 : decode cX10_closing 90 = .ok (.iconst (-1), 1) := by decide +kernel
theorem dX10_closing_91 : decode cX10_closing 91 = .ok (.if_icmp .ne 13, 3) := by decide +kernel
theorem dX10_closing_94 : decode cX10_closing 94 = .ok (.aload_n 0, 1) := by decide +kernel
theorem dX10_closing_95 : decode cX10_closing 95 = .ok (.getfield 62, 3) := by decide +kernel
theorem dX10_closing_98 : decode cX10_closing 98 = .ok (.invokevirtual 254, 3) := by decide +kernel
theorem dX10_closing_101 : decode cX10_closing 101 = .ok (.goto 11, 3) := by decide +kernel
theorem dX10_closing_104 : decode cX10_closing 104 = .ok (.aload_n 0, 1) := by decide +kernel
theorem dX10_closing_105 : decode cX10_closing 105 = .ok (.getfield 62, 3) := by decide +kernel
theorem dX10_closing_108 : decode cX10_closing 108 = .ok (.iload_n 3, 1) := by decide +kernel
theorem dX10_closing_109 : decode cX10_closing 109 = .ok (.invokevirtual 257, 3) := by decide +kernel
theorem dX10_closing_112 : decode cX10_closing 112 = .ok (.ireturn, 1) := by decide +kernel
theorem dX10_rescue_0 : decode cX10_rescue 0 = .ok (.iload 4, 2) := by decide +kernel
theorem dX10_rescue_2 : decode cX10_rescue 2 = .ok (.iconst 0, 1) := by decide +kernel
theorem dX10_rescue_3 : decode cX10_rescue 3 = .ok (.sipush 255, 3) := by decide +kernel
theorem dX10_rescue_6 : decode cX10_rescue 6 = .ok (.invokestatic 83, 3) := by decide +kernel
theorem dX10_rescue_9 : decode cX10_rescue 9 = .ok (.istore 5, 2) := by decide +kernel
theorem dX10_rescue_11 : decode cX10_rescue 11 = .ok (.iload_n 1, 1) := by decide +kernel
theorem dX10_rescue_12 : decode cX10_rescue 12 = .ok (.invokestatic 260, 3) := by decide +kernel
theorem dX10_rescue_15 : decode cX10_rescue 15 = .ok (.ifCond .eq 40, 3) := by decide +kernel
theorem dX10_rescue_18 : decode cX10_rescue 18 = .ok (.iload_n 2, 1) := by decide +kernel
theorem dX10_rescue_19 : decode cX10_rescue 19 = .ok (.invokestatic 260, 3) := by decide +kernel
theorem dX10_rescue_22 : decode cX10_rescue 22 = .ok (.ifCond .eq 33, 3) := by decide +kernel
theorem dX10_rescue_25 : decode cX10_rescue 25 = .ok (.iload_n 3, 1) := by decide +kernel
theorem dX10_rescue_26 : decode cX10_rescue 26 = .ok (.iconst 1, 1) := by decide +kernel
theorem dX10_rescue_27 : decode cX10_rescue 27 = .ok (.sipush 9999, 3) := by decide +kernel
theorem dX10_rescue_30 : decode cX10_rescue 30 = .ok (.invokestatic 83, 3) := by decide +kernel
theorem dX10_rescue_33 : decode cX10_rescue 33 = .ok (.ifCond .eq 22, 3) := by decide +kernel
theorem dX10_rescue_36 : decode cX10_rescue 36 = .ok (.iload 4, 2) := by decide +kernel
theorem dX10_rescue_38 : decode cX10_rescue 38 = .ok (.iconst (-1), 1) := by decide +kernel
theorem dX10_rescue_39 : decode cX10_rescue 39 = .ok (.if_icmp .eq 19, 3) := by decide +kernel
theorem dX10_rescue_42 : decode cX10_rescue 42 = .ok (.iload 4, 2) := by decide +kernel
theorem dX10_rescue_44 : decode cX10_rescue 44 = .ok (.sipush 500, 3) := by decide +kernel
theorem dX10_rescue_47 : decode cX10_rescue 47 = .ok (.if_icmp .eq 11, 3) := by decide +kernel
theorem dX10_rescue_50 : decode cX10_rescue 50 = .ok (.iload 5, 2) := by decide +kernel
theorem dX10_rescue_52 : decode cX10_rescue 52 = .ok (.ifCond .ne 6, 3) := by decide +kernel
theorem dX10_rescue_55 : decode cX10_rescue 55 = .ok (.bipush (-3), 2) := by decide +kernel
theorem dX10_rescue_57 : decode cX10_rescue 57 = .ok (.ireturn, 1) := by decide +kernel
theorem dX10_rescue_58 : decode cX10_rescue 58 = .ok (.aload_n 0, 1) := by decide +kernel
theorem dX10_rescue_59 : decode cX10_rescue 59 = .ok (.getfield 69, 3) := by decide +kernel
theorem dX10_rescue_62 : decode cX10_rescue 62 = .ok (.aload_n 0, 1) := by decide +kernel
theorem dX10_rescue_63 : decode cX10_rescue 63 = .ok (.getfield 10, 3) := by decide +kernel
theorem dX10_rescue_66 : decode cX10_rescue 66 = .ok (.aload_n 0, 1) := by decide +kernel
theorem dX10_rescue_67 : decode cX10_rescue 67 = .ok (.getfield 39, 3) := by decide +kernel
theorem dX10_rescue_70 : decode cX10_rescue 70 = .ok (.iload_n 1, 1) := by decide +kernel
theorem dX10_rescue_71 : decode cX10_rescue 71 = .ok (.iload_n 2, 1) := by decide +kernel
theorem dX10_rescue_72 : decode cX10_rescue 72 = .ok (.iload_n 3, 1) := by decide +kernel
theorem dX10_rescue_73 : decode cX10_rescue 73 = .ok (.invokevirtual 263, 3) := by decide +kernel
theorem dX10_rescue_76 : decode cX10_rescue 76 = .ok (.ifCond .ne 6, 3) := by decide +kernel
theorem dX10_rescue_79 : decode cX10_rescue 79 = .ok (.bipush (-2), 2) := by decide +kernel
theorem dX10_rescue_81 : decode cX10_rescue 81 = .ok (.ireturn, 1) := by decide +kernel
theorem dX10_rescue_82 : decode cX10_rescue 82 = .ok (.iload 4, 2) := by decide +kernel
theorem dX10_rescue_84 : decode cX10_rescue 84 = .ok (.iconst (-1), 1) := by decide +kernel
theorem dX10_rescue_85 : decode cX10_rescue 85 = .ok (.if_icmp .ne 11, 3) := by decide +kernel
theorem dX10_rescue_88 : decode cX10_rescue 88 = .ok (.aload_n 0, 1) := by decide +kernel
theorem dX10_rescue_89 : decode cX10_rescue 89 = .ok (.getfield 69, 3) := by decide +kernel
theorem dX10_rescue_92 : decode cX10_rescue 92 = .ok (.invokevirtual 266, 3) := by decide +kernel
theorem dX10_rescue_95 : decode cX10_rescue 95 = .ok (.ireturn, 1) := by decide +kernel
theorem dX10_rescue_96 : decode cX10_rescue 96 = .ok (.iload 4, 2) := by decide +kernel
theorem dX10_rescue_98 : decode cX10_rescue 98 = .ok (.sipush 500, 3) := by decide +kernel
theorem dX10_rescue_101 : decode cX10_rescue 101 = .ok (.if_icmp .ne 11, 3) := by decide +kernel
theorem dX10_rescue_104 : decode cX10_rescue 104 = .ok (.aload_n 0, 1) := by decide +kernel
theorem dX10_rescue_105 : decode cX10_rescue 105 = .ok (.getfield 69, 3) := by decide +kernel
theorem dX10_rescue_108 : decode cX10_rescue 108 = .ok (.invokevirtual 269, 3) := by decide +kernel
theorem dX10_rescue_111 : decode cX10_rescue 111 = .ok (.ireturn, 1) := by decide +kernel
theorem dX10_rescue_112 : decode cX10_rescue 112 = .ok (.iload 4, 2) := by decide +kernel
theorem dX10_rescue_114 : decode cX10_rescue 114 = .ok (.aload_n 0, 1) := by decide +kernel
theorem dX10_rescue_115 : decode cX10_rescue 115 = .ok (.getfield 69, 3) := by decide +kernel
theorem dX10_rescue_118 : decode cX10_rescue 118 = .ok (.invokevirtual 269, 3) := by decide +kernel
theorem dX10_rescue_121 : decode cX10_rescue 121 = .ok (.if_icmp .gt 15, 3) := by decide +kernel
theorem dX10_rescue_124 : decode cX10_rescue 124 = .ok (.aload_n 0, 1) := by decide +kernel
theorem dX10_rescue_125 : decode cX10_rescue 125 = .ok (.getfield 69, 3) := by decide +kernel
theorem dX10_rescue_128 : decode cX10_rescue 128 = .ok (.iload 4, 2) := by decide +kernel
theorem dX10_rescue_130 : decode cX10_rescue 130 = .ok (.invokevirtual 272, 3) := by decide +kernel
theorem dX10_rescue_133 : decode cX10_rescue 133 = .ok (.goto 5, 3) := by decide +kernel
theorem dX10_rescue_136 : decode cX10_rescue 136 = .ok (.bipush (-3), 2) := by decide +kernel
theorem dX10_rescue_138 : decode cX10_rescue 138 = .ok (.ireturn, 1) := by decide +kernel
theorem dX10_began_0 : decode cX10_began 0 = .ok (.iload_n 1, 1) := by decide +kernel
theorem dX10_began_1 : decode cX10_began 1 = .ok (.iconst 1, 1) := by decide +kernel
theorem dX10_began_2 : decode cX10_began 2 = .ok (.bipush 40, 2) := by decide +kernel
theorem dX10_began_4 : decode cX10_began 4 = .ok (.invokestatic 83, 3) := by decide +kernel
theorem dX10_began_7 : decode cX10_began 7 = .ok (.ifCond .eq 23, 3) := by decide +kernel
theorem dX10_began_10 : decode cX10_began 10 = .ok (.iload_n 2, 1) := by decide +kernel
theorem dX10_began_11 : decode cX10_began 11 = .ok (.ifCond .eq 8, 3) := by decide +kernel
theorem dX10_began_14 : decode cX10_began 14 = .ok (.iload_n 2, 1) := by decide +kernel
theorem dX10_began_15 : decode cX10_began 15 = .ok (.iconst 1, 1) := by decide +kernel
theorem dX10_began_16 : decode cX10_began 16 = .ok (.if_icmp .ne 14, 3) := by decide +kernel
theorem dX10_began_19 : decode cX10_began 19 = .ok (.iload_n 1, 1) := by decide +kernel
theorem dX10_began_20 : decode cX10_began 20 = .ok (.aload_n 0, 1) := by decide +kernel
theorem dX10_began_21 : decode cX10_began 21 = .ok (.getfield 25, 3) := by decide +kernel
theorem dX10_began_24 : decode cX10_began 24 = .ok (.getfield 99, 3) := by decide +kernel
theorem dX10_began_27 : decode cX10_began 27 = .ok (.if_icmp .le 6, 3) := by decide +kernel
theorem dX10_began_30 : decode cX10_began 30 = .ok (.bipush (-3), 2) := by decide +kernel
theorem dX10_began_32 : decode cX10_began 32 = .ok (.ireturn, 1) := by decide +kernel
theorem dX10_began_33 : decode cX10_began 33 = .ok (.aload_n 0, 1) := by decide +kernel
theorem dX10_began_34 : decode cX10_began 34 = .ok (.getfield 32, 3) := by decide +kernel
theorem dX10_began_37 : decode cX10_began 37 = .ok (.aload_n 0, 1) := by decide +kernel
theorem dX10_began_38 : decode cX10_began 38 = .ok (.getfield 25, 3) := by decide +kernel
theorem dX10_began_41 : decode cX10_began 41 = .ok (.iload_n 1, 1) := by decide +kernel
theorem dX10_began_42 : decode cX10_began 42 = .ok (.invokevirtual 275, 3) := by decide +kernel
theorem dX10_began_45 : decode cX10_began 45 = .ok (.aload_n 0, 1) := by decide +kernel
theorem dX10_began_46 : decode cX10_began 46 = .ok (.getfield 32, 3) := by decide +kernel
theorem dX10_began_49 : decode cX10_began 49 = .ok (.invokevirtual 231, 3) := by decide +kernel
theorem dX10_began_52 : decode cX10_began 52 = .ok (.ifCond .ne 17, 3) := by decide +kernel
theorem dX10_began_55 : decode cX10_began 55 = .ok (.aload_n 0, 1) := by decide +kernel
theorem dX10_began_56 : decode cX10_began 56 = .ok (.getfield 32, 3) := by decide +kernel
theorem dX10_began_59 : decode cX10_began 59 = .ok (.aload_n 0, 1) := by decide +kernel
theorem dX10_began_60 : decode cX10_began 60 = .ok (.getfield 10, 3) := by decide +kernel
theorem dX10_began_63 : decode cX10_began 63 = .ok (.invokevirtual 278, 3) := by decide +kernel
theorem dX10_began_66 : decode cX10_began 66 = .ok (.ifCond .ne 6, 3) := by decide +kernel
theorem dX10_began_69 : decode cX10_began 69 = .ok (.bipush (-2), 2) := by decide +kernel
theorem dX10_began_71 : decode cX10_began 71 = .ok (.ireturn, 1) := by decide +kernel
theorem dX10_began_72 : decode cX10_began 72 = .ok (.aload_n 0, 1) := by decide +kernel
theorem dX10_began_73 : decode cX10_began 73 = .ok (.getfield 19, 3) := by decide +kernel
theorem dX10_began_76 : decode cX10_began 76 = .ok (.aload_n 0, 1) := by decide +kernel
theorem dX10_began_77 : decode cX10_began 77 = .ok (.getfield 10, 3) := by decide +kernel
theorem dX10_began_80 : decode cX10_began 80 = .ok (.invokevirtual 167, 3) := by decide +kernel
theorem dX10_began_83 : decode cX10_began 83 = .ok (.iconst 0, 1) := by decide +kernel
theorem dX10_began_84 : decode cX10_began 84 = .ok (.istore_n 3, 1) := by decide +kernel
theorem dX10_began_85 : decode cX10_began 85 = .ok (.iconst (-1), 1) := by decide +kernel
theorem dX10_began_86 : decode cX10_began 86 = .ok (.istore 4, 2) := by decide +kernel
theorem dX10_began_88 : decode cX10_began 88 = .ok (.iconst 0, 1) := by decide +kernel
theorem dX10_began_89 : decode cX10_began 89 = .ok (.istore 5, 2) := by decide +kernel
theorem dX10_began_91 : decode cX10_began 91 = .ok (.iload 5, 2) := by decide +kernel
theorem dX10_began_93 : decode cX10_began 93 = .ok (.aload_n 0, 1) := by decide +kernel
theorem dX10_began_94 : decode cX10_began 94 = .ok (.getfield 32, 3) := by decide +kernel
theorem dX10_began_97 : decode cX10_began 97 = .ok (.getfield 282, 3) := by decide +kernel
theorem dX10_began_100 : decode cX10_began 100 = .ok (.if_icmp .ge 77, 3) := by decide +kernel
theorem dX10_began_103 : decode cX10_began 103 = .ok (.aload_n 0, 1) := by decide +kernel
theorem dX10_began_104 : decode cX10_began 104 = .ok (.getfield 32, 3) := by decide +kernel
theorem dX10_began_107 : decode cX10_began 107 = .ok (.getfield 285, 3) := by decide +kernel
theorem dX10_began_110 : decode cX10_began 110 = .ok (.iload 5, 2) := by decide +kernel
theorem dX10_began_112 : decode cX10_began 112 = .ok (.iaload, 1) := by decide +kernel
theorem dX10_began_113 : decode cX10_began 113 = .ok (.istore 6, 2) := by decide +kernel
theorem dX10_began_115 : decode cX10_began 115 = .ok (.aload_n 0, 1) := by decide +kernel
theorem dX10_began_116 : decode cX10_began 116 = .ok (.getfield 39, 3) := by decide +kernel
theorem dX10_began_119 : decode cX10_began 119 = .ok (.aload_n 0, 1) := by decide +kernel
theorem dX10_began_120 : decode cX10_began 120 = .ok (.getfield 19, 3) := by decide +kernel
theorem dX10_began_123 : decode cX10_began 123 = .ok (.iload 6, 2) := by decide +kernel
theorem dX10_began_125 : decode cX10_began 125 = .ok (.aload_n 0, 1) := by decide +kernel
theorem dX10_began_126 : decode cX10_began 126 = .ok (.getfield 32, 3) := by decide +kernel
theorem dX10_began_129 : decode cX10_began 129 = .ok (.invokevirtual 288, 3) := by decide +kernel
theorem dX10_began_132 : decode cX10_began 132 = .ok (.ifCond .eq 26, 3) := by decide +kernel
theorem dX10_began_135 : decode cX10_began 135 = .ok (.iinc 3 1, 3) := by decide +kernel
theorem dX10_began_138 : decode cX10_began 138 = .ok (.iload 4, 2) := by decide +kernel
theorem dX10_began_140 : decode cX10_began 140 = .ok (.iconst (-1), 1) := by decide +kernel
theorem dX10_began_141 : decode cX10_began 141 = .ok (.if_icmp .ne 8, 3) := by decide +kernel
theorem dX10_began_144 : decode cX10_began 144 = .ok (.iload 6, 2) := by decide +kernel
theorem dX10_began_146 : decode cX10_began 146 = .ok (.goto 10, 3) := by decide +kernel
theorem dX10_began_149 : decode cX10_began 149 = .ok (.iload 4, 2) := by decide +kernel
theorem dX10_began_151 : decode cX10_began 151 = .ok (.iload 6, 2) := by decide +kernel
theorem dX10_began_153 : decode cX10_began 153 = .ok (.invokestatic 292, 3) := by decide +kernel
theorem dX10_began_156 : decode cX10_began 156 = .ok (.istore 4, 2) := by decide +kernel
theorem dX10_began_158 : decode cX10_began 158 = .ok (.aload_n 0, 1) := by decide +kernel
theorem dX10_began_159 : decode cX10_began 159 = .ok (.getfield 19, 3) := by decide +kernel
theorem dX10_began_162 : decode cX10_began 162 = .ok (.iload 6, 2) := by decide +kernel
theorem dX10_began_164 : decode cX10_began 164 = .ok (.aload_n 0, 1) := by decide +kernel
theorem dX10_began_165 : decode cX10_began 165 = .ok (.getfield 10, 3) := by decide +kernel
theorem dX10_began_168 : decode cX10_began 168 = .ok (.invokevirtual 297, 3) := by decide +kernel
theorem dX10_began_171 : decode cX10_began 171 = .ok (.iinc 5 1, 3) := by decide +kernel
theorem dX10_began_174 : decode cX10_began 174 = .ok (.goto (-83), 3) := by decide +kernel
theorem dX10_began_177 : decode cX10_began 177 = .ok (.iload_n 2, 1) := by decide +kernel
theorem dX10_began_178 : decode cX10_began 178 = .ok (.ifCond .ne 7, 3) := by decide +kernel
theorem dX10_began_181 : decode cX10_began 181 = .ok (.iload_n 3, 1) := by decide +kernel
theorem dX10_began_182 : decode cX10_began 182 = .ok (.goto 5, 3) := by decide +kernel
theorem dX10_began_185 : decode cX10_began 185 = .ok (.iload 4, 2) := by decide +kernel
theorem dX10_began_187 : decode cX10_began 187 = .ok (.ireturn, 1) := by decide +kernel
theorem dX10_fee_0 : decode cX10_fee 0 = .ok (.iload_n 1, 1) := by decide +kernel
theorem dX10_fee_1 : decode cX10_fee 1 = .ok (.iconst 1, 1) := by decide +kernel
theorem dX10_fee_2 : decode cX10_fee 2 = .ok (.bipush 10, 2) := by decide +kernel
theorem dX10_fee_4 : decode cX10_fee 4 = .ok (.invokestatic 83, 3) := by decide +kernel
theorem dX10_fee_7 : decode cX10_fee 7 = .ok (.ifCond .eq 37, 3) := by decide +kernel
theorem dX10_fee_10 : decode cX10_fee 10 = .ok (.iload_n 2, 1) := by decide +kernel
theorem dX10_fee_11 : decode cX10_fee 11 = .ok (.iconst 0, 1) := by decide +kernel
theorem dX10_fee_12 : decode cX10_fee 12 = .ok (.sipush 9999, 3) := by decide +kernel
theorem dX10_fee_15 : decode cX10_fee 15 = .ok (.invokestatic 83, 3) := by decide +kernel
theorem dX10_fee_18 : decode cX10_fee 18 = .ok (.ifCond .eq 26, 3) := by decide +kernel
theorem dX10_fee_21 : decode cX10_fee 21 = .ok (.iload_n 3, 1) := by decide +kernel
theorem dX10_fee_22 : decode cX10_fee 22 = .ok (.iconst (-1), 1) := by decide +kernel
theorem dX10_fee_23 : decode cX10_fee 23 = .ok (.if_icmp .lt 21, 3) := by decide +kernel
theorem dX10_fee_26 : decode cX10_fee 26 = .ok (.iload_n 3, 1) := by decide +kernel
theorem dX10_fee_27 : decode cX10_fee 27 = .ok (.iload_n 1, 1) := by decide +kernel
theorem dX10_fee_28 : decode cX10_fee 28 = .ok (.if_icmp .ge 16, 3) := by decide +kernel
theorem dX10_fee_31 : decode cX10_fee 31 = .ok (.iconst 2, 1) := by decide +kernel
theorem dX10_fee_32 : decode cX10_fee 32 = .ok (.iload_n 1, 1) := by decide +kernel
theorem dX10_fee_33 : decode cX10_fee 33 = .ok (.imul, 1) := by decide +kernel
theorem dX10_fee_34 : decode cX10_fee 34 = .ok (.aload_n 0, 1) := by decide +kernel
theorem dX10_fee_35 : decode cX10_fee 35 = .ok (.getfield 25, 3) := by decide +kernel
theorem dX10_fee_38 : decode cX10_fee 38 = .ok (.getfield 99, 3) := by decide +kernel
theorem dX10_fee_41 : decode cX10_fee 41 = .ok (.if_icmp .le 6, 3) := by decide +kernel
theorem dX10_fee_44 : decode cX10_fee 44 = .ok (.bipush (-3), 2) := by decide +kernel
theorem dX10_fee_46 : decode cX10_fee 46 = .ok (.ireturn, 1) := by decide +kernel
theorem dX10_fee_47 : decode cX10_fee 47 = .ok (.aload_n 0, 1) := by decide +kernel
theorem dX10_fee_48 : decode cX10_fee 48 = .ok (.getfield 32, 3) := by decide +kernel
theorem dX10_fee_51 : decode cX10_fee 51 = .ok (.aload_n 0, 1) := by decide +kernel
theorem dX10_fee_52 : decode cX10_fee 52 = .ok (.getfield 25, 3) := by decide +kernel
theorem dX10_fee_55 : decode cX10_fee 55 = .ok (.iload_n 1, 1) := by decide +kernel
theorem dX10_fee_56 : decode cX10_fee 56 = .ok (.invokevirtual 227, 3) := by decide +kernel
theorem dX10_fee_59 : decode cX10_fee 59 = .ok (.aload_n 0, 1) := by decide +kernel
theorem dX10_fee_60 : decode cX10_fee 60 = .ok (.getfield 32, 3) := by decide +kernel
theorem dX10_fee_63 : decode cX10_fee 63 = .ok (.invokevirtual 231, 3) := by decide +kernel
theorem dX10_fee_66 : decode cX10_fee 66 = .ok (.ifCond .ne 17, 3) := by decide +kernel
theorem dX10_fee_69 : decode cX10_fee 69 = .ok (.aload_n 0, 1) := by decide +kernel
theorem dX10_fee_70 : decode cX10_fee 70 = .ok (.getfield 32, 3) := by decide +kernel
theorem dX10_fee_73 : decode cX10_fee 73 = .ok (.aload_n 0, 1) := by decide +kernel
theorem dX10_fee_74 : decode cX10_fee 74 = .ok (.getfield 10, 3) := by decide +kernel
theorem dX10_fee_77 : decode cX10_fee 77 = .ok (.invokevirtual 278, 3) := by decide +kernel
theorem dX10_fee_80 : decode cX10_fee 80 = .ok (.ifCond .ne 6, 3) := by decide +kernel
theorem dX10_fee_83 : decode cX10_fee 83 = .ok (.bipush (-2), 2) := by decide +kernel
theorem dX10_fee_85 : decode cX10_fee 85 = .ok (.ireturn, 1) := by decide +kernel
theorem dX10_fee_86 : decode cX10_fee 86 = .ok (.aload_n 0, 1) := by decide +kernel
theorem dX10_fee_87 : decode cX10_fee 87 = .ok (.iload_n 2, 1) := by decide +kernel
theorem dX10_fee_88 : decode cX10_fee 88 = .ok (.iload_n 3, 1) := by decide +kernel
theorem dX10_fee_89 : decode cX10_fee 89 = .ok (.invokevirtual 301, 3) := by decide +kernel
theorem dX10_fee_92 : decode cX10_fee 92 = .ok (.ireturn, 1) := by decide +kernel
theorem dX10_row_0 : decode cX10_row 0 = .ok (.iload_n 1, 1) := by decide +kernel
theorem dX10_row_1 : decode cX10_row 1 = .ok (.iload_n 2, 1) := by decide +kernel
theorem dX10_row_2 : decode cX10_row 2 = .ok (.invokestatic 77, 3) := by decide +kernel
theorem dX10_row_5 : decode cX10_row 5 = .ok (.ifCond .ne 5, 3) := by decide +kernel
theorem dX10_row_8 : decode cX10_row 8 = .ok (.iconst (-1), 1) := by decide +kernel
theorem dX10_row_9 : decode cX10_row 9 = .ok (.ireturn, 1) := by decide +kernel
theorem dX10_row_10 : decode cX10_row 10 = .ok (.aload_n 0, 1) := by decide +kernel
theorem dX10_row_11 : decode cX10_row 11 = .ok (.getfield 10, 3) := by decide +kernel
theorem dX10_row_14 : decode cX10_row 14 = .ok (.iload_n 1, 1) := by decide +kernel
theorem dX10_row_15 : decode cX10_row 15 = .ok (.iload_n 2, 1) := by decide +kernel
theorem dX10_row_16 : decode cX10_row 16 = .ok (.invokestatic 87, 3) := by decide +kernel
theorem dX10_row_19 : decode cX10_row 19 = .ok (.invokevirtual 134, 3) := by decide +kernel
theorem dX10_row_22 : decode cX10_row 22 = .ok (.ifCond .eq 7, 3) := by decide +kernel
theorem dX10_row_25 : decode cX10_row 25 = .ok (.iconst 1, 1) := by decide +kernel
theorem dX10_row_26 : decode cX10_row 26 = .ok (.goto 4, 3) := by decide +kernel
theorem dX10_row_29 : decode cX10_row 29 = .ok (.iconst 0, 1) := by decide +kernel
theorem dX10_row_30 : decode cX10_row 30 = .ok (.ireturn, 1) := by decide +kernel
theorem dX10_seed_0 : decode cX10_seed 0 = .ok (.iload_n 1, 1) := by decide +kernel
theorem dX10_seed_1 : decode cX10_seed 1 = .ok (.iconst 0, 1) := by decide +kernel
theorem dX10_seed_2 : decode cX10_seed 2 = .ok (.ldc_w 304, 3) := by decide +kernel
theorem dX10_seed_5 : decode cX10_seed 5 = .ok (.invokestatic 83, 3) := by decide +kernel
theorem dX10_seed_8 : decode cX10_seed 8 = .ok (.ifCond .ne 5, 3) := by decide +kernel
theorem dX10_seed_11 : decode cX10_seed 11 = .ok (.iconst 0, 1) := by decide +kernel
theorem dX10_seed_12 : decode cX10_seed 12 = .ok (.ireturn, 1) := by decide +kernel
theorem dX10_seed_13 : decode cX10_seed 13 = .ok (.aload_n 0, 1) := by decide +kernel
theorem dX10_seed_14 : decode cX10_seed 14 = .ok (.getfield 10, 3) := by decide +kernel
theorem dX10_seed_17 : decode cX10_seed 17 = .ok (.iload_n 1, 1) := by decide +kernel
theorem dX10_seed_18 : decode cX10_seed 18 = .ok (.putfield 305, 3) := by decide +kernel
theorem dX10_seed_21 : decode cX10_seed 21 = .ok (.iconst 1, 1) := by decide +kernel
theorem dX10_seed_22 : decode cX10_seed 22 = .ok (.ireturn, 1) := by decide +kernel
theorem dX10_draw_0 : decode cX10_draw 0 = .ok (.iload_n 1, 1) := by decide +kernel
theorem dX10_draw_1 : decode cX10_draw 1 = .ok (.iconst 1, 1) := by decide +kernel
theorem dX10_draw_2 : decode cX10_draw 2 = .ok (.bipush 60, 2) := by decide +kernel
theorem dX10_draw_4 : decode cX10_draw 4 = .ok (.invokestatic 83, 3) := by decide +kernel
theorem dX10_draw_7 : decode cX10_draw 7 = .ok (.ifCond .ne 5, 3) := by decide +kernel
theorem dX10_draw_10 : decode cX10_draw 10 = .ok (.iconst (-1), 1) := by decide +kernel
theorem dX10_draw_11 : decode cX10_draw 11 = .ok (.ireturn, 1) := by decide +kernel
theorem dX10_draw_12 : decode cX10_draw 12 = .ok (.iconst 0, 1) := by decide +kernel
theorem dX10_draw_13 : decode cX10_draw 13 = .ok (.istore_n 2, 1) := by decide +kernel
theorem dX10_draw_14 : decode cX10_draw 14 = .ok (.iconst 0, 1) := by decide +kernel
theorem dX10_draw_15 : decode cX10_draw 15 = .ok (.istore_n 3, 1) := by decide +kernel
theorem dX10_draw_16 : decode cX10_draw 16 = .ok (.iload_n 3, 1) := by decide +kernel
theorem dX10_draw_17 : decode cX10_draw 17 = .ok (.iload_n 1, 1) := by decide +kernel
theorem dX10_draw_18 : decode cX10_draw 18 = .ok (.if_icmp .ge 31, 3) := by decide +kernel
theorem dX10_draw_21 : decode cX10_draw 21 = .ok (.aload_n 0, 1) := by decide +kernel
theorem dX10_draw_22 : decode cX10_draw 22 = .ok (.getfield 10, 3) := by decide +kernel
theorem dX10_draw_25 : decode cX10_draw 25 = .ok (.invokevirtual 308, 3) := by decide +kernel
theorem dX10_draw_28 : decode cX10_draw 28 = .ok (.iload_n 2, 1) := by decide +kernel
theorem dX10_draw_29 : decode cX10_draw 29 = .ok (.aload_n 0, 1) := by decide +kernel
theorem dX10_draw_30 : decode cX10_draw 30 = .ok (.getfield 39, 3) := by decide +kernel
theorem dX10_draw_33 : decode cX10_draw 33 = .ok (.aload_n 0, 1) := by decide +kernel
theorem dX10_draw_34 : decode cX10_draw 34 = .ok (.getfield 10, 3) := by decide +kernel
theorem dX10_draw_37 : decode cX10_draw 37 = .ok (.iconst 1, 1) := by decide +kernel
theorem dX10_draw_38 : decode cX10_draw 38 = .ok (.invokevirtual 160, 3) := by decide +kernel
theorem dX10_draw_41 : decode cX10_draw 41 = .ok (.iadd, 1) := by decide +kernel
theorem dX10_draw_42 : decode cX10_draw 42 = .ok (.istore_n 2, 1) := by decide +kernel
theorem dX10_draw_43 : decode cX10_draw 43 = .ok (.iinc 3 1, 3) := by decide +kernel
theorem dX10_draw_46 : decode cX10_draw 46 = .ok (.goto (-30), 3) := by decide +kernel
theorem dX10_draw_49 : decode cX10_draw 49 = .ok (.iload_n 2, 1) := by decide +kernel
theorem dX10_draw_50 : decode cX10_draw 50 = .ok (.ireturn, 1) := by decide +kernel
theorem dX10_keep_0 : decode cX10_keep 0 = .ok (.aload_n 0, 1) := by decide +kernel
theorem dX10_keep_1 : decode cX10_keep 1 = .ok (.getfield 16, 3) := by decide +kernel
theorem dX10_keep_4 : decode cX10_keep 4 = .ok (.aload_n 0, 1) := by decide +kernel
theorem dX10_keep_5 : decode cX10_keep 5 = .ok (.getfield 10, 3) := by decide +kernel
theorem dX10_keep_8 : decode cX10_keep 8 = .ok (.invokevirtual 167, 3) := by decide +kernel
theorem dX10_keep_11 : decode cX10_keep 11 = .ok (.aload_n 0, 1) := by decide +kernel
theorem dX10_keep_12 : decode cX10_keep 12 = .ok (.iconst 1, 1) := by decide +kernel
theorem dX10_keep_13 : decode cX10_keep 13 = .ok (.putfield 73, 3) := by decide +kernel
theorem dX10_keep_16 : decode cX10_keep 16 = .ok (.aload_n 0, 1) := by decide +kernel
theorem dX10_keep_17 : decode cX10_keep 17 = .ok (.getfield 10, 3) := by decide +kernel
theorem dX10_keep_20 : decode cX10_keep 20 = .ok (.invokevirtual 171, 3) := by decide +kernel
theorem dX10_keep_23 : decode cX10_keep 23 = .ok (.ireturn, 1) := by decide +kernel
theorem dX10_undo_0 : decode cX10_undo 0 = .ok (.aload_n 0, 1) := by decide +kernel
theorem dX10_undo_1 : decode cX10_undo 1 = .ok (.getfield 73, 3) := by decide +kernel
theorem dX10_undo_4 : decode cX10_undo 4 = .ok (.ifCond .ne 5, 3) := by decide +kernel
theorem dX10_undo_7 : decode cX10_undo 7 = .ok (.iconst 0, 1) := by decide +kernel
theorem dX10_undo_8 : decode cX10_undo 8 = .ok (.ireturn, 1) := by decide +kernel
theorem dX10_undo_9 : decode cX10_undo 9 = .ok (.aload_n 0, 1) := by decide +kernel
theorem dX10_undo_10 : decode cX10_undo 10 = .ok (.getfield 10, 3) := by decide +kernel
theorem dX10_undo_13 : decode cX10_undo 13 = .ok (.aload_n 0, 1) := by decide +kernel
theorem dX10_undo_14 : decode cX10_undo 14 = .ok (.getfield 16, 3) := by decide +kernel
theorem dX10_undo_17 : decode cX10_undo 17 = .ok (.invokevirtual 167, 3) := by decide +kernel
theorem dX10_undo_20 : decode cX10_undo 20 = .ok (.iconst 1, 1) := by decide +kernel
theorem dX10_undo_21 : decode cX10_undo 21 = .ok (.ireturn, 1) := by decide +kernel
theorem dX10_check_0 : decode cX10_check 0 = .ok (.iload_n 1, 1) := by decide +kernel
theorem dX10_check_1 : decode cX10_check 1 = .ok (.iconst 0, 1) := by decide +kernel
theorem dX10_check_2 : decode cX10_check 2 = .ok (.bipush 15, 2) := by decide +kernel
theorem dX10_check_4 : decode cX10_check 4 = .ok (.invokestatic 83, 3) := by decide +kernel
theorem dX10_check_7 : decode cX10_check 7 = .ok (.ifCond .eq 26, 3) := by decide +kernel
theorem dX10_check_10 : decode cX10_check 10 = .ok (.iload_n 2, 1) := by decide +kernel
theorem dX10_check_11 : decode cX10_check 11 = .ok (.iconst 0, 1) := by decide +kernel
theorem dX10_check_12 : decode cX10_check 12 = .ok (.bipush 16, 2) := by decide +kernel
theorem dX10_check_14 : decode cX10_check 14 = .ok (.invokestatic 83, 3) := by decide +kernel
theorem dX10_check_17 : decode cX10_check 17 = .ok (.ifCond .eq 16, 3) := by decide +kernel
theorem dX10_check_20 : decode cX10_check 20 = .ok (.iconst 4, 1) := by decide +kernel
theorem dX10_check_21 : decode cX10_check 21 = .ok (.iload_n 2, 1) := by decide +kernel
theorem dX10_check_22 : decode cX10_check 22 = .ok (.imul, 1) := by decide +kernel
theorem dX10_check_23 : decode cX10_check 23 = .ok (.aload_n 0, 1) := by decide +kernel
theorem dX10_check_24 : decode cX10_check 24 = .ok (.getfield 25, 3) := by decide +kernel
theorem dX10_check_27 : decode cX10_check 27 = .ok (.getfield 99, 3) := by decide +kernel
theorem dX10_check_30 : decode cX10_check 30 = .ok (.if_icmp .le 6, 3) := by decide +kernel
theorem dX10_check_33 : decode cX10_check 33 = .ok (.bipush (-2), 2) := by decide +kernel
theorem dX10_check_35 : decode cX10_check 35 = .ok (.ireturn, 1) := by decide +kernel
theorem dX10_check_36 : decode cX10_check 36 = .ok (.aload_n 0, 1) := by decide +kernel
theorem dX10_check_37 : decode cX10_check 37 = .ok (.iload_n 1, 1) := by decide +kernel
theorem dX10_check_38 : decode cX10_check 38 = .ok (.iload_n 2, 1) := by decide +kernel
theorem dX10_check_39 : decode cX10_check 39 = .ok (.invokevirtual 311, 3) := by decide +kernel
theorem dX10_check_42 : decode cX10_check 42 = .ok (.istore_n 3, 1) := by decide +kernel
theorem dX10_check_43 : decode cX10_check 43 = .ok (.aload_n 0, 1) := by decide +kernel
theorem dX10_check_44 : decode cX10_check 44 = .ok (.getfield 25, 3) := by decide +kernel
theorem dX10_check_47 : decode cX10_check 47 = .ok (.iconst 0, 1) := by decide +kernel
theorem dX10_check_48 : decode cX10_check 48 = .ok (.putfield 99, 3) := by decide +kernel
theorem dX10_check_51 : decode cX10_check 51 = .ok (.iload_n 3, 1) := by decide +kernel
theorem dX10_check_52 : decode cX10_check 52 = .ok (.ireturn, 1) := by decide +kernel
theorem dX10_count_0 : decode cX10_count 0 = .ok (.iload_n 1, 1) := by decide +kernel
theorem dX10_count_1 : decode cX10_count 1 = .ok (.tableswitch 114 0 7 #[47, 55, 63, 71, 82, 90, 98, 106], 47) := by decide +kernel
theorem dX10_count_48 : decode cX10_count 48 = .ok (.aload_n 0, 1) := by decide +kernel
theorem dX10_count_49 : decode cX10_count 49 = .ok (.getfield 10, 3) := by decide +kernel
theorem dX10_count_52 : decode cX10_count 52 = .ok (.getfield 314, 3) := by decide +kernel
theorem dX10_count_55 : decode cX10_count 55 = .ok (.ireturn, 1) := by decide +kernel
theorem dX10_count_56 : decode cX10_count 56 = .ok (.aload_n 0, 1) := by decide +kernel
theorem dX10_count_57 : decode cX10_count 57 = .ok (.getfield 10, 3) := by decide +kernel
theorem dX10_count_60 : decode cX10_count 60 = .ok (.getfield 123, 3) := by decide +kernel
theorem dX10_count_63 : decode cX10_count 63 = .ok (.ireturn, 1) := by decide +kernel
theorem dX10_count_64 : decode cX10_count 64 = .ok (.aload_n 0, 1) := by decide +kernel
theorem dX10_count_65 : decode cX10_count 65 = .ok (.getfield 10, 3) := by decide +kernel
theorem dX10_count_68 : decode cX10_count 68 = .ok (.getfield 147, 3) := by decide +kernel
theorem dX10_count_71 : decode cX10_count 71 = .ok (.ireturn, 1) := by decide +kernel
theorem dX10_count_72 : decode cX10_count 72 = .ok (.aload_n 0, 1) := by decide +kernel
theorem dX10_count_73 : decode cX10_count 73 = .ok (.getfield 39, 3) := by decide +kernel
theorem dX10_count_76 : decode cX10_count 76 = .ok (.getfield 110, 3) := by decide +kernel
theorem dX10_count_79 : decode cX10_count 79 = .ok (.getfield 118, 3) := by decide +kernel
theorem dX10_count_82 : decode cX10_count 82 = .ok (.ireturn, 1) := by decide +kernel
theorem dX10_count_83 : decode cX10_count 83 = .ok (.aload_n 0, 1) := by decide +kernel
theorem dX10_count_84 : decode cX10_count 84 = .ok (.getfield 25, 3) := by decide +kernel
theorem dX10_count_87 : decode cX10_count 87 = .ok (.getfield 99, 3) := by decide +kernel
theorem dX10_count_90 : decode cX10_count 90 = .ok (.ireturn, 1) := by decide +kernel
theorem dX10_count_91 : decode cX10_count 91 = .ok (.aload_n 0, 1) := by decide +kernel
theorem dX10_count_92 : decode cX10_count 92 = .ok (.getfield 10, 3) := by decide +kernel
theorem dX10_count_95 : decode cX10_count 95 = .ok (.getfield 305, 3) := by decide +kernel
theorem dX10_count_98 : decode cX10_count 98 = .ok (.ireturn, 1) := by decide +kernel
theorem dX10_count_99 : decode cX10_count 99 = .ok (.aload_n 0, 1) := by decide +kernel
theorem dX10_count_100 : decode cX10_count 100 = .ok (.getfield 10, 3) := by decide +kernel
theorem dX10_count_103 : decode cX10_count 103 = .ok (.invokevirtual 171, 3) := by decide +kernel
theorem dX10_count_106 : decode cX10_count 106 = .ok (.ireturn, 1) := by decide +kernel
theorem dX10_count_107 : decode cX10_count 107 = .ok (.aload_n 0, 1) := by decide +kernel
theorem dX10_count_108 : decode cX10_count 108 = .ok (.getfield 10, 3) := by decide +kernel
theorem dX10_count_111 : decode cX10_count 111 = .ok (.invokevirtual 317, 3) := by decide +kernel
theorem dX10_count_114 : decode cX10_count 114 = .ok (.ireturn, 1) := by decide +kernel
theorem dX10_count_115 : decode cX10_count 115 = .ok (.iconst (-1), 1) := by decide +kernel
theorem dX10_count_116 : decode cX10_count 116 = .ok (.ireturn, 1) := by decide +kernel
theorem dX10_within_0 : decode cX10_within 0 = .ok (.iload_n 0, 1) := by decide +kernel
theorem dX10_within_1 : decode cX10_within 1 = .ok (.iload_n 1, 1) := by decide +kernel
theorem dX10_within_2 : decode cX10_within 2 = .ok (.if_icmp .lt 12, 3) := by decide +kernel
theorem dX10_within_5 : decode cX10_within 5 = .ok (.iload_n 0, 1) := by decide +kernel
theorem dX10_within_6 : decode cX10_within 6 = .ok (.iload_n 2, 1) := by decide +kernel
theorem dX10_within_7 : decode cX10_within 7 = .ok (.if_icmp .gt 7, 3) := by decide +kernel
theorem dX10_within_10 : decode cX10_within 10 = .ok (.iconst 1, 1) := by decide +kernel
theorem dX10_within_11 : decode cX10_within 11 = .ok (.goto 4, 3) := by decide +kernel
theorem dX10_within_14 : decode cX10_within 14 = .ok (.iconst 0, 1) := by decide +kernel
theorem dX10_within_15 : decode cX10_within 15 = .ok (.ireturn, 1) := by decide +kernel
theorem dX10_firstWrong_0 : decode cX10_firstWrong 0 = .ok (.iconst 0, 1) := by decide +kernel
theorem dX10_firstWrong_1 : decode cX10_firstWrong 1 = .ok (.istore_n 3, 1) := by decide +kernel
theorem dX10_firstWrong_2 : decode cX10_firstWrong 2 = .ok (.iload_n 3, 1) := by decide +kernel
theorem dX10_firstWrong_3 : decode cX10_firstWrong 3 = .ok (.iload_n 2, 1) := by decide +kernel
theorem dX10_firstWrong_4 : decode cX10_firstWrong 4 = .ok (.if_icmp .ge 36, 3) := by decide +kernel
theorem dX10_firstWrong_7 : decode cX10_firstWrong 7 = .ok (.aload_n 0, 1) := by decide +kernel
theorem dX10_firstWrong_8 : decode cX10_firstWrong 8 = .ok (.getfield 25, 3) := by decide +kernel
theorem dX10_firstWrong_11 : decode cX10_firstWrong 11 = .ok (.iconst 4, 1) := by decide +kernel
theorem dX10_firstWrong_12 : decode cX10_firstWrong 12 = .ok (.iload_n 3, 1) := by decide +kernel
theorem dX10_firstWrong_13 : decode cX10_firstWrong 13 = .ok (.imul, 1) := by decide +kernel
theorem dX10_firstWrong_14 : decode cX10_firstWrong 14 = .ok (.invokevirtual 320, 3) := by decide +kernel
theorem dX10_firstWrong_17 : decode cX10_firstWrong 17 = .ok (.aload_n 0, 1) := by decide +kernel
theorem dX10_firstWrong_18 : decode cX10_firstWrong 18 = .ok (.getfield 10, 3) := by decide +kernel
theorem dX10_firstWrong_21 : decode cX10_firstWrong 21 = .ok (.iload_n 3, 1) := by decide +kernel
theorem dX10_firstWrong_22 : decode cX10_firstWrong 22 = .ok (.iload_n 1, 1) := by decide +kernel
theorem dX10_firstWrong_23 : decode cX10_firstWrong 23 = .ok (.invokestatic 87, 3) := by decide +kernel
theorem dX10_firstWrong_26 : decode cX10_firstWrong 26 = .ok (.invokevirtual 323, 3) := by decide +kernel
theorem dX10_firstWrong_29 : decode cX10_firstWrong 29 = .ok (.if_icmp .eq 5, 3) := by decide +kernel
theorem dX10_firstWrong_32 : decode cX10_firstWrong 32 = .ok (.iload_n 3, 1) := by decide +kernel
theorem dX10_firstWrong_33 : decode cX10_firstWrong 33 = .ok (.ireturn, 1) := by decide +kernel
theorem dX10_firstWrong_34 : decode cX10_firstWrong 34 = .ok (.iinc 3 1, 3) := by decide +kernel
theorem dX10_firstWrong_37 : decode cX10_firstWrong 37 = .ok (.goto (-35), 3) := by decide +kernel
theorem dX10_firstWrong_40 : decode cX10_firstWrong 40 = .ok (.iconst (-1), 1) := by decide +kernel
theorem dX10_firstWrong_41 : decode cX10_firstWrong 41 = .ok (.ireturn, 1) := by decide +kernel
theorem dX10_feeOf_0 : decode cX10_feeOf 0 = .ok (.iconst 0, 1) := by decide +kernel
theorem dX10_feeOf_1 : decode cX10_feeOf 1 = .ok (.istore_n 3, 1) := by decide +kernel
theorem dX10_feeOf_2 : decode cX10_feeOf 2 = .ok (.iconst 0, 1) := by decide +kernel
theorem dX10_feeOf_3 : decode cX10_feeOf 3 = .ok (.istore 4, 2) := by decide +kernel
theorem dX10_feeOf_5 : decode cX10_feeOf 5 = .ok (.iload 4, 2) := by decide +kernel
theorem dX10_feeOf_7 : decode cX10_feeOf 7 = .ok (.aload_n 0, 1) := by decide +kernel
theorem dX10_feeOf_8 : decode cX10_feeOf 8 = .ok (.getfield 32, 3) := by decide +kernel
theorem dX10_feeOf_11 : decode cX10_feeOf 11 = .ok (.getfield 282, 3) := by decide +kernel
theorem dX10_feeOf_14 : decode cX10_feeOf 14 = .ok (.if_icmp .ge 49, 3) := by decide +kernel
theorem dX10_feeOf_17 : decode cX10_feeOf 17 = .ok (.aload_n 0, 1) := by decide +kernel
theorem dX10_feeOf_18 : decode cX10_feeOf 18 = .ok (.getfield 39, 3) := by decide +kernel
theorem dX10_feeOf_21 : decode cX10_feeOf 21 = .ok (.aload_n 0, 1) := by decide +kernel
theorem dX10_feeOf_22 : decode cX10_feeOf 22 = .ok (.getfield 10, 3) := by decide +kernel
theorem dX10_feeOf_25 : decode cX10_feeOf 25 = .ok (.aload_n 0, 1) := by decide +kernel
theorem dX10_feeOf_26 : decode cX10_feeOf 26 = .ok (.getfield 32, 3) := by decide +kernel
theorem dX10_feeOf_29 : decode cX10_feeOf 29 = .ok (.getfield 285, 3) := by decide +kernel
theorem dX10_feeOf_32 : decode cX10_feeOf 32 = .ok (.iload 4, 2) := by decide +kernel
theorem dX10_feeOf_34 : decode cX10_feeOf 34 = .ok (.iaload, 1) := by decide +kernel
theorem dX10_feeOf_35 : decode cX10_feeOf 35 = .ok (.invokevirtual 181, 3) := by decide +kernel
theorem dX10_feeOf_38 : decode cX10_feeOf 38 = .ok (.iload_n 1, 1) := by decide +kernel
theorem dX10_feeOf_39 : decode cX10_feeOf 39 = .ok (.if_icmp .lt 18, 3) := by decide +kernel
theorem dX10_feeOf_42 : decode cX10_feeOf 42 = .ok (.iload_n 3, 1) := by decide +kernel
theorem dX10_feeOf_43 : decode cX10_feeOf 43 = .ok (.aload_n 0, 1) := by decide +kernel
theorem dX10_feeOf_44 : decode cX10_feeOf 44 = .ok (.getfield 32, 3) := by decide +kernel
theorem dX10_feeOf_47 : decode cX10_feeOf 47 = .ok (.getfield 326, 3) := by decide +kernel
theorem dX10_feeOf_50 : decode cX10_feeOf 50 = .ok (.iload 4, 2) := by decide +kernel
theorem dX10_feeOf_52 : decode cX10_feeOf 52 = .ok (.iaload, 1) := by decide +kernel
theorem dX10_feeOf_53 : decode cX10_feeOf 53 = .ok (.invokestatic 329, 3) := by decide +kernel
theorem dX10_feeOf_56 : decode cX10_feeOf 56 = .ok (.istore_n 3, 1) := by decide +kernel
theorem dX10_feeOf_57 : decode cX10_feeOf 57 = .ok (.iinc 4 1, 3) := by decide +kernel
theorem dX10_feeOf_60 : decode cX10_feeOf 60 = .ok (.goto (-55), 3) := by decide +kernel
theorem dX10_feeOf_63 : decode cX10_feeOf 63 = .ok (.iconst 0, 1) := by decide +kernel
theorem dX10_feeOf_64 : decode cX10_feeOf 64 = .ok (.istore 4, 2) := by decide +kernel
theorem dX10_feeOf_66 : decode cX10_feeOf 66 = .ok (.iconst 0, 1) := by decide +kernel
theorem dX10_feeOf_67 : decode cX10_feeOf 67 = .ok (.istore 5, 2) := by decide +kernel
theorem dX10_feeOf_69 : decode cX10_feeOf 69 = .ok (.iload 5, 2) := by decide +kernel
theorem dX10_feeOf_71 : decode cX10_feeOf 71 = .ok (.aload_n 0, 1) := by decide +kernel
theorem dX10_feeOf_72 : decode cX10_feeOf 72 = .ok (.getfield 32, 3) := by decide +kernel
theorem dX10_feeOf_75 : decode cX10_feeOf 75 = .ok (.getfield 282, 3) := by decide +kernel
theorem dX10_feeOf_78 : decode cX10_feeOf 78 = .ok (.if_icmp .ge 78, 3) := by decide +kernel
theorem dX10_feeOf_81 : decode cX10_feeOf 81 = .ok (.iload_n 2, 1) := by decide +kernel
theorem dX10_feeOf_82 : decode cX10_feeOf 82 = .ok (.iconst (-1), 1) := by decide +kernel
theorem dX10_feeOf_83 : decode cX10_feeOf 83 = .ok (.if_icmp .eq 9, 3) := by decide +kernel
theorem dX10_feeOf_86 : decode cX10_feeOf 86 = .ok (.iload_n 2, 1) := by decide +kernel
theorem dX10_feeOf_87 : decode cX10_feeOf 87 = .ok (.iload 5, 2) := by decide +kernel
theorem dX10_feeOf_89 : decode cX10_feeOf 89 = .ok (.if_icmp .ne 7, 3) := by decide +kernel
theorem dX10_feeOf_92 : decode cX10_feeOf 92 = .ok (.iconst 1, 1) := by decide +kernel
theorem dX10_feeOf_93 : decode cX10_feeOf 93 = .ok (.goto 4, 3) := by decide +kernel
theorem dX10_feeOf_96 : decode cX10_feeOf 96 = .ok (.iconst 0, 1) := by decide +kernel
theorem dX10_feeOf_97 : decode cX10_feeOf 97 = .ok (.istore 6, 2) := by decide +kernel
theorem dX10_feeOf_99 : decode cX10_feeOf 99 = .ok (.iload 6, 2) := by decide +kernel
theorem dX10_feeOf_101 : decode cX10_feeOf 101 = .ok (.ifCond .eq 49, 3) := by decide +kernel
theorem dX10_feeOf_104 : decode cX10_feeOf 104 = .ok (.aload_n 0, 1) := by decide +kernel
theorem dX10_feeOf_105 : decode cX10_feeOf 105 = .ok (.getfield 39, 3) := by decide +kernel
theorem dX10_feeOf_108 : decode cX10_feeOf 108 = .ok (.aload_n 0, 1) := by decide +kernel
theorem dX10_feeOf_109 : decode cX10_feeOf 109 = .ok (.getfield 10, 3) := by decide +kernel
theorem dX10_feeOf_112 : decode cX10_feeOf 112 = .ok (.aload_n 0, 1) := by decide +kernel
theorem dX10_feeOf_113 : decode cX10_feeOf 113 = .ok (.getfield 32, 3) := by decide +kernel
theorem dX10_feeOf_116 : decode cX10_feeOf 116 = .ok (.getfield 285, 3) := by decide +kernel
theorem dX10_feeOf_119 : decode cX10_feeOf 119 = .ok (.iload 5, 2) := by decide +kernel
theorem dX10_feeOf_121 : decode cX10_feeOf 121 = .ok (.iaload, 1) := by decide +kernel
theorem dX10_feeOf_122 : decode cX10_feeOf 122 = .ok (.invokevirtual 181, 3) := by decide +kernel
theorem dX10_feeOf_125 : decode cX10_feeOf 125 = .ok (.iload_n 1, 1) := by decide +kernel
theorem dX10_feeOf_126 : decode cX10_feeOf 126 = .ok (.if_icmp .ge 24, 3) := by decide +kernel
theorem dX10_feeOf_129 : decode cX10_feeOf 129 = .ok (.iload 4, 2) := by decide +kernel
theorem dX10_feeOf_131 : decode cX10_feeOf 131 = .ok (.iconst 0, 1) := by decide +kernel
theorem dX10_feeOf_132 : decode cX10_feeOf 132 = .ok (.aload_n 0, 1) := by decide +kernel
theorem dX10_feeOf_133 : decode cX10_feeOf 133 = .ok (.getfield 32, 3) := by decide +kernel
theorem dX10_feeOf_136 : decode cX10_feeOf 136 = .ok (.getfield 326, 3) := by decide +kernel
theorem dX10_feeOf_139 : decode cX10_feeOf 139 = .ok (.iload 5, 2) := by decide +kernel
theorem dX10_feeOf_141 : decode cX10_feeOf 141 = .ok (.iaload, 1) := by decide +kernel
theorem dX10_feeOf_142 : decode cX10_feeOf 142 = .ok (.iload_n 3, 1) := by decide +kernel
theorem dX10_feeOf_143 : decode cX10_feeOf 143 = .ok (.isub, 1) := by decide +kernel
theorem dX10_feeOf_144 : decode cX10_feeOf 144 = .ok (.invokestatic 329, 3) := by decide +kernel
theorem dX10_feeOf_147 : decode cX10_feeOf 147 = .ok (.iadd, 1) := by decide +kernel
theorem dX10_feeOf_148 : decode cX10_feeOf 148 = .ok (.istore 4, 2) := by decide +kernel
theorem dX10_feeOf_150 : decode cX10_feeOf 150 = .ok (.iinc 5 1, 3) := by decide +kernel
theorem dX10_feeOf_153 : decode cX10_feeOf 153 = .ok (.goto (-84), 3) := by decide +kernel
theorem dX10_feeOf_156 : decode cX10_feeOf 156 = .ok (.iload 4, 2) := by decide +kernel
theorem dX10_feeOf_158 : decode cX10_feeOf 158 = .ok (.ireturn, 1) := by decide +kernel
theorem dJ6_compare_7cf53_0 : decode cJ6_compare_7cf53 0 = .ok (.iload_n 0, 1) := by decide +kernel
theorem dJ6_compare_7cf53_1 : decode cJ6_compare_7cf53 1 = .ok (.iload_n 1, 1) := by decide +kernel
theorem dJ6_compare_7cf53_2 : decode cJ6_compare_7cf53 2 = .ok (.if_icmp .ge 7, 3) := by decide +kernel
theorem dJ6_compare_7cf53_5 : decode cJ6_compare_7cf53 5 = .ok (.iconst (-1), 1) := by decide +kernel
theorem dJ6_compare_7cf53_6 : decode cJ6_compare_7cf53 6 = .ok (.goto 13, 3) := by decide +kernel
theorem dJ6_compare_7cf53_9 : decode cJ6_compare_7cf53 9 = .ok (.iload_n 0, 1) := by decide +kernel
theorem dJ6_compare_7cf53_10 : decode cJ6_compare_7cf53 10 = .ok (.iload_n 1, 1) := by decide +kernel
theorem dJ6_compare_7cf53_11 : decode cJ6_compare_7cf53 11 = .ok (.if_icmp .ne 7, 3) := by decide +kernel
theorem dJ6_compare_7cf53_14 : decode cJ6_compare_7cf53 14 = .ok (.iconst 0, 1) := by decide +kernel
theorem dJ6_compare_7cf53_15 : decode cJ6_compare_7cf53 15 = .ok (.goto 4, 3) := by decide +kernel
theorem dJ6_compare_7cf53_18 : decode cJ6_compare_7cf53 18 = .ok (.iconst 1, 1) := by decide +kernel
theorem dJ6_compare_7cf53_19 : decode cJ6_compare_7cf53 19 = .ok (.ireturn, 1) := by decide +kernel
theorem dJ6_bitCount_0f7a4_0 : decode cJ6_bitCount_0f7a4 0 = .ok (.iload_n 0, 1) := by decide +kernel
theorem dJ6_bitCount_0f7a4_1 : decode cJ6_bitCount_0f7a4 1 = .ok (.iload_n 0, 1) := by decide +kernel
theorem dJ6_bitCount_0f7a4_2 : decode cJ6_bitCount_0f7a4 2 = .ok (.iconst 1, 1) := by decide +kernel
theorem dJ6_bitCount_0f7a4_3 : decode cJ6_bitCount_0f7a4 3 = .ok (.iushr, 1) := by decide +kernel
theorem dJ6_bitCount_0f7a4_4 : decode cJ6_bitCount_0f7a4 4 = .ok (.ldc_w 265, 3) := by decide +kernel
theorem dJ6_bitCount_0f7a4_7 : decode cJ6_bitCount_0f7a4 7 = .ok (.iand, 1) := by decide +kernel
theorem dJ6_bitCount_0f7a4_8 : decode cJ6_bitCount_0f7a4 8 = .ok (.isub, 1) := by decide +kernel
theorem dJ6_bitCount_0f7a4_9 : decode cJ6_bitCount_0f7a4 9 = .ok (.istore_n 0, 1) := by decide +kernel
theorem dJ6_bitCount_0f7a4_10 : decode cJ6_bitCount_0f7a4 10 = .ok (.iload_n 0, 1) := by decide +kernel
theorem dJ6_bitCount_0f7a4_11 : decode cJ6_bitCount_0f7a4 11 = .ok (.ldc_w 266, 3) := by decide +kernel
theorem dJ6_bitCount_0f7a4_14 : decode cJ6_bitCount_0f7a4 14 = .ok (.iand, 1) := by decide +kernel
theorem dJ6_bitCount_0f7a4_15 : decode cJ6_bitCount_0f7a4 15 = .ok (.iload_n 0, 1) := by decide +kernel
theorem dJ6_bitCount_0f7a4_16 : decode cJ6_bitCount_0f7a4 16 = .ok (.iconst 2, 1) := by decide +kernel
theorem dJ6_bitCount_0f7a4_17 : decode cJ6_bitCount_0f7a4 17 = .ok (.iushr, 1) := by decide +kernel
theorem dJ6_bitCount_0f7a4_18 : decode cJ6_bitCount_0f7a4 18 = .ok (.ldc_w 266, 3) := by decide +kernel
theorem dJ6_bitCount_0f7a4_21 : decode cJ6_bitCount_0f7a4 21 = .ok (.iand, 1) := by decide +kernel
theorem dJ6_bitCount_0f7a4_22 : decode cJ6_bitCount_0f7a4 22 = .ok (.iadd, 1) := by decide +kernel
theorem dJ6_bitCount_0f7a4_23 : decode cJ6_bitCount_0f7a4 23 = .ok (.istore_n 0, 1) := by decide +kernel
theorem dJ6_bitCount_0f7a4_24 : decode cJ6_bitCount_0f7a4 24 = .ok (.iload_n 0, 1) := by decide +kernel
theorem dJ6_bitCount_0f7a4_25 : decode cJ6_bitCount_0f7a4 25 = .ok (.iload_n 0, 1) := by decide +kernel
theorem dJ6_bitCount_0f7a4_26 : decode cJ6_bitCount_0f7a4 26 = .ok (.iconst 4, 1) := by decide +kernel
theorem dJ6_bitCount_0f7a4_27 : decode cJ6_bitCount_0f7a4 27 = .ok (.iushr, 1) := by decide +kernel
theorem dJ6_bitCount_0f7a4_28 : decode cJ6_bitCount_0f7a4 28 = .ok (.iadd, 1) := by decide +kernel
theorem dJ6_bitCount_0f7a4_29 : decode cJ6_bitCount_0f7a4 29 = .ok (.ldc_w 267, 3) := by decide +kernel
theorem dJ6_bitCount_0f7a4_32 : decode cJ6_bitCount_0f7a4 32 = .ok (.iand, 1) := by decide +kernel
theorem dJ6_bitCount_0f7a4_33 : decode cJ6_bitCount_0f7a4 33 = .ok (.istore_n 0, 1) := by decide +kernel
theorem dJ6_bitCount_0f7a4_34 : decode cJ6_bitCount_0f7a4 34 = .ok (.iload_n 0, 1) := by decide +kernel
theorem dJ6_bitCount_0f7a4_35 : decode cJ6_bitCount_0f7a4 35 = .ok (.iload_n 0, 1) := by decide +kernel
theorem dJ6_bitCount_0f7a4_36 : decode cJ6_bitCount_0f7a4 36 = .ok (.bipush 8, 2) := by decide +kernel
theorem dJ6_bitCount_0f7a4_38 : decode cJ6_bitCount_0f7a4 38 = .ok (.iushr, 1) := by decide +kernel
theorem dJ6_bitCount_0f7a4_39 : decode cJ6_bitCount_0f7a4 39 = .ok (.iadd, 1) := by decide +kernel
theorem dJ6_bitCount_0f7a4_40 : decode cJ6_bitCount_0f7a4 40 = .ok (.istore_n 0, 1) := by decide +kernel
theorem dJ6_bitCount_0f7a4_41 : decode cJ6_bitCount_0f7a4 41 = .ok (.iload_n 0, 1) := by decide +kernel
theorem dJ6_bitCount_0f7a4_42 : decode cJ6_bitCount_0f7a4 42 = .ok (.iload_n 0, 1) := by decide +kernel
theorem dJ6_bitCount_0f7a4_43 : decode cJ6_bitCount_0f7a4 43 = .ok (.bipush 16, 2) := by decide +kernel
theorem dJ6_bitCount_0f7a4_45 : decode cJ6_bitCount_0f7a4 45 = .ok (.iushr, 1) := by decide +kernel
theorem dJ6_bitCount_0f7a4_46 : decode cJ6_bitCount_0f7a4 46 = .ok (.iadd, 1) := by decide +kernel
theorem dJ6_bitCount_0f7a4_47 : decode cJ6_bitCount_0f7a4 47 = .ok (.istore_n 0, 1) := by decide +kernel
theorem dJ6_bitCount_0f7a4_48 : decode cJ6_bitCount_0f7a4 48 = .ok (.iload_n 0, 1) := by decide +kernel
theorem dJ6_bitCount_0f7a4_49 : decode cJ6_bitCount_0f7a4 49 = .ok (.bipush 63, 2) := by decide +kernel
theorem dJ6_bitCount_0f7a4_51 : decode cJ6_bitCount_0f7a4 51 = .ok (.iand, 1) := by decide +kernel
theorem dJ6_bitCount_0f7a4_52 : decode cJ6_bitCount_0f7a4 52 = .ok (.ireturn, 1) := by decide +kernel
theorem dJ9_abs_0f7a4_0 : decode cJ9_abs_0f7a4 0 = .ok (.iload_n 0, 1) := by decide +kernel
theorem dJ9_abs_0f7a4_1 : decode cJ9_abs_0f7a4 1 = .ok (.ifCond .ge 8, 3) := by decide +kernel
theorem dJ9_abs_0f7a4_4 : decode cJ9_abs_0f7a4 4 = .ok (.iload_n 0, 1) := by decide +kernel
theorem dJ9_abs_0f7a4_5 : decode cJ9_abs_0f7a4 5 = .ok (.ineg, 1) := by decide +kernel
theorem dJ9_abs_0f7a4_6 : decode cJ9_abs_0f7a4 6 = .ok (.goto 4, 3) := by decide +kernel
theorem dJ9_abs_0f7a4_9 : decode cJ9_abs_0f7a4 9 = .ok (.iload_n 0, 1) := by decide +kernel
theorem dJ9_abs_0f7a4_10 : decode cJ9_abs_0f7a4 10 = .ok (.ireturn, 1) := by decide +kernel
theorem dJ9_max_7cf53_0 : decode cJ9_max_7cf53 0 = .ok (.iload_n 0, 1) := by decide +kernel
theorem dJ9_max_7cf53_1 : decode cJ9_max_7cf53 1 = .ok (.iload_n 1, 1) := by decide +kernel
theorem dJ9_max_7cf53_2 : decode cJ9_max_7cf53 2 = .ok (.if_icmp .lt 7, 3) := by decide +kernel
theorem dJ9_max_7cf53_5 : decode cJ9_max_7cf53 5 = .ok (.iload_n 0, 1) := by decide +kernel
theorem dJ9_max_7cf53_6 : decode cJ9_max_7cf53 6 = .ok (.goto 4, 3) := by decide +kernel
theorem dJ9_max_7cf53_9 : decode cJ9_max_7cf53 9 = .ok (.iload_n 1, 1) := by decide +kernel
theorem dJ9_max_7cf53_10 : decode cJ9_max_7cf53 10 = .ok (.ireturn, 1) := by decide +kernel
theorem dJ9_min_7cf53_0 : decode cJ9_min_7cf53 0 = .ok (.iload_n 0, 1) := by decide +kernel
theorem dJ9_min_7cf53_1 : decode cJ9_min_7cf53 1 = .ok (.iload_n 1, 1) := by decide +kernel
theorem dJ9_min_7cf53_2 : decode cJ9_min_7cf53 2 = .ok (.if_icmp .gt 7, 3) := by decide +kernel
theorem dJ9_min_7cf53_5 : decode cJ9_min_7cf53 5 = .ok (.iload_n 0, 1) := by decide +kernel
theorem dJ9_min_7cf53_6 : decode cJ9_min_7cf53 6 = .ok (.goto 4, 3) := by decide +kernel
theorem dJ9_min_7cf53_9 : decode cJ9_min_7cf53 9 = .ok (.iload_n 1, 1) := by decide +kernel
theorem dJ9_min_7cf53_10 : decode cJ9_min_7cf53 10 = .ok (.ireturn, 1) := by decide +kernel
