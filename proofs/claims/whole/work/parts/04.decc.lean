theorem dX11_goes_21 : decode cX11_goes 21 = .ok (.iload_n 2, 1) := by decide +kernel
theorem dX11_goes_22 : decode cX11_goes 22 = .ok (.iaload, 1) := by decide +kernel
theorem dX11_goes_23 : decode cX11_goes 23 = .ok (.invokestatic 307, 3) := by decide +kernel
theorem dX11_goes_26 : decode cX11_goes 26 = .ok (.iconst 2, 1) := by decide +kernel
theorem dX11_goes_27 : decode cX11_goes 27 = .ok (.if_icmp .ge 4, 3) := by decide +kernel
theorem dX11_goes_30 : decode cX11_goes 30 = .ok (.return_, 1) := by decide +kernel
theorem dX11_goes_31 : decode cX11_goes 31 = .ok (.aload_n 0, 1) := by decide +kernel
theorem dX11_goes_32 : decode cX11_goes 32 = .ok (.getfield 43, 3) := by decide +kernel
theorem dX11_goes_35 : decode cX11_goes 35 = .ok (.iload_n 1, 1) := by decide +kernel
theorem dX11_goes_36 : decode cX11_goes 36 = .ok (.iaload, 1) := by decide +kernel
theorem dX11_goes_37 : decode cX11_goes 37 = .ok (.istore_n 3, 1) := by decide +kernel
theorem dX11_goes_38 : decode cX11_goes 38 = .ok (.aload_n 0, 1) := by decide +kernel
theorem dX11_goes_39 : decode cX11_goes 39 = .ok (.getfield 28, 3) := by decide +kernel
theorem dX11_goes_42 : decode cX11_goes 42 = .ok (.iload_n 2, 1) := by decide +kernel
theorem dX11_goes_43 : decode cX11_goes 43 = .ok (.iaload, 1) := by decide +kernel
theorem dX11_goes_44 : decode cX11_goes 44 = .ok (.bipush 16, 2) := by decide +kernel
theorem dX11_goes_46 : decode cX11_goes 46 = .ok (.irem, 1) := by decide +kernel
theorem dX11_goes_47 : decode cX11_goes 47 = .ok (.iload_n 3, 1) := by decide +kernel
theorem dX11_goes_48 : decode cX11_goes 48 = .ok (.bipush 16, 2) := by decide +kernel
theorem dX11_goes_50 : decode cX11_goes 50 = .ok (.irem, 1) := by decide +kernel
theorem dX11_goes_51 : decode cX11_goes 51 = .ok (.isub, 1) := by decide +kernel
theorem dX11_goes_52 : decode cX11_goes 52 = .ok (.invokestatic 400, 3) := by decide +kernel
theorem dX11_goes_55 : decode cX11_goes 55 = .ok (.istore 4, 2) := by decide +kernel
theorem dX11_goes_57 : decode cX11_goes 57 = .ok (.aload_n 0, 1) := by decide +kernel
theorem dX11_goes_58 : decode cX11_goes 58 = .ok (.getfield 28, 3) := by decide +kernel
theorem dX11_goes_61 : decode cX11_goes 61 = .ok (.iload_n 2, 1) := by decide +kernel
theorem dX11_goes_62 : decode cX11_goes 62 = .ok (.iaload, 1) := by decide +kernel
theorem dX11_goes_63 : decode cX11_goes 63 = .ok (.bipush 16, 2) := by decide +kernel
theorem dX11_goes_65 : decode cX11_goes 65 = .ok (.idiv, 1) := by decide +kernel
theorem dX11_goes_66 : decode cX11_goes 66 = .ok (.iload_n 3, 1) := by decide +kernel
theorem dX11_goes_67 : decode cX11_goes 67 = .ok (.bipush 16, 2) := by decide +kernel
theorem dX11_goes_69 : decode cX11_goes 69 = .ok (.idiv, 1) := by decide +kernel
theorem dX11_goes_70 : decode cX11_goes 70 = .ok (.isub, 1) := by decide +kernel
theorem dX11_goes_71 : decode cX11_goes 71 = .ok (.invokestatic 400, 3) := by decide +kernel
theorem dX11_goes_74 : decode cX11_goes 74 = .ok (.istore 5, 2) := by decide +kernel
theorem dX11_goes_76 : decode cX11_goes 76 = .ok (.iload 4, 2) := by decide +kernel
theorem dX11_goes_78 : decode cX11_goes 78 = .ok (.ifCond .eq 27, 3) := by decide +kernel
theorem dX11_goes_81 : decode cX11_goes 81 = .ok (.aload_n 0, 1) := by decide +kernel
theorem dX11_goes_82 : decode cX11_goes 82 = .ok (.iload_n 3, 1) := by decide +kernel
theorem dX11_goes_83 : decode cX11_goes 83 = .ok (.iload 4, 2) := by decide +kernel
theorem dX11_goes_85 : decode cX11_goes 85 = .ok (.iadd, 1) := by decide +kernel
theorem dX11_goes_86 : decode cX11_goes 86 = .ok (.invokevirtual 185, 3) := by decide +kernel
theorem dX11_goes_89 : decode cX11_goes 89 = .ok (.ifCond .eq 16, 3) := by decide +kernel
theorem dX11_goes_92 : decode cX11_goes 92 = .ok (.aload_n 0, 1) := by decide +kernel
theorem dX11_goes_93 : decode cX11_goes 93 = .ok (.getfield 43, 3) := by decide +kernel
theorem dX11_goes_96 : decode cX11_goes 96 = .ok (.iload_n 1, 1) := by decide +kernel
theorem dX11_goes_97 : decode cX11_goes 97 = .ok (.iload_n 3, 1) := by decide +kernel
theorem dX11_goes_98 : decode cX11_goes 98 = .ok (.iload 4, 2) := by decide +kernel
theorem dX11_goes_100 : decode cX11_goes 100 = .ok (.iadd, 1) := by decide +kernel
theorem dX11_goes_101 : decode cX11_goes 101 = .ok (.iastore, 1) := by decide +kernel
theorem dX11_goes_102 : decode cX11_goes 102 = .ok (.goto 35, 3) := by decide +kernel
theorem dX11_goes_105 : decode cX11_goes 105 = .ok (.iload 5, 2) := by decide +kernel
theorem dX11_goes_107 : decode cX11_goes 107 = .ok (.ifCond .eq 30, 3) := by decide +kernel
theorem dX11_goes_110 : decode cX11_goes 110 = .ok (.aload_n 0, 1) := by decide +kernel
theorem dX11_goes_111 : decode cX11_goes 111 = .ok (.iload_n 3, 1) := by decide +kernel
theorem dX11_goes_112 : decode cX11_goes 112 = .ok (.bipush 16, 2) := by decide +kernel
theorem dX11_goes_114 : decode cX11_goes 114 = .ok (.iload 5, 2) := by decide +kernel
theorem dX11_goes_116 : decode cX11_goes 116 = .ok (.imul, 1) := by decide +kernel
theorem dX11_goes_117 : decode cX11_goes 117 = .ok (.iadd, 1) := by decide +kernel
theorem dX11_goes_118 : decode cX11_goes 118 = .ok (.invokevirtual 185, 3) := by decide +kernel
theorem dX11_goes_121 : decode cX11_goes 121 = .ok (.ifCond .eq 16, 3) := by decide +kernel
theorem dX11_goes_124 : decode cX11_goes 124 = .ok (.aload_n 0, 1) := by decide +kernel
theorem dX11_goes_125 : decode cX11_goes 125 = .ok (.getfield 43, 3) := by decide +kernel
theorem dX11_goes_128 : decode cX11_goes 128 = .ok (.iload_n 1, 1) := by decide +kernel
theorem dX11_goes_129 : decode cX11_goes 129 = .ok (.iload_n 3, 1) := by decide +kernel
theorem dX11_goes_130 : decode cX11_goes 130 = .ok (.bipush 16, 2) := by decide +kernel
theorem dX11_goes_132 : decode cX11_goes 132 = .ok (.iload 5, 2) := by decide +kernel
theorem dX11_goes_134 : decode cX11_goes 134 = .ok (.imul, 1) := by decide +kernel
theorem dX11_goes_135 : decode cX11_goes 135 = .ok (.iadd, 1) := by decide +kernel
theorem dX11_goes_136 : decode cX11_goes 136 = .ok (.iastore, 1) := by decide +kernel
theorem dX11_goes_137 : decode cX11_goes 137 = .ok (.return_, 1) := by decide +kernel
theorem dX11_minuteOne_0 : decode cX11_minuteOne 0 = .ok (.aload_n 0, 1) := by decide +kernel
theorem dX11_minuteOne_1 : decode cX11_minuteOne 1 = .ok (.invokevirtual 403, 3) := by decide +kernel
theorem dX11_minuteOne_4 : decode cX11_minuteOne 4 = .ok (.iconst 0, 1) := by decide +kernel
theorem dX11_minuteOne_5 : decode cX11_minuteOne 5 = .ok (.istore_n 1, 1) := by decide +kernel
theorem dX11_minuteOne_6 : decode cX11_minuteOne 6 = .ok (.iload_n 1, 1) := by decide +kernel
theorem dX11_minuteOne_7 : decode cX11_minuteOne 7 = .ok (.aload_n 0, 1) := by decide +kernel
theorem dX11_minuteOne_8 : decode cX11_minuteOne 8 = .ok (.getfield 170, 3) := by decide +kernel
theorem dX11_minuteOne_11 : decode cX11_minuteOne 11 = .ok (.if_icmp .ge 14, 3) := by decide +kernel
theorem dX11_minuteOne_14 : decode cX11_minuteOne 14 = .ok (.aload_n 0, 1) := by decide +kernel
theorem dX11_minuteOne_15 : decode cX11_minuteOne 15 = .ok (.iload_n 1, 1) := by decide +kernel
theorem dX11_minuteOne_16 : decode cX11_minuteOne 16 = .ok (.invokevirtual 406, 3) := by decide +kernel
theorem dX11_minuteOne_19 : decode cX11_minuteOne 19 = .ok (.iinc 1 1, 3) := by decide +kernel
theorem dX11_minuteOne_22 : decode cX11_minuteOne 22 = .ok (.goto (-16), 3) := by decide +kernel
theorem dX11_minuteOne_25 : decode cX11_minuteOne 25 = .ok (.aload_n 0, 1) := by decide +kernel
theorem dX11_minuteOne_26 : decode cX11_minuteOne 26 = .ok (.invokevirtual 391, 3) := by decide +kernel
theorem dX11_minuteOne_29 : decode cX11_minuteOne 29 = .ok (.istore_n 1, 1) := by decide +kernel
theorem dX11_minuteOne_30 : decode cX11_minuteOne 30 = .ok (.aload_n 0, 1) := by decide +kernel
theorem dX11_minuteOne_31 : decode cX11_minuteOne 31 = .ok (.dup, 1) := by decide +kernel
theorem dX11_minuteOne_32 : decode cX11_minuteOne 32 = .ok (.getfield 329, 3) := by decide +kernel
theorem dX11_minuteOne_35 : decode cX11_minuteOne 35 = .ok (.iconst 1, 1) := by decide +kernel
theorem dX11_minuteOne_36 : decode cX11_minuteOne 36 = .ok (.iadd, 1) := by decide +kernel
theorem dX11_minuteOne_37 : decode cX11_minuteOne 37 = .ok (.putfield 329, 3) := by decide +kernel
theorem dX11_minuteOne_40 : decode cX11_minuteOne 40 = .ok (.return_, 1) := by decide +kernel
theorem dX11_isHour_0 : decode cX11_isHour 0 = .ok (.iload_n 0, 1) := by decide +kernel
theorem dX11_isHour_1 : decode cX11_isHour 1 = .ok (.i2l, 1) := by decide +kernel
theorem dX11_isHour_2 : decode cX11_isHour 2 = .ok (.lconst 1, 1) := by decide +kernel
theorem dX11_isHour_3 : decode cX11_isHour 3 = .ok (.ldc2_w 409, 3) := by decide +kernel
theorem dX11_isHour_6 : decode cX11_isHour 6 = .ok (.invokestatic 156, 3) := by decide +kernel
theorem dX11_isHour_9 : decode cX11_isHour 9 = .ok (.ireturn, 1) := by decide +kernel
theorem dX11_minutes_0 : decode cX11_minutes 0 = .ok (.iload_n 1, 1) := by decide +kernel
theorem dX11_minutes_1 : decode cX11_minutes 1 = .ok (.invokestatic 411, 3) := by decide +kernel
theorem dX11_minutes_4 : decode cX11_minutes 4 = .ok (.ifCond .ne 5, 3) := by decide +kernel
theorem dX11_minutes_7 : decode cX11_minutes 7 = .ok (.iconst (-1), 1) := by decide +kernel
theorem dX11_minutes_8 : decode cX11_minutes 8 = .ok (.ireturn, 1) := by decide +kernel
theorem dX11_minutes_9 : decode cX11_minutes 9 = .ok (.aload_n 0, 1) := by decide +kernel
theorem dX11_minutes_10 : decode cX11_minutes 10 = .ok (.invokevirtual 414, 3) := by decide +kernel
theorem dX11_minutes_13 : decode cX11_minutes 13 = .ok (.istore_n 2, 1) := by decide +kernel
theorem dX11_minutes_14 : decode cX11_minutes 14 = .ok (.iconst 0, 1) := by decide +kernel
theorem dX11_minutes_15 : decode cX11_minutes 15 = .ok (.istore_n 3, 1) := by decide +kernel
theorem dX11_minutes_16 : decode cX11_minutes 16 = .ok (.iload_n 3, 1) := by decide +kernel
theorem dX11_minutes_17 : decode cX11_minutes 17 = .ok (.iload_n 1, 1) := by decide +kernel
theorem dX11_minutes_18 : decode cX11_minutes 18 = .ok (.if_icmp .ge 13, 3) := by decide +kernel
theorem dX11_minutes_21 : decode cX11_minutes 21 = .ok (.aload_n 0, 1) := by decide +kernel
theorem dX11_minutes_22 : decode cX11_minutes 22 = .ok (.invokevirtual 417, 3) := by decide +kernel
theorem dX11_minutes_25 : decode cX11_minutes 25 = .ok (.iinc 3 1, 3) := by decide +kernel
theorem dX11_minutes_28 : decode cX11_minutes 28 = .ok (.goto (-12), 3) := by decide +kernel
theorem dX11_minutes_31 : decode cX11_minutes 31 = .ok (.aload_n 0, 1) := by decide +kernel
theorem dX11_minutes_32 : decode cX11_minutes 32 = .ok (.invokevirtual 414, 3) := by decide +kernel
theorem dX11_minutes_35 : decode cX11_minutes 35 = .ok (.iload_n 2, 1) := by decide +kernel
theorem dX11_minutes_36 : decode cX11_minutes 36 = .ok (.isub, 1) := by decide +kernel
theorem dX11_minutes_37 : decode cX11_minutes 37 = .ok (.ireturn, 1) := by decide +kernel
theorem dX11_setsAside_0 : decode cX11_setsAside 0 = .ok (.iconst 0, 1) := by decide +kernel
theorem dX11_setsAside_1 : decode cX11_setsAside 1 = .ok (.istore_n 2, 1) := by decide +kernel
theorem dX11_setsAside_2 : decode cX11_setsAside 2 = .ok (.iload_n 2, 1) := by decide +kernel
theorem dX11_setsAside_3 : decode cX11_setsAside 3 = .ok (.sipush 256, 3) := by decide +kernel
theorem dX11_setsAside_6 : decode cX11_setsAside 6 = .ok (.if_icmp .ge 63, 3) := by decide +kernel
theorem dX11_setsAside_9 : decode cX11_setsAside 9 = .ok (.aload_n 0, 1) := by decide +kernel
theorem dX11_setsAside_10 : decode cX11_setsAside 10 = .ok (.getfield 100, 3) := by decide +kernel
theorem dX11_setsAside_13 : decode cX11_setsAside 13 = .ok (.sipush 256, 3) := by decide +kernel
theorem dX11_setsAside_16 : decode cX11_setsAside 16 = .ok (.iload_n 1, 1) := by decide +kernel
theorem dX11_setsAside_17 : decode cX11_setsAside 17 = .ok (.imul, 1) := by decide +kernel
theorem dX11_setsAside_18 : decode cX11_setsAside 18 = .ok (.iload_n 2, 1) := by decide +kernel
theorem dX11_setsAside_19 : decode cX11_setsAside 19 = .ok (.iadd, 1) := by decide +kernel
theorem dX11_setsAside_20 : decode cX11_setsAside 20 = .ok (.aload_n 0, 1) := by decide +kernel
theorem dX11_setsAside_21 : decode cX11_setsAside 21 = .ok (.getfield 17, 3) := by decide +kernel
theorem dX11_setsAside_24 : decode cX11_setsAside 24 = .ok (.iload_n 2, 1) := by decide +kernel
theorem dX11_setsAside_25 : decode cX11_setsAside 25 = .ok (.iaload, 1) := by decide +kernel
theorem dX11_setsAside_26 : decode cX11_setsAside 26 = .ok (.iastore, 1) := by decide +kernel
theorem dX11_setsAside_27 : decode cX11_setsAside 27 = .ok (.aload_n 0, 1) := by decide +kernel
theorem dX11_setsAside_28 : decode cX11_setsAside 28 = .ok (.getfield 103, 3) := by decide +kernel
theorem dX11_setsAside_31 : decode cX11_setsAside 31 = .ok (.sipush 256, 3) := by decide +kernel
theorem dX11_setsAside_34 : decode cX11_setsAside 34 = .ok (.iload_n 1, 1) := by decide +kernel
theorem dX11_setsAside_35 : decode cX11_setsAside 35 = .ok (.imul, 1) := by decide +kernel
theorem dX11_setsAside_36 : decode cX11_setsAside 36 = .ok (.iload_n 2, 1) := by decide +kernel
theorem dX11_setsAside_37 : decode cX11_setsAside 37 = .ok (.iadd, 1) := by decide +kernel
theorem dX11_setsAside_38 : decode cX11_setsAside 38 = .ok (.aload_n 0, 1) := by decide +kernel
theorem dX11_setsAside_39 : decode cX11_setsAside 39 = .ok (.getfield 21, 3) := by decide +kernel
theorem dX11_setsAside_42 : decode cX11_setsAside 42 = .ok (.iload_n 2, 1) := by decide +kernel
theorem dX11_setsAside_43 : decode cX11_setsAside 43 = .ok (.baload, 1) := by decide +kernel
theorem dX11_setsAside_44 : decode cX11_setsAside 44 = .ok (.bastore, 1) := by decide +kernel
theorem dX11_setsAside_45 : decode cX11_setsAside 45 = .ok (.aload_n 0, 1) := by decide +kernel
theorem dX11_setsAside_46 : decode cX11_setsAside 46 = .ok (.getfield 106, 3) := by decide +kernel
theorem dX11_setsAside_49 : decode cX11_setsAside 49 = .ok (.sipush 256, 3) := by decide +kernel
theorem dX11_setsAside_52 : decode cX11_setsAside 52 = .ok (.iload_n 1, 1) := by decide +kernel
theorem dX11_setsAside_53 : decode cX11_setsAside 53 = .ok (.imul, 1) := by decide +kernel
theorem dX11_setsAside_54 : decode cX11_setsAside 54 = .ok (.iload_n 2, 1) := by decide +kernel
theorem dX11_setsAside_55 : decode cX11_setsAside 55 = .ok (.iadd, 1) := by decide +kernel
theorem dX11_setsAside_56 : decode cX11_setsAside 56 = .ok (.aload_n 0, 1) := by decide +kernel
theorem dX11_setsAside_57 : decode cX11_setsAside 57 = .ok (.getfield 25, 3) := by decide +kernel
theorem dX11_setsAside_60 : decode cX11_setsAside 60 = .ok (.iload_n 2, 1) := by decide +kernel
theorem dX11_setsAside_61 : decode cX11_setsAside 61 = .ok (.iaload, 1) := by decide +kernel
theorem dX11_setsAside_62 : decode cX11_setsAside 62 = .ok (.iastore, 1) := by decide +kernel
theorem dX11_setsAside_63 : decode cX11_setsAside 63 = .ok (.iinc 2 1, 3) := by decide +kernel
theorem dX11_setsAside_66 : decode cX11_setsAside 66 = .ok (.goto (-64), 3) := by decide +kernel
theorem dX11_setsAside_69 : decode cX11_setsAside 69 = .ok (.iconst 0, 1) := by decide +kernel
theorem dX11_setsAside_70 : decode cX11_setsAside 70 = .ok (.istore_n 2, 1) := by decide +kernel
theorem dX11_setsAside_71 : decode cX11_setsAside 71 = .ok (.iload_n 2, 1) := by decide +kernel
theorem dX11_setsAside_72 : decode cX11_setsAside 72 = .ok (.bipush 8, 2) := by decide +kernel
theorem dX11_setsAside_74 : decode cX11_setsAside 74 = .ok (.if_icmp .ge 26, 3) := by decide +kernel
theorem dX11_setsAside_77 : decode cX11_setsAside 77 = .ok (.aload_n 0, 1) := by decide +kernel
theorem dX11_setsAside_78 : decode cX11_setsAside 78 = .ok (.getfield 109, 3) := by decide +kernel
theorem dX11_setsAside_81 : decode cX11_setsAside 81 = .ok (.bipush 8, 2) := by decide +kernel
theorem dX11_setsAside_83 : decode cX11_setsAside 83 = .ok (.iload_n 1, 1) := by decide +kernel
theorem dX11_setsAside_84 : decode cX11_setsAside 84 = .ok (.imul, 1) := by decide +kernel
theorem dX11_setsAside_85 : decode cX11_setsAside 85 = .ok (.iload_n 2, 1) := by decide +kernel
theorem dX11_setsAside_86 : decode cX11_setsAside 86 = .ok (.iadd, 1) := by decide +kernel
theorem dX11_setsAside_87 : decode cX11_setsAside 87 = .ok (.aload_n 0, 1) := by decide +kernel
theorem dX11_setsAside_88 : decode cX11_setsAside 88 = .ok (.getfield 43, 3) := by decide +kernel
theorem dX11_setsAside_91 : decode cX11_setsAside 91 = .ok (.iload_n 2, 1) := by decide +kernel
theorem dX11_setsAside_92 : decode cX11_setsAside 92 = .ok (.iaload, 1) := by decide +kernel
theorem dX11_setsAside_93 : decode cX11_setsAside 93 = .ok (.iastore, 1) := by decide +kernel
theorem dX11_setsAside_94 : decode cX11_setsAside 94 = .ok (.iinc 2 1, 3) := by decide +kernel
theorem dX11_setsAside_97 : decode cX11_setsAside 97 = .ok (.goto (-26), 3) := by decide +kernel
theorem dX11_setsAside_100 : decode cX11_setsAside 100 = .ok (.aload_n 0, 1) := by decide +kernel
theorem dX11_setsAside_101 : decode cX11_setsAside 101 = .ok (.getfield 112, 3) := by decide +kernel
theorem dX11_setsAside_104 : decode cX11_setsAside 104 = .ok (.iload_n 1, 1) := by decide +kernel
theorem dX11_setsAside_105 : decode cX11_setsAside 105 = .ok (.aload_n 0, 1) := by decide +kernel
theorem dX11_setsAside_106 : decode cX11_setsAside 106 = .ok (.getfield 329, 3) := by decide +kernel
theorem dX11_setsAside_109 : decode cX11_setsAside 109 = .ok (.iastore, 1) := by decide +kernel
theorem dX11_setsAside_110 : decode cX11_setsAside 110 = .ok (.return_, 1) := by decide +kernel
theorem dX11_putsBack_0 : decode cX11_putsBack 0 = .ok (.iconst 0, 1) := by decide +kernel
theorem dX11_putsBack_1 : decode cX11_putsBack 1 = .ok (.istore_n 2, 1) := by decide +kernel
theorem dX11_putsBack_2 : decode cX11_putsBack 2 = .ok (.iload_n 2, 1) := by decide +kernel
theorem dX11_putsBack_3 : decode cX11_putsBack 3 = .ok (.sipush 256, 3) := by decide +kernel
theorem dX11_putsBack_6 : decode cX11_putsBack 6 = .ok (.if_icmp .ge 63, 3) := by decide +kernel
theorem dX11_putsBack_9 : decode cX11_putsBack 9 = .ok (.aload_n 0, 1) := by decide +kernel
theorem dX11_putsBack_10 : decode cX11_putsBack 10 = .ok (.getfield 17, 3) := by decide +kernel
theorem dX11_putsBack_13 : decode cX11_putsBack 13 = .ok (.iload_n 2, 1) := by decide +kernel
theorem dX11_putsBack_14 : decode cX11_putsBack 14 = .ok (.aload_n 0, 1) := by decide +kernel
theorem dX11_putsBack_15 : decode cX11_putsBack 15 = .ok (.getfield 100, 3) := by decide +kernel
theorem dX11_putsBack_18 : decode cX11_putsBack 18 = .ok (.sipush 256, 3) := by decide +kernel
theorem dX11_putsBack_21 : decode cX11_putsBack 21 = .ok (.iload_n 1, 1) := by decide +kernel
theorem dX11_putsBack_22 : decode cX11_putsBack 22 = .ok (.imul, 1) := by decide +kernel
theorem dX11_putsBack_23 : decode cX11_putsBack 23 = .ok (.iload_n 2, 1) := by decide +kernel
theorem dX11_putsBack_24 : decode cX11_putsBack 24 = .ok (.iadd, 1) := by decide +kernel
theorem dX11_putsBack_25 : decode cX11_putsBack 25 = .ok (.iaload, 1) := by decide +kernel
theorem dX11_putsBack_26 : decode cX11_putsBack 26 = .ok (.iastore, 1) := by decide +kernel
theorem dX11_putsBack_27 : decode cX11_putsBack 27 = .ok (.aload_n 0, 1) := by decide +kernel
theorem dX11_putsBack_28 : decode cX11_putsBack 28 = .ok (.getfield 21, 3) := by decide +kernel
theorem dX11_putsBack_31 : decode cX11_putsBack 31 = .ok (.iload_n 2, 1) := by decide +kernel
theorem dX11_putsBack_32 : decode cX11_putsBack 32 = .ok (.aload_n 0, 1) := by decide +kernel
theorem dX11_putsBack_33 : decode cX11_putsBack 33 = .ok (.getfield 103, 3) := by decide +kernel
theorem dX11_putsBack_36 : decode cX11_putsBack 36 = .ok (.sipush 256, 3) := by decide +kernel
theorem dX11_putsBack_39 : decode cX11_putsBack 39 = .ok (.iload_n 1, 1) := by decide +kernel
theorem dX11_putsBack_40 : decode cX11_putsBack 40 = .ok (.imul, 1) := by decide +kernel
theorem dX11_putsBack_41 : decode cX11_putsBack 41 = .ok (.iload_n 2, 1) := by decide +kernel
theorem dX11_putsBack_42 : decode cX11_putsBack 42 = .ok (.iadd, 1) := by decide +kernel
theorem dX11_putsBack_43 : decode cX11_putsBack 43 = .ok (.baload, 1) := by decide +kernel
theorem dX11_putsBack_44 : decode cX11_putsBack 44 = .ok (.bastore, 1) := by decide +kernel
theorem dX11_putsBack_45 : decode cX11_putsBack 45 = .ok (.aload_n 0, 1) := by decide +kernel
theorem dX11_putsBack_46 : decode cX11_putsBack 46 = .ok (.getfield 25, 3) := by decide +kernel
theorem dX11_putsBack_49 : decode cX11_putsBack 49 = .ok (.iload_n 2, 1) := by decide +kernel
theorem dX11_putsBack_50 : decode cX11_putsBack 50 = .ok (.aload_n 0, 1) := by decide +kernel
theorem dX11_putsBack_51 : decode cX11_putsBack 51 = .ok (.getfield 106, 3) := by decide +kernel
theorem dX11_putsBack_54 : decode cX11_putsBack 54 = .ok (.sipush 256, 3) := by decide +kernel
theorem dX11_putsBack_57 : decode cX11_putsBack 57 = .ok (.iload_n 1, 1) := by decide +kernel
theorem dX11_putsBack_58 : decode cX11_putsBack 58 = .ok (.imul, 1) := by decide +kernel
theorem dX11_putsBack_59 : decode cX11_putsBack 59 = .ok (.iload_n 2, 1) := by decide +kernel
theorem dX11_putsBack_60 : decode cX11_putsBack 60 = .ok (.iadd, 1) := by decide +kernel
theorem dX11_putsBack_61 : decode cX11_putsBack 61 = .ok (.iaload, 1) := by decide +kernel
theorem dX11_putsBack_62 : decode cX11_putsBack 62 = .ok (.iastore, 1) := by decide +kernel
theorem dX11_putsBack_63 : decode cX11_putsBack 63 = .ok (.iinc 2 1, 3) := by decide +kernel
theorem dX11_putsBack_66 : decode cX11_putsBack 66 = .ok (.goto (-64), 3) := by decide +kernel
theorem dX11_putsBack_69 : decode cX11_putsBack 69 = .ok (.iconst 0, 1) := by decide +kernel
theorem dX11_putsBack_70 : decode cX11_putsBack 70 = .ok (.istore_n 2, 1) := by decide +kernel
theorem dX11_putsBack_71 : decode cX11_putsBack 71 = .ok (.iload_n 2, 1) := by decide +kernel
theorem dX11_putsBack_72 : decode cX11_putsBack 72 = .ok (.bipush 8, 2) := by decide +kernel
theorem dX11_putsBack_74 : decode cX11_putsBack 74 = .ok (.if_icmp .ge 26, 3) := by decide +kernel
theorem dX11_putsBack_77 : decode cX11_putsBack 77 = .ok (.aload_n 0, 1) := by decide +kernel
theorem dX11_putsBack_78 : decode cX11_putsBack 78 = .ok (.getfield 43, 3) := by decide +kernel
theorem dX11_putsBack_81 : decode cX11_putsBack 81 = .ok (.iload_n 2, 1) := by decide +kernel
theorem dX11_putsBack_82 : decode cX11_putsBack 82 = .ok (.aload_n 0, 1) := by decide +kernel
theorem dX11_putsBack_83 : decode cX11_putsBack 83 = .ok (.getfield 109, 3) := by decide +kernel
theorem dX11_putsBack_86 : decode cX11_putsBack 86 = .ok (.bipush 8, 2) := by decide +kernel
theorem dX11_putsBack_88 : decode cX11_putsBack 88 = .ok (.iload_n 1, 1) := by decide +kernel
theorem dX11_putsBack_89 : decode cX11_putsBack 89 = .ok (.imul, 1) := by decide +kernel
theorem dX11_putsBack_90 : decode cX11_putsBack 90 = .ok (.iload_n 2, 1) := by decide +kernel
theorem dX11_putsBack_91 : decode cX11_putsBack 91 = .ok (.iadd, 1) := by decide +kernel
theorem dX11_putsBack_92 : decode cX11_putsBack 92 = .ok (.iaload, 1) := by decide +kernel
theorem dX11_putsBack_93 : decode cX11_putsBack 93 = .ok (.iastore, 1) := by decide +kernel
theorem dX11_putsBack_94 : decode cX11_putsBack 94 = .ok (.iinc 2 1, 3) := by decide +kernel
theorem dX11_putsBack_97 : decode cX11_putsBack 97 = .ok (.goto (-26), 3) := by decide +kernel
theorem dX11_putsBack_100 : decode cX11_putsBack 100 = .ok (.aload_n 0, 1) := by decide +kernel
theorem dX11_putsBack_101 : decode cX11_putsBack 101 = .ok (.aload_n 0, 1) := by decide +kernel
theorem dX11_putsBack_102 : decode cX11_putsBack 102 = .ok (.getfield 112, 3) := by decide +kernel
theorem dX11_putsBack_105 : decode cX11_putsBack 105 = .ok (.iload_n 1, 1) := by decide +kernel
theorem dX11_putsBack_106 : decode cX11_putsBack 106 = .ok (.iaload, 1) := by decide +kernel
theorem dX11_putsBack_107 : decode cX11_putsBack 107 = .ok (.putfield 329, 3) := by decide +kernel
theorem dX11_putsBack_110 : decode cX11_putsBack 110 = .ok (.return_, 1) := by decide +kernel
theorem dX11_brokenMany_0 : decode cX11_brokenMany 0 = .ok (.iconst 0, 1) := by decide +kernel
theorem dX11_brokenMany_1 : decode cX11_brokenMany 1 = .ok (.istore_n 1, 1) := by decide +kernel
theorem dX11_brokenMany_2 : decode cX11_brokenMany 2 = .ok (.iconst 0, 1) := by decide +kernel
theorem dX11_brokenMany_3 : decode cX11_brokenMany 3 = .ok (.istore_n 2, 1) := by decide +kernel
theorem dX11_brokenMany_4 : decode cX11_brokenMany 4 = .ok (.iload_n 2, 1) := by decide +kernel
theorem dX11_brokenMany_5 : decode cX11_brokenMany 5 = .ok (.sipush 256, 3) := by decide +kernel
theorem dX11_brokenMany_8 : decode cX11_brokenMany 8 = .ok (.if_icmp .ge 26, 3) := by decide +kernel
theorem dX11_brokenMany_11 : decode cX11_brokenMany 11 = .ok (.iload_n 1, 1) := by decide +kernel
theorem dX11_brokenMany_12 : decode cX11_brokenMany 12 = .ok (.aload_n 0, 1) := by decide +kernel
theorem dX11_brokenMany_13 : decode cX11_brokenMany 13 = .ok (.getfield 21, 3) := by decide +kernel
theorem dX11_brokenMany_16 : decode cX11_brokenMany 16 = .ok (.iload_n 2, 1) := by decide +kernel
theorem dX11_brokenMany_17 : decode cX11_brokenMany 17 = .ok (.baload, 1) := by decide +kernel
theorem dX11_brokenMany_18 : decode cX11_brokenMany 18 = .ok (.ifCond .eq 7, 3) := by decide +kernel
theorem dX11_brokenMany_21 : decode cX11_brokenMany 21 = .ok (.iconst 1, 1) := by decide +kernel
theorem dX11_brokenMany_22 : decode cX11_brokenMany 22 = .ok (.goto 4, 3) := by decide +kernel
theorem dX11_brokenMany_25 : decode cX11_brokenMany 25 = .ok (.iconst 0, 1) := by decide +kernel
theorem dX11_brokenMany_26 : decode cX11_brokenMany 26 = .ok (.iadd, 1) := by decide +kernel
theorem dX11_brokenMany_27 : decode cX11_brokenMany 27 = .ok (.istore_n 1, 1) := by decide +kernel
theorem dX11_brokenMany_28 : decode cX11_brokenMany 28 = .ok (.iinc 2 1, 3) := by decide +kernel
theorem dX11_brokenMany_31 : decode cX11_brokenMany 31 = .ok (.goto (-27), 3) := by decide +kernel
theorem dX11_brokenMany_34 : decode cX11_brokenMany 34 = .ok (.iload_n 1, 1) := by decide +kernel
theorem dX11_brokenMany_35 : decode cX11_brokenMany 35 = .ok (.ireturn, 1) := by decide +kernel
theorem dX11_run_0 : decode cX11_run 0 = .ok (.iload_n 1, 1) := by decide +kernel
theorem dX11_run_1 : decode cX11_run 1 = .ok (.invokestatic 411, 3) := by decide +kernel
theorem dX11_run_4 : decode cX11_run 4 = .ok (.ifCond .eq 32, 3) := by decide +kernel
theorem dX11_run_7 : decode cX11_run 7 = .ok (.iload_n 2, 1) := by decide +kernel
theorem dX11_run_8 : decode cX11_run 8 = .ok (.i2l, 1) := by decide +kernel
theorem dX11_run_9 : decode cX11_run 9 = .ok (.lconst 0, 1) := by decide +kernel
theorem dX11_run_10 : decode cX11_run 10 = .ok (.lconst 1, 1) := by decide +kernel
theorem dX11_run_11 : decode cX11_run 11 = .ok (.invokestatic 156, 3) := by decide +kernel
theorem dX11_run_14 : decode cX11_run 14 = .ok (.ifCond .ne 24, 3) := by decide +kernel
theorem dX11_run_17 : decode cX11_run 17 = .ok (.iload_n 2, 1) := by decide +kernel
theorem dX11_run_18 : decode cX11_run 18 = .ok (.i2l, 1) := by decide +kernel
theorem dX11_run_19 : decode cX11_run 19 = .ok (.ldc2_w 420, 3) := by decide +kernel
theorem dX11_run_22 : decode cX11_run 22 = .ok (.bipush 9, 2) := by decide +kernel
theorem dX11_run_24 : decode cX11_run 24 = .ok (.aload_n 0, 1) := by decide +kernel
theorem dX11_run_25 : decode cX11_run 25 = .ok (.getfield 170, 3) := by decide +kernel
theorem dX11_run_28 : decode cX11_run 28 = .ok (.iadd, 1) := by decide +kernel
theorem dX11_run_29 : decode cX11_run 29 = .ok (.i2l, 1) := by decide +kernel
theorem dX11_run_30 : decode cX11_run 30 = .ok (.invokestatic 156, 3) := by decide +kernel
theorem dX11_run_33 : decode cX11_run 33 = .ok (.ifCond .ne 5, 3) := by decide +kernel
theorem dX11_run_36 : decode cX11_run 36 = .ok (.iconst (-1), 1) := by decide +kernel
theorem dX11_run_37 : decode cX11_run 37 = .ok (.ireturn, 1) := by decide +kernel
theorem dX11_run_38 : decode cX11_run 38 = .ok (.aload_n 0, 1) := by decide +kernel
theorem dX11_run_39 : decode cX11_run 39 = .ok (.iconst 0, 1) := by decide +kernel
theorem dX11_run_40 : decode cX11_run 40 = .ok (.invokevirtual 422, 3) := by decide +kernel
theorem dX11_run_43 : decode cX11_run 43 = .ok (.aload_n 0, 1) := by decide +kernel
theorem dX11_run_44 : decode cX11_run 44 = .ok (.invokevirtual 414, 3) := by decide +kernel
theorem dX11_run_47 : decode cX11_run 47 = .ok (.istore_n 3, 1) := by decide +kernel
theorem dX11_run_48 : decode cX11_run 48 = .ok (.iconst 0, 1) := by decide +kernel
theorem dX11_run_49 : decode cX11_run 49 = .ok (.istore 4, 2) := by decide +kernel
theorem dX11_run_51 : decode cX11_run 51 = .ok (.iload 4, 2) := by decide +kernel
theorem dX11_run_53 : decode cX11_run 53 = .ok (.iload_n 1, 1) := by decide +kernel
theorem dX11_run_54 : decode cX11_run 54 = .ok (.if_icmp .ge 13, 3) := by decide +kernel
theorem dX11_run_57 : decode cX11_run 57 = .ok (.aload_n 0, 1) := by decide +kernel
theorem dX11_run_58 : decode cX11_run 58 = .ok (.invokevirtual 417, 3) := by decide +kernel
theorem dX11_run_61 : decode cX11_run 61 = .ok (.iinc 4 1, 3) := by decide +kernel
theorem dX11_run_64 : decode cX11_run 64 = .ok (.goto (-13), 3) := by decide +kernel
theorem dX11_run_67 : decode cX11_run 67 = .ok (.iload_n 2, 1) := by decide +kernel
theorem dX11_run_68 : decode cX11_run 68 = .ok (.ifCond .ne 12, 3) := by decide +kernel
theorem dX11_run_71 : decode cX11_run 71 = .ok (.aload_n 0, 1) := by decide +kernel
theorem dX11_run_72 : decode cX11_run 72 = .ok (.invokevirtual 414, 3) := by decide +kernel
theorem dX11_run_75 : decode cX11_run 75 = .ok (.iload_n 3, 1) := by decide +kernel
theorem dX11_run_76 : decode cX11_run 76 = .ok (.isub, 1) := by decide +kernel
theorem dX11_run_77 : decode cX11_run 77 = .ok (.goto 24, 3) := by decide +kernel
theorem dX11_run_80 : decode cX11_run 80 = .ok (.iload_n 2, 1) := by decide +kernel
theorem dX11_run_81 : decode cX11_run 81 = .ok (.iconst 1, 1) := by decide +kernel
theorem dX11_run_82 : decode cX11_run 82 = .ok (.if_icmp .ne 10, 3) := by decide +kernel
theorem dX11_run_85 : decode cX11_run 85 = .ok (.aload_n 0, 1) := by decide +kernel
theorem dX11_run_86 : decode cX11_run 86 = .ok (.invokevirtual 425, 3) := by decide +kernel
theorem dX11_run_89 : decode cX11_run 89 = .ok (.goto 12, 3) := by decide +kernel
theorem dX11_run_92 : decode cX11_run 92 = .ok (.aload_n 0, 1) := by decide +kernel
theorem dX11_run_93 : decode cX11_run 93 = .ok (.getfield 43, 3) := by decide +kernel
theorem dX11_run_96 : decode cX11_run 96 = .ok (.iload_n 2, 1) := by decide +kernel
theorem dX11_run_97 : decode cX11_run 97 = .ok (.bipush 10, 2) := by decide +kernel
theorem dX11_run_99 : decode cX11_run 99 = .ok (.isub, 1) := by decide +kernel
theorem dX11_run_100 : decode cX11_run 100 = .ok (.iaload, 1) := by decide +kernel
theorem dX11_run_101 : decode cX11_run 101 = .ok (.istore 4, 2) := by decide +kernel
theorem dX11_run_103 : decode cX11_run 103 = .ok (.aload_n 0, 1) := by decide +kernel
theorem dX11_run_104 : decode cX11_run 104 = .ok (.iconst 0, 1) := by decide +kernel
theorem dX11_run_105 : decode cX11_run 105 = .ok (.invokevirtual 428, 3) := by decide +kernel
theorem dX11_run_108 : decode cX11_run 108 = .ok (.iload 4, 2) := by decide +kernel
theorem dX11_run_110 : decode cX11_run 110 = .ok (.ireturn, 1) := by decide +kernel
theorem dX11_square_0 : decode cX11_square 0 = .ok (.iload_n 1, 1) := by decide +kernel
theorem dX11_square_1 : decode cX11_square 1 = .ok (.iload_n 2, 1) := by decide +kernel
theorem dX11_square_2 : decode cX11_square 2 = .ok (.invokestatic 177, 3) := by decide +kernel
theorem dX11_square_5 : decode cX11_square 5 = .ok (.ifCond .eq 15, 3) := by decide +kernel
theorem dX11_square_8 : decode cX11_square 8 = .ok (.iload_n 3, 1) := by decide +kernel
theorem dX11_square_9 : decode cX11_square 9 = .ok (.i2l, 1) := by decide +kernel
theorem dX11_square_10 : decode cX11_square 10 = .ok (.lconst 0, 1) := by decide +kernel
theorem dX11_square_11 : decode cX11_square 11 = .ok (.ldc2_w 431, 3) := by decide +kernel
theorem dX11_square_14 : decode cX11_square 14 = .ok (.invokestatic 156, 3) := by decide +kernel
theorem dX11_square_17 : decode cX11_square 17 = .ok (.ifCond .ne 5, 3) := by decide +kernel
theorem dX11_square_20 : decode cX11_square 20 = .ok (.iconst (-1), 1) := by decide +kernel
theorem dX11_square_21 : decode cX11_square 21 = .ok (.ireturn, 1) := by decide +kernel
theorem dX11_square_22 : decode cX11_square 22 = .ok (.bipush 16, 2) := by decide +kernel
theorem dX11_square_24 : decode cX11_square 24 = .ok (.iload_n 2, 1) := by decide +kernel
theorem dX11_square_25 : decode cX11_square 25 = .ok (.imul, 1) := by decide +kernel
theorem dX11_square_26 : decode cX11_square 26 = .ok (.iload_n 1, 1) := by decide +kernel
theorem dX11_square_27 : decode cX11_square 27 = .ok (.iadd, 1) := by decide +kernel
theorem dX11_square_28 : decode cX11_square 28 = .ok (.istore 4, 2) := by decide +kernel
theorem dX11_square_30 : decode cX11_square 30 = .ok (.iload_n 3, 1) := by decide +kernel
theorem dX11_square_31 : decode cX11_square 31 = .ok (.tableswitch 93 0 4 #[33, 41, 72, 79, 86], 33) := by decide +kernel
theorem dX11_square_64 : decode cX11_square 64 = .ok (.aload_n 0, 1) := by decide +kernel
theorem dX11_square_65 : decode cX11_square 65 = .ok (.getfield 17, 3) := by decide +kernel
theorem dX11_square_68 : decode cX11_square 68 = .ok (.iload 4, 2) := by decide +kernel
theorem dX11_square_70 : decode cX11_square 70 = .ok (.iaload, 1) := by decide +kernel
theorem dX11_square_71 : decode cX11_square 71 = .ok (.ireturn, 1) := by decide +kernel
theorem dX11_square_72 : decode cX11_square 72 = .ok (.aload_n 0, 1) := by decide +kernel
theorem dX11_square_73 : decode cX11_square 73 = .ok (.getfield 21, 3) := by decide +kernel
theorem dX11_square_76 : decode cX11_square 76 = .ok (.iload 4, 2) := by decide +kernel
theorem dX11_square_78 : decode cX11_square 78 = .ok (.baload, 1) := by decide +kernel
theorem dX11_square_79 : decode cX11_square 79 = .ok (.ifCond .eq 7, 3) := by decide +kernel
theorem dX11_square_82 : decode cX11_square 82 = .ok (.iconst 1, 1) := by decide +kernel
theorem dX11_square_83 : decode cX11_square 83 = .ok (.goto 19, 3) := by decide +kernel
theorem dX11_square_86 : decode cX11_square 86 = .ok (.aload_n 0, 1) := by decide +kernel
theorem dX11_square_87 : decode cX11_square 87 = .ok (.getfield 25, 3) := by decide +kernel
theorem dX11_square_90 : decode cX11_square 90 = .ok (.iload 4, 2) := by decide +kernel
theorem dX11_square_92 : decode cX11_square 92 = .ok (.iaload, 1) := by decide +kernel
theorem dX11_square_93 : decode cX11_square 93 = .ok (.iconst (-1), 1) := by decide +kernel
theorem dX11_square_94 : decode cX11_square 94 = .ok (.if_icmp .eq 7, 3) := by decide +kernel
theorem dX11_square_97 : decode cX11_square 97 = .ok (.iconst 2, 1) := by decide +kernel
theorem dX11_square_98 : decode cX11_square 98 = .ok (.goto 4, 3) := by decide +kernel
theorem dX11_square_101 : decode cX11_square 101 = .ok (.iconst 0, 1) := by decide +kernel
theorem dX11_square_102 : decode cX11_square 102 = .ok (.ireturn, 1) := by decide +kernel
theorem dX11_square_103 : decode cX11_square 103 = .ok (.aload_n 0, 1) := by decide +kernel
theorem dX11_square_104 : decode cX11_square 104 = .ok (.iload 4, 2) := by decide +kernel
theorem dX11_square_106 : decode cX11_square 106 = .ok (.invokevirtual 385, 3) := by decide +kernel
theorem dX11_square_109 : decode cX11_square 109 = .ok (.ireturn, 1) := by decide +kernel
theorem dX11_square_110 : decode cX11_square 110 = .ok (.aload_n 0, 1) := by decide +kernel
theorem dX11_square_111 : decode cX11_square 111 = .ok (.iload 4, 2) := by decide +kernel
theorem dX11_square_113 : decode cX11_square 113 = .ok (.invokevirtual 382, 3) := by decide +kernel
theorem dX11_square_116 : decode cX11_square 116 = .ok (.ireturn, 1) := by decide +kernel
theorem dX11_square_117 : decode cX11_square 117 = .ok (.aload_n 0, 1) := by decide +kernel
theorem dX11_square_118 : decode cX11_square 118 = .ok (.iload 4, 2) := by decide +kernel
theorem dX11_square_120 : decode cX11_square 120 = .ok (.invokevirtual 323, 3) := by decide +kernel
theorem dX11_square_123 : decode cX11_square 123 = .ok (.ireturn, 1) := by decide +kernel
theorem dX11_square_124 : decode cX11_square 124 = .ok (.aload_n 0, 1) := by decide +kernel
theorem dX11_square_125 : decode cX11_square 125 = .ok (.iload 4, 2) := by decide +kernel
theorem dX11_square_127 : decode cX11_square 127 = .ok (.invokevirtual 326, 3) := by decide +kernel
theorem dX11_square_130 : decode cX11_square 130 = .ok (.ireturn, 1) := by decide +kernel
theorem dX11_holeIs_0 : decode cX11_holeIs 0 = .ok (.aload_n 0, 1) := by decide +kernel
theorem dX11_holeIs_1 : decode cX11_holeIs 1 = .ok (.iload_n 1, 1) := by decide +kernel
theorem dX11_holeIs_2 : decode cX11_holeIs 2 = .ok (.invokevirtual 167, 3) := by decide +kernel
theorem dX11_holeIs_5 : decode cX11_holeIs 5 = .ok (.ifCond .ne 5, 3) := by decide +kernel
theorem dX11_holeIs_8 : decode cX11_holeIs 8 = .ok (.iconst (-1), 1) := by decide +kernel
theorem dX11_holeIs_9 : decode cX11_holeIs 9 = .ok (.ireturn, 1) := by decide +kernel
theorem dX11_holeIs_10 : decode cX11_holeIs 10 = .ok (.iload_n 2, 1) := by decide +kernel
theorem dX11_holeIs_11 : decode cX11_holeIs 11 = .ok (.tableswitch 86 0 5 #[37, 44, 58, 65, 72, 79], 37) := by decide +kernel
theorem dX11_holeIs_48 : decode cX11_holeIs 48 = .ok (.aload_n 0, 1) := by decide +kernel
theorem dX11_holeIs_49 : decode cX11_holeIs 49 = .ok (.getfield 28, 3) := by decide +kernel
theorem dX11_holeIs_52 : decode cX11_holeIs 52 = .ok (.iload_n 1, 1) := by decide +kernel
theorem dX11_holeIs_53 : decode cX11_holeIs 53 = .ok (.iaload, 1) := by decide +kernel
theorem dX11_holeIs_54 : decode cX11_holeIs 54 = .ok (.ireturn, 1) := by decide +kernel
theorem dX11_holeIs_55 : decode cX11_holeIs 55 = .ok (.aload_n 0, 1) := by decide +kernel
theorem dX11_holeIs_56 : decode cX11_holeIs 56 = .ok (.iload_n 1, 1) := by decide +kernel
theorem dX11_holeIs_57 : decode cX11_holeIs 57 = .ok (.invokevirtual 379, 3) := by decide +kernel
theorem dX11_holeIs_60 : decode cX11_holeIs 60 = .ok (.ifCond .eq 7, 3) := by decide +kernel
theorem dX11_holeIs_63 : decode cX11_holeIs 63 = .ok (.iconst 1, 1) := by decide +kernel
theorem dX11_holeIs_64 : decode cX11_holeIs 64 = .ok (.goto 4, 3) := by decide +kernel
theorem dX11_holeIs_67 : decode cX11_holeIs 67 = .ok (.iconst 0, 1) := by decide +kernel
theorem dX11_holeIs_68 : decode cX11_holeIs 68 = .ok (.ireturn, 1) := by decide +kernel
theorem dX11_holeIs_69 : decode cX11_holeIs 69 = .ok (.aload_n 0, 1) := by decide +kernel
theorem dX11_holeIs_70 : decode cX11_holeIs 70 = .ok (.getfield 31, 3) := by decide +kernel
theorem dX11_holeIs_73 : decode cX11_holeIs 73 = .ok (.iload_n 1, 1) := by decide +kernel
theorem dX11_holeIs_74 : decode cX11_holeIs 74 = .ok (.iaload, 1) := by decide +kernel
theorem dX11_holeIs_75 : decode cX11_holeIs 75 = .ok (.ireturn, 1) := by decide +kernel
theorem dX11_holeIs_76 : decode cX11_holeIs 76 = .ok (.aload_n 0, 1) := by decide +kernel
theorem dX11_holeIs_77 : decode cX11_holeIs 77 = .ok (.getfield 34, 3) := by decide +kernel
theorem dX11_holeIs_80 : decode cX11_holeIs 80 = .ok (.iload_n 1, 1) := by decide +kernel
theorem dX11_holeIs_81 : decode cX11_holeIs 81 = .ok (.iaload, 1) := by decide +kernel
theorem dX11_holeIs_82 : decode cX11_holeIs 82 = .ok (.ireturn, 1) := by decide +kernel
theorem dX11_holeIs_83 : decode cX11_holeIs 83 = .ok (.aload_n 0, 1) := by decide +kernel
theorem dX11_holeIs_84 : decode cX11_holeIs 84 = .ok (.getfield 37, 3) := by decide +kernel
theorem dX11_holeIs_87 : decode cX11_holeIs 87 = .ok (.iload_n 1, 1) := by decide +kernel
theorem dX11_holeIs_88 : decode cX11_holeIs 88 = .ok (.iaload, 1) := by decide +kernel
theorem dX11_holeIs_89 : decode cX11_holeIs 89 = .ok (.ireturn, 1) := by decide +kernel
theorem dX11_holeIs_90 : decode cX11_holeIs 90 = .ok (.aload_n 0, 1) := by decide +kernel
theorem dX11_holeIs_91 : decode cX11_holeIs 91 = .ok (.getfield 40, 3) := by decide +kernel
theorem dX11_holeIs_94 : decode cX11_holeIs 94 = .ok (.iload_n 1, 1) := by decide +kernel
theorem dX11_holeIs_95 : decode cX11_holeIs 95 = .ok (.iaload, 1) := by decide +kernel
theorem dX11_holeIs_96 : decode cX11_holeIs 96 = .ok (.ireturn, 1) := by decide +kernel
theorem dX11_holeIs_97 : decode cX11_holeIs 97 = .ok (.iconst (-1), 1) := by decide +kernel
theorem dX11_holeIs_98 : decode cX11_holeIs 98 = .ok (.ireturn, 1) := by decide +kernel
theorem dX11_groupIs_0 : decode cX11_groupIs 0 = .ok (.aload_n 0, 1) := by decide +kernel
theorem dX11_groupIs_1 : decode cX11_groupIs 1 = .ok (.iload_n 1, 1) := by decide +kernel
theorem dX11_groupIs_2 : decode cX11_groupIs 2 = .ok (.invokevirtual 433, 3) := by decide +kernel
theorem dX11_groupIs_5 : decode cX11_groupIs 5 = .ok (.ifCond .ne 5, 3) := by decide +kernel
theorem dX11_groupIs_8 : decode cX11_groupIs 8 = .ok (.iconst (-1), 1) := by decide +kernel
theorem dX11_groupIs_9 : decode cX11_groupIs 9 = .ok (.ireturn, 1) := by decide +kernel
theorem dX11_groupIs_10 : decode cX11_groupIs 10 = .ok (.iload_n 2, 1) := by decide +kernel
theorem dX11_groupIs_11 : decode cX11_groupIs 11 = .ok (.ifCond .ne 12, 3) := by decide +kernel
theorem dX11_groupIs_14 : decode cX11_groupIs 14 = .ok (.aload_n 0, 1) := by decide +kernel
theorem dX11_groupIs_15 : decode cX11_groupIs 15 = .ok (.getfield 43, 3) := by decide +kernel
theorem dX11_groupIs_18 : decode cX11_groupIs 18 = .ok (.iload_n 1, 1) := by decide +kernel
theorem dX11_groupIs_19 : decode cX11_groupIs 19 = .ok (.iaload, 1) := by decide +kernel
theorem dX11_groupIs_20 : decode cX11_groupIs 20 = .ok (.goto 31, 3) := by decide +kernel
theorem dX11_groupIs_23 : decode cX11_groupIs 23 = .ok (.iload_n 2, 1) := by decide +kernel
theorem dX11_groupIs_24 : decode cX11_groupIs 24 = .ok (.iconst 1, 1) := by decide +kernel
theorem dX11_groupIs_25 : decode cX11_groupIs 25 = .ok (.if_icmp .ne 12, 3) := by decide +kernel
theorem dX11_groupIs_28 : decode cX11_groupIs 28 = .ok (.aload_n 0, 1) := by decide +kernel
theorem dX11_groupIs_29 : decode cX11_groupIs 29 = .ok (.getfield 46, 3) := by decide +kernel
theorem dX11_groupIs_32 : decode cX11_groupIs 32 = .ok (.iload_n 1, 1) := by decide +kernel
theorem dX11_groupIs_33 : decode cX11_groupIs 33 = .ok (.iaload, 1) := by decide +kernel
theorem dX11_groupIs_34 : decode cX11_groupIs 34 = .ok (.goto 17, 3) := by decide +kernel
theorem dX11_groupIs_37 : decode cX11_groupIs 37 = .ok (.iload_n 2, 1) := by decide +kernel
theorem dX11_groupIs_38 : decode cX11_groupIs 38 = .ok (.iconst 2, 1) := by decide +kernel
theorem dX11_groupIs_39 : decode cX11_groupIs 39 = .ok (.if_icmp .ne 11, 3) := by decide +kernel
theorem dX11_groupIs_42 : decode cX11_groupIs 42 = .ok (.aload_n 0, 1) := by decide +kernel
theorem dX11_groupIs_43 : decode cX11_groupIs 43 = .ok (.iload_n 1, 1) := by decide +kernel
theorem dX11_groupIs_44 : decode cX11_groupIs 44 = .ok (.invokevirtual 397, 3) := by decide +kernel
theorem dX11_groupIs_47 : decode cX11_groupIs 47 = .ok (.goto 4, 3) := by decide +kernel
theorem dX11_groupIs_50 : decode cX11_groupIs 50 = .ok (.iconst (-1), 1) := by decide +kernel
theorem dX11_groupIs_51 : decode cX11_groupIs 51 = .ok (.ireturn, 1) := by decide +kernel
theorem dX11_draws_0 : decode cX11_draws 0 = .ok (.aload_n 0, 1) := by decide +kernel
theorem dX11_draws_1 : decode cX11_draws 1 = .ok (.iload_n 1, 1) := by decide +kernel
theorem dX11_draws_2 : decode cX11_draws 2 = .ok (.invokevirtual 379, 3) := by decide +kernel
theorem dX11_draws_5 : decode cX11_draws 5 = .ok (.ifCond .eq 31, 3) := by decide +kernel
theorem dX11_draws_8 : decode cX11_draws 8 = .ok (.aload_n 0, 1) := by decide +kernel
theorem dX11_draws_9 : decode cX11_draws 9 = .ok (.iload_n 2, 1) := by decide +kernel
theorem dX11_draws_10 : decode cX11_draws 10 = .ok (.invokevirtual 433, 3) := by decide +kernel
theorem dX11_draws_13 : decode cX11_draws 13 = .ok (.ifCond .eq 23, 3) := by decide +kernel
theorem dX11_draws_16 : decode cX11_draws 16 = .ok (.aload_n 0, 1) := by decide +kernel
theorem dX11_draws_17 : decode cX11_draws 17 = .ok (.getfield 43, 3) := by decide +kernel
theorem dX11_draws_20 : decode cX11_draws 20 = .ok (.iload_n 2, 1) := by decide +kernel
theorem dX11_draws_21 : decode cX11_draws 21 = .ok (.iaload, 1) := by decide +kernel
theorem dX11_draws_22 : decode cX11_draws 22 = .ok (.bipush (-2), 2) := by decide +kernel
theorem dX11_draws_24 : decode cX11_draws 24 = .ok (.if_icmp .eq 12, 3) := by decide +kernel
theorem dX11_draws_27 : decode cX11_draws 27 = .ok (.aload_n 0, 1) := by decide +kernel
theorem dX11_draws_28 : decode cX11_draws 28 = .ok (.iload_n 1, 1) := by decide +kernel
theorem dX11_draws_29 : decode cX11_draws 29 = .ok (.iload_n 2, 1) := by decide +kernel
theorem dX11_draws_30 : decode cX11_draws 30 = .ok (.invokevirtual 394, 3) := by decide +kernel
theorem dX11_draws_33 : decode cX11_draws 33 = .ok (.goto 4, 3) := by decide +kernel
theorem dX11_draws_36 : decode cX11_draws 36 = .ok (.iconst (-1), 1) := by decide +kernel
theorem dX11_draws_37 : decode cX11_draws 37 = .ok (.ireturn, 1) := by decide +kernel
theorem dX11_isLoad_0 : decode cX11_isLoad 0 = .ok (.iload_n 0, 1) := by decide +kernel
theorem dX11_isLoad_1 : decode cX11_isLoad 1 = .ok (.i2l, 1) := by decide +kernel
theorem dX11_isLoad_2 : decode cX11_isLoad 2 = .ok (.lconst 0, 1) := by decide +kernel
theorem dX11_isLoad_3 : decode cX11_isLoad 3 = .ok (.ldc2_w 436, 3) := by decide +kernel
theorem dX11_isLoad_6 : decode cX11_isLoad 6 = .ok (.invokestatic 156, 3) := by decide +kernel
theorem dX11_isLoad_9 : decode cX11_isLoad 9 = .ok (.ireturn, 1) := by decide +kernel
theorem dX11_isSound_0 : decode cX11_isSound 0 = .ok (.iconst (-1), 1) := by decide +kernel
theorem dX11_isSound_1 : decode cX11_isSound 1 = .ok (.istore_n 3, 1) := by decide +kernel
theorem dX11_isSound_2 : decode cX11_isSound 2 = .ok (.iload_n 3, 1) := by decide +kernel
theorem dX11_isSound_3 : decode cX11_isSound 3 = .ok (.iconst 2, 1) := by decide +kernel
theorem dX11_isSound_4 : decode cX11_isSound 4 = .ok (.if_icmp .ge 65, 3) := by decide +kernel
theorem dX11_isSound_7 : decode cX11_isSound 7 = .ok (.iconst (-1), 1) := by decide +kernel
theorem dX11_isSound_8 : decode cX11_isSound 8 = .ok (.istore 4, 2) := by decide +kernel
theorem dX11_isSound_10 : decode cX11_isSound 10 = .ok (.iload 4, 2) := by decide +kernel
theorem dX11_isSound_12 : decode cX11_isSound 12 = .ok (.iconst 2, 1) := by decide +kernel
theorem dX11_isSound_13 : decode cX11_isSound 13 = .ok (.if_icmp .ge 50, 3) := by decide +kernel
theorem dX11_isSound_16 : decode cX11_isSound 16 = .ok (.aload_n 0, 1) := by decide +kernel
theorem dX11_isSound_17 : decode cX11_isSound 17 = .ok (.getfield 28, 3) := by decide +kernel
theorem dX11_isSound_20 : decode cX11_isSound 20 = .ok (.iload_n 1, 1) := by decide +kernel
theorem dX11_isSound_21 : decode cX11_isSound 21 = .ok (.iaload, 1) := by decide +kernel
theorem dX11_isSound_22 : decode cX11_isSound 22 = .ok (.iload 4, 2) := by decide +kernel
theorem dX11_isSound_24 : decode cX11_isSound 24 = .ok (.iload_n 3, 1) := by decide +kernel
theorem dX11_isSound_25 : decode cX11_isSound 25 = .ok (.invokestatic 181, 3) := by decide +kernel
theorem dX11_isSound_28 : decode cX11_isSound 28 = .ok (.istore 5, 2) := by decide +kernel
theorem dX11_isSound_30 : decode cX11_isSound 30 = .ok (.iload 5, 2) := by decide +kernel
theorem dX11_isSound_32 : decode cX11_isSound 32 = .ok (.iconst (-1), 1) := by decide +kernel
theorem dX11_isSound_33 : decode cX11_isSound 33 = .ok (.if_icmp .eq 24, 3) := by decide +kernel
theorem dX11_isSound_36 : decode cX11_isSound 36 = .ok (.aload_n 0, 1) := by decide +kernel
theorem dX11_isSound_37 : decode cX11_isSound 37 = .ok (.iload 5, 2) := by decide +kernel
theorem dX11_isSound_39 : decode cX11_isSound 39 = .ok (.invokevirtual 185, 3) := by decide +kernel
theorem dX11_isSound_42 : decode cX11_isSound 42 = .ok (.ifCond .eq 15, 3) := by decide +kernel
theorem dX11_isSound_45 : decode cX11_isSound 45 = .ok (.aload_n 0, 1) := by decide +kernel
theorem dX11_isSound_46 : decode cX11_isSound 46 = .ok (.iload 5, 2) := by decide +kernel
theorem dX11_isSound_48 : decode cX11_isSound 48 = .ok (.invokevirtual 385, 3) := by decide +kernel
theorem dX11_isSound_51 : decode cX11_isSound 51 = .ok (.iload_n 2, 1) := by decide +kernel
theorem dX11_isSound_52 : decode cX11_isSound 52 = .ok (.if_icmp .ge 5, 3) := by decide +kernel
theorem dX11_isSound_55 : decode cX11_isSound 55 = .ok (.iconst 0, 1) := by decide +kernel
theorem dX11_isSound_56 : decode cX11_isSound 56 = .ok (.ireturn, 1) := by decide +kernel
theorem dX11_isSound_57 : decode cX11_isSound 57 = .ok (.iinc 4 1, 3) := by decide +kernel
theorem dX11_isSound_60 : decode cX11_isSound 60 = .ok (.goto (-50), 3) := by decide +kernel
theorem dX11_isSound_63 : decode cX11_isSound 63 = .ok (.iinc 3 1, 3) := by decide +kernel
theorem dX11_isSound_66 : decode cX11_isSound 66 = .ok (.goto (-64), 3) := by decide +kernel
theorem dX11_isSound_69 : decode cX11_isSound 69 = .ok (.iconst 1, 1) := by decide +kernel
theorem dX11_isSound_70 : decode cX11_isSound 70 = .ok (.ireturn, 1) := by decide +kernel
theorem dX11_soundFor_0 : decode cX11_soundFor 0 = .ok (.aload_n 0, 1) := by decide +kernel
theorem dX11_soundFor_1 : decode cX11_soundFor 1 = .ok (.iconst 0, 1) := by decide +kernel
theorem dX11_soundFor_2 : decode cX11_soundFor 2 = .ok (.invokevirtual 422, 3) := by decide +kernel
theorem dX11_soundFor_5 : decode cX11_soundFor 5 = .ok (.iconst 0, 1) := by decide +kernel
theorem dX11_soundFor_6 : decode cX11_soundFor 6 = .ok (.istore_n 3, 1) := by decide +kernel
theorem dX11_soundFor_7 : decode cX11_soundFor 7 = .ok (.iload_n 3, 1) := by decide +kernel
theorem dX11_soundFor_8 : decode cX11_soundFor 8 = .ok (.bipush 60, 2) := by decide +kernel
theorem dX11_soundFor_10 : decode cX11_soundFor 10 = .ok (.if_icmp .ge 32, 3) := by decide +kernel
theorem dX11_soundFor_13 : decode cX11_soundFor 13 = .ok (.aload_n 0, 1) := by decide +kernel
theorem dX11_soundFor_14 : decode cX11_soundFor 14 = .ok (.iload_n 1, 1) := by decide +kernel
theorem dX11_soundFor_15 : decode cX11_soundFor 15 = .ok (.iload_n 2, 1) := by decide +kernel
theorem dX11_soundFor_16 : decode cX11_soundFor 16 = .ok (.invokevirtual 438, 3) := by decide +kernel
theorem dX11_soundFor_19 : decode cX11_soundFor 19 = .ok (.ifCond .eq 23, 3) := by decide +kernel
theorem dX11_soundFor_22 : decode cX11_soundFor 22 = .ok (.aload_n 0, 1) := by decide +kernel
theorem dX11_soundFor_23 : decode cX11_soundFor 23 = .ok (.invokevirtual 403, 3) := by decide +kernel
theorem dX11_soundFor_26 : decode cX11_soundFor 26 = .ok (.aload_n 0, 1) := by decide +kernel
theorem dX11_soundFor_27 : decode cX11_soundFor 27 = .ok (.dup, 1) := by decide +kernel
theorem dX11_soundFor_28 : decode cX11_soundFor 28 = .ok (.getfield 329, 3) := by decide +kernel
theorem dX11_soundFor_31 : decode cX11_soundFor 31 = .ok (.iconst 1, 1) := by decide +kernel
theorem dX11_soundFor_32 : decode cX11_soundFor 32 = .ok (.iadd, 1) := by decide +kernel
theorem dX11_soundFor_33 : decode cX11_soundFor 33 = .ok (.putfield 329, 3) := by decide +kernel
theorem dX11_soundFor_36 : decode cX11_soundFor 36 = .ok (.iinc 3 1, 3) := by decide +kernel
theorem dX11_soundFor_39 : decode cX11_soundFor 39 = .ok (.goto (-32), 3) := by decide +kernel
theorem dX11_soundFor_42 : decode cX11_soundFor 42 = .ok (.aload_n 0, 1) := by decide +kernel
theorem dX11_soundFor_43 : decode cX11_soundFor 43 = .ok (.iconst 0, 1) := by decide +kernel
theorem dX11_soundFor_44 : decode cX11_soundFor 44 = .ok (.invokevirtual 428, 3) := by decide +kernel
theorem dX11_soundFor_47 : decode cX11_soundFor 47 = .ok (.iload_n 3, 1) := by decide +kernel
theorem dX11_soundFor_48 : decode cX11_soundFor 48 = .ok (.ireturn, 1) := by decide +kernel
theorem dX11_sound_0 : decode cX11_sound 0 = .ok (.aload_n 0, 1) := by decide +kernel
theorem dX11_sound_1 : decode cX11_sound 1 = .ok (.iload_n 1, 1) := by decide +kernel
theorem dX11_sound_2 : decode cX11_sound 2 = .ok (.invokevirtual 379, 3) := by decide +kernel
theorem dX11_sound_5 : decode cX11_sound 5 = .ok (.ifCond .eq 19, 3) := by decide +kernel
theorem dX11_sound_8 : decode cX11_sound 8 = .ok (.iload_n 2, 1) := by decide +kernel
theorem dX11_sound_9 : decode cX11_sound 9 = .ok (.invokestatic 441, 3) := by decide +kernel
theorem dX11_sound_12 : decode cX11_sound 12 = .ok (.ifCond .eq 12, 3) := by decide +kernel
theorem dX11_sound_15 : decode cX11_sound 15 = .ok (.aload_n 0, 1) := by decide +kernel
theorem dX11_sound_16 : decode cX11_sound 16 = .ok (.iload_n 1, 1) := by decide +kernel
theorem dX11_sound_17 : decode cX11_sound 17 = .ok (.iload_n 2, 1) := by decide +kernel
theorem dX11_sound_18 : decode cX11_sound 18 = .ok (.invokevirtual 444, 3) := by decide +kernel
theorem dX11_sound_21 : decode cX11_sound 21 = .ok (.goto 4, 3) := by decide +kernel
theorem dX11_sound_24 : decode cX11_sound 24 = .ok (.iconst (-1), 1) := by decide +kernel
theorem dX11_sound_25 : decode cX11_sound 25 = .ok (.ireturn, 1) := by decide +kernel
theorem dX11_takesTwos_0 : decode cX11_takesTwos 0 = .ok (.aload_n 0, 1) := by decide +kernel
theorem dX11_takesTwos_1 : decode cX11_takesTwos 1 = .ok (.iconst 0, 1) := by decide +kernel
theorem dX11_takesTwos_2 : decode cX11_takesTwos 2 = .ok (.putfield 190, 3) := by decide +kernel
theorem dX11_takesTwos_5 : decode cX11_takesTwos 5 = .ok (.aload_n 0, 1) := by decide +kernel
theorem dX11_takesTwos_6 : decode cX11_takesTwos 6 = .ok (.iload_n 1, 1) := by decide +kernel
theorem dX11_takesTwos_7 : decode cX11_takesTwos 7 = .ok (.putfield 447, 3) := by decide +kernel
theorem dX11_takesTwos_10 : decode cX11_takesTwos 10 = .ok (.iconst 0, 1) := by decide +kernel
theorem dX11_takesTwos_11 : decode cX11_takesTwos 11 = .ok (.istore_n 2, 1) := by decide +kernel
theorem dX11_takesTwos_12 : decode cX11_takesTwos 12 = .ok (.iload_n 2, 1) := by decide +kernel
theorem dX11_takesTwos_13 : decode cX11_takesTwos 13 = .ok (.iload_n 1, 1) := by decide +kernel
theorem dX11_takesTwos_14 : decode cX11_takesTwos 14 = .ok (.if_icmp .ge 37, 3) := by decide +kernel
theorem dX11_takesTwos_17 : decode cX11_takesTwos 17 = .ok (.aload_n 0, 1) := by decide +kernel
theorem dX11_takesTwos_18 : decode cX11_takesTwos 18 = .ok (.getfield 115, 3) := by decide +kernel
theorem dX11_takesTwos_21 : decode cX11_takesTwos 21 = .ok (.iload_n 2, 1) := by decide +kernel
theorem dX11_takesTwos_22 : decode cX11_takesTwos 22 = .ok (.aload_n 0, 1) := by decide +kernel
theorem dX11_takesTwos_23 : decode cX11_takesTwos 23 = .ok (.iconst 2, 1) := by decide +kernel
theorem dX11_takesTwos_24 : decode cX11_takesTwos 24 = .ok (.iload_n 2, 1) := by decide +kernel
theorem dX11_takesTwos_25 : decode cX11_takesTwos 25 = .ok (.imul, 1) := by decide +kernel
theorem dX11_takesTwos_26 : decode cX11_takesTwos 26 = .ok (.invokevirtual 450, 3) := by decide +kernel
theorem dX11_takesTwos_29 : decode cX11_takesTwos 29 = .ok (.iastore, 1) := by decide +kernel
theorem dX11_takesTwos_30 : decode cX11_takesTwos 30 = .ok (.aload_n 0, 1) := by decide +kernel
theorem dX11_takesTwos_31 : decode cX11_takesTwos 31 = .ok (.getfield 118, 3) := by decide +kernel
theorem dX11_takesTwos_34 : decode cX11_takesTwos 34 = .ok (.iload_n 2, 1) := by decide +kernel
theorem dX11_takesTwos_35 : decode cX11_takesTwos 35 = .ok (.aload_n 0, 1) := by decide +kernel
theorem dX11_takesTwos_36 : decode cX11_takesTwos 36 = .ok (.iconst 2, 1) := by decide +kernel
theorem dX11_takesTwos_37 : decode cX11_takesTwos 37 = .ok (.iload_n 2, 1) := by decide +kernel
theorem dX11_takesTwos_38 : decode cX11_takesTwos 38 = .ok (.imul, 1) := by decide +kernel
theorem dX11_takesTwos_39 : decode cX11_takesTwos 39 = .ok (.iconst 1, 1) := by decide +kernel
theorem dX11_takesTwos_40 : decode cX11_takesTwos 40 = .ok (.iadd, 1) := by decide +kernel
theorem dX11_takesTwos_41 : decode cX11_takesTwos 41 = .ok (.invokevirtual 450, 3) := by decide +kernel
theorem dX11_takesTwos_44 : decode cX11_takesTwos 44 = .ok (.iastore, 1) := by decide +kernel
theorem dX11_takesTwos_45 : decode cX11_takesTwos 45 = .ok (.iinc 2 1, 3) := by decide +kernel
theorem dX11_takesTwos_48 : decode cX11_takesTwos 48 = .ok (.goto (-36), 3) := by decide +kernel
theorem dX11_takesTwos_51 : decode cX11_takesTwos 51 = .ok (.aload_n 0, 1) := by decide +kernel
theorem dX11_takesTwos_52 : decode cX11_takesTwos 52 = .ok (.invokevirtual 453, 3) := by decide +kernel
theorem dX11_takesTwos_55 : decode cX11_takesTwos 55 = .ok (.ireturn, 1) := by decide +kernel
theorem dX11_isTwice_0 : decode cX11_isTwice 0 = .ok (.iconst 0, 1) := by decide +kernel
theorem dX11_isTwice_1 : decode cX11_isTwice 1 = .ok (.istore_n 1, 1) := by decide +kernel
theorem dX11_isTwice_2 : decode cX11_isTwice 2 = .ok (.iload_n 1, 1) := by decide +kernel
theorem dX11_isTwice_3 : decode cX11_isTwice 3 = .ok (.aload_n 0, 1) := by decide +kernel
theorem dX11_isTwice_4 : decode cX11_isTwice 4 = .ok (.getfield 447, 3) := by decide +kernel
theorem dX11_isTwice_7 : decode cX11_isTwice 7 = .ok (.if_icmp .ge 39, 3) := by decide +kernel
theorem dX11_isTwice_10 : decode cX11_isTwice 10 = .ok (.iconst 0, 1) := by decide +kernel
theorem dX11_isTwice_11 : decode cX11_isTwice 11 = .ok (.istore_n 2, 1) := by decide +kernel
theorem dX11_isTwice_12 : decode cX11_isTwice 12 = .ok (.iload_n 2, 1) := by decide +kernel
theorem dX11_isTwice_13 : decode cX11_isTwice 13 = .ok (.iload_n 1, 1) := by decide +kernel
theorem dX11_isTwice_14 : decode cX11_isTwice 14 = .ok (.if_icmp .ge 26, 3) := by decide +kernel
theorem dX11_isTwice_17 : decode cX11_isTwice 17 = .ok (.aload_n 0, 1) := by decide +kernel
theorem dX11_isTwice_18 : decode cX11_isTwice 18 = .ok (.getfield 115, 3) := by decide +kernel
theorem dX11_isTwice_21 : decode cX11_isTwice 21 = .ok (.iload_n 2, 1) := by decide +kernel
theorem dX11_isTwice_22 : decode cX11_isTwice 22 = .ok (.iaload, 1) := by decide +kernel
theorem dX11_isTwice_23 : decode cX11_isTwice 23 = .ok (.aload_n 0, 1) := by decide +kernel
theorem dX11_isTwice_24 : decode cX11_isTwice 24 = .ok (.getfield 115, 3) := by decide +kernel
theorem dX11_isTwice_27 : decode cX11_isTwice 27 = .ok (.iload_n 1, 1) := by decide +kernel
theorem dX11_isTwice_28 : decode cX11_isTwice 28 = .ok (.iaload, 1) := by decide +kernel
theorem dX11_isTwice_29 : decode cX11_isTwice 29 = .ok (.if_icmp .ne 5, 3) := by decide +kernel
theorem dX11_isTwice_32 : decode cX11_isTwice 32 = .ok (.iconst 1, 1) := by decide +kernel
theorem dX11_isTwice_33 : decode cX11_isTwice 33 = .ok (.ireturn, 1) := by decide +kernel
theorem dX11_isTwice_34 : decode cX11_isTwice 34 = .ok (.iinc 2 1, 3) := by decide +kernel
theorem dX11_isTwice_37 : decode cX11_isTwice 37 = .ok (.goto (-25), 3) := by decide +kernel
theorem dX11_isTwice_40 : decode cX11_isTwice 40 = .ok (.iinc 1 1, 3) := by decide +kernel
theorem dX11_isTwice_43 : decode cX11_isTwice 43 = .ok (.goto (-41), 3) := by decide +kernel
theorem dX11_isTwice_46 : decode cX11_isTwice 46 = .ok (.iconst 0, 1) := by decide +kernel
theorem dX11_isTwice_47 : decode cX11_isTwice 47 = .ok (.ireturn, 1) := by decide +kernel
theorem dX11_isFineAlone_0 : decode cX11_isFineAlone 0 = .ok (.aload_n 0, 1) := by decide +kernel
theorem dX11_isFineAlone_1 : decode cX11_isFineAlone 1 = .ok (.iload_n 1, 1) := by decide +kernel
theorem dX11_isFineAlone_2 : decode cX11_isFineAlone 2 = .ok (.invokevirtual 185, 3) := by decide +kernel
theorem dX11_isFineAlone_5 : decode cX11_isFineAlone 5 = .ok (.ifCond .eq 20, 3) := by decide +kernel
theorem dX11_isFineAlone_8 : decode cX11_isFineAlone 8 = .ok (.aload_n 0, 1) := by decide +kernel
theorem dX11_isFineAlone_9 : decode cX11_isFineAlone 9 = .ok (.iload_n 1, 1) := by decide +kernel
theorem dX11_isFineAlone_10 : decode cX11_isFineAlone 10 = .ok (.invokevirtual 370, 3) := by decide +kernel
theorem dX11_isFineAlone_13 : decode cX11_isFineAlone 13 = .ok (.ifCond .ne 12, 3) := by decide +kernel
theorem dX11_isFineAlone_16 : decode cX11_isFineAlone 16 = .ok (.aload_n 0, 1) := by decide +kernel
theorem dX11_isFineAlone_17 : decode cX11_isFineAlone 17 = .ok (.iload_n 1, 1) := by decide +kernel
theorem dX11_isFineAlone_18 : decode cX11_isFineAlone 18 = .ok (.iconst 0, 1) := by decide +kernel
theorem dX11_isFineAlone_19 : decode cX11_isFineAlone 19 = .ok (.invokevirtual 373, 3) := by decide +kernel
theorem dX11_isFineAlone_22 : decode cX11_isFineAlone 22 = .ok (.ifCond .ne 5, 3) := by decide +kernel
theorem dX11_isFineAlone_25 : decode cX11_isFineAlone 25 = .ok (.iconst 0, 1) := by decide +kernel
theorem dX11_isFineAlone_26 : decode cX11_isFineAlone 26 = .ok (.ireturn, 1) := by decide +kernel
theorem dX11_isFineAlone_27 : decode cX11_isFineAlone 27 = .ok (.iconst 0, 1) := by decide +kernel
theorem dX11_isFineAlone_28 : decode cX11_isFineAlone 28 = .ok (.istore_n 2, 1) := by decide +kernel
theorem dX11_isFineAlone_29 : decode cX11_isFineAlone 29 = .ok (.iload_n 2, 1) := by decide +kernel
theorem dX11_isFineAlone_30 : decode cX11_isFineAlone 30 = .ok (.aload_n 0, 1) := by decide +kernel
theorem dX11_isFineAlone_31 : decode cX11_isFineAlone 31 = .ok (.getfield 164, 3) := by decide +kernel
theorem dX11_isFineAlone_34 : decode cX11_isFineAlone 34 = .ok (.if_icmp .ge 32, 3) := by decide +kernel
theorem dX11_isFineAlone_37 : decode cX11_isFineAlone 37 = .ok (.aload_n 0, 1) := by decide +kernel
theorem dX11_isFineAlone_38 : decode cX11_isFineAlone 38 = .ok (.iload_n 2, 1) := by decide +kernel
theorem dX11_isFineAlone_39 : decode cX11_isFineAlone 39 = .ok (.invokevirtual 379, 3) := by decide +kernel
theorem dX11_isFineAlone_42 : decode cX11_isFineAlone 42 = .ok (.ifCond .eq 18, 3) := by decide +kernel
theorem dX11_isFineAlone_45 : decode cX11_isFineAlone 45 = .ok (.aload_n 0, 1) := by decide +kernel
theorem dX11_isFineAlone_46 : decode cX11_isFineAlone 46 = .ok (.getfield 28, 3) := by decide +kernel
theorem dX11_isFineAlone_49 : decode cX11_isFineAlone 49 = .ok (.iload_n 2, 1) := by decide +kernel
theorem dX11_isFineAlone_50 : decode cX11_isFineAlone 50 = .ok (.iaload, 1) := by decide +kernel
theorem dX11_isFineAlone_51 : decode cX11_isFineAlone 51 = .ok (.iload_n 1, 1) := by decide +kernel
theorem dX11_isFineAlone_52 : decode cX11_isFineAlone 52 = .ok (.invokestatic 456, 3) := by decide +kernel
theorem dX11_isFineAlone_55 : decode cX11_isFineAlone 55 = .ok (.ifCond .eq 5, 3) := by decide +kernel
theorem dX11_isFineAlone_58 : decode cX11_isFineAlone 58 = .ok (.iconst 0, 1) := by decide +kernel
theorem dX11_isFineAlone_59 : decode cX11_isFineAlone 59 = .ok (.ireturn, 1) := by decide +kernel
theorem dX11_isFineAlone_60 : decode cX11_isFineAlone 60 = .ok (.iinc 2 1, 3) := by decide +kernel
theorem dX11_isFineAlone_63 : decode cX11_isFineAlone 63 = .ok (.goto (-34), 3) := by decide +kernel
theorem dX11_isFineAlone_66 : decode cX11_isFineAlone 66 = .ok (.iconst 1, 1) := by decide +kernel
theorem dX11_isFineAlone_67 : decode cX11_isFineAlone 67 = .ok (.ireturn, 1) := by decide +kernel
theorem dX11_isThen_0 : decode cX11_isThen 0 = .ok (.iload_n 1, 1) := by decide +kernel
theorem dX11_isThen_1 : decode cX11_isThen 1 = .ok (.iconst (-1), 1) := by decide +kernel
theorem dX11_isThen_2 : decode cX11_isThen 2 = .ok (.if_icmp .eq 16, 3) := by decide +kernel
theorem dX11_isThen_5 : decode cX11_isThen 5 = .ok (.aload_n 0, 1) := by decide +kernel
theorem dX11_isThen_6 : decode cX11_isThen 6 = .ok (.getfield 121, 3) := by decide +kernel
theorem dX11_isThen_9 : decode cX11_isThen 9 = .ok (.iload_n 1, 1) := by decide +kernel
theorem dX11_isThen_10 : decode cX11_isThen 10 = .ok (.baload, 1) := by decide +kernel
theorem dX11_isThen_11 : decode cX11_isThen 11 = .ok (.ifCond .eq 7, 3) := by decide +kernel
theorem dX11_isThen_14 : decode cX11_isThen 14 = .ok (.iconst 1, 1) := by decide +kernel
theorem dX11_isThen_15 : decode cX11_isThen 15 = .ok (.goto 4, 3) := by decide +kernel
theorem dX11_isThen_18 : decode cX11_isThen 18 = .ok (.iconst 0, 1) := by decide +kernel
theorem dX11_isThen_19 : decode cX11_isThen 19 = .ok (.ireturn, 1) := by decide +kernel
theorem dX11_hasNewRow_0 : decode cX11_hasNewRow 0 = .ok (.iconst 0, 1) := by decide +kernel
theorem dX11_hasNewRow_1 : decode cX11_hasNewRow 1 = .ok (.istore_n 2, 1) := by decide +kernel
theorem dX11_hasNewRow_2 : decode cX11_hasNewRow 2 = .ok (.iload_n 2, 1) := by decide +kernel
theorem dX11_hasNewRow_3 : decode cX11_hasNewRow 3 = .ok (.aload_n 0, 1) := by decide +kernel
theorem dX11_hasNewRow_4 : decode cX11_hasNewRow 4 = .ok (.getfield 447, 3) := by decide +kernel
theorem dX11_hasNewRow_7 : decode cX11_hasNewRow 7 = .ok (.if_icmp .ge 125, 3) := by decide +kernel
theorem dX11_hasNewRow_10 : decode cX11_hasNewRow 10 = .ok (.iload_n 1, 1) := by decide +kernel
theorem dX11_hasNewRow_11 : decode cX11_hasNewRow 11 = .ok (.iload_n 2, 1) := by decide +kernel
theorem dX11_hasNewRow_12 : decode cX11_hasNewRow 12 = .ok (.invokestatic 459, 3) := by decide +kernel
theorem dX11_hasNewRow_15 : decode cX11_hasNewRow 15 = .ok (.ifCond .ne 6, 3) := by decide +kernel
theorem dX11_hasNewRow_18 : decode cX11_hasNewRow 18 = .ok (.goto 108, 3) := by decide +kernel
theorem dX11_hasNewRow_21 : decode cX11_hasNewRow 21 = .ok (.aload_n 0, 1) := by decide +kernel
theorem dX11_hasNewRow_22 : decode cX11_hasNewRow 22 = .ok (.getfield 115, 3) := by decide +kernel
theorem dX11_hasNewRow_25 : decode cX11_hasNewRow 25 = .ok (.iload_n 2, 1) := by decide +kernel
theorem dX11_hasNewRow_26 : decode cX11_hasNewRow 26 = .ok (.iaload, 1) := by decide +kernel
theorem dX11_hasNewRow_27 : decode cX11_hasNewRow 27 = .ok (.istore_n 3, 1) := by decide +kernel
theorem dX11_hasNewRow_28 : decode cX11_hasNewRow 28 = .ok (.bipush (-3), 2) := by decide +kernel
theorem dX11_hasNewRow_30 : decode cX11_hasNewRow 30 = .ok (.istore 4, 2) := by decide +kernel
theorem dX11_hasNewRow_32 : decode cX11_hasNewRow 32 = .ok (.iload 4, 2) := by decide +kernel
theorem dX11_hasNewRow_34 : decode cX11_hasNewRow 34 = .ok (.iconst 4, 1) := by decide +kernel
theorem dX11_hasNewRow_35 : decode cX11_hasNewRow 35 = .ok (.if_icmp .ge 91, 3) := by decide +kernel
theorem dX11_hasNewRow_38 : decode cX11_hasNewRow 38 = .ok (.bipush (-3), 2) := by decide +kernel
theorem dX11_hasNewRow_40 : decode cX11_hasNewRow 40 = .ok (.istore 5, 2) := by decide +kernel
theorem dX11_hasNewRow_42 : decode cX11_hasNewRow 42 = .ok (.iload 5, 2) := by decide +kernel
theorem dX11_hasNewRow_44 : decode cX11_hasNewRow 44 = .ok (.iconst 4, 1) := by decide +kernel
theorem dX11_hasNewRow_45 : decode cX11_hasNewRow 45 = .ok (.if_icmp .ge 75, 3) := by decide +kernel
theorem dX11_hasNewRow_48 : decode cX11_hasNewRow 48 = .ok (.iload 4, 2) := by decide +kernel
theorem dX11_hasNewRow_50 : decode cX11_hasNewRow 50 = .ok (.ifCond .ne 8, 3) := by decide +kernel
theorem dX11_hasNewRow_53 : decode cX11_hasNewRow 53 = .ok (.iload 5, 2) := by decide +kernel
theorem dX11_hasNewRow_55 : decode cX11_hasNewRow 55 = .ok (.ifCond .eq 59, 3) := by decide +kernel
theorem dX11_hasNewRow_58 : decode cX11_hasNewRow 58 = .ok (.aload_n 0, 1) := by decide +kernel
theorem dX11_hasNewRow_59 : decode cX11_hasNewRow 59 = .ok (.iload_n 3, 1) := by decide +kernel
theorem dX11_hasNewRow_60 : decode cX11_hasNewRow 60 = .ok (.iload 4, 2) := by decide +kernel
theorem dX11_hasNewRow_62 : decode cX11_hasNewRow 62 = .ok (.iload 5, 2) := by decide +kernel
theorem dX11_hasNewRow_64 : decode cX11_hasNewRow 64 = .ok (.invokestatic 181, 3) := by decide +kernel
theorem dX11_hasNewRow_67 : decode cX11_hasNewRow 67 = .ok (.invokevirtual 462, 3) := by decide +kernel
theorem dX11_hasNewRow_70 : decode cX11_hasNewRow 70 = .ok (.ifCond .ne 6, 3) := by decide +kernel
theorem dX11_hasNewRow_73 : decode cX11_hasNewRow 73 = .ok (.goto 41, 3) := by decide +kernel
theorem dX11_hasNewRow_76 : decode cX11_hasNewRow 76 = .ok (.aload_n 0, 1) := by decide +kernel
theorem dX11_hasNewRow_77 : decode cX11_hasNewRow 77 = .ok (.iload_n 3, 1) := by decide +kernel
theorem dX11_hasNewRow_78 : decode cX11_hasNewRow 78 = .ok (.iconst 2, 1) := by decide +kernel
theorem dX11_hasNewRow_79 : decode cX11_hasNewRow 79 = .ok (.iload 4, 2) := by decide +kernel
theorem dX11_hasNewRow_81 : decode cX11_hasNewRow 81 = .ok (.imul, 1) := by decide +kernel
theorem dX11_hasNewRow_82 : decode cX11_hasNewRow 82 = .ok (.iconst 2, 1) := by decide +kernel
theorem dX11_hasNewRow_83 : decode cX11_hasNewRow 83 = .ok (.iload 5, 2) := by decide +kernel
theorem dX11_hasNewRow_85 : decode cX11_hasNewRow 85 = .ok (.imul, 1) := by decide +kernel
theorem dX11_hasNewRow_86 : decode cX11_hasNewRow 86 = .ok (.invokestatic 181, 3) := by decide +kernel
theorem dX11_hasNewRow_89 : decode cX11_hasNewRow 89 = .ok (.invokevirtual 462, 3) := by decide +kernel
theorem dX11_hasNewRow_92 : decode cX11_hasNewRow 92 = .ok (.ifCond .ne 20, 3) := by decide +kernel
theorem dX11_hasNewRow_95 : decode cX11_hasNewRow 95 = .ok (.aload_n 0, 1) := by decide +kernel
theorem dX11_hasNewRow_96 : decode cX11_hasNewRow 96 = .ok (.iload_n 3, 1) := by decide +kernel
theorem dX11_hasNewRow_97 : decode cX11_hasNewRow 97 = .ok (.iload 4, 2) := by decide +kernel
theorem dX11_hasNewRow_99 : decode cX11_hasNewRow 99 = .ok (.ineg, 1) := by decide +kernel
theorem dX11_hasNewRow_100 : decode cX11_hasNewRow 100 = .ok (.iload 5, 2) := by decide +kernel
theorem dX11_hasNewRow_102 : decode cX11_hasNewRow 102 = .ok (.ineg, 1) := by decide +kernel
theorem dX11_hasNewRow_103 : decode cX11_hasNewRow 103 = .ok (.invokestatic 181, 3) := by decide +kernel
theorem dX11_hasNewRow_106 : decode cX11_hasNewRow 106 = .ok (.invokevirtual 462, 3) := by decide +kernel
theorem dX11_hasNewRow_109 : decode cX11_hasNewRow 109 = .ok (.ifCond .eq 5, 3) := by decide +kernel
theorem dX11_hasNewRow_112 : decode cX11_hasNewRow 112 = .ok (.iconst 1, 1) := by decide +kernel
theorem dX11_hasNewRow_113 : decode cX11_hasNewRow 113 = .ok (.ireturn, 1) := by decide +kernel
theorem dX11_hasNewRow_114 : decode cX11_hasNewRow 114 = .ok (.iinc 5 1, 3) := by decide +kernel
theorem dX11_hasNewRow_117 : decode cX11_hasNewRow 117 = .ok (.goto (-75), 3) := by decide +kernel
theorem dX11_hasNewRow_120 : decode cX11_hasNewRow 120 = .ok (.iinc 4 1, 3) := by decide +kernel
theorem dX11_hasNewRow_123 : decode cX11_hasNewRow 123 = .ok (.goto (-91), 3) := by decide +kernel
theorem dX11_hasNewRow_126 : decode cX11_hasNewRow 126 = .ok (.iinc 2 1, 3) := by decide +kernel
theorem dX11_hasNewRow_129 : decode cX11_hasNewRow 129 = .ok (.goto (-127), 3) := by decide +kernel
theorem dX11_hasNewRow_132 : decode cX11_hasNewRow 132 = .ok (.iconst 0, 1) := by decide +kernel
theorem dX11_hasNewRow_133 : decode cX11_hasNewRow 133 = .ok (.ireturn, 1) := by decide +kernel
theorem dX11_isFine_0 : decode cX11_isFine 0 = .ok (.iload_n 1, 1) := by decide +kernel
theorem dX11_isFine_1 : decode cX11_isFine 1 = .ok (.iload_n 2, 1) := by decide +kernel
theorem dX11_isFine_2 : decode cX11_isFine 2 = .ok (.iconst (-1), 1) := by decide +kernel
theorem dX11_isFine_3 : decode cX11_isFine 3 = .ok (.ixor, 1) := by decide +kernel
theorem dX11_isFine_4 : decode cX11_isFine 4 = .ok (.iand, 1) := by decide +kernel
theorem dX11_isFine_5 : decode cX11_isFine 5 = .ok (.ifCond .eq 5, 3) := by decide +kernel
theorem dX11_isFine_8 : decode cX11_isFine 8 = .ok (.iconst 0, 1) := by decide +kernel
theorem dX11_isFine_9 : decode cX11_isFine 9 = .ok (.ireturn, 1) := by decide +kernel
theorem dX11_isFine_10 : decode cX11_isFine 10 = .ok (.iconst 0, 1) := by decide +kernel
theorem dX11_isFine_11 : decode cX11_isFine 11 = .ok (.istore_n 3, 1) := by decide +kernel
theorem dX11_isFine_12 : decode cX11_isFine 12 = .ok (.iload_n 3, 1) := by decide +kernel
theorem dX11_isFine_13 : decode cX11_isFine 13 = .ok (.aload_n 0, 1) := by decide +kernel
theorem dX11_isFine_14 : decode cX11_isFine 14 = .ok (.getfield 447, 3) := by decide +kernel
theorem dX11_isFine_17 : decode cX11_isFine 17 = .ok (.if_icmp .ge 62, 3) := by decide +kernel
theorem dX11_isFine_20 : decode cX11_isFine 20 = .ok (.iconst 0, 1) := by decide +kernel
theorem dX11_isFine_21 : decode cX11_isFine 21 = .ok (.istore 4, 2) := by decide +kernel
theorem dX11_isFine_23 : decode cX11_isFine 23 = .ok (.iload 4, 2) := by decide +kernel
theorem dX11_isFine_25 : decode cX11_isFine 25 = .ok (.iload_n 3, 1) := by decide +kernel
theorem dX11_isFine_26 : decode cX11_isFine 26 = .ok (.if_icmp .ge 47, 3) := by decide +kernel
theorem dX11_isFine_29 : decode cX11_isFine 29 = .ok (.iload_n 1, 1) := by decide +kernel
theorem dX11_isFine_30 : decode cX11_isFine 30 = .ok (.iload_n 3, 1) := by decide +kernel
theorem dX11_isFine_31 : decode cX11_isFine 31 = .ok (.invokestatic 459, 3) := by decide +kernel
theorem dX11_isFine_34 : decode cX11_isFine 34 = .ok (.ifCond .eq 33, 3) := by decide +kernel
theorem dX11_isFine_37 : decode cX11_isFine 37 = .ok (.iload_n 1, 1) := by decide +kernel
theorem dX11_isFine_38 : decode cX11_isFine 38 = .ok (.iload 4, 2) := by decide +kernel
theorem dX11_isFine_40 : decode cX11_isFine 40 = .ok (.invokestatic 459, 3) := by decide +kernel
theorem dX11_isFine_43 : decode cX11_isFine 43 = .ok (.ifCond .eq 24, 3) := by decide +kernel
theorem dX11_isFine_46 : decode cX11_isFine 46 = .ok (.aload_n 0, 1) := by decide +kernel
theorem dX11_isFine_47 : decode cX11_isFine 47 = .ok (.getfield 115, 3) := by decide +kernel
theorem dX11_isFine_50 : decode cX11_isFine 50 = .ok (.iload_n 3, 1) := by decide +kernel
theorem dX11_isFine_51 : decode cX11_isFine 51 = .ok (.iaload, 1) := by decide +kernel
theorem dX11_isFine_52 : decode cX11_isFine 52 = .ok (.aload_n 0, 1) := by decide +kernel
theorem dX11_isFine_53 : decode cX11_isFine 53 = .ok (.getfield 115, 3) := by decide +kernel
theorem dX11_isFine_56 : decode cX11_isFine 56 = .ok (.iload 4, 2) := by decide +kernel
theorem dX11_isFine_58 : decode cX11_isFine 58 = .ok (.iaload, 1) := by decide +kernel
theorem dX11_isFine_59 : decode cX11_isFine 59 = .ok (.invokestatic 456, 3) := by decide +kernel
theorem dX11_isFine_62 : decode cX11_isFine 62 = .ok (.ifCond .eq 5, 3) := by decide +kernel
theorem dX11_isFine_65 : decode cX11_isFine 65 = .ok (.iconst 0, 1) := by decide +kernel
theorem dX11_isFine_66 : decode cX11_isFine 66 = .ok (.ireturn, 1) := by decide +kernel
theorem dX11_isFine_67 : decode cX11_isFine 67 = .ok (.iinc 4 1, 3) := by decide +kernel
theorem dX11_isFine_70 : decode cX11_isFine 70 = .ok (.goto (-47), 3) := by decide +kernel
theorem dX11_isFine_73 : decode cX11_isFine 73 = .ok (.iinc 3 1, 3) := by decide +kernel
theorem dX11_isFine_76 : decode cX11_isFine 76 = .ok (.goto (-64), 3) := by decide +kernel
theorem dX11_isFine_79 : decode cX11_isFine 79 = .ok (.iconst 0, 1) := by decide +kernel
theorem dX11_isFine_80 : decode cX11_isFine 80 = .ok (.istore_n 3, 1) := by decide +kernel
theorem dX11_isFine_81 : decode cX11_isFine 81 = .ok (.iload_n 3, 1) := by decide +kernel
theorem dX11_isFine_82 : decode cX11_isFine 82 = .ok (.sipush 256, 3) := by decide +kernel
theorem dX11_isFine_85 : decode cX11_isFine 85 = .ok (.if_icmp .ge 30, 3) := by decide +kernel
theorem dX11_isFine_88 : decode cX11_isFine 88 = .ok (.aload_n 0, 1) := by decide +kernel
theorem dX11_isFine_89 : decode cX11_isFine 89 = .ok (.getfield 121, 3) := by decide +kernel
theorem dX11_isFine_92 : decode cX11_isFine 92 = .ok (.iload_n 3, 1) := by decide +kernel
theorem dX11_isFine_93 : decode cX11_isFine 93 = .ok (.aload_n 0, 1) := by decide +kernel
theorem dX11_isFine_94 : decode cX11_isFine 94 = .ok (.getfield 25, 3) := by decide +kernel
theorem dX11_isFine_97 : decode cX11_isFine 97 = .ok (.iload_n 3, 1) := by decide +kernel
theorem dX11_isFine_98 : decode cX11_isFine 98 = .ok (.iaload, 1) := by decide +kernel
theorem dX11_isFine_99 : decode cX11_isFine 99 = .ok (.iconst (-1), 1) := by decide +kernel
theorem dX11_isFine_100 : decode cX11_isFine 100 = .ok (.if_icmp .eq 7, 3) := by decide +kernel
theorem dX11_isFine_103 : decode cX11_isFine 103 = .ok (.iconst 1, 1) := by decide +kernel
theorem dX11_isFine_104 : decode cX11_isFine 104 = .ok (.goto 4, 3) := by decide +kernel
theorem dX11_isFine_107 : decode cX11_isFine 107 = .ok (.iconst 0, 1) := by decide +kernel
theorem dX11_isFine_108 : decode cX11_isFine 108 = .ok (.bastore, 1) := by decide +kernel
theorem dX11_isFine_109 : decode cX11_isFine 109 = .ok (.iinc 3 1, 3) := by decide +kernel
theorem dX11_isFine_112 : decode cX11_isFine 112 = .ok (.goto (-31), 3) := by decide +kernel
theorem dX11_isFine_115 : decode cX11_isFine 115 = .ok (.iconst 0, 1) := by decide +kernel
theorem dX11_isFine_116 : decode cX11_isFine 116 = .ok (.istore_n 3, 1) := by decide +kernel
theorem dX11_isFine_117 : decode cX11_isFine 117 = .ok (.iload_n 3, 1) := by decide +kernel
theorem dX11_isFine_118 : decode cX11_isFine 118 = .ok (.aload_n 0, 1) := by decide +kernel
theorem dX11_isFine_119 : decode cX11_isFine 119 = .ok (.getfield 447, 3) := by decide +kernel
theorem dX11_isFine_122 : decode cX11_isFine 122 = .ok (.if_icmp .ge 29, 3) := by decide +kernel
theorem dX11_isFine_125 : decode cX11_isFine 125 = .ok (.iload_n 1, 1) := by decide +kernel
theorem dX11_isFine_126 : decode cX11_isFine 126 = .ok (.iload_n 3, 1) := by decide +kernel
theorem dX11_isFine_127 : decode cX11_isFine 127 = .ok (.invokestatic 459, 3) := by decide +kernel
theorem dX11_isFine_130 : decode cX11_isFine 130 = .ok (.ifCond .eq 15, 3) := by decide +kernel
theorem dX11_isFine_133 : decode cX11_isFine 133 = .ok (.aload_n 0, 1) := by decide +kernel
theorem dX11_isFine_134 : decode cX11_isFine 134 = .ok (.getfield 121, 3) := by decide +kernel
theorem dX11_isFine_137 : decode cX11_isFine 137 = .ok (.aload_n 0, 1) := by decide +kernel
theorem dX11_isFine_138 : decode cX11_isFine 138 = .ok (.getfield 115, 3) := by decide +kernel
theorem dX11_isFine_141 : decode cX11_isFine 141 = .ok (.iload_n 3, 1) := by decide +kernel
theorem dX11_isFine_142 : decode cX11_isFine 142 = .ok (.iaload, 1) := by decide +kernel
theorem dX11_isFine_143 : decode cX11_isFine 143 = .ok (.iconst 1, 1) := by decide +kernel
theorem dX11_isFine_144 : decode cX11_isFine 144 = .ok (.bastore, 1) := by decide +kernel
theorem dX11_isFine_145 : decode cX11_isFine 145 = .ok (.iinc 3 1, 3) := by decide +kernel
theorem dX11_isFine_148 : decode cX11_isFine 148 = .ok (.goto (-31), 3) := by decide +kernel
theorem dX11_isFine_151 : decode cX11_isFine 151 = .ok (.aload_n 0, 1) := by decide +kernel
theorem dX11_isFine_152 : decode cX11_isFine 152 = .ok (.iload_n 1, 1) := by decide +kernel
theorem dX11_isFine_153 : decode cX11_isFine 153 = .ok (.invokevirtual 465, 3) := by decide +kernel
theorem dX11_isFine_156 : decode cX11_isFine 156 = .ok (.ifCond .ne 7, 3) := by decide +kernel
theorem dX11_isFine_159 : decode cX11_isFine 159 = .ok (.iconst 1, 1) := by decide +kernel
theorem dX11_isFine_160 : decode cX11_isFine 160 = .ok (.goto 4, 3) := by decide +kernel
theorem dX11_isFine_163 : decode cX11_isFine 163 = .ok (.iconst 0, 1) := by decide +kernel
theorem dX11_isFine_164 : decode cX11_isFine 164 = .ok (.ireturn, 1) := by decide +kernel
theorem dX11_worthOf_0 : decode cX11_worthOf 0 = .ok (.iconst 0, 1) := by decide +kernel
theorem dX11_worthOf_1 : decode cX11_worthOf 1 = .ok (.istore_n 2, 1) := by decide +kernel
theorem dX11_worthOf_2 : decode cX11_worthOf 2 = .ok (.iconst 0, 1) := by decide +kernel
theorem dX11_worthOf_3 : decode cX11_worthOf 3 = .ok (.istore_n 3, 1) := by decide +kernel
theorem dX11_worthOf_4 : decode cX11_worthOf 4 = .ok (.iload_n 3, 1) := by decide +kernel
theorem dX11_worthOf_5 : decode cX11_worthOf 5 = .ok (.aload_n 0, 1) := by decide +kernel
theorem dX11_worthOf_6 : decode cX11_worthOf 6 = .ok (.getfield 447, 3) := by decide +kernel
theorem dX11_worthOf_9 : decode cX11_worthOf 9 = .ok (.if_icmp .ge 30, 3) := by decide +kernel
theorem dX11_worthOf_12 : decode cX11_worthOf 12 = .ok (.iload_n 2, 1) := by decide +kernel
theorem dX11_worthOf_13 : decode cX11_worthOf 13 = .ok (.iload_n 1, 1) := by decide +kernel
theorem dX11_worthOf_14 : decode cX11_worthOf 14 = .ok (.iload_n 3, 1) := by decide +kernel
theorem dX11_worthOf_15 : decode cX11_worthOf 15 = .ok (.invokestatic 459, 3) := by decide +kernel
theorem dX11_worthOf_18 : decode cX11_worthOf 18 = .ok (.ifCond .eq 12, 3) := by decide +kernel
theorem dX11_worthOf_21 : decode cX11_worthOf 21 = .ok (.aload_n 0, 1) := by decide +kernel
theorem dX11_worthOf_22 : decode cX11_worthOf 22 = .ok (.getfield 118, 3) := by decide +kernel
theorem dX11_worthOf_25 : decode cX11_worthOf 25 = .ok (.iload_n 3, 1) := by decide +kernel
theorem dX11_worthOf_26 : decode cX11_worthOf 26 = .ok (.iaload, 1) := by decide +kernel
theorem dX11_worthOf_27 : decode cX11_worthOf 27 = .ok (.goto 4, 3) := by decide +kernel
theorem dX11_worthOf_30 : decode cX11_worthOf 30 = .ok (.iconst 0, 1) := by decide +kernel
theorem dX11_worthOf_31 : decode cX11_worthOf 31 = .ok (.iadd, 1) := by decide +kernel
theorem dX11_worthOf_32 : decode cX11_worthOf 32 = .ok (.istore_n 2, 1) := by decide +kernel
theorem dX11_worthOf_33 : decode cX11_worthOf 33 = .ok (.iinc 3 1, 3) := by decide +kernel
theorem dX11_worthOf_36 : decode cX11_worthOf 36 = .ok (.goto (-32), 3) := by decide +kernel
theorem dX11_worthOf_39 : decode cX11_worthOf 39 = .ok (.iload_n 2, 1) := by decide +kernel
theorem dX11_worthOf_40 : decode cX11_worthOf 40 = .ok (.ireturn, 1) := by decide +kernel
theorem dX11_places_0 : decode cX11_places 0 = .ok (.iload_n 1, 1) := by decide +kernel
theorem dX11_places_1 : decode cX11_places 1 = .ok (.i2l, 1) := by decide +kernel
theorem dX11_places_2 : decode cX11_places 2 = .ok (.lconst 1, 1) := by decide +kernel
theorem dX11_places_3 : decode cX11_places 3 = .ok (.ldc2_w 420, 3) := by decide +kernel
theorem dX11_places_6 : decode cX11_places 6 = .ok (.invokestatic 156, 3) := by decide +kernel
theorem dX11_places_9 : decode cX11_places 9 = .ok (.ifCond .eq 23, 3) := by decide +kernel
theorem dX11_places_12 : decode cX11_places 12 = .ok (.iload_n 2, 1) := by decide +kernel
theorem dX11_places_13 : decode cX11_places 13 = .ok (.iconst (-1), 1) := by decide +kernel
theorem dX11_places_14 : decode cX11_places 14 = .ok (.if_icmp .eq 8, 3) := by decide +kernel
theorem dX11_places_17 : decode cX11_places 17 = .ok (.iload_n 2, 1) := by decide +kernel
theorem dX11_places_18 : decode cX11_places 18 = .ok (.iconst 1, 1) := by decide +kernel
theorem dX11_places_19 : decode cX11_places 19 = .ok (.if_icmp .ne 13, 3) := by decide +kernel
theorem dX11_places_22 : decode cX11_places 22 = .ok (.iconst 2, 1) := by decide +kernel
theorem dX11_places_23 : decode cX11_places 23 = .ok (.iload_n 1, 1) := by decide +kernel
theorem dX11_places_24 : decode cX11_places 24 = .ok (.imul, 1) := by decide +kernel
theorem dX11_places_25 : decode cX11_places 25 = .ok (.aload_n 0, 1) := by decide +kernel
theorem dX11_places_26 : decode cX11_places 26 = .ok (.getfield 190, 3) := by decide +kernel
theorem dX11_places_29 : decode cX11_places 29 = .ok (.if_icmp .le 6, 3) := by decide +kernel
theorem dX11_places_32 : decode cX11_places 32 = .ok (.bipush (-3), 2) := by decide +kernel
theorem dX11_places_34 : decode cX11_places 34 = .ok (.ireturn, 1) := by decide +kernel
theorem dX11_places_35 : decode cX11_places 35 = .ok (.aload_n 0, 1) := by decide +kernel
theorem dX11_places_36 : decode cX11_places 36 = .ok (.iload_n 1, 1) := by decide +kernel
theorem dX11_places_37 : decode cX11_places 37 = .ok (.invokevirtual 468, 3) := by decide +kernel
theorem dX11_places_40 : decode cX11_places 40 = .ok (.ifCond .eq 6, 3) := by decide +kernel
theorem dX11_places_43 : decode cX11_places 43 = .ok (.bipush (-2), 2) := by decide +kernel
theorem dX11_places_45 : decode cX11_places 45 = .ok (.ireturn, 1) := by decide +kernel
theorem dX11_places_46 : decode cX11_places 46 = .ok (.iconst 0, 1) := by decide +kernel
theorem dX11_places_47 : decode cX11_places 47 = .ok (.istore_n 3, 1) := by decide +kernel
theorem dX11_places_48 : decode cX11_places 48 = .ok (.iconst 0, 1) := by decide +kernel
theorem dX11_places_49 : decode cX11_places 49 = .ok (.istore 4, 2) := by decide +kernel
theorem dX11_places_51 : decode cX11_places 51 = .ok (.iload 4, 2) := by decide +kernel
theorem dX11_places_53 : decode cX11_places 53 = .ok (.iload_n 1, 1) := by decide +kernel
theorem dX11_places_54 : decode cX11_places 54 = .ok (.if_icmp .ge 34, 3) := by decide +kernel
theorem dX11_places_57 : decode cX11_places 57 = .ok (.iload_n 3, 1) := by decide +kernel
theorem dX11_places_58 : decode cX11_places 58 = .ok (.aload_n 0, 1) := by decide +kernel
theorem dX11_places_59 : decode cX11_places 59 = .ok (.aload_n 0, 1) := by decide +kernel
theorem dX11_places_60 : decode cX11_places 60 = .ok (.getfield 115, 3) := by decide +kernel
theorem dX11_places_63 : decode cX11_places 63 = .ok (.iload 4, 2) := by decide +kernel
theorem dX11_places_65 : decode cX11_places 65 = .ok (.iaload, 1) := by decide +kernel
theorem dX11_places_66 : decode cX11_places 66 = .ok (.invokevirtual 471, 3) := by decide +kernel
theorem dX11_places_69 : decode cX11_places 69 = .ok (.ifCond .eq 10, 3) := by decide +kernel
theorem dX11_places_72 : decode cX11_places 72 = .ok (.iconst 1, 1) := by decide +kernel
theorem dX11_places_73 : decode cX11_places 73 = .ok (.iload 4, 2) := by decide +kernel
theorem dX11_places_75 : decode cX11_places 75 = .ok (.ishl, 1) := by decide +kernel
theorem dX11_places_76 : decode cX11_places 76 = .ok (.goto 4, 3) := by decide +kernel
theorem dX11_places_79 : decode cX11_places 79 = .ok (.iconst 0, 1) := by decide +kernel
theorem dX11_places_80 : decode cX11_places 80 = .ok (.ior, 1) := by decide +kernel
theorem dX11_places_81 : decode cX11_places 81 = .ok (.istore_n 3, 1) := by decide +kernel
theorem dX11_places_82 : decode cX11_places 82 = .ok (.iinc 4 1, 3) := by decide +kernel
theorem dX11_places_85 : decode cX11_places 85 = .ok (.goto (-34), 3) := by decide +kernel
theorem dX11_places_88 : decode cX11_places 88 = .ok (.iconst 0, 1) := by decide +kernel
theorem dX11_places_89 : decode cX11_places 89 = .ok (.istore 4, 2) := by decide +kernel
theorem dX11_places_91 : decode cX11_places 91 = .ok (.iconst 1, 1) := by decide +kernel
theorem dX11_places_92 : decode cX11_places 92 = .ok (.istore 5, 2) := by decide +kernel
theorem dX11_places_94 : decode cX11_places 94 = .ok (.iload 5, 2) := by decide +kernel
theorem dX11_places_96 : decode cX11_places 96 = .ok (.iconst 1, 1) := by decide +kernel
theorem dX11_places_97 : decode cX11_places 97 = .ok (.iload_n 1, 1) := by decide +kernel
theorem dX11_places_98 : decode cX11_places 98 = .ok (.ishl, 1) := by decide +kernel
theorem dX11_places_99 : decode cX11_places 99 = .ok (.if_icmp .ge 64, 3) := by decide +kernel
theorem dX11_places_102 : decode cX11_places 102 = .ok (.aload_n 0, 1) := by decide +kernel
theorem dX11_places_103 : decode cX11_places 103 = .ok (.iload 5, 2) := by decide +kernel
theorem dX11_places_105 : decode cX11_places 105 = .ok (.invokevirtual 474, 3) := by decide +kernel
theorem dX11_places_108 : decode cX11_places 108 = .ok (.aload_n 0, 1) := by decide +kernel
theorem dX11_places_109 : decode cX11_places 109 = .ok (.iload 4, 2) := by decide +kernel
theorem dX11_places_111 : decode cX11_places 111 = .ok (.invokevirtual 474, 3) := by decide +kernel
theorem dX11_places_114 : decode cX11_places 114 = .ok (.isub, 1) := by decide +kernel
theorem dX11_places_115 : decode cX11_places 115 = .ok (.istore 6, 2) := by decide +kernel
theorem dX11_places_117 : decode cX11_places 117 = .ok (.iload 6, 2) := by decide +kernel
theorem dX11_places_119 : decode cX11_places 119 = .ok (.ifCond .lt 38, 3) := by decide +kernel
theorem dX11_places_122 : decode cX11_places 122 = .ok (.iload 6, 2) := by decide +kernel
theorem dX11_places_124 : decode cX11_places 124 = .ok (.ifCond .ne 16, 3) := by decide +kernel
theorem dX11_places_127 : decode cX11_places 127 = .ok (.iload 5, 2) := by decide +kernel
theorem dX11_places_129 : decode cX11_places 129 = .ok (.invokestatic 477, 3) := by decide +kernel
theorem dX11_places_132 : decode cX11_places 132 = .ok (.iload 4, 2) := by decide +kernel
theorem dX11_places_134 : decode cX11_places 134 = .ok (.invokestatic 477, 3) := by decide +kernel
theorem dX11_places_137 : decode cX11_places 137 = .ok (.if_icmp .ge 20, 3) := by decide +kernel
theorem dX11_places_140 : decode cX11_places 140 = .ok (.aload_n 0, 1) := by decide +kernel
theorem dX11_places_141 : decode cX11_places 141 = .ok (.iload 5, 2) := by decide +kernel
theorem dX11_places_143 : decode cX11_places 143 = .ok (.iload_n 3, 1) := by decide +kernel
theorem dX11_places_144 : decode cX11_places 144 = .ok (.invokevirtual 480, 3) := by decide +kernel
theorem dX11_places_147 : decode cX11_places 147 = .ok (.ifCond .ne 6, 3) := by decide +kernel
theorem dX11_places_150 : decode cX11_places 150 = .ok (.goto 7, 3) := by decide +kernel
theorem dX11_places_153 : decode cX11_places 153 = .ok (.iload 5, 2) := by decide +kernel
theorem dX11_places_155 : decode cX11_places 155 = .ok (.istore 4, 2) := by decide +kernel
theorem dX11_places_157 : decode cX11_places 157 = .ok (.iinc 5 1, 3) := by decide +kernel
theorem dX11_places_160 : decode cX11_places 160 = .ok (.goto (-66), 3) := by decide +kernel
theorem dX11_places_163 : decode cX11_places 163 = .ok (.iload_n 2, 1) := by decide +kernel
theorem dX11_places_164 : decode cX11_places 164 = .ok (.iconst (-1), 1) := by decide +kernel
theorem dX11_places_165 : decode cX11_places 165 = .ok (.if_icmp .ne 12, 3) := by decide +kernel
theorem dX11_places_168 : decode cX11_places 168 = .ok (.aload_n 0, 1) := by decide +kernel
theorem dX11_places_169 : decode cX11_places 169 = .ok (.iload 4, 2) := by decide +kernel
theorem dX11_places_171 : decode cX11_places 171 = .ok (.invokevirtual 474, 3) := by decide +kernel
theorem dX11_places_174 : decode cX11_places 174 = .ok (.goto 5, 3) := by decide +kernel
theorem dX11_places_177 : decode cX11_places 177 = .ok (.iload 4, 2) := by decide +kernel
theorem dX11_places_179 : decode cX11_places 179 = .ok (.ireturn, 1) := by decide +kernel
theorem dX11_timeOf_0 : decode cX11_timeOf 0 = .ok (.iconst 0, 1) := by decide +kernel
theorem dX11_timeOf_1 : decode cX11_timeOf 1 = .ok (.istore_n 2, 1) := by decide +kernel
theorem dX11_timeOf_2 : decode cX11_timeOf 2 = .ok (.iconst 0, 1) := by decide +kernel
theorem dX11_timeOf_3 : decode cX11_timeOf 3 = .ok (.istore_n 3, 1) := by decide +kernel
theorem dX11_timeOf_4 : decode cX11_timeOf 4 = .ok (.iload_n 3, 1) := by decide +kernel
theorem dX11_timeOf_5 : decode cX11_timeOf 5 = .ok (.aload_n 0, 1) := by decide +kernel
theorem dX11_timeOf_6 : decode cX11_timeOf 6 = .ok (.getfield 164, 3) := by decide +kernel
theorem dX11_timeOf_9 : decode cX11_timeOf 9 = .ok (.if_icmp .ge 32, 3) := by decide +kernel
theorem dX11_timeOf_12 : decode cX11_timeOf 12 = .ok (.iload_n 2, 1) := by decide +kernel
theorem dX11_timeOf_13 : decode cX11_timeOf 13 = .ok (.iload_n 1, 1) := by decide +kernel
theorem dX11_timeOf_14 : decode cX11_timeOf 14 = .ok (.iload_n 3, 1) := by decide +kernel
theorem dX11_timeOf_15 : decode cX11_timeOf 15 = .ok (.invokestatic 459, 3) := by decide +kernel
theorem dX11_timeOf_18 : decode cX11_timeOf 18 = .ok (.ifCond .eq 14, 3) := by decide +kernel
theorem dX11_timeOf_21 : decode cX11_timeOf 21 = .ok (.iconst 1, 1) := by decide +kernel
theorem dX11_timeOf_22 : decode cX11_timeOf 22 = .ok (.aload_n 0, 1) := by decide +kernel
theorem dX11_timeOf_23 : decode cX11_timeOf 23 = .ok (.getfield 31, 3) := by decide +kernel
theorem dX11_timeOf_26 : decode cX11_timeOf 26 = .ok (.iload_n 3, 1) := by decide +kernel
theorem dX11_timeOf_27 : decode cX11_timeOf 27 = .ok (.iaload, 1) := by decide +kernel
theorem dX11_timeOf_28 : decode cX11_timeOf 28 = .ok (.iadd, 1) := by decide +kernel
theorem dX11_timeOf_29 : decode cX11_timeOf 29 = .ok (.goto 4, 3) := by decide +kernel
theorem dX11_timeOf_32 : decode cX11_timeOf 32 = .ok (.iconst 0, 1) := by decide +kernel
theorem dX11_timeOf_33 : decode cX11_timeOf 33 = .ok (.iadd, 1) := by decide +kernel
theorem dX11_timeOf_34 : decode cX11_timeOf 34 = .ok (.istore_n 2, 1) := by decide +kernel
theorem dX11_timeOf_35 : decode cX11_timeOf 35 = .ok (.iinc 3 1, 3) := by decide +kernel
theorem dX11_timeOf_38 : decode cX11_timeOf 38 = .ok (.goto (-34), 3) := by decide +kernel
theorem dX11_timeOf_41 : decode cX11_timeOf 41 = .ok (.iload_n 2, 1) := by decide +kernel
theorem dX11_timeOf_42 : decode cX11_timeOf 42 = .ok (.ireturn, 1) := by decide +kernel
theorem dX11_costBy_0 : decode cX11_costBy 0 = .ok (.aload_n 0, 1) := by decide +kernel
theorem dX11_costBy_1 : decode cX11_costBy 1 = .ok (.iload_n 1, 1) := by decide +kernel
theorem dX11_costBy_2 : decode cX11_costBy 2 = .ok (.iconst 1, 1) := by decide +kernel
theorem dX11_costBy_3 : decode cX11_costBy 3 = .ok (.iload_n 2, 1) := by decide +kernel
theorem dX11_costBy_4 : decode cX11_costBy 4 = .ok (.ishl, 1) := by decide +kernel
theorem dX11_costBy_5 : decode cX11_costBy 5 = .ok (.ior, 1) := by decide +kernel
theorem dX11_costBy_6 : decode cX11_costBy 6 = .ok (.invokevirtual 483, 3) := by decide +kernel
theorem dX11_costBy_9 : decode cX11_costBy 9 = .ok (.aload_n 0, 1) := by decide +kernel
theorem dX11_costBy_10 : decode cX11_costBy 10 = .ok (.getfield 124, 3) := by decide +kernel
theorem dX11_costBy_13 : decode cX11_costBy 13 = .ok (.iload_n 2, 1) := by decide +kernel
theorem dX11_costBy_14 : decode cX11_costBy 14 = .ok (.iaload, 1) := by decide +kernel
theorem dX11_costBy_15 : decode cX11_costBy 15 = .ok (.if_icmp .le 7, 3) := by decide +kernel
theorem dX11_costBy_18 : decode cX11_costBy 18 = .ok (.iconst 1, 1) := by decide +kernel
theorem dX11_costBy_19 : decode cX11_costBy 19 = .ok (.goto 4, 3) := by decide +kernel
theorem dX11_costBy_22 : decode cX11_costBy 22 = .ok (.iconst 0, 1) := by decide +kernel
theorem dX11_costBy_23 : decode cX11_costBy 23 = .ok (.istore_n 3, 1) := by decide +kernel
theorem dX11_costBy_24 : decode cX11_costBy 24 = .ok (.iload_n 3, 1) := by decide +kernel
theorem dX11_costBy_25 : decode cX11_costBy 25 = .ok (.ifCond .eq 17, 3) := by decide +kernel
theorem dX11_costBy_28 : decode cX11_costBy 28 = .ok (.bipush 10, 2) := by decide +kernel
theorem dX11_costBy_30 : decode cX11_costBy 30 = .ok (.iconst 5, 1) := by decide +kernel
theorem dX11_costBy_31 : decode cX11_costBy 31 = .ok (.aload_n 0, 1) := by decide +kernel
theorem dX11_costBy_32 : decode cX11_costBy 32 = .ok (.getfield 34, 3) := by decide +kernel
theorem dX11_costBy_35 : decode cX11_costBy 35 = .ok (.iload_n 2, 1) := by decide +kernel
theorem dX11_costBy_36 : decode cX11_costBy 36 = .ok (.iaload, 1) := by decide +kernel
theorem dX11_costBy_37 : decode cX11_costBy 37 = .ok (.imul, 1) := by decide +kernel
theorem dX11_costBy_38 : decode cX11_costBy 38 = .ok (.iadd, 1) := by decide +kernel
theorem dX11_costBy_39 : decode cX11_costBy 39 = .ok (.goto 4, 3) := by decide +kernel
theorem dX11_costBy_42 : decode cX11_costBy 42 = .ok (.iconst 0, 1) := by decide +kernel
theorem dX11_costBy_43 : decode cX11_costBy 43 = .ok (.aload_n 0, 1) := by decide +kernel
theorem dX11_costBy_44 : decode cX11_costBy 44 = .ok (.getfield 127, 3) := by decide +kernel
theorem dX11_costBy_47 : decode cX11_costBy 47 = .ok (.iload_n 1, 1) := by decide +kernel
theorem dX11_costBy_48 : decode cX11_costBy 48 = .ok (.iconst 1, 1) := by decide +kernel
theorem dX11_costBy_49 : decode cX11_costBy 49 = .ok (.iload_n 2, 1) := by decide +kernel
theorem dX11_costBy_50 : decode cX11_costBy 50 = .ok (.ishl, 1) := by decide +kernel
theorem dX11_costBy_51 : decode cX11_costBy 51 = .ok (.ior, 1) := by decide +kernel
theorem dX11_costBy_52 : decode cX11_costBy 52 = .ok (.iaload, 1) := by decide +kernel
theorem dX11_costBy_53 : decode cX11_costBy 53 = .ok (.iadd, 1) := by decide +kernel
theorem dX11_costBy_54 : decode cX11_costBy 54 = .ok (.ireturn, 1) := by decide +kernel
theorem dX11_closing_0 : decode cX11_closing 0 = .ok (.iload_n 1, 1) := by decide +kernel
theorem dX11_closing_1 : decode cX11_closing 1 = .ok (.i2l, 1) := by decide +kernel
theorem dX11_closing_2 : decode cX11_closing 2 = .ok (.lconst 1, 1) := by decide +kernel
theorem dX11_closing_3 : decode cX11_closing 3 = .ok (.iconst 1, 1) := by decide +kernel
theorem dX11_closing_4 : decode cX11_closing 4 = .ok (.aload_n 0, 1) := by decide +kernel
theorem dX11_closing_5 : decode cX11_closing 5 = .ok (.getfield 164, 3) := by decide +kernel
theorem dX11_closing_8 : decode cX11_closing 8 = .ok (.ishl, 1) := by decide +kernel
theorem dX11_closing_9 : decode cX11_closing 9 = .ok (.iconst 1, 1) := by decide +kernel
theorem dX11_closing_10 : decode cX11_closing 10 = .ok (.isub, 1) := by decide +kernel
theorem dX11_closing_11 : decode cX11_closing 11 = .ok (.i2l, 1) := by decide +kernel
theorem dX11_closing_12 : decode cX11_closing 12 = .ok (.invokestatic 156, 3) := by decide +kernel
theorem dX11_closing_15 : decode cX11_closing 15 = .ok (.ifCond .eq 37, 3) := by decide +kernel
theorem dX11_closing_18 : decode cX11_closing 18 = .ok (.iload_n 1, 1) := by decide +kernel
theorem dX11_closing_19 : decode cX11_closing 19 = .ok (.invokestatic 477, 3) := by decide +kernel
theorem dX11_closing_22 : decode cX11_closing 22 = .ok (.bipush 8, 2) := by decide +kernel
theorem dX11_closing_24 : decode cX11_closing 24 = .ok (.if_icmp .gt 28, 3) := by decide +kernel
theorem dX11_closing_27 : decode cX11_closing 27 = .ok (.iload_n 2, 1) := by decide +kernel
theorem dX11_closing_28 : decode cX11_closing 28 = .ok (.invokestatic 441, 3) := by decide +kernel
theorem dX11_closing_31 : decode cX11_closing 31 = .ok (.ifCond .eq 21, 3) := by decide +kernel
theorem dX11_closing_34 : decode cX11_closing 34 = .ok (.iload_n 3, 1) := by decide +kernel
theorem dX11_closing_35 : decode cX11_closing 35 = .ok (.i2l, 1) := by decide +kernel
theorem dX11_closing_36 : decode cX11_closing 36 = .ok (.ldc2_w 486, 3) := by decide +kernel
theorem dX11_closing_39 : decode cX11_closing 39 = .ok (.iload_n 1, 1) := by decide +kernel
theorem dX11_closing_40 : decode cX11_closing 40 = .ok (.invokestatic 477, 3) := by decide +kernel
theorem dX11_closing_43 : decode cX11_closing 43 = .ok (.iconst 1, 1) := by decide +kernel
theorem dX11_closing_44 : decode cX11_closing 44 = .ok (.isub, 1) := by decide +kernel
theorem dX11_closing_45 : decode cX11_closing 45 = .ok (.i2l, 1) := by decide +kernel
theorem dX11_closing_46 : decode cX11_closing 46 = .ok (.invokestatic 156, 3) := by decide +kernel
theorem dX11_closing_49 : decode cX11_closing 49 = .ok (.ifCond .ne 6, 3) := by decide +kernel
theorem dX11_closing_52 : decode cX11_closing 52 = .ok (.bipush (-3), 2) := by decide +kernel
theorem dX11_closing_54 : decode cX11_closing 54 = .ok (.ireturn, 1) := by decide +kernel
theorem dX11_closing_55 : decode cX11_closing 55 = .ok (.iconst 0, 1) := by decide +kernel
theorem dX11_closing_56 : decode cX11_closing 56 = .ok (.istore 4, 2) := by decide +kernel
theorem dX11_closing_58 : decode cX11_closing 58 = .ok (.iload 4, 2) := by decide +kernel
theorem dX11_closing_60 : decode cX11_closing 60 = .ok (.aload_n 0, 1) := by decide +kernel
theorem dX11_closing_61 : decode cX11_closing 61 = .ok (.getfield 164, 3) := by decide +kernel
theorem dX11_closing_64 : decode cX11_closing 64 = .ok (.if_icmp .ge 47, 3) := by decide +kernel
theorem dX11_closing_67 : decode cX11_closing 67 = .ok (.iload_n 1, 1) := by decide +kernel
theorem dX11_closing_68 : decode cX11_closing 68 = .ok (.iload 4, 2) := by decide +kernel
theorem dX11_closing_70 : decode cX11_closing 70 = .ok (.invokestatic 459, 3) := by decide +kernel
theorem dX11_closing_73 : decode cX11_closing 73 = .ok (.ifCond .ne 6, 3) := by decide +kernel
theorem dX11_closing_76 : decode cX11_closing 76 = .ok (.goto 29, 3) := by decide +kernel
theorem dX11_closing_79 : decode cX11_closing 79 = .ok (.aload_n 0, 1) := by decide +kernel
theorem dX11_closing_80 : decode cX11_closing 80 = .ok (.iload 4, 2) := by decide +kernel
theorem dX11_closing_82 : decode cX11_closing 82 = .ok (.invokevirtual 379, 3) := by decide +kernel
theorem dX11_closing_85 : decode cX11_closing 85 = .ok (.ifCond .ne 6, 3) := by decide +kernel
theorem dX11_closing_88 : decode cX11_closing 88 = .ok (.bipush (-2), 2) := by decide +kernel
theorem dX11_closing_90 : decode cX11_closing 90 = .ok (.ireturn, 1) := by decide +kernel
theorem dX11_closing_91 : decode cX11_closing 91 = .ok (.aload_n 0, 1) := by decide +kernel
theorem dX11_closing_92 : decode cX11_closing 92 = .ok (.getfield 124, 3) := by decide +kernel
theorem dX11_closing_95 : decode cX11_closing 95 = .ok (.iload 4, 2) := by decide +kernel
theorem dX11_closing_97 : decode cX11_closing 97 = .ok (.aload_n 0, 1) := by decide +kernel
theorem dX11_closing_98 : decode cX11_closing 98 = .ok (.iload 4, 2) := by decide +kernel
theorem dX11_closing_100 : decode cX11_closing 100 = .ok (.iload_n 2, 1) := by decide +kernel
theorem dX11_closing_101 : decode cX11_closing 101 = .ok (.invokevirtual 444, 3) := by decide +kernel
theorem dX11_closing_104 : decode cX11_closing 104 = .ok (.iastore, 1) := by decide +kernel
theorem dX11_closing_105 : decode cX11_closing 105 = .ok (.iinc 4 1, 3) := by decide +kernel
theorem dX11_closing_108 : decode cX11_closing 108 = .ok (.goto (-50), 3) := by decide +kernel
theorem dX11_closing_111 : decode cX11_closing 111 = .ok (.iload_n 1, 1) := by decide +kernel
theorem dX11_closing_112 : decode cX11_closing 112 = .ok (.istore 4, 2) := by decide +kernel
theorem dX11_closing_114 : decode cX11_closing 114 = .ok (.iload 4, 2) := by decide +kernel
theorem dX11_closing_116 : decode cX11_closing 116 = .ok (.ifCond .lt 106, 3) := by decide +kernel
theorem dX11_closing_119 : decode cX11_closing 119 = .ok (.iload 4, 2) := by decide +kernel
theorem dX11_closing_121 : decode cX11_closing 121 = .ok (.iload_n 1, 1) := by decide +kernel
theorem dX11_closing_122 : decode cX11_closing 122 = .ok (.iconst (-1), 1) := by decide +kernel
theorem dX11_closing_123 : decode cX11_closing 123 = .ok (.ixor, 1) := by decide +kernel
theorem dX11_closing_124 : decode cX11_closing 124 = .ok (.iand, 1) := by decide +kernel
theorem dX11_closing_125 : decode cX11_closing 125 = .ok (.ifCond .eq 6, 3) := by decide +kernel
theorem dX11_closing_128 : decode cX11_closing 128 = .ok (.goto 88, 3) := by decide +kernel
theorem dX11_closing_131 : decode cX11_closing 131 = .ok (.aload_n 0, 1) := by decide +kernel
theorem dX11_closing_132 : decode cX11_closing 132 = .ok (.getfield 127, 3) := by decide +kernel
theorem dX11_closing_135 : decode cX11_closing 135 = .ok (.iload 4, 2) := by decide +kernel
theorem dX11_closing_137 : decode cX11_closing 137 = .ok (.iload 4, 2) := by decide +kernel
theorem dX11_closing_139 : decode cX11_closing 139 = .ok (.iload_n 1, 1) := by decide +kernel
theorem dX11_closing_140 : decode cX11_closing 140 = .ok (.if_icmp .ne 7, 3) := by decide +kernel
theorem dX11_closing_143 : decode cX11_closing 143 = .ok (.iconst 0, 1) := by decide +kernel
theorem dX11_closing_144 : decode cX11_closing 144 = .ok (.goto 6, 3) := by decide +kernel
theorem dX11_closing_147 : decode cX11_closing 147 = .ok (.ldc_w 488, 3) := by decide +kernel
theorem dX11_closing_150 : decode cX11_closing 150 = .ok (.iastore, 1) := by decide +kernel
theorem dX11_closing_151 : decode cX11_closing 151 = .ok (.iconst 0, 1) := by decide +kernel
theorem dX11_closing_152 : decode cX11_closing 152 = .ok (.istore 5, 2) := by decide +kernel
theorem dX11_closing_154 : decode cX11_closing 154 = .ok (.iload 5, 2) := by decide +kernel
theorem dX11_closing_156 : decode cX11_closing 156 = .ok (.aload_n 0, 1) := by decide +kernel
theorem dX11_closing_157 : decode cX11_closing 157 = .ok (.getfield 164, 3) := by decide +kernel
theorem dX11_closing_160 : decode cX11_closing 160 = .ok (.if_icmp .ge 56, 3) := by decide +kernel
theorem dX11_closing_163 : decode cX11_closing 163 = .ok (.iload_n 1, 1) := by decide +kernel
theorem dX11_closing_164 : decode cX11_closing 164 = .ok (.iload 4, 2) := by decide +kernel
theorem dX11_closing_166 : decode cX11_closing 166 = .ok (.iconst (-1), 1) := by decide +kernel
theorem dX11_closing_167 : decode cX11_closing 167 = .ok (.ixor, 1) := by decide +kernel
theorem dX11_closing_168 : decode cX11_closing 168 = .ok (.iand, 1) := by decide +kernel
theorem dX11_closing_169 : decode cX11_closing 169 = .ok (.iload 5, 2) := by decide +kernel
theorem dX11_closing_171 : decode cX11_closing 171 = .ok (.invokestatic 459, 3) := by decide +kernel
theorem dX11_closing_174 : decode cX11_closing 174 = .ok (.ifCond .eq 36, 3) := by decide +kernel
theorem dX11_closing_177 : decode cX11_closing 177 = .ok (.aload_n 0, 1) := by decide +kernel
theorem dX11_closing_178 : decode cX11_closing 178 = .ok (.iload 4, 2) := by decide +kernel
theorem dX11_closing_180 : decode cX11_closing 180 = .ok (.iload 5, 2) := by decide +kernel
theorem dX11_closing_182 : decode cX11_closing 182 = .ok (.invokevirtual 489, 3) := by decide +kernel
theorem dX11_closing_185 : decode cX11_closing 185 = .ok (.aload_n 0, 1) := by decide +kernel
theorem dX11_closing_186 : decode cX11_closing 186 = .ok (.getfield 127, 3) := by decide +kernel
theorem dX11_closing_189 : decode cX11_closing 189 = .ok (.iload 4, 2) := by decide +kernel
theorem dX11_closing_191 : decode cX11_closing 191 = .ok (.iaload, 1) := by decide +kernel
theorem dX11_closing_192 : decode cX11_closing 192 = .ok (.if_icmp .ge 18, 3) := by decide +kernel
theorem dX11_closing_195 : decode cX11_closing 195 = .ok (.aload_n 0, 1) := by decide +kernel
theorem dX11_closing_196 : decode cX11_closing 196 = .ok (.getfield 127, 3) := by decide +kernel
theorem dX11_closing_199 : decode cX11_closing 199 = .ok (.iload 4, 2) := by decide +kernel
theorem dX11_closing_201 : decode cX11_closing 201 = .ok (.aload_n 0, 1) := by decide +kernel
theorem dX11_closing_202 : decode cX11_closing 202 = .ok (.iload 4, 2) := by decide +kernel
theorem dX11_closing_204 : decode cX11_closing 204 = .ok (.iload 5, 2) := by decide +kernel
theorem dX11_closing_206 : decode cX11_closing 206 = .ok (.invokevirtual 489, 3) := by decide +kernel
theorem dX11_closing_209 : decode cX11_closing 209 = .ok (.iastore, 1) := by decide +kernel
theorem dX11_closing_210 : decode cX11_closing 210 = .ok (.iinc 5 1, 3) := by decide +kernel
theorem dX11_closing_213 : decode cX11_closing 213 = .ok (.goto (-59), 3) := by decide +kernel
theorem dX11_closing_216 : decode cX11_closing 216 = .ok (.iinc 4 (-1), 3) := by decide +kernel
theorem dX11_closing_219 : decode cX11_closing 219 = .ok (.goto (-105), 3) := by decide +kernel
theorem dX11_closing_222 : decode cX11_closing 222 = .ok (.iload_n 3, 1) := by decide +kernel
theorem dX11_closing_223 : decode cX11_closing 223 = .ok (.iconst (-1), 1) := by decide +kernel
theorem dX11_closing_224 : decode cX11_closing 224 = .ok (.if_icmp .ne 10, 3) := by decide +kernel
theorem dX11_closing_227 : decode cX11_closing 227 = .ok (.aload_n 0, 1) := by decide +kernel
theorem dX11_closing_228 : decode cX11_closing 228 = .ok (.getfield 127, 3) := by decide +kernel
theorem dX11_closing_231 : decode cX11_closing 231 = .ok (.iconst 0, 1) := by decide +kernel
theorem dX11_closing_232 : decode cX11_closing 232 = .ok (.iaload, 1) := by decide +kernel
theorem dX11_closing_233 : decode cX11_closing 233 = .ok (.ireturn, 1) := by decide +kernel
theorem dX11_closing_234 : decode cX11_closing 234 = .ok (.iconst 0, 1) := by decide +kernel
theorem dX11_closing_235 : decode cX11_closing 235 = .ok (.istore 4, 2) := by decide +kernel
theorem dX11_closing_237 : decode cX11_closing 237 = .ok (.iconst 0, 1) := by decide +kernel
theorem dX11_closing_238 : decode cX11_closing 238 = .ok (.istore 5, 2) := by decide +kernel
theorem dX11_closing_240 : decode cX11_closing 240 = .ok (.iconst 0, 1) := by decide +kernel
theorem dX11_closing_241 : decode cX11_closing 241 = .ok (.istore 6, 2) := by decide +kernel
theorem dX11_closing_243 : decode cX11_closing 243 = .ok (.iload 6, 2) := by decide +kernel
theorem dX11_closing_245 : decode cX11_closing 245 = .ok (.iload_n 3, 1) := by decide +kernel
theorem dX11_closing_246 : decode cX11_closing 246 = .ok (.if_icmp .gt 59, 3) := by decide +kernel
theorem dX11_closing_249 : decode cX11_closing 249 = .ok (.iconst 0, 1) := by decide +kernel
theorem dX11_closing_250 : decode cX11_closing 250 = .ok (.istore 5, 2) := by decide +kernel
theorem dX11_closing_252 : decode cX11_closing 252 = .ok (.iload_n 1, 1) := by decide +kernel
theorem dX11_closing_253 : decode cX11_closing 253 = .ok (.iload 4, 2) := by decide +kernel
theorem dX11_closing_255 : decode cX11_closing 255 = .ok (.iconst (-1), 1) := by decide +kernel
theorem dX11_closing_256 : decode cX11_closing 256 = .ok (.ixor, 1) := by decide +kernel
theorem dX11_closing_257 : decode cX11_closing 257 = .ok (.iand, 1) := by decide +kernel
theorem dX11_closing_258 : decode cX11_closing 258 = .ok (.iload 5, 2) := by decide +kernel
theorem dX11_closing_260 : decode cX11_closing 260 = .ok (.invokestatic 459, 3) := by decide +kernel
theorem dX11_closing_263 : decode cX11_closing 263 = .ok (.ifCond .eq 21, 3) := by decide +kernel
theorem dX11_closing_266 : decode cX11_closing 266 = .ok (.aload_n 0, 1) := by decide +kernel
theorem dX11_closing_267 : decode cX11_closing 267 = .ok (.iload 4, 2) := by decide +kernel
theorem dX11_closing_269 : decode cX11_closing 269 = .ok (.iload 5, 2) := by decide +kernel
theorem dX11_closing_271 : decode cX11_closing 271 = .ok (.invokevirtual 489, 3) := by decide +kernel
theorem dX11_closing_274 : decode cX11_closing 274 = .ok (.aload_n 0, 1) := by decide +kernel
theorem dX11_closing_275 : decode cX11_closing 275 = .ok (.getfield 127, 3) := by decide +kernel
theorem dX11_closing_278 : decode cX11_closing 278 = .ok (.iload 4, 2) := by decide +kernel
theorem dX11_closing_280 : decode cX11_closing 280 = .ok (.iaload, 1) := by decide +kernel
theorem dX11_closing_281 : decode cX11_closing 281 = .ok (.if_icmp .eq 9, 3) := by decide +kernel
theorem dX11_closing_284 : decode cX11_closing 284 = .ok (.iinc 5 1, 3) := by decide +kernel
theorem dX11_closing_287 : decode cX11_closing 287 = .ok (.goto (-35), 3) := by decide +kernel
theorem dX11_closing_290 : decode cX11_closing 290 = .ok (.iload 4, 2) := by decide +kernel
theorem dX11_closing_292 : decode cX11_closing 292 = .ok (.iconst 1, 1) := by decide +kernel
theorem dX11_closing_293 : decode cX11_closing 293 = .ok (.iload 5, 2) := by decide +kernel
theorem dX11_closing_295 : decode cX11_closing 295 = .ok (.ishl, 1) := by decide +kernel
theorem dX11_closing_296 : decode cX11_closing 296 = .ok (.ior, 1) := by decide +kernel
theorem dX11_closing_297 : decode cX11_closing 297 = .ok (.istore 4, 2) := by decide +kernel
theorem dX11_closing_299 : decode cX11_closing 299 = .ok (.iinc 6 1, 3) := by decide +kernel
theorem dX11_closing_302 : decode cX11_closing 302 = .ok (.goto (-59), 3) := by decide +kernel
theorem dX11_closing_305 : decode cX11_closing 305 = .ok (.iload 5, 2) := by decide +kernel
theorem dX11_closing_307 : decode cX11_closing 307 = .ok (.ireturn, 1) := by decide +kernel
theorem dX11_beside_0 : decode cX11_beside 0 = .ok (.iload_n 1, 1) := by decide +kernel
theorem dX11_beside_1 : decode cX11_beside 1 = .ok (.ifCond .ne 12, 3) := by decide +kernel
theorem dX11_beside_4 : decode cX11_beside 4 = .ok (.iload_n 0, 1) := by decide +kernel
theorem dX11_beside_5 : decode cX11_beside 5 = .ok (.iconst 0, 1) := by decide +kernel
theorem dX11_beside_6 : decode cX11_beside 6 = .ok (.iconst (-1), 1) := by decide +kernel
theorem dX11_beside_7 : decode cX11_beside 7 = .ok (.invokestatic 181, 3) := by decide +kernel
theorem dX11_beside_10 : decode cX11_beside 10 = .ok (.goto 37, 3) := by decide +kernel
theorem dX11_beside_13 : decode cX11_beside 13 = .ok (.iload_n 1, 1) := by decide +kernel
theorem dX11_beside_14 : decode cX11_beside 14 = .ok (.iconst 1, 1) := by decide +kernel
theorem dX11_beside_15 : decode cX11_beside 15 = .ok (.if_icmp .ne 12, 3) := by decide +kernel
theorem dX11_beside_18 : decode cX11_beside 18 = .ok (.iload_n 0, 1) := by decide +kernel
theorem dX11_beside_19 : decode cX11_beside 19 = .ok (.iconst (-1), 1) := by decide +kernel
theorem dX11_beside_20 : decode cX11_beside 20 = .ok (.iconst 0, 1) := by decide +kernel
theorem dX11_beside_21 : decode cX11_beside 21 = .ok (.invokestatic 181, 3) := by decide +kernel
theorem dX11_beside_24 : decode cX11_beside 24 = .ok (.goto 23, 3) := by decide +kernel
theorem dX11_beside_27 : decode cX11_beside 27 = .ok (.iload_n 1, 1) := by decide +kernel
theorem dX11_beside_28 : decode cX11_beside 28 = .ok (.iconst 2, 1) := by decide +kernel
theorem dX11_beside_29 : decode cX11_beside 29 = .ok (.if_icmp .ne 12, 3) := by decide +kernel
theorem dX11_beside_32 : decode cX11_beside 32 = .ok (.iload_n 0, 1) := by decide +kernel
theorem dX11_beside_33 : decode cX11_beside 33 = .ok (.iconst 1, 1) := by decide +kernel
theorem dX11_beside_34 : decode cX11_beside 34 = .ok (.iconst 0, 1) := by decide +kernel
theorem dX11_beside_35 : decode cX11_beside 35 = .ok (.invokestatic 181, 3) := by decide +kernel
theorem dX11_beside_38 : decode cX11_beside 38 = .ok (.goto 9, 3) := by decide +kernel
theorem dX11_beside_41 : decode cX11_beside 41 = .ok (.iload_n 0, 1) := by decide +kernel
theorem dX11_beside_42 : decode cX11_beside 42 = .ok (.iconst 0, 1) := by decide +kernel
theorem dX11_beside_43 : decode cX11_beside 43 = .ok (.iconst 1, 1) := by decide +kernel
theorem dX11_beside_44 : decode cX11_beside 44 = .ok (.invokestatic 181, 3) := by decide +kernel
theorem dX11_beside_47 : decode cX11_beside 47 = .ok (.ireturn, 1) := by decide +kernel
theorem dX11_takesBy_0 : decode cX11_takesBy 0 = .ok (.iload_n 1, 1) := by decide +kernel
theorem dX11_takesBy_1 : decode cX11_takesBy 1 = .ok (.iload_n 2, 1) := by decide +kernel
theorem dX11_takesBy_2 : decode cX11_takesBy 2 = .ok (.invokestatic 492, 3) := by decide +kernel
theorem dX11_takesBy_5 : decode cX11_takesBy 5 = .ok (.istore_n 3, 1) := by decide +kernel
theorem dX11_takesBy_6 : decode cX11_takesBy 6 = .ok (.iload_n 3, 1) := by decide +kernel
theorem dX11_takesBy_7 : decode cX11_takesBy 7 = .ok (.iconst (-1), 1) := by decide +kernel
theorem dX11_takesBy_8 : decode cX11_takesBy 8 = .ok (.if_icmp .eq 15, 3) := by decide +kernel
theorem dX11_takesBy_11 : decode cX11_takesBy 11 = .ok (.aload_n 0, 1) := by decide +kernel
theorem dX11_takesBy_12 : decode cX11_takesBy 12 = .ok (.getfield 130, 3) := by decide +kernel
theorem dX11_takesBy_15 : decode cX11_takesBy 15 = .ok (.iload_n 3, 1) := by decide +kernel
theorem dX11_takesBy_16 : decode cX11_takesBy 16 = .ok (.iaload, 1) := by decide +kernel
theorem dX11_takesBy_17 : decode cX11_takesBy 17 = .ok (.ldc_w 488, 3) := by decide +kernel
theorem dX11_takesBy_20 : decode cX11_takesBy 20 = .ok (.if_icmp .ne 9, 3) := by decide +kernel
theorem dX11_takesBy_23 : decode cX11_takesBy 23 = .ok (.ldc_w 488, 3) := by decide +kernel
theorem dX11_takesBy_26 : decode cX11_takesBy 26 = .ok (.goto 18, 3) := by decide +kernel
theorem dX11_takesBy_29 : decode cX11_takesBy 29 = .ok (.aload_n 0, 1) := by decide +kernel
theorem dX11_takesBy_30 : decode cX11_takesBy 30 = .ok (.getfield 133, 3) := by decide +kernel
theorem dX11_takesBy_33 : decode cX11_takesBy 33 = .ok (.iload_n 1, 1) := by decide +kernel
theorem dX11_takesBy_34 : decode cX11_takesBy 34 = .ok (.iaload, 1) := by decide +kernel
theorem dX11_takesBy_35 : decode cX11_takesBy 35 = .ok (.iconst 1, 1) := by decide +kernel
theorem dX11_takesBy_36 : decode cX11_takesBy 36 = .ok (.iadd, 1) := by decide +kernel
theorem dX11_takesBy_37 : decode cX11_takesBy 37 = .ok (.aload_n 0, 1) := by decide +kernel
theorem dX11_takesBy_38 : decode cX11_takesBy 38 = .ok (.getfield 130, 3) := by decide +kernel
theorem dX11_takesBy_41 : decode cX11_takesBy 41 = .ok (.iload_n 3, 1) := by decide +kernel
theorem dX11_takesBy_42 : decode cX11_takesBy 42 = .ok (.iaload, 1) := by decide +kernel
theorem dX11_takesBy_43 : decode cX11_takesBy 43 = .ok (.iadd, 1) := by decide +kernel
theorem dX11_takesBy_44 : decode cX11_takesBy 44 = .ok (.ireturn, 1) := by decide +kernel
theorem dX11_laysTakes_0 : decode cX11_laysTakes 0 = .ok (.iconst 0, 1) := by decide +kernel
theorem dX11_laysTakes_1 : decode cX11_laysTakes 1 = .ok (.istore_n 3, 1) := by decide +kernel
theorem dX11_laysTakes_2 : decode cX11_laysTakes 2 = .ok (.iload_n 3, 1) := by decide +kernel
theorem dX11_laysTakes_3 : decode cX11_laysTakes 3 = .ok (.sipush 256, 3) := by decide +kernel
theorem dX11_laysTakes_6 : decode cX11_laysTakes 6 = .ok (.if_icmp .ge 77, 3) := by decide +kernel
theorem dX11_laysTakes_9 : decode cX11_laysTakes 9 = .ok (.aload_n 0, 1) := by decide +kernel
theorem dX11_laysTakes_10 : decode cX11_laysTakes 10 = .ok (.iload_n 3, 1) := by decide +kernel
theorem dX11_laysTakes_11 : decode cX11_laysTakes 11 = .ok (.invokevirtual 185, 3) := by decide +kernel
theorem dX11_laysTakes_14 : decode cX11_laysTakes 14 = .ok (.ifCond .eq 11, 3) := by decide +kernel
theorem dX11_laysTakes_17 : decode cX11_laysTakes 17 = .ok (.aload_n 0, 1) := by decide +kernel
theorem dX11_laysTakes_18 : decode cX11_laysTakes 18 = .ok (.iload_n 3, 1) := by decide +kernel
theorem dX11_laysTakes_19 : decode cX11_laysTakes 19 = .ok (.invokevirtual 385, 3) := by decide +kernel
theorem dX11_laysTakes_22 : decode cX11_laysTakes 22 = .ok (.goto 4, 3) := by decide +kernel
theorem dX11_laysTakes_25 : decode cX11_laysTakes 25 = .ok (.iconst (-1), 1) := by decide +kernel
theorem dX11_laysTakes_26 : decode cX11_laysTakes 26 = .ok (.istore 4, 2) := by decide +kernel
theorem dX11_laysTakes_28 : decode cX11_laysTakes 28 = .ok (.aload_n 0, 1) := by decide +kernel
theorem dX11_laysTakes_29 : decode cX11_laysTakes 29 = .ok (.getfield 133, 3) := by decide +kernel
theorem dX11_laysTakes_32 : decode cX11_laysTakes 32 = .ok (.iload_n 3, 1) := by decide +kernel
theorem dX11_laysTakes_33 : decode cX11_laysTakes 33 = .ok (.iload 4, 2) := by decide +kernel
theorem dX11_laysTakes_35 : decode cX11_laysTakes 35 = .ok (.iconst (-1), 1) := by decide +kernel
theorem dX11_laysTakes_36 : decode cX11_laysTakes 36 = .ok (.if_icmp .eq 12, 3) := by decide +kernel
theorem dX11_laysTakes_39 : decode cX11_laysTakes 39 = .ok (.iload 4, 2) := by decide +kernel
theorem dX11_laysTakes_41 : decode cX11_laysTakes 41 = .ok (.bipush 100, 2) := by decide +kernel
theorem dX11_laysTakes_43 : decode cX11_laysTakes 43 = .ok (.iadd, 1) := by decide +kernel
theorem dX11_laysTakes_44 : decode cX11_laysTakes 44 = .ok (.iload_n 2, 1) := by decide +kernel
theorem dX11_laysTakes_45 : decode cX11_laysTakes 45 = .ok (.if_icmp .ge 9, 3) := by decide +kernel
theorem dX11_laysTakes_48 : decode cX11_laysTakes 48 = .ok (.ldc_w 488, 3) := by decide +kernel
theorem dX11_laysTakes_51 : decode cX11_laysTakes 51 = .ok (.goto 16, 3) := by decide +kernel
theorem dX11_laysTakes_54 : decode cX11_laysTakes 54 = .ok (.iload 4, 2) := by decide +kernel
theorem dX11_laysTakes_56 : decode cX11_laysTakes 56 = .ok (.iload_n 2, 1) := by decide +kernel
theorem dX11_laysTakes_57 : decode cX11_laysTakes 57 = .ok (.if_icmp .ge 9, 3) := by decide +kernel
theorem dX11_laysTakes_60 : decode cX11_laysTakes 60 = .ok (.sipush 1000, 3) := by decide +kernel
theorem dX11_laysTakes_63 : decode cX11_laysTakes 63 = .ok (.goto 4, 3) := by decide +kernel
theorem dX11_laysTakes_66 : decode cX11_laysTakes 66 = .ok (.iconst 0, 1) := by decide +kernel
theorem dX11_laysTakes_67 : decode cX11_laysTakes 67 = .ok (.iastore, 1) := by decide +kernel
theorem dX11_laysTakes_68 : decode cX11_laysTakes 68 = .ok (.aload_n 0, 1) := by decide +kernel
theorem dX11_laysTakes_69 : decode cX11_laysTakes 69 = .ok (.getfield 130, 3) := by decide +kernel
theorem dX11_laysTakes_72 : decode cX11_laysTakes 72 = .ok (.iload_n 3, 1) := by decide +kernel
theorem dX11_laysTakes_73 : decode cX11_laysTakes 73 = .ok (.ldc_w 488, 3) := by decide +kernel
theorem dX11_laysTakes_76 : decode cX11_laysTakes 76 = .ok (.iastore, 1) := by decide +kernel
theorem dX11_laysTakes_77 : decode cX11_laysTakes 77 = .ok (.iinc 3 1, 3) := by decide +kernel
theorem dX11_laysTakes_80 : decode cX11_laysTakes 80 = .ok (.goto (-78), 3) := by decide +kernel
theorem dX11_laysTakes_83 : decode cX11_laysTakes 83 = .ok (.aload_n 0, 1) := by decide +kernel
theorem dX11_laysTakes_84 : decode cX11_laysTakes 84 = .ok (.getfield 130, 3) := by decide +kernel
theorem dX11_laysTakes_87 : decode cX11_laysTakes 87 = .ok (.iload_n 1, 1) := by decide +kernel
theorem dX11_laysTakes_88 : decode cX11_laysTakes 88 = .ok (.aload_n 0, 1) := by decide +kernel
theorem dX11_laysTakes_89 : decode cX11_laysTakes 89 = .ok (.getfield 133, 3) := by decide +kernel
theorem dX11_laysTakes_92 : decode cX11_laysTakes 92 = .ok (.iload_n 1, 1) := by decide +kernel
theorem dX11_laysTakes_93 : decode cX11_laysTakes 93 = .ok (.iaload, 1) := by decide +kernel
theorem dX11_laysTakes_94 : decode cX11_laysTakes 94 = .ok (.iastore, 1) := by decide +kernel
theorem dX11_laysTakes_95 : decode cX11_laysTakes 95 = .ok (.aload_n 0, 1) := by decide +kernel
theorem dX11_laysTakes_96 : decode cX11_laysTakes 96 = .ok (.getfield 133, 3) := by decide +kernel
theorem dX11_laysTakes_99 : decode cX11_laysTakes 99 = .ok (.iload_n 1, 1) := by decide +kernel
theorem dX11_laysTakes_100 : decode cX11_laysTakes 100 = .ok (.iaload, 1) := by decide +kernel
theorem dX11_laysTakes_101 : decode cX11_laysTakes 101 = .ok (.ldc_w 488, 3) := by decide +kernel
theorem dX11_laysTakes_104 : decode cX11_laysTakes 104 = .ok (.if_icmp .ge 7, 3) := by decide +kernel
theorem dX11_laysTakes_107 : decode cX11_laysTakes 107 = .ok (.iconst 1, 1) := by decide +kernel
theorem dX11_laysTakes_108 : decode cX11_laysTakes 108 = .ok (.goto 4, 3) := by decide +kernel
theorem dX11_laysTakes_111 : decode cX11_laysTakes 111 = .ok (.iconst 0, 1) := by decide +kernel
theorem dX11_laysTakes_112 : decode cX11_laysTakes 112 = .ok (.istore_n 3, 1) := by decide +kernel
theorem dX11_laysTakes_113 : decode cX11_laysTakes 113 = .ok (.iload_n 3, 1) := by decide +kernel
theorem dX11_laysTakes_114 : decode cX11_laysTakes 114 = .ok (.ifCond .eq 97, 3) := by decide +kernel
theorem dX11_laysTakes_117 : decode cX11_laysTakes 117 = .ok (.iconst 0, 1) := by decide +kernel
theorem dX11_laysTakes_118 : decode cX11_laysTakes 118 = .ok (.istore_n 3, 1) := by decide +kernel
theorem dX11_laysTakes_119 : decode cX11_laysTakes 119 = .ok (.iconst 0, 1) := by decide +kernel
theorem dX11_laysTakes_120 : decode cX11_laysTakes 120 = .ok (.istore 4, 2) := by decide +kernel
theorem dX11_laysTakes_122 : decode cX11_laysTakes 122 = .ok (.iload 4, 2) := by decide +kernel
theorem dX11_laysTakes_124 : decode cX11_laysTakes 124 = .ok (.sipush 256, 3) := by decide +kernel
theorem dX11_laysTakes_127 : decode cX11_laysTakes 127 = .ok (.if_icmp .ge 81, 3) := by decide +kernel
theorem dX11_laysTakes_130 : decode cX11_laysTakes 130 = .ok (.iconst 0, 1) := by decide +kernel
theorem dX11_laysTakes_131 : decode cX11_laysTakes 131 = .ok (.istore 5, 2) := by decide +kernel
theorem dX11_laysTakes_133 : decode cX11_laysTakes 133 = .ok (.iload 5, 2) := by decide +kernel
theorem dX11_laysTakes_135 : decode cX11_laysTakes 135 = .ok (.iconst 4, 1) := by decide +kernel
theorem dX11_laysTakes_136 : decode cX11_laysTakes 136 = .ok (.if_icmp .ge 66, 3) := by decide +kernel
theorem dX11_laysTakes_139 : decode cX11_laysTakes 139 = .ok (.aload_n 0, 1) := by decide +kernel
theorem dX11_laysTakes_140 : decode cX11_laysTakes 140 = .ok (.getfield 133, 3) := by decide +kernel
theorem dX11_laysTakes_143 : decode cX11_laysTakes 143 = .ok (.iload 4, 2) := by decide +kernel
theorem dX11_laysTakes_145 : decode cX11_laysTakes 145 = .ok (.iaload, 1) := by decide +kernel
theorem dX11_laysTakes_146 : decode cX11_laysTakes 146 = .ok (.ldc_w 488, 3) := by decide +kernel
theorem dX11_laysTakes_149 : decode cX11_laysTakes 149 = .ok (.if_icmp .ge 53, 3) := by decide +kernel
theorem dX11_laysTakes_152 : decode cX11_laysTakes 152 = .ok (.iload 4, 2) := by decide +kernel
theorem dX11_laysTakes_154 : decode cX11_laysTakes 154 = .ok (.iload_n 1, 1) := by decide +kernel
theorem dX11_laysTakes_155 : decode cX11_laysTakes 155 = .ok (.if_icmp .eq 47, 3) := by decide +kernel
theorem dX11_laysTakes_158 : decode cX11_laysTakes 158 = .ok (.aload_n 0, 1) := by decide +kernel
theorem dX11_laysTakes_159 : decode cX11_laysTakes 159 = .ok (.iload 4, 2) := by decide +kernel
theorem dX11_laysTakes_161 : decode cX11_laysTakes 161 = .ok (.iload 5, 2) := by decide +kernel
theorem dX11_laysTakes_163 : decode cX11_laysTakes 163 = .ok (.invokevirtual 495, 3) := by decide +kernel
theorem dX11_laysTakes_166 : decode cX11_laysTakes 166 = .ok (.aload_n 0, 1) := by decide +kernel
theorem dX11_laysTakes_167 : decode cX11_laysTakes 167 = .ok (.getfield 130, 3) := by decide +kernel
theorem dX11_laysTakes_170 : decode cX11_laysTakes 170 = .ok (.iload 4, 2) := by decide +kernel
theorem dX11_laysTakes_172 : decode cX11_laysTakes 172 = .ok (.iaload, 1) := by decide +kernel
theorem dX11_laysTakes_173 : decode cX11_laysTakes 173 = .ok (.if_icmp .lt 6, 3) := by decide +kernel
theorem dX11_laysTakes_176 : decode cX11_laysTakes 176 = .ok (.goto 20, 3) := by decide +kernel
theorem dX11_laysTakes_179 : decode cX11_laysTakes 179 = .ok (.aload_n 0, 1) := by decide +kernel
theorem dX11_laysTakes_180 : decode cX11_laysTakes 180 = .ok (.getfield 130, 3) := by decide +kernel
theorem dX11_laysTakes_183 : decode cX11_laysTakes 183 = .ok (.iload 4, 2) := by decide +kernel
theorem dX11_laysTakes_185 : decode cX11_laysTakes 185 = .ok (.aload_n 0, 1) := by decide +kernel
theorem dX11_laysTakes_186 : decode cX11_laysTakes 186 = .ok (.iload 4, 2) := by decide +kernel
theorem dX11_laysTakes_188 : decode cX11_laysTakes 188 = .ok (.iload 5, 2) := by decide +kernel
theorem dX11_laysTakes_190 : decode cX11_laysTakes 190 = .ok (.invokevirtual 495, 3) := by decide +kernel
theorem dX11_laysTakes_193 : decode cX11_laysTakes 193 = .ok (.iastore, 1) := by decide +kernel
theorem dX11_laysTakes_194 : decode cX11_laysTakes 194 = .ok (.iconst 1, 1) := by decide +kernel
theorem dX11_laysTakes_195 : decode cX11_laysTakes 195 = .ok (.istore_n 3, 1) := by decide +kernel
theorem dX11_laysTakes_196 : decode cX11_laysTakes 196 = .ok (.iinc 5 1, 3) := by decide +kernel
theorem dX11_laysTakes_199 : decode cX11_laysTakes 199 = .ok (.goto (-66), 3) := by decide +kernel
theorem dX11_laysTakes_202 : decode cX11_laysTakes 202 = .ok (.iinc 4 1, 3) := by decide +kernel
theorem dX11_laysTakes_205 : decode cX11_laysTakes 205 = .ok (.goto (-83), 3) := by decide +kernel
theorem dX11_laysTakes_208 : decode cX11_laysTakes 208 = .ok (.goto (-95), 3) := by decide +kernel
theorem dX11_laysTakes_211 : decode cX11_laysTakes 211 = .ok (.return_, 1) := by decide +kernel
theorem dX11_rescue_0 : decode cX11_rescue 0 = .ok (.iload_n 1, 1) := by decide +kernel
theorem dX11_rescue_1 : decode cX11_rescue 1 = .ok (.i2l, 1) := by decide +kernel
theorem dX11_rescue_2 : decode cX11_rescue 2 = .ok (.lconst 0, 1) := by decide +kernel
theorem dX11_rescue_3 : decode cX11_rescue 3 = .ok (.ldc2_w 498, 3) := by decide +kernel
theorem dX11_rescue_6 : decode cX11_rescue 6 = .ok (.invokestatic 156, 3) := by decide +kernel
theorem dX11_rescue_9 : decode cX11_rescue 9 = .ok (.ifCond .eq 50, 3) := by decide +kernel
theorem dX11_rescue_12 : decode cX11_rescue 12 = .ok (.iload_n 2, 1) := by decide +kernel
theorem dX11_rescue_13 : decode cX11_rescue 13 = .ok (.i2l, 1) := by decide +kernel
theorem dX11_rescue_14 : decode cX11_rescue 14 = .ok (.lconst 0, 1) := by decide +kernel
theorem dX11_rescue_15 : decode cX11_rescue 15 = .ok (.ldc2_w 498, 3) := by decide +kernel
theorem dX11_rescue_18 : decode cX11_rescue 18 = .ok (.invokestatic 156, 3) := by decide +kernel
theorem dX11_rescue_21 : decode cX11_rescue 21 = .ok (.ifCond .eq 38, 3) := by decide +kernel
theorem dX11_rescue_24 : decode cX11_rescue 24 = .ok (.iload_n 3, 1) := by decide +kernel
theorem dX11_rescue_25 : decode cX11_rescue 25 = .ok (.i2l, 1) := by decide +kernel
theorem dX11_rescue_26 : decode cX11_rescue 26 = .ok (.lconst 1, 1) := by decide +kernel
theorem dX11_rescue_27 : decode cX11_rescue 27 = .ok (.ldc2_w 436, 3) := by decide +kernel
theorem dX11_rescue_30 : decode cX11_rescue 30 = .ok (.invokestatic 156, 3) := by decide +kernel
theorem dX11_rescue_33 : decode cX11_rescue 33 = .ok (.ifCond .eq 26, 3) := by decide +kernel
theorem dX11_rescue_36 : decode cX11_rescue 36 = .ok (.iload 4, 2) := by decide +kernel
theorem dX11_rescue_38 : decode cX11_rescue 38 = .ok (.sipush 500, 3) := by decide +kernel
theorem dX11_rescue_41 : decode cX11_rescue 41 = .ok (.if_icmp .eq 21, 3) := by decide +kernel
theorem dX11_rescue_44 : decode cX11_rescue 44 = .ok (.iload 4, 2) := by decide +kernel
theorem dX11_rescue_46 : decode cX11_rescue 46 = .ok (.i2l, 1) := by decide +kernel
theorem dX11_rescue_47 : decode cX11_rescue 47 = .ok (.ldc2_w 486, 3) := by decide +kernel
theorem dX11_rescue_50 : decode cX11_rescue 50 = .ok (.ldc2_w 498, 3) := by decide +kernel
theorem dX11_rescue_53 : decode cX11_rescue 53 = .ok (.invokestatic 156, 3) := by decide +kernel
theorem dX11_rescue_56 : decode cX11_rescue 56 = .ok (.ifCond .ne 6, 3) := by decide +kernel
theorem dX11_rescue_59 : decode cX11_rescue 59 = .ok (.bipush (-3), 2) := by decide +kernel
theorem dX11_rescue_61 : decode cX11_rescue 61 = .ok (.ireturn, 1) := by decide +kernel
theorem dX11_rescue_62 : decode cX11_rescue 62 = .ok (.aload_n 0, 1) := by decide +kernel
theorem dX11_rescue_63 : decode cX11_rescue 63 = .ok (.iload_n 2, 1) := by decide +kernel
theorem dX11_rescue_64 : decode cX11_rescue 64 = .ok (.iload_n 3, 1) := by decide +kernel
theorem dX11_rescue_65 : decode cX11_rescue 65 = .ok (.invokevirtual 500, 3) := by decide +kernel
theorem dX11_rescue_68 : decode cX11_rescue 68 = .ok (.aload_n 0, 1) := by decide +kernel
theorem dX11_rescue_69 : decode cX11_rescue 69 = .ok (.getfield 130, 3) := by decide +kernel
theorem dX11_rescue_72 : decode cX11_rescue 72 = .ok (.iload_n 1, 1) := by decide +kernel
theorem dX11_rescue_73 : decode cX11_rescue 73 = .ok (.iaload, 1) := by decide +kernel
theorem dX11_rescue_74 : decode cX11_rescue 74 = .ok (.ldc_w 488, 3) := by decide +kernel
theorem dX11_rescue_77 : decode cX11_rescue 77 = .ok (.if_icmp .lt 6, 3) := by decide +kernel
theorem dX11_rescue_80 : decode cX11_rescue 80 = .ok (.bipush (-2), 2) := by decide +kernel
theorem dX11_rescue_82 : decode cX11_rescue 82 = .ok (.ireturn, 1) := by decide +kernel
theorem dX11_rescue_83 : decode cX11_rescue 83 = .ok (.aload_n 0, 1) := by decide +kernel
theorem dX11_rescue_84 : decode cX11_rescue 84 = .ok (.getfield 130, 3) := by decide +kernel
theorem dX11_rescue_87 : decode cX11_rescue 87 = .ok (.iload_n 1, 1) := by decide +kernel
theorem dX11_rescue_88 : decode cX11_rescue 88 = .ok (.iaload, 1) := by decide +kernel
theorem dX11_rescue_89 : decode cX11_rescue 89 = .ok (.sipush 1000, 3) := by decide +kernel
theorem dX11_rescue_92 : decode cX11_rescue 92 = .ok (.irem, 1) := by decide +kernel
theorem dX11_rescue_93 : decode cX11_rescue 93 = .ok (.istore 5, 2) := by decide +kernel
theorem dX11_rescue_95 : decode cX11_rescue 95 = .ok (.iload 4, 2) := by decide +kernel
theorem dX11_rescue_97 : decode cX11_rescue 97 = .ok (.iconst (-1), 1) := by decide +kernel
theorem dX11_rescue_98 : decode cX11_rescue 98 = .ok (.if_icmp .eq 11, 3) := by decide +kernel
theorem dX11_rescue_101 : decode cX11_rescue 101 = .ok (.iload 4, 2) := by decide +kernel
theorem dX11_rescue_103 : decode cX11_rescue 103 = .ok (.sipush 500, 3) := by decide +kernel
theorem dX11_rescue_106 : decode cX11_rescue 106 = .ok (.if_icmp .ne 25, 3) := by decide +kernel
theorem dX11_rescue_109 : decode cX11_rescue 109 = .ok (.iload 4, 2) := by decide +kernel
theorem dX11_rescue_111 : decode cX11_rescue 111 = .ok (.iconst (-1), 1) := by decide +kernel
theorem dX11_rescue_112 : decode cX11_rescue 112 = .ok (.if_icmp .ne 16, 3) := by decide +kernel
theorem dX11_rescue_115 : decode cX11_rescue 115 = .ok (.aload_n 0, 1) := by decide +kernel
theorem dX11_rescue_116 : decode cX11_rescue 116 = .ok (.getfield 130, 3) := by decide +kernel
theorem dX11_rescue_119 : decode cX11_rescue 119 = .ok (.iload_n 1, 1) := by decide +kernel
theorem dX11_rescue_120 : decode cX11_rescue 120 = .ok (.iaload, 1) := by decide +kernel
theorem dX11_rescue_121 : decode cX11_rescue 121 = .ok (.sipush 1000, 3) := by decide +kernel
theorem dX11_rescue_124 : decode cX11_rescue 124 = .ok (.idiv, 1) := by decide +kernel
theorem dX11_rescue_125 : decode cX11_rescue 125 = .ok (.goto 5, 3) := by decide +kernel
theorem dX11_rescue_128 : decode cX11_rescue 128 = .ok (.iload 5, 2) := by decide +kernel
theorem dX11_rescue_130 : decode cX11_rescue 130 = .ok (.ireturn, 1) := by decide +kernel
theorem dX11_rescue_131 : decode cX11_rescue 131 = .ok (.iload 4, 2) := by decide +kernel
theorem dX11_rescue_133 : decode cX11_rescue 133 = .ok (.iload 5, 2) := by decide +kernel
theorem dX11_rescue_135 : decode cX11_rescue 135 = .ok (.if_icmp .le 6, 3) := by decide +kernel
theorem dX11_rescue_138 : decode cX11_rescue 138 = .ok (.bipush (-3), 2) := by decide +kernel
theorem dX11_rescue_140 : decode cX11_rescue 140 = .ok (.ireturn, 1) := by decide +kernel
theorem dX11_rescue_141 : decode cX11_rescue 141 = .ok (.iload_n 1, 1) := by decide +kernel
theorem dX11_rescue_142 : decode cX11_rescue 142 = .ok (.istore 6, 2) := by decide +kernel
theorem dX11_rescue_144 : decode cX11_rescue 144 = .ok (.iconst 0, 1) := by decide +kernel
theorem dX11_rescue_145 : decode cX11_rescue 145 = .ok (.istore 7, 2) := by decide +kernel
theorem dX11_rescue_147 : decode cX11_rescue 147 = .ok (.iload 7, 2) := by decide +kernel
theorem dX11_rescue_149 : decode cX11_rescue 149 = .ok (.iload 4, 2) := by decide +kernel
theorem dX11_rescue_151 : decode cX11_rescue 151 = .ok (.if_icmp .ge 45, 3) := by decide +kernel
theorem dX11_rescue_154 : decode cX11_rescue 154 = .ok (.iconst 0, 1) := by decide +kernel
theorem dX11_rescue_155 : decode cX11_rescue 155 = .ok (.istore 8, 2) := by decide +kernel
theorem dX11_rescue_157 : decode cX11_rescue 157 = .ok (.aload_n 0, 1) := by decide +kernel
theorem dX11_rescue_158 : decode cX11_rescue 158 = .ok (.iload 6, 2) := by decide +kernel
theorem dX11_rescue_160 : decode cX11_rescue 160 = .ok (.iload 8, 2) := by decide +kernel
theorem dX11_rescue_162 : decode cX11_rescue 162 = .ok (.invokevirtual 495, 3) := by decide +kernel
theorem dX11_rescue_165 : decode cX11_rescue 165 = .ok (.aload_n 0, 1) := by decide +kernel
theorem dX11_rescue_166 : decode cX11_rescue 166 = .ok (.getfield 130, 3) := by decide +kernel
theorem dX11_rescue_169 : decode cX11_rescue 169 = .ok (.iload 6, 2) := by decide +kernel
theorem dX11_rescue_171 : decode cX11_rescue 171 = .ok (.iaload, 1) := by decide +kernel
theorem dX11_rescue_172 : decode cX11_rescue 172 = .ok (.if_icmp .eq 9, 3) := by decide +kernel
theorem dX11_rescue_175 : decode cX11_rescue 175 = .ok (.iinc 8 1, 3) := by decide +kernel
theorem dX11_rescue_178 : decode cX11_rescue 178 = .ok (.goto (-21), 3) := by decide +kernel
theorem dX11_rescue_181 : decode cX11_rescue 181 = .ok (.iload 6, 2) := by decide +kernel
theorem dX11_rescue_183 : decode cX11_rescue 183 = .ok (.iload 8, 2) := by decide +kernel
theorem dX11_rescue_185 : decode cX11_rescue 185 = .ok (.invokestatic 492, 3) := by decide +kernel
theorem dX11_rescue_188 : decode cX11_rescue 188 = .ok (.istore 6, 2) := by decide +kernel
theorem dX11_rescue_190 : decode cX11_rescue 190 = .ok (.iinc 7 1, 3) := by decide +kernel
theorem dX11_rescue_193 : decode cX11_rescue 193 = .ok (.goto (-46), 3) := by decide +kernel
theorem dX11_rescue_196 : decode cX11_rescue 196 = .ok (.iload 6, 2) := by decide +kernel
theorem dX11_rescue_198 : decode cX11_rescue 198 = .ok (.ireturn, 1) := by decide +kernel
theorem dX11_brokeJust_0 : decode cX11_brokeJust 0 = .ok (.iconst 0, 1) := by decide +kernel
theorem dX11_brokeJust_1 : decode cX11_brokeJust 1 = .ok (.istore_n 2, 1) := by decide +kernel
theorem dX11_brokeJust_2 : decode cX11_brokeJust 2 = .ok (.iconst 0, 1) := by decide +kernel
theorem dX11_brokeJust_3 : decode cX11_brokeJust 3 = .ok (.istore_n 3, 1) := by decide +kernel
theorem dX11_brokeJust_4 : decode cX11_brokeJust 4 = .ok (.iload_n 3, 1) := by decide +kernel
theorem dX11_brokeJust_5 : decode cX11_brokeJust 5 = .ok (.sipush 256, 3) := by decide +kernel
theorem dX11_brokeJust_8 : decode cX11_brokeJust 8 = .ok (.if_icmp .ge 35, 3) := by decide +kernel
theorem dX11_brokeJust_11 : decode cX11_brokeJust 11 = .ok (.iload_n 2, 1) := by decide +kernel
theorem dX11_brokeJust_12 : decode cX11_brokeJust 12 = .ok (.aload_n 0, 1) := by decide +kernel
theorem dX11_brokeJust_13 : decode cX11_brokeJust 13 = .ok (.getfield 21, 3) := by decide +kernel
theorem dX11_brokeJust_16 : decode cX11_brokeJust 16 = .ok (.iload_n 3, 1) := by decide +kernel
theorem dX11_brokeJust_17 : decode cX11_brokeJust 17 = .ok (.baload, 1) := by decide +kernel
theorem dX11_brokeJust_18 : decode cX11_brokeJust 18 = .ok (.ifCond .eq 16, 3) := by decide +kernel
theorem dX11_brokeJust_21 : decode cX11_brokeJust 21 = .ok (.aload_n 0, 1) := by decide +kernel
theorem dX11_brokeJust_22 : decode cX11_brokeJust 22 = .ok (.getfield 103, 3) := by decide +kernel
theorem dX11_brokeJust_25 : decode cX11_brokeJust 25 = .ok (.iload_n 3, 1) := by decide +kernel
theorem dX11_brokeJust_26 : decode cX11_brokeJust 26 = .ok (.baload, 1) := by decide +kernel
theorem dX11_brokeJust_27 : decode cX11_brokeJust 27 = .ok (.ifCond .ne 7, 3) := by decide +kernel
theorem dX11_brokeJust_30 : decode cX11_brokeJust 30 = .ok (.iconst 1, 1) := by decide +kernel
theorem dX11_brokeJust_31 : decode cX11_brokeJust 31 = .ok (.goto 4, 3) := by decide +kernel
theorem dX11_brokeJust_34 : decode cX11_brokeJust 34 = .ok (.iconst 0, 1) := by decide +kernel
theorem dX11_brokeJust_35 : decode cX11_brokeJust 35 = .ok (.iadd, 1) := by decide +kernel
theorem dX11_brokeJust_36 : decode cX11_brokeJust 36 = .ok (.istore_n 2, 1) := by decide +kernel
theorem dX11_brokeJust_37 : decode cX11_brokeJust 37 = .ok (.iinc 3 1, 3) := by decide +kernel
theorem dX11_brokeJust_40 : decode cX11_brokeJust 40 = .ok (.goto (-36), 3) := by decide +kernel
theorem dX11_brokeJust_43 : decode cX11_brokeJust 43 = .ok (.iload_n 2, 1) := by decide +kernel
theorem dX11_brokeJust_44 : decode cX11_brokeJust 44 = .ok (.iload_n 1, 1) := by decide +kernel
theorem dX11_brokeJust_45 : decode cX11_brokeJust 45 = .ok (.if_icmp .eq 5, 3) := by decide +kernel
theorem dX11_brokeJust_48 : decode cX11_brokeJust 48 = .ok (.iconst 0, 1) := by decide +kernel
theorem dX11_brokeJust_49 : decode cX11_brokeJust 49 = .ok (.ireturn, 1) := by decide +kernel
theorem dX11_brokeJust_50 : decode cX11_brokeJust 50 = .ok (.iconst 0, 1) := by decide +kernel
theorem dX11_brokeJust_51 : decode cX11_brokeJust 51 = .ok (.istore_n 3, 1) := by decide +kernel
theorem dX11_brokeJust_52 : decode cX11_brokeJust 52 = .ok (.iload_n 3, 1) := by decide +kernel
theorem dX11_brokeJust_53 : decode cX11_brokeJust 53 = .ok (.iload_n 1, 1) := by decide +kernel
theorem dX11_brokeJust_54 : decode cX11_brokeJust 54 = .ok (.if_icmp .ge 25, 3) := by decide +kernel
theorem dX11_brokeJust_57 : decode cX11_brokeJust 57 = .ok (.aload_n 0, 1) := by decide +kernel
theorem dX11_brokeJust_58 : decode cX11_brokeJust 58 = .ok (.getfield 21, 3) := by decide +kernel
theorem dX11_brokeJust_61 : decode cX11_brokeJust 61 = .ok (.aload_n 0, 1) := by decide +kernel
theorem dX11_brokeJust_62 : decode cX11_brokeJust 62 = .ok (.getfield 115, 3) := by decide +kernel
theorem dX11_brokeJust_65 : decode cX11_brokeJust 65 = .ok (.iload_n 3, 1) := by decide +kernel
theorem dX11_brokeJust_66 : decode cX11_brokeJust 66 = .ok (.iaload, 1) := by decide +kernel
theorem dX11_brokeJust_67 : decode cX11_brokeJust 67 = .ok (.baload, 1) := by decide +kernel
theorem dX11_brokeJust_68 : decode cX11_brokeJust 68 = .ok (.ifCond .ne 5, 3) := by decide +kernel
theorem dX11_brokeJust_71 : decode cX11_brokeJust 71 = .ok (.iconst 0, 1) := by decide +kernel
theorem dX11_brokeJust_72 : decode cX11_brokeJust 72 = .ok (.ireturn, 1) := by decide +kernel
theorem dX11_brokeJust_73 : decode cX11_brokeJust 73 = .ok (.iinc 3 1, 3) := by decide +kernel
theorem dX11_brokeJust_76 : decode cX11_brokeJust 76 = .ok (.goto (-24), 3) := by decide +kernel
theorem dX11_brokeJust_79 : decode cX11_brokeJust 79 = .ok (.iconst 1, 1) := by decide +kernel
theorem dX11_brokeJust_80 : decode cX11_brokeJust 80 = .ok (.ireturn, 1) := by decide +kernel
theorem dX11_began_0 : decode cX11_began 0 = .ok (.iload_n 1, 1) := by decide +kernel
theorem dX11_began_1 : decode cX11_began 1 = .ok (.i2l, 1) := by decide +kernel
theorem dX11_began_2 : decode cX11_began 2 = .ok (.lconst 1, 1) := by decide +kernel
theorem dX11_began_3 : decode cX11_began 3 = .ok (.ldc2_w 503, 3) := by decide +kernel
theorem dX11_began_6 : decode cX11_began 6 = .ok (.invokestatic 156, 3) := by decide +kernel
theorem dX11_began_9 : decode cX11_began 9 = .ok (.ifCond .eq 21, 3) := by decide +kernel
theorem dX11_began_12 : decode cX11_began 12 = .ok (.iload_n 2, 1) := by decide +kernel
theorem dX11_began_13 : decode cX11_began 13 = .ok (.i2l, 1) := by decide +kernel
theorem dX11_began_14 : decode cX11_began 14 = .ok (.lconst 0, 1) := by decide +kernel
theorem dX11_began_15 : decode cX11_began 15 = .ok (.lconst 1, 1) := by decide +kernel
theorem dX11_began_16 : decode cX11_began 16 = .ok (.invokestatic 156, 3) := by decide +kernel
theorem dX11_began_19 : decode cX11_began 19 = .ok (.ifCond .eq 11, 3) := by decide +kernel
theorem dX11_began_22 : decode cX11_began 22 = .ok (.iload_n 1, 1) := by decide +kernel
theorem dX11_began_23 : decode cX11_began 23 = .ok (.aload_n 0, 1) := by decide +kernel
theorem dX11_began_24 : decode cX11_began 24 = .ok (.getfield 190, 3) := by decide +kernel
theorem dX11_began_27 : decode cX11_began 27 = .ok (.if_icmp .le 6, 3) := by decide +kernel
theorem dX11_began_30 : decode cX11_began 30 = .ok (.bipush (-3), 2) := by decide +kernel
theorem dX11_began_32 : decode cX11_began 32 = .ok (.ireturn, 1) := by decide +kernel
theorem dX11_began_33 : decode cX11_began 33 = .ok (.aload_n 0, 1) := by decide +kernel
theorem dX11_began_34 : decode cX11_began 34 = .ok (.iconst 0, 1) := by decide +kernel
theorem dX11_began_35 : decode cX11_began 35 = .ok (.putfield 190, 3) := by decide +kernel
theorem dX11_began_38 : decode cX11_began 38 = .ok (.aload_n 0, 1) := by decide +kernel
theorem dX11_began_39 : decode cX11_began 39 = .ok (.iload_n 1, 1) := by decide +kernel
theorem dX11_began_40 : decode cX11_began 40 = .ok (.putfield 447, 3) := by decide +kernel
theorem dX11_began_43 : decode cX11_began 43 = .ok (.iconst 0, 1) := by decide +kernel
theorem dX11_began_44 : decode cX11_began 44 = .ok (.istore_n 3, 1) := by decide +kernel
theorem dX11_began_45 : decode cX11_began 45 = .ok (.iload_n 3, 1) := by decide +kernel
theorem dX11_began_46 : decode cX11_began 46 = .ok (.iload_n 1, 1) := by decide +kernel
theorem dX11_began_47 : decode cX11_began 47 = .ok (.if_icmp .ge 20, 3) := by decide +kernel
theorem dX11_began_50 : decode cX11_began 50 = .ok (.aload_n 0, 1) := by decide +kernel
theorem dX11_began_51 : decode cX11_began 51 = .ok (.getfield 115, 3) := by decide +kernel
theorem dX11_began_54 : decode cX11_began 54 = .ok (.iload_n 3, 1) := by decide +kernel
theorem dX11_began_55 : decode cX11_began 55 = .ok (.aload_n 0, 1) := by decide +kernel
theorem dX11_began_56 : decode cX11_began 56 = .ok (.iload_n 3, 1) := by decide +kernel
theorem dX11_began_57 : decode cX11_began 57 = .ok (.invokevirtual 450, 3) := by decide +kernel
theorem dX11_began_60 : decode cX11_began 60 = .ok (.iastore, 1) := by decide +kernel
theorem dX11_began_61 : decode cX11_began 61 = .ok (.iinc 3 1, 3) := by decide +kernel
theorem dX11_began_64 : decode cX11_began 64 = .ok (.goto (-19), 3) := by decide +kernel
theorem dX11_began_67 : decode cX11_began 67 = .ok (.aload_n 0, 1) := by decide +kernel
theorem dX11_began_68 : decode cX11_began 68 = .ok (.invokevirtual 453, 3) := by decide +kernel
theorem dX11_began_71 : decode cX11_began 71 = .ok (.ifCond .eq 6, 3) := by decide +kernel
theorem dX11_began_74 : decode cX11_began 74 = .ok (.bipush (-2), 2) := by decide +kernel
theorem dX11_began_76 : decode cX11_began 76 = .ok (.ireturn, 1) := by decide +kernel
theorem dX11_began_77 : decode cX11_began 77 = .ok (.iconst 0, 1) := by decide +kernel
theorem dX11_began_78 : decode cX11_began 78 = .ok (.istore_n 3, 1) := by decide +kernel
theorem dX11_began_79 : decode cX11_began 79 = .ok (.iload_n 3, 1) := by decide +kernel
theorem dX11_began_80 : decode cX11_began 80 = .ok (.iload_n 1, 1) := by decide +kernel
theorem dX11_began_81 : decode cX11_began 81 = .ok (.if_icmp .ge 25, 3) := by decide +kernel
theorem dX11_began_84 : decode cX11_began 84 = .ok (.aload_n 0, 1) := by decide +kernel
theorem dX11_began_85 : decode cX11_began 85 = .ok (.aload_n 0, 1) := by decide +kernel
theorem dX11_began_86 : decode cX11_began 86 = .ok (.getfield 115, 3) := by decide +kernel
theorem dX11_began_89 : decode cX11_began 89 = .ok (.iload_n 3, 1) := by decide +kernel
theorem dX11_began_90 : decode cX11_began 90 = .ok (.iaload, 1) := by decide +kernel
theorem dX11_began_91 : decode cX11_began 91 = .ok (.invokevirtual 185, 3) := by decide +kernel
theorem dX11_began_94 : decode cX11_began 94 = .ok (.ifCond .ne 6, 3) := by decide +kernel
theorem dX11_began_97 : decode cX11_began 97 = .ok (.bipush (-2), 2) := by decide +kernel
theorem dX11_began_99 : decode cX11_began 99 = .ok (.ireturn, 1) := by decide +kernel
theorem dX11_began_100 : decode cX11_began 100 = .ok (.iinc 3 1, 3) := by decide +kernel
theorem dX11_began_103 : decode cX11_began 103 = .ok (.goto (-24), 3) := by decide +kernel
theorem dX11_began_106 : decode cX11_began 106 = .ok (.aload_n 0, 1) := by decide +kernel
theorem dX11_began_107 : decode cX11_began 107 = .ok (.iconst 0, 1) := by decide +kernel
theorem dX11_began_108 : decode cX11_began 108 = .ok (.invokevirtual 422, 3) := by decide +kernel
theorem dX11_began_111 : decode cX11_began 111 = .ok (.iconst 0, 1) := by decide +kernel
theorem dX11_began_112 : decode cX11_began 112 = .ok (.istore_n 3, 1) := by decide +kernel
theorem dX11_began_113 : decode cX11_began 113 = .ok (.iconst (-1), 1) := by decide +kernel
theorem dX11_began_114 : decode cX11_began 114 = .ok (.istore 4, 2) := by decide +kernel
theorem dX11_began_116 : decode cX11_began 116 = .ok (.iconst 0, 1) := by decide +kernel
theorem dX11_began_117 : decode cX11_began 117 = .ok (.istore 5, 2) := by decide +kernel
theorem dX11_began_119 : decode cX11_began 119 = .ok (.iload 5, 2) := by decide +kernel
theorem dX11_began_121 : decode cX11_began 121 = .ok (.iload_n 1, 1) := by decide +kernel
theorem dX11_began_122 : decode cX11_began 122 = .ok (.if_icmp .ge 68, 3) := by decide +kernel
theorem dX11_began_125 : decode cX11_began 125 = .ok (.aload_n 0, 1) := by decide +kernel
theorem dX11_began_126 : decode cX11_began 126 = .ok (.getfield 115, 3) := by decide +kernel
theorem dX11_began_129 : decode cX11_began 129 = .ok (.iload 5, 2) := by decide +kernel
theorem dX11_began_131 : decode cX11_began 131 = .ok (.iaload, 1) := by decide +kernel
theorem dX11_began_132 : decode cX11_began 132 = .ok (.istore 6, 2) := by decide +kernel
theorem dX11_began_134 : decode cX11_began 134 = .ok (.aload_n 0, 1) := by decide +kernel
theorem dX11_began_135 : decode cX11_began 135 = .ok (.iload 6, 2) := by decide +kernel
theorem dX11_began_137 : decode cX11_began 137 = .ok (.invokevirtual 388, 3) := by decide +kernel
theorem dX11_began_140 : decode cX11_began 140 = .ok (.aload_n 0, 1) := by decide +kernel
theorem dX11_began_141 : decode cX11_began 141 = .ok (.invokevirtual 391, 3) := by decide +kernel
theorem dX11_began_144 : decode cX11_began 144 = .ok (.istore 7, 2) := by decide +kernel
theorem dX11_began_146 : decode cX11_began 146 = .ok (.aload_n 0, 1) := by decide +kernel
theorem dX11_began_147 : decode cX11_began 147 = .ok (.iload_n 1, 1) := by decide +kernel
theorem dX11_began_148 : decode cX11_began 148 = .ok (.invokevirtual 505, 3) := by decide +kernel
theorem dX11_began_151 : decode cX11_began 151 = .ok (.ifCond .eq 28, 3) := by decide +kernel
theorem dX11_began_154 : decode cX11_began 154 = .ok (.iinc 3 1, 3) := by decide +kernel
theorem dX11_began_157 : decode cX11_began 157 = .ok (.iload 4, 2) := by decide +kernel
theorem dX11_began_159 : decode cX11_began 159 = .ok (.iconst (-1), 1) := by decide +kernel
theorem dX11_began_160 : decode cX11_began 160 = .ok (.if_icmp .eq 10, 3) := by decide +kernel
theorem dX11_began_163 : decode cX11_began 163 = .ok (.iload 6, 2) := by decide +kernel
theorem dX11_began_165 : decode cX11_began 165 = .ok (.iload 4, 2) := by decide +kernel
theorem dX11_began_167 : decode cX11_began 167 = .ok (.if_icmp .ge 8, 3) := by decide +kernel
theorem dX11_began_170 : decode cX11_began 170 = .ok (.iload 6, 2) := by decide +kernel
theorem dX11_began_172 : decode cX11_began 172 = .ok (.goto 5, 3) := by decide +kernel
theorem dX11_began_175 : decode cX11_began 175 = .ok (.iload 4, 2) := by decide +kernel
theorem dX11_began_177 : decode cX11_began 177 = .ok (.istore 4, 2) := by decide +kernel
theorem dX11_began_179 : decode cX11_began 179 = .ok (.aload_n 0, 1) := by decide +kernel
theorem dX11_began_180 : decode cX11_began 180 = .ok (.iconst 0, 1) := by decide +kernel
theorem dX11_began_181 : decode cX11_began 181 = .ok (.invokevirtual 428, 3) := by decide +kernel
theorem dX11_began_184 : decode cX11_began 184 = .ok (.iinc 5 1, 3) := by decide +kernel
theorem dX11_began_187 : decode cX11_began 187 = .ok (.goto (-68), 3) := by decide +kernel
theorem dX11_began_190 : decode cX11_began 190 = .ok (.iload_n 2, 1) := by decide +kernel
theorem dX11_began_191 : decode cX11_began 191 = .ok (.ifCond .ne 7, 3) := by decide +kernel
theorem dX11_began_194 : decode cX11_began 194 = .ok (.iload_n 3, 1) := by decide +kernel
theorem dX11_began_195 : decode cX11_began 195 = .ok (.goto 5, 3) := by decide +kernel
theorem dX11_began_198 : decode cX11_began 198 = .ok (.iload 4, 2) := by decide +kernel
theorem dX11_began_200 : decode cX11_began 200 = .ok (.ireturn, 1) := by decide +kernel
theorem dX11_fee_0 : decode cX11_fee 0 = .ok (.iload_n 1, 1) := by decide +kernel
theorem dX11_fee_1 : decode cX11_fee 1 = .ok (.i2l, 1) := by decide +kernel
theorem dX11_fee_2 : decode cX11_fee 2 = .ok (.lconst 1, 1) := by decide +kernel
theorem dX11_fee_3 : decode cX11_fee 3 = .ok (.ldc2_w 420, 3) := by decide +kernel
theorem dX11_fee_6 : decode cX11_fee 6 = .ok (.invokestatic 156, 3) := by decide +kernel
theorem dX11_fee_9 : decode cX11_fee 9 = .ok (.ifCond .eq 35, 3) := by decide +kernel
theorem dX11_fee_12 : decode cX11_fee 12 = .ok (.iload_n 2, 1) := by decide +kernel
theorem dX11_fee_13 : decode cX11_fee 13 = .ok (.invokestatic 441, 3) := by decide +kernel
theorem dX11_fee_16 : decode cX11_fee 16 = .ok (.ifCond .eq 28, 3) := by decide +kernel
theorem dX11_fee_19 : decode cX11_fee 19 = .ok (.iload_n 3, 1) := by decide +kernel
theorem dX11_fee_20 : decode cX11_fee 20 = .ok (.i2l, 1) := by decide +kernel
theorem dX11_fee_21 : decode cX11_fee 21 = .ok (.ldc2_w 486, 3) := by decide +kernel
theorem dX11_fee_24 : decode cX11_fee 24 = .ok (.iload_n 1, 1) := by decide +kernel
theorem dX11_fee_25 : decode cX11_fee 25 = .ok (.iconst 1, 1) := by decide +kernel
theorem dX11_fee_26 : decode cX11_fee 26 = .ok (.isub, 1) := by decide +kernel
theorem dX11_fee_27 : decode cX11_fee 27 = .ok (.i2l, 1) := by decide +kernel
theorem dX11_fee_28 : decode cX11_fee 28 = .ok (.invokestatic 156, 3) := by decide +kernel
theorem dX11_fee_31 : decode cX11_fee 31 = .ok (.ifCond .eq 13, 3) := by decide +kernel
theorem dX11_fee_34 : decode cX11_fee 34 = .ok (.iconst 2, 1) := by decide +kernel
theorem dX11_fee_35 : decode cX11_fee 35 = .ok (.iload_n 1, 1) := by decide +kernel
theorem dX11_fee_36 : decode cX11_fee 36 = .ok (.imul, 1) := by decide +kernel
theorem dX11_fee_37 : decode cX11_fee 37 = .ok (.aload_n 0, 1) := by decide +kernel
theorem dX11_fee_38 : decode cX11_fee 38 = .ok (.getfield 190, 3) := by decide +kernel
theorem dX11_fee_41 : decode cX11_fee 41 = .ok (.if_icmp .le 6, 3) := by decide +kernel
theorem dX11_fee_44 : decode cX11_fee 44 = .ok (.bipush (-3), 2) := by decide +kernel
theorem dX11_fee_46 : decode cX11_fee 46 = .ok (.ireturn, 1) := by decide +kernel
theorem dX11_fee_47 : decode cX11_fee 47 = .ok (.aload_n 0, 1) := by decide +kernel
theorem dX11_fee_48 : decode cX11_fee 48 = .ok (.iload_n 1, 1) := by decide +kernel
theorem dX11_fee_49 : decode cX11_fee 49 = .ok (.invokevirtual 468, 3) := by decide +kernel
theorem dX11_fee_52 : decode cX11_fee 52 = .ok (.ifCond .eq 6, 3) := by decide +kernel
theorem dX11_fee_55 : decode cX11_fee 55 = .ok (.bipush (-2), 2) := by decide +kernel
theorem dX11_fee_57 : decode cX11_fee 57 = .ok (.ireturn, 1) := by decide +kernel
theorem dX11_fee_58 : decode cX11_fee 58 = .ok (.iconst 0, 1) := by decide +kernel
theorem dX11_fee_59 : decode cX11_fee 59 = .ok (.istore 4, 2) := by decide +kernel
theorem dX11_fee_61 : decode cX11_fee 61 = .ok (.iload 4, 2) := by decide +kernel
theorem dX11_fee_63 : decode cX11_fee 63 = .ok (.iload_n 1, 1) := by decide +kernel
theorem dX11_fee_64 : decode cX11_fee 64 = .ok (.if_icmp .ge 26, 3) := by decide +kernel
theorem dX11_fee_67 : decode cX11_fee 67 = .ok (.aload_n 0, 1) := by decide +kernel
theorem dX11_fee_68 : decode cX11_fee 68 = .ok (.aload_n 0, 1) := by decide +kernel
theorem dX11_fee_69 : decode cX11_fee 69 = .ok (.getfield 115, 3) := by decide +kernel
theorem dX11_fee_72 : decode cX11_fee 72 = .ok (.iload 4, 2) := by decide +kernel
theorem dX11_fee_74 : decode cX11_fee 74 = .ok (.iaload, 1) := by decide +kernel
theorem dX11_fee_75 : decode cX11_fee 75 = .ok (.invokevirtual 185, 3) := by decide +kernel
theorem dX11_fee_78 : decode cX11_fee 78 = .ok (.ifCond .ne 6, 3) := by decide +kernel
theorem dX11_fee_81 : decode cX11_fee 81 = .ok (.bipush (-2), 2) := by decide +kernel
theorem dX11_fee_83 : decode cX11_fee 83 = .ok (.ireturn, 1) := by decide +kernel
theorem dX11_fee_84 : decode cX11_fee 84 = .ok (.iinc 4 1, 3) := by decide +kernel
theorem dX11_fee_87 : decode cX11_fee 87 = .ok (.goto (-26), 3) := by decide +kernel
theorem dX11_fee_90 : decode cX11_fee 90 = .ok (.iconst 0, 1) := by decide +kernel
theorem dX11_fee_91 : decode cX11_fee 91 = .ok (.istore 4, 2) := by decide +kernel
theorem dX11_fee_93 : decode cX11_fee 93 = .ok (.iconst 0, 1) := by decide +kernel
theorem dX11_fee_94 : decode cX11_fee 94 = .ok (.istore 5, 2) := by decide +kernel
theorem dX11_fee_96 : decode cX11_fee 96 = .ok (.iload 5, 2) := by decide +kernel
theorem dX11_fee_98 : decode cX11_fee 98 = .ok (.iload_n 1, 1) := by decide +kernel
theorem dX11_fee_99 : decode cX11_fee 99 = .ok (.if_icmp .ge 45, 3) := by decide +kernel
theorem dX11_fee_102 : decode cX11_fee 102 = .ok (.aload_n 0, 1) := by decide +kernel
theorem dX11_fee_103 : decode cX11_fee 103 = .ok (.aload_n 0, 1) := by decide +kernel
theorem dX11_fee_104 : decode cX11_fee 104 = .ok (.getfield 115, 3) := by decide +kernel
theorem dX11_fee_107 : decode cX11_fee 107 = .ok (.iload 5, 2) := by decide +kernel
theorem dX11_fee_109 : decode cX11_fee 109 = .ok (.iaload, 1) := by decide +kernel
theorem dX11_fee_110 : decode cX11_fee 110 = .ok (.invokevirtual 385, 3) := by decide +kernel
theorem dX11_fee_113 : decode cX11_fee 113 = .ok (.iload_n 2, 1) := by decide +kernel
theorem dX11_fee_114 : decode cX11_fee 114 = .ok (.if_icmp .lt 24, 3) := by decide +kernel
theorem dX11_fee_117 : decode cX11_fee 117 = .ok (.aload_n 0, 1) := by decide +kernel
theorem dX11_fee_118 : decode cX11_fee 118 = .ok (.getfield 118, 3) := by decide +kernel
theorem dX11_fee_121 : decode cX11_fee 121 = .ok (.iload 5, 2) := by decide +kernel
theorem dX11_fee_123 : decode cX11_fee 123 = .ok (.iaload, 1) := by decide +kernel
theorem dX11_fee_124 : decode cX11_fee 124 = .ok (.iload 4, 2) := by decide +kernel
theorem dX11_fee_126 : decode cX11_fee 126 = .ok (.if_icmp .le 12, 3) := by decide +kernel
theorem dX11_fee_129 : decode cX11_fee 129 = .ok (.aload_n 0, 1) := by decide +kernel
theorem dX11_fee_130 : decode cX11_fee 130 = .ok (.getfield 118, 3) := by decide +kernel
theorem dX11_fee_133 : decode cX11_fee 133 = .ok (.iload 5, 2) := by decide +kernel
theorem dX11_fee_135 : decode cX11_fee 135 = .ok (.iaload, 1) := by decide +kernel
theorem dX11_fee_136 : decode cX11_fee 136 = .ok (.istore 4, 2) := by decide +kernel
theorem dX11_fee_138 : decode cX11_fee 138 = .ok (.iinc 5 1, 3) := by decide +kernel
theorem dX11_fee_141 : decode cX11_fee 141 = .ok (.goto (-45), 3) := by decide +kernel
theorem dX11_fee_144 : decode cX11_fee 144 = .ok (.iconst 0, 1) := by decide +kernel
theorem dX11_fee_145 : decode cX11_fee 145 = .ok (.istore 5, 2) := by decide +kernel
theorem dX11_fee_147 : decode cX11_fee 147 = .ok (.iconst 0, 1) := by decide +kernel
theorem dX11_fee_148 : decode cX11_fee 148 = .ok (.istore 6, 2) := by decide +kernel
theorem dX11_fee_150 : decode cX11_fee 150 = .ok (.iconst 0, 1) := by decide +kernel
theorem dX11_fee_151 : decode cX11_fee 151 = .ok (.istore 7, 2) := by decide +kernel
theorem dX11_fee_153 : decode cX11_fee 153 = .ok (.iload 7, 2) := by decide +kernel
theorem dX11_fee_155 : decode cX11_fee 155 = .ok (.iload_n 1, 1) := by decide +kernel
theorem dX11_fee_156 : decode cX11_fee 156 = .ok (.if_icmp .ge 86, 3) := by decide +kernel
theorem dX11_fee_159 : decode cX11_fee 159 = .ok (.aload_n 0, 1) := by decide +kernel
theorem dX11_fee_160 : decode cX11_fee 160 = .ok (.aload_n 0, 1) := by decide +kernel
theorem dX11_fee_161 : decode cX11_fee 161 = .ok (.getfield 115, 3) := by decide +kernel
theorem dX11_fee_164 : decode cX11_fee 164 = .ok (.iload 7, 2) := by decide +kernel
theorem dX11_fee_166 : decode cX11_fee 166 = .ok (.iaload, 1) := by decide +kernel
theorem dX11_fee_167 : decode cX11_fee 167 = .ok (.invokevirtual 385, 3) := by decide +kernel
theorem dX11_fee_170 : decode cX11_fee 170 = .ok (.iload_n 2, 1) := by decide +kernel
theorem dX11_fee_171 : decode cX11_fee 171 = .ok (.if_icmp .ge 15, 3) := by decide +kernel
theorem dX11_fee_174 : decode cX11_fee 174 = .ok (.aload_n 0, 1) := by decide +kernel
theorem dX11_fee_175 : decode cX11_fee 175 = .ok (.getfield 118, 3) := by decide +kernel
theorem dX11_fee_178 : decode cX11_fee 178 = .ok (.iload 7, 2) := by decide +kernel
theorem dX11_fee_180 : decode cX11_fee 180 = .ok (.iaload, 1) := by decide +kernel
theorem dX11_fee_181 : decode cX11_fee 181 = .ok (.iload 4, 2) := by decide +kernel
theorem dX11_fee_183 : decode cX11_fee 183 = .ok (.if_icmp .ge 7, 3) := by decide +kernel
theorem dX11_fee_186 : decode cX11_fee 186 = .ok (.iconst 1, 1) := by decide +kernel
theorem dX11_fee_187 : decode cX11_fee 187 = .ok (.goto 4, 3) := by decide +kernel
theorem dX11_fee_190 : decode cX11_fee 190 = .ok (.iconst 0, 1) := by decide +kernel
theorem dX11_fee_191 : decode cX11_fee 191 = .ok (.istore 8, 2) := by decide +kernel
theorem dX11_fee_193 : decode cX11_fee 193 = .ok (.iload 8, 2) := by decide +kernel
theorem dX11_fee_195 : decode cX11_fee 195 = .ok (.ifCond .eq 7, 3) := by decide +kernel
theorem dX11_fee_198 : decode cX11_fee 198 = .ok (.iconst 0, 1) := by decide +kernel
theorem dX11_fee_199 : decode cX11_fee 199 = .ok (.goto 13, 3) := by decide +kernel
theorem dX11_fee_202 : decode cX11_fee 202 = .ok (.aload_n 0, 1) := by decide +kernel
theorem dX11_fee_203 : decode cX11_fee 203 = .ok (.getfield 118, 3) := by decide +kernel
theorem dX11_fee_206 : decode cX11_fee 206 = .ok (.iload 7, 2) := by decide +kernel
theorem dX11_fee_208 : decode cX11_fee 208 = .ok (.iaload, 1) := by decide +kernel
theorem dX11_fee_209 : decode cX11_fee 209 = .ok (.iload 4, 2) := by decide +kernel
theorem dX11_fee_211 : decode cX11_fee 211 = .ok (.isub, 1) := by decide +kernel
theorem dX11_fee_212 : decode cX11_fee 212 = .ok (.istore 9, 2) := by decide +kernel
theorem dX11_fee_214 : decode cX11_fee 214 = .ok (.iload 5, 2) := by decide +kernel
theorem dX11_fee_216 : decode cX11_fee 216 = .ok (.iload 9, 2) := by decide +kernel
theorem dX11_fee_218 : decode cX11_fee 218 = .ok (.iadd, 1) := by decide +kernel
theorem dX11_fee_219 : decode cX11_fee 219 = .ok (.istore 5, 2) := by decide +kernel
theorem dX11_fee_221 : decode cX11_fee 221 = .ok (.iload 7, 2) := by decide +kernel
theorem dX11_fee_223 : decode cX11_fee 223 = .ok (.iload_n 3, 1) := by decide +kernel
theorem dX11_fee_224 : decode cX11_fee 224 = .ok (.if_icmp .ne 8, 3) := by decide +kernel
theorem dX11_fee_227 : decode cX11_fee 227 = .ok (.iload 9, 2) := by decide +kernel
theorem dX11_fee_229 : decode cX11_fee 229 = .ok (.goto 5, 3) := by decide +kernel
theorem dX11_fee_232 : decode cX11_fee 232 = .ok (.iload 6, 2) := by decide +kernel
theorem dX11_fee_234 : decode cX11_fee 234 = .ok (.istore 6, 2) := by decide +kernel
theorem dX11_fee_236 : decode cX11_fee 236 = .ok (.iinc 7 1, 3) := by decide +kernel
theorem dX11_fee_239 : decode cX11_fee 239 = .ok (.goto (-86), 3) := by decide +kernel
theorem dX11_fee_242 : decode cX11_fee 242 = .ok (.iload_n 3, 1) := by decide +kernel
theorem dX11_fee_243 : decode cX11_fee 243 = .ok (.iconst (-1), 1) := by decide +kernel
theorem dX11_fee_244 : decode cX11_fee 244 = .ok (.if_icmp .ne 8, 3) := by decide +kernel
theorem dX11_fee_247 : decode cX11_fee 247 = .ok (.iload 5, 2) := by decide +kernel
theorem dX11_fee_249 : decode cX11_fee 249 = .ok (.goto 5, 3) := by decide +kernel
theorem dX11_fee_252 : decode cX11_fee 252 = .ok (.iload 6, 2) := by decide +kernel
theorem dX11_fee_254 : decode cX11_fee 254 = .ok (.ireturn, 1) := by decide +kernel
theorem dX11_row_0 : decode cX11_row 0 = .ok (.iload_n 1, 1) := by decide +kernel
theorem dX11_row_1 : decode cX11_row 1 = .ok (.iload_n 2, 1) := by decide +kernel
theorem dX11_row_2 : decode cX11_row 2 = .ok (.invokestatic 177, 3) := by decide +kernel
theorem dX11_row_5 : decode cX11_row 5 = .ok (.ifCond .eq 24, 3) := by decide +kernel
theorem dX11_row_8 : decode cX11_row 8 = .ok (.aload_n 0, 1) := by decide +kernel
theorem dX11_row_9 : decode cX11_row 9 = .ok (.bipush 16, 2) := by decide +kernel
theorem dX11_row_11 : decode cX11_row 11 = .ok (.iload_n 2, 1) := by decide +kernel
theorem dX11_row_12 : decode cX11_row 12 = .ok (.imul, 1) := by decide +kernel
theorem dX11_row_13 : decode cX11_row 13 = .ok (.iload_n 1, 1) := by decide +kernel
theorem dX11_row_14 : decode cX11_row 14 = .ok (.iadd, 1) := by decide +kernel
theorem dX11_row_15 : decode cX11_row 15 = .ok (.invokevirtual 376, 3) := by decide +kernel
theorem dX11_row_18 : decode cX11_row 18 = .ok (.ifCond .eq 7, 3) := by decide +kernel
theorem dX11_row_21 : decode cX11_row 21 = .ok (.iconst 1, 1) := by decide +kernel
theorem dX11_row_22 : decode cX11_row 22 = .ok (.goto 8, 3) := by decide +kernel
theorem dX11_row_25 : decode cX11_row 25 = .ok (.iconst 0, 1) := by decide +kernel
theorem dX11_row_26 : decode cX11_row 26 = .ok (.goto 4, 3) := by decide +kernel
theorem dX11_row_29 : decode cX11_row 29 = .ok (.iconst (-1), 1) := by decide +kernel
theorem dX11_row_30 : decode cX11_row 30 = .ok (.ireturn, 1) := by decide +kernel
theorem dX11_seed_0 : decode cX11_seed 0 = .ok (.iload_n 1, 1) := by decide +kernel
theorem dX11_seed_1 : decode cX11_seed 1 = .ok (.i2l, 1) := by decide +kernel
theorem dX11_seed_2 : decode cX11_seed 2 = .ok (.lconst 0, 1) := by decide +kernel
theorem dX11_seed_3 : decode cX11_seed 3 = .ok (.ldc2_w 508, 3) := by decide +kernel
theorem dX11_seed_6 : decode cX11_seed 6 = .ok (.invokestatic 156, 3) := by decide +kernel
theorem dX11_seed_9 : decode cX11_seed 9 = .ok (.ifCond .ne 5, 3) := by decide +kernel
theorem dX11_seed_12 : decode cX11_seed 12 = .ok (.iconst 0, 1) := by decide +kernel
theorem dX11_seed_13 : decode cX11_seed 13 = .ok (.ireturn, 1) := by decide +kernel
theorem dX11_seed_14 : decode cX11_seed 14 = .ok (.aload_n 0, 1) := by decide +kernel
theorem dX11_seed_15 : decode cX11_seed 15 = .ok (.iload_n 1, 1) := by decide +kernel
theorem dX11_seed_16 : decode cX11_seed 16 = .ok (.putfield 13, 3) := by decide +kernel
theorem dX11_seed_19 : decode cX11_seed 19 = .ok (.iconst 1, 1) := by decide +kernel
theorem dX11_seed_20 : decode cX11_seed 20 = .ok (.ireturn, 1) := by decide +kernel
theorem dX11_wanders_0 : decode cX11_wanders 0 = .ok (.aload_n 0, 1) := by decide +kernel
theorem dX11_wanders_1 : decode cX11_wanders 1 = .ok (.iload_n 1, 1) := by decide +kernel
theorem dX11_wanders_2 : decode cX11_wanders 2 = .ok (.invokevirtual 433, 3) := by decide +kernel
theorem dX11_wanders_5 : decode cX11_wanders 5 = .ok (.ifCond .eq 14, 3) := by decide +kernel
theorem dX11_wanders_8 : decode cX11_wanders 8 = .ok (.aload_n 0, 1) := by decide +kernel
theorem dX11_wanders_9 : decode cX11_wanders 9 = .ok (.getfield 43, 3) := by decide +kernel
theorem dX11_wanders_12 : decode cX11_wanders 12 = .ok (.iload_n 1, 1) := by decide +kernel
theorem dX11_wanders_13 : decode cX11_wanders 13 = .ok (.iaload, 1) := by decide +kernel
theorem dX11_wanders_14 : decode cX11_wanders 14 = .ok (.bipush (-2), 2) := by decide +kernel
theorem dX11_wanders_16 : decode cX11_wanders 16 = .ok (.if_icmp .ne 4, 3) := by decide +kernel
theorem dX11_wanders_19 : decode cX11_wanders 19 = .ok (.return_, 1) := by decide +kernel
theorem dX11_wanders_20 : decode cX11_wanders 20 = .ok (.aload_n 0, 1) := by decide +kernel
theorem dX11_wanders_21 : decode cX11_wanders 21 = .ok (.getfield 43, 3) := by decide +kernel
theorem dX11_wanders_24 : decode cX11_wanders 24 = .ok (.iload_n 1, 1) := by decide +kernel
theorem dX11_wanders_25 : decode cX11_wanders 25 = .ok (.iaload, 1) := by decide +kernel
theorem dX11_wanders_26 : decode cX11_wanders 26 = .ok (.iload_n 2, 1) := by decide +kernel
theorem dX11_wanders_27 : decode cX11_wanders 27 = .ok (.iconst 1, 1) := by decide +kernel
theorem dX11_wanders_28 : decode cX11_wanders 28 = .ok (.if_icmp .ne 7, 3) := by decide +kernel
theorem dX11_wanders_31 : decode cX11_wanders 31 = .ok (.iconst 1, 1) := by decide +kernel
theorem dX11_wanders_32 : decode cX11_wanders 32 = .ok (.goto 13, 3) := by decide +kernel
theorem dX11_wanders_35 : decode cX11_wanders 35 = .ok (.iload_n 2, 1) := by decide +kernel
theorem dX11_wanders_36 : decode cX11_wanders 36 = .ok (.iconst 3, 1) := by decide +kernel
theorem dX11_wanders_37 : decode cX11_wanders 37 = .ok (.if_icmp .ne 7, 3) := by decide +kernel
theorem dX11_wanders_40 : decode cX11_wanders 40 = .ok (.iconst (-1), 1) := by decide +kernel
theorem dX11_wanders_41 : decode cX11_wanders 41 = .ok (.goto 4, 3) := by decide +kernel
theorem dX11_wanders_44 : decode cX11_wanders 44 = .ok (.iconst 0, 1) := by decide +kernel
theorem dX11_wanders_45 : decode cX11_wanders 45 = .ok (.iload_n 2, 1) := by decide +kernel
theorem dX11_wanders_46 : decode cX11_wanders 46 = .ok (.ifCond .ne 7, 3) := by decide +kernel
theorem dX11_wanders_49 : decode cX11_wanders 49 = .ok (.iconst 1, 1) := by decide +kernel
theorem dX11_wanders_50 : decode cX11_wanders 50 = .ok (.goto 13, 3) := by decide +kernel
theorem dX11_wanders_53 : decode cX11_wanders 53 = .ok (.iload_n 2, 1) := by decide +kernel
theorem dX11_wanders_54 : decode cX11_wanders 54 = .ok (.iconst 2, 1) := by decide +kernel
theorem dX11_wanders_55 : decode cX11_wanders 55 = .ok (.if_icmp .ne 7, 3) := by decide +kernel
theorem dX11_wanders_58 : decode cX11_wanders 58 = .ok (.iconst (-1), 1) := by decide +kernel
theorem dX11_wanders_59 : decode cX11_wanders 59 = .ok (.goto 4, 3) := by decide +kernel
theorem dX11_wanders_62 : decode cX11_wanders 62 = .ok (.iconst 0, 1) := by decide +kernel
theorem dX11_wanders_63 : decode cX11_wanders 63 = .ok (.invokestatic 181, 3) := by decide +kernel
theorem dX11_wanders_66 : decode cX11_wanders 66 = .ok (.istore_n 3, 1) := by decide +kernel
theorem dX11_wanders_67 : decode cX11_wanders 67 = .ok (.iload_n 3, 1) := by decide +kernel
theorem dX11_wanders_68 : decode cX11_wanders 68 = .ok (.iconst (-1), 1) := by decide +kernel
theorem dX11_wanders_69 : decode cX11_wanders 69 = .ok (.if_icmp .eq 18, 3) := by decide +kernel
theorem dX11_wanders_72 : decode cX11_wanders 72 = .ok (.aload_n 0, 1) := by decide +kernel
theorem dX11_wanders_73 : decode cX11_wanders 73 = .ok (.iload_n 3, 1) := by decide +kernel
theorem dX11_wanders_74 : decode cX11_wanders 74 = .ok (.invokevirtual 185, 3) := by decide +kernel
theorem dX11_wanders_77 : decode cX11_wanders 77 = .ok (.ifCond .eq 10, 3) := by decide +kernel
theorem dX11_wanders_80 : decode cX11_wanders 80 = .ok (.aload_n 0, 1) := by decide +kernel
theorem dX11_wanders_81 : decode cX11_wanders 81 = .ok (.getfield 43, 3) := by decide +kernel
theorem dX11_wanders_84 : decode cX11_wanders 84 = .ok (.iload_n 1, 1) := by decide +kernel
theorem dX11_wanders_85 : decode cX11_wanders 85 = .ok (.iload_n 3, 1) := by decide +kernel
theorem dX11_wanders_86 : decode cX11_wanders 86 = .ok (.iastore, 1) := by decide +kernel
theorem dX11_wanders_87 : decode cX11_wanders 87 = .ok (.return_, 1) := by decide +kernel
theorem dX11_draw_0 : decode cX11_draw 0 = .ok (.iload_n 1, 1) := by decide +kernel
theorem dX11_draw_1 : decode cX11_draw 1 = .ok (.invokestatic 411, 3) := by decide +kernel
theorem dX11_draw_4 : decode cX11_draw 4 = .ok (.ifCond .ne 5, 3) := by decide +kernel
theorem dX11_draw_7 : decode cX11_draw 7 = .ok (.iconst (-1), 1) := by decide +kernel
theorem dX11_draw_8 : decode cX11_draw 8 = .ok (.ireturn, 1) := by decide +kernel
theorem dX11_draw_9 : decode cX11_draw 9 = .ok (.aload_n 0, 1) := by decide +kernel
theorem dX11_draw_10 : decode cX11_draw 10 = .ok (.invokevirtual 414, 3) := by decide +kernel
theorem dX11_draw_13 : decode cX11_draw 13 = .ok (.istore_n 2, 1) := by decide +kernel
theorem dX11_draw_14 : decode cX11_draw 14 = .ok (.iconst 0, 1) := by decide +kernel
theorem dX11_draw_15 : decode cX11_draw 15 = .ok (.istore_n 3, 1) := by decide +kernel
theorem dX11_draw_16 : decode cX11_draw 16 = .ok (.iload_n 3, 1) := by decide +kernel
theorem dX11_draw_17 : decode cX11_draw 17 = .ok (.iload_n 1, 1) := by decide +kernel
theorem dX11_draw_18 : decode cX11_draw 18 = .ok (.if_icmp .ge 53, 3) := by decide +kernel
theorem dX11_draw_21 : decode cX11_draw 21 = .ok (.aload_n 0, 1) := by decide +kernel
theorem dX11_draw_22 : decode cX11_draw 22 = .ok (.sipush 25173, 3) := by decide +kernel
theorem dX11_draw_25 : decode cX11_draw 25 = .ok (.aload_n 0, 1) := by decide +kernel
theorem dX11_draw_26 : decode cX11_draw 26 = .ok (.getfield 13, 3) := by decide +kernel
theorem dX11_draw_29 : decode cX11_draw 29 = .ok (.imul, 1) := by decide +kernel
theorem dX11_draw_30 : decode cX11_draw 30 = .ok (.sipush 13849, 3) := by decide +kernel
theorem dX11_draw_33 : decode cX11_draw 33 = .ok (.iadd, 1) := by decide +kernel
theorem dX11_draw_34 : decode cX11_draw 34 = .ok (.ldc_w 510, 3) := by decide +kernel
theorem dX11_draw_37 : decode cX11_draw 37 = .ok (.irem, 1) := by decide +kernel
theorem dX11_draw_38 : decode cX11_draw 38 = .ok (.putfield 13, 3) := by decide +kernel
theorem dX11_draw_41 : decode cX11_draw 41 = .ok (.aload_n 0, 1) := by decide +kernel
theorem dX11_draw_42 : decode cX11_draw 42 = .ok (.aload_n 0, 1) := by decide +kernel
theorem dX11_draw_43 : decode cX11_draw 43 = .ok (.getfield 13, 3) := by decide +kernel
theorem dX11_draw_46 : decode cX11_draw 46 = .ok (.bipush 8, 2) := by decide +kernel
theorem dX11_draw_48 : decode cX11_draw 48 = .ok (.irem, 1) := by decide +kernel
theorem dX11_draw_49 : decode cX11_draw 49 = .ok (.aload_n 0, 1) := by decide +kernel
theorem dX11_draw_50 : decode cX11_draw 50 = .ok (.getfield 13, 3) := by decide +kernel
theorem dX11_draw_53 : decode cX11_draw 53 = .ok (.bipush 8, 2) := by decide +kernel
theorem dX11_draw_55 : decode cX11_draw 55 = .ok (.idiv, 1) := by decide +kernel
theorem dX11_draw_56 : decode cX11_draw 56 = .ok (.iconst 4, 1) := by decide +kernel
theorem dX11_draw_57 : decode cX11_draw 57 = .ok (.irem, 1) := by decide +kernel
theorem dX11_draw_58 : decode cX11_draw 58 = .ok (.invokevirtual 511, 3) := by decide +kernel
theorem dX11_draw_61 : decode cX11_draw 61 = .ok (.aload_n 0, 1) := by decide +kernel
theorem dX11_draw_62 : decode cX11_draw 62 = .ok (.invokevirtual 417, 3) := by decide +kernel
theorem dX11_draw_65 : decode cX11_draw 65 = .ok (.iinc 3 1, 3) := by decide +kernel
theorem dX11_draw_68 : decode cX11_draw 68 = .ok (.goto (-52), 3) := by decide +kernel
theorem dX11_draw_71 : decode cX11_draw 71 = .ok (.aload_n 0, 1) := by decide +kernel
theorem dX11_draw_72 : decode cX11_draw 72 = .ok (.invokevirtual 414, 3) := by decide +kernel
theorem dX11_draw_75 : decode cX11_draw 75 = .ok (.iload_n 2, 1) := by decide +kernel
theorem dX11_draw_76 : decode cX11_draw 76 = .ok (.isub, 1) := by decide +kernel
theorem dX11_draw_77 : decode cX11_draw 77 = .ok (.ireturn, 1) := by decide +kernel
theorem dX11_keep_0 : decode cX11_keep 0 = .ok (.aload_n 0, 1) := by decide +kernel
theorem dX11_keep_1 : decode cX11_keep 1 = .ok (.iconst 1, 1) := by decide +kernel
theorem dX11_keep_2 : decode cX11_keep 2 = .ok (.putfield 514, 3) := by decide +kernel
theorem dX11_keep_5 : decode cX11_keep 5 = .ok (.aload_n 0, 1) := by decide +kernel
theorem dX11_keep_6 : decode cX11_keep 6 = .ok (.iconst 1, 1) := by decide +kernel
theorem dX11_keep_7 : decode cX11_keep 7 = .ok (.invokevirtual 422, 3) := by decide +kernel
theorem dX11_keep_10 : decode cX11_keep 10 = .ok (.aload_n 0, 1) := by decide +kernel
theorem dX11_keep_11 : decode cX11_keep 11 = .ok (.aload_n 0, 1) := by decide +kernel
theorem dX11_keep_12 : decode cX11_keep 12 = .ok (.getfield 164, 3) := by decide +kernel
theorem dX11_keep_15 : decode cX11_keep 15 = .ok (.putfield 517, 3) := by decide +kernel
theorem dX11_keep_18 : decode cX11_keep 18 = .ok (.aload_n 0, 1) := by decide +kernel
theorem dX11_keep_19 : decode cX11_keep 19 = .ok (.aload_n 0, 1) := by decide +kernel
theorem dX11_keep_20 : decode cX11_keep 20 = .ok (.getfield 170, 3) := by decide +kernel
theorem dX11_keep_23 : decode cX11_keep 23 = .ok (.putfield 520, 3) := by decide +kernel
theorem dX11_keep_26 : decode cX11_keep 26 = .ok (.aload_n 0, 1) := by decide +kernel
theorem dX11_keep_27 : decode cX11_keep 27 = .ok (.aload_n 0, 1) := by decide +kernel
theorem dX11_keep_28 : decode cX11_keep 28 = .ok (.getfield 13, 3) := by decide +kernel
theorem dX11_keep_31 : decode cX11_keep 31 = .ok (.putfield 523, 3) := by decide +kernel
theorem dX11_keep_34 : decode cX11_keep 34 = .ok (.iconst 0, 1) := by decide +kernel
theorem dX11_keep_35 : decode cX11_keep 35 = .ok (.istore_n 1, 1) := by decide +kernel
theorem dX11_keep_36 : decode cX11_keep 36 = .ok (.iload_n 1, 1) := by decide +kernel
theorem dX11_keep_37 : decode cX11_keep 37 = .ok (.bipush 12, 2) := by decide +kernel
theorem dX11_keep_39 : decode cX11_keep 39 = .ok (.if_icmp .ge 69, 3) := by decide +kernel
theorem dX11_keep_42 : decode cX11_keep 42 = .ok (.aload_n 0, 1) := by decide +kernel
theorem dX11_keep_43 : decode cX11_keep 43 = .ok (.getfield 136, 3) := by decide +kernel
theorem dX11_keep_46 : decode cX11_keep 46 = .ok (.iload_n 1, 1) := by decide +kernel
theorem dX11_keep_47 : decode cX11_keep 47 = .ok (.aload_n 0, 1) := by decide +kernel
theorem dX11_keep_48 : decode cX11_keep 48 = .ok (.getfield 28, 3) := by decide +kernel
theorem dX11_keep_51 : decode cX11_keep 51 = .ok (.iload_n 1, 1) := by decide +kernel
theorem dX11_keep_52 : decode cX11_keep 52 = .ok (.iaload, 1) := by decide +kernel
theorem dX11_keep_53 : decode cX11_keep 53 = .ok (.iastore, 1) := by decide +kernel
theorem dX11_keep_54 : decode cX11_keep 54 = .ok (.aload_n 0, 1) := by decide +kernel
theorem dX11_keep_55 : decode cX11_keep 55 = .ok (.getfield 139, 3) := by decide +kernel
theorem dX11_keep_58 : decode cX11_keep 58 = .ok (.iload_n 1, 1) := by decide +kernel
theorem dX11_keep_59 : decode cX11_keep 59 = .ok (.aload_n 0, 1) := by decide +kernel
theorem dX11_keep_60 : decode cX11_keep 60 = .ok (.getfield 31, 3) := by decide +kernel
theorem dX11_keep_63 : decode cX11_keep 63 = .ok (.iload_n 1, 1) := by decide +kernel
theorem dX11_keep_64 : decode cX11_keep 64 = .ok (.iaload, 1) := by decide +kernel
theorem dX11_keep_65 : decode cX11_keep 65 = .ok (.iastore, 1) := by decide +kernel
theorem dX11_keep_66 : decode cX11_keep 66 = .ok (.aload_n 0, 1) := by decide +kernel
theorem dX11_keep_67 : decode cX11_keep 67 = .ok (.getfield 142, 3) := by decide +kernel
theorem dX11_keep_70 : decode cX11_keep 70 = .ok (.iload_n 1, 1) := by decide +kernel
theorem dX11_keep_71 : decode cX11_keep 71 = .ok (.aload_n 0, 1) := by decide +kernel
theorem dX11_keep_72 : decode cX11_keep 72 = .ok (.getfield 34, 3) := by decide +kernel
theorem dX11_keep_75 : decode cX11_keep 75 = .ok (.iload_n 1, 1) := by decide +kernel
theorem dX11_keep_76 : decode cX11_keep 76 = .ok (.iaload, 1) := by decide +kernel
theorem dX11_keep_77 : decode cX11_keep 77 = .ok (.iastore, 1) := by decide +kernel
theorem dX11_keep_78 : decode cX11_keep 78 = .ok (.aload_n 0, 1) := by decide +kernel
theorem dX11_keep_79 : decode cX11_keep 79 = .ok (.getfield 145, 3) := by decide +kernel
theorem dX11_keep_82 : decode cX11_keep 82 = .ok (.iload_n 1, 1) := by decide +kernel
theorem dX11_keep_83 : decode cX11_keep 83 = .ok (.aload_n 0, 1) := by decide +kernel
theorem dX11_keep_84 : decode cX11_keep 84 = .ok (.getfield 37, 3) := by decide +kernel
theorem dX11_keep_87 : decode cX11_keep 87 = .ok (.iload_n 1, 1) := by decide +kernel
theorem dX11_keep_88 : decode cX11_keep 88 = .ok (.iaload, 1) := by decide +kernel
theorem dX11_keep_89 : decode cX11_keep 89 = .ok (.iastore, 1) := by decide +kernel
theorem dX11_keep_90 : decode cX11_keep 90 = .ok (.aload_n 0, 1) := by decide +kernel
theorem dX11_keep_91 : decode cX11_keep 91 = .ok (.getfield 148, 3) := by decide +kernel
theorem dX11_keep_94 : decode cX11_keep 94 = .ok (.iload_n 1, 1) := by decide +kernel
theorem dX11_keep_95 : decode cX11_keep 95 = .ok (.aload_n 0, 1) := by decide +kernel
theorem dX11_keep_96 : decode cX11_keep 96 = .ok (.getfield 40, 3) := by decide +kernel
theorem dX11_keep_99 : decode cX11_keep 99 = .ok (.iload_n 1, 1) := by decide +kernel
theorem dX11_keep_100 : decode cX11_keep 100 = .ok (.iaload, 1) := by decide +kernel
theorem dX11_keep_101 : decode cX11_keep 101 = .ok (.iastore, 1) := by decide +kernel
theorem dX11_keep_102 : decode cX11_keep 102 = .ok (.iinc 1 1, 3) := by decide +kernel
theorem dX11_keep_105 : decode cX11_keep 105 = .ok (.goto (-69), 3) := by decide +kernel
theorem dX11_keep_108 : decode cX11_keep 108 = .ok (.iconst 0, 1) := by decide +kernel
theorem dX11_keep_109 : decode cX11_keep 109 = .ok (.istore_n 1, 1) := by decide +kernel
theorem dX11_keep_110 : decode cX11_keep 110 = .ok (.iload_n 1, 1) := by decide +kernel
theorem dX11_keep_111 : decode cX11_keep 111 = .ok (.bipush 8, 2) := by decide +kernel
theorem dX11_keep_113 : decode cX11_keep 113 = .ok (.if_icmp .ge 21, 3) := by decide +kernel
theorem dX11_keep_116 : decode cX11_keep 116 = .ok (.aload_n 0, 1) := by decide +kernel
theorem dX11_keep_117 : decode cX11_keep 117 = .ok (.getfield 151, 3) := by decide +kernel
theorem dX11_keep_120 : decode cX11_keep 120 = .ok (.iload_n 1, 1) := by decide +kernel
theorem dX11_keep_121 : decode cX11_keep 121 = .ok (.aload_n 0, 1) := by decide +kernel
theorem dX11_keep_122 : decode cX11_keep 122 = .ok (.getfield 46, 3) := by decide +kernel
theorem dX11_keep_125 : decode cX11_keep 125 = .ok (.iload_n 1, 1) := by decide +kernel
theorem dX11_keep_126 : decode cX11_keep 126 = .ok (.iaload, 1) := by decide +kernel
theorem dX11_keep_127 : decode cX11_keep 127 = .ok (.iastore, 1) := by decide +kernel
theorem dX11_keep_128 : decode cX11_keep 128 = .ok (.iinc 1 1, 3) := by decide +kernel
theorem dX11_keep_131 : decode cX11_keep 131 = .ok (.goto (-21), 3) := by decide +kernel
theorem dX11_keep_134 : decode cX11_keep 134 = .ok (.aload_n 0, 1) := by decide +kernel
theorem dX11_keep_135 : decode cX11_keep 135 = .ok (.invokevirtual 425, 3) := by decide +kernel
theorem dX11_keep_138 : decode cX11_keep 138 = .ok (.ireturn, 1) := by decide +kernel
theorem dX11_undo_0 : decode cX11_undo 0 = .ok (.aload_n 0, 1) := by decide +kernel
theorem dX11_undo_1 : decode cX11_undo 1 = .ok (.getfield 514, 3) := by decide +kernel
theorem dX11_undo_4 : decode cX11_undo 4 = .ok (.ifCond .ne 5, 3) := by decide +kernel
theorem dX11_undo_7 : decode cX11_undo 7 = .ok (.iconst 0, 1) := by decide +kernel
theorem dX11_undo_8 : decode cX11_undo 8 = .ok (.ireturn, 1) := by decide +kernel
theorem dX11_undo_9 : decode cX11_undo 9 = .ok (.aload_n 0, 1) := by decide +kernel
theorem dX11_undo_10 : decode cX11_undo 10 = .ok (.iconst 1, 1) := by decide +kernel
theorem dX11_undo_11 : decode cX11_undo 11 = .ok (.invokevirtual 428, 3) := by decide +kernel
theorem dX11_undo_14 : decode cX11_undo 14 = .ok (.aload_n 0, 1) := by decide +kernel
theorem dX11_undo_15 : decode cX11_undo 15 = .ok (.aload_n 0, 1) := by decide +kernel
theorem dX11_undo_16 : decode cX11_undo 16 = .ok (.getfield 517, 3) := by decide +kernel
theorem dX11_undo_19 : decode cX11_undo 19 = .ok (.putfield 164, 3) := by decide +kernel
theorem dX11_undo_22 : decode cX11_undo 22 = .ok (.aload_n 0, 1) := by decide +kernel
theorem dX11_undo_23 : decode cX11_undo 23 = .ok (.aload_n 0, 1) := by decide +kernel
theorem dX11_undo_24 : decode cX11_undo 24 = .ok (.getfield 520, 3) := by decide +kernel
theorem dX11_undo_27 : decode cX11_undo 27 = .ok (.putfield 170, 3) := by decide +kernel
theorem dX11_undo_30 : decode cX11_undo 30 = .ok (.aload_n 0, 1) := by decide +kernel
theorem dX11_undo_31 : decode cX11_undo 31 = .ok (.aload_n 0, 1) := by decide +kernel
theorem dX11_undo_32 : decode cX11_undo 32 = .ok (.getfield 523, 3) := by decide +kernel
theorem dX11_undo_35 : decode cX11_undo 35 = .ok (.putfield 13, 3) := by decide +kernel
theorem dX11_undo_38 : decode cX11_undo 38 = .ok (.iconst 0, 1) := by decide +kernel
theorem dX11_undo_39 : decode cX11_undo 39 = .ok (.istore_n 1, 1) := by decide +kernel
theorem dX11_undo_40 : decode cX11_undo 40 = .ok (.iload_n 1, 1) := by decide +kernel
theorem dX11_undo_41 : decode cX11_undo 41 = .ok (.bipush 12, 2) := by decide +kernel
theorem dX11_undo_43 : decode cX11_undo 43 = .ok (.if_icmp .ge 69, 3) := by decide +kernel
theorem dX11_undo_46 : decode cX11_undo 46 = .ok (.aload_n 0, 1) := by decide +kernel
theorem dX11_undo_47 : decode cX11_undo 47 = .ok (.getfield 28, 3) := by decide +kernel
theorem dX11_undo_50 : decode cX11_undo 50 = .ok (.iload_n 1, 1) := by decide +kernel
theorem dX11_undo_51 : decode cX11_undo 51 = .ok (.aload_n 0, 1) := by decide +kernel
theorem dX11_undo_52 : decode cX11_undo 52 = .ok (.getfield 136, 3) := by decide +kernel
theorem dX11_undo_55 : decode cX11_undo 55 = .ok (.iload_n 1, 1) := by decide +kernel
theorem dX11_undo_56 : decode cX11_undo 56 = .ok (.iaload, 1) := by decide +kernel
theorem dX11_undo_57 : decode cX11_undo 57 = .ok (.iastore, 1) := by decide +kernel
theorem dX11_undo_58 : decode cX11_undo 58 = .ok (.aload_n 0, 1) := by decide +kernel
theorem dX11_undo_59 : decode cX11_undo 59 = .ok (.getfield 31, 3) := by decide +kernel
theorem dX11_undo_62 : decode cX11_undo 62 = .ok (.iload_n 1, 1) := by decide +kernel
theorem dX11_undo_63 : decode cX11_undo 63 = .ok (.aload_n 0, 1) := by decide +kernel
theorem dX11_undo_64 : decode cX11_undo 64 = .ok (.getfield 139, 3) := by decide +kernel
theorem dX11_undo_67 : decode cX11_undo 67 = .ok (.iload_n 1, 1) := by decide +kernel
theorem dX11_undo_68 : decode cX11_undo 68 = .ok (.iaload, 1) := by decide +kernel
theorem dX11_undo_69 : decode cX11_undo 69 = .ok (.iastore, 1) := by decide +kernel
theorem dX11_undo_70 : decode cX11_undo 70 = .ok (.aload_n 0, 1) := by decide +kernel
theorem dX11_undo_71 : decode cX11_undo 71 = .ok (.getfield 34, 3) := by decide +kernel
theorem dX11_undo_74 : decode cX11_undo 74 = .ok (.iload_n 1, 1) := by decide +kernel
theorem dX11_undo_75 : decode cX11_undo 75 = .ok (.aload_n 0, 1) := by decide +kernel
theorem dX11_undo_76 : decode cX11_undo 76 = .ok (.getfield 142, 3) := by decide +kernel
theorem dX11_undo_79 : decode cX11_undo 79 = .ok (.iload_n 1, 1) := by decide +kernel
theorem dX11_undo_80 : decode cX11_undo 80 = .ok (.iaload, 1) := by decide +kernel
theorem dX11_undo_81 : decode cX11_undo 81 = .ok (.iastore, 1) := by decide +kernel
theorem dX11_undo_82 : decode cX11_undo 82 = .ok (.aload_n 0, 1) := by decide +kernel
theorem dX11_undo_83 : decode cX11_undo 83 = .ok (.getfield 37, 3) := by decide +kernel
theorem dX11_undo_86 : decode cX11_undo 86 = .ok (.iload_n 1, 1) := by decide +kernel
theorem dX11_undo_87 : decode cX11_undo 87 = .ok (.aload_n 0, 1) := by decide +kernel
theorem dX11_undo_88 : decode cX11_undo 88 = .ok (.getfield 145, 3) := by decide +kernel
theorem dX11_undo_91 : decode cX11_undo 91 = .ok (.iload_n 1, 1) := by decide +kernel
theorem dX11_undo_92 : decode cX11_undo 92 = .ok (.iaload, 1) := by decide +kernel
theorem dX11_undo_93 : decode cX11_undo 93 = .ok (.iastore, 1) := by decide +kernel
theorem dX11_undo_94 : decode cX11_undo 94 = .ok (.aload_n 0, 1) := by decide +kernel
theorem dX11_undo_95 : decode cX11_undo 95 = .ok (.getfield 40, 3) := by decide +kernel
theorem dX11_undo_98 : decode cX11_undo 98 = .ok (.iload_n 1, 1) := by decide +kernel
theorem dX11_undo_99 : decode cX11_undo 99 = .ok (.aload_n 0, 1) := by decide +kernel
theorem dX11_undo_100 : decode cX11_undo 100 = .ok (.getfield 148, 3) := by decide +kernel
theorem dX11_undo_103 : decode cX11_undo 103 = .ok (.iload_n 1, 1) := by decide +kernel
theorem dX11_undo_104 : decode cX11_undo 104 = .ok (.iaload, 1) := by decide +kernel
theorem dX11_undo_105 : decode cX11_undo 105 = .ok (.iastore, 1) := by decide +kernel
theorem dX11_undo_106 : decode cX11_undo 106 = .ok (.iinc 1 1, 3) := by decide +kernel
theorem dX11_undo_109 : decode cX11_undo 109 = .ok (.goto (-69), 3) := by decide +kernel
theorem dX11_undo_112 : decode cX11_undo 112 = .ok (.iconst 0, 1) := by decide +kernel
theorem dX11_undo_113 : decode cX11_undo 113 = .ok (.istore_n 1, 1) := by decide +kernel
theorem dX11_undo_114 : decode cX11_undo 114 = .ok (.iload_n 1, 1) := by decide +kernel
theorem dX11_undo_115 : decode cX11_undo 115 = .ok (.bipush 8, 2) := by decide +kernel
theorem dX11_undo_117 : decode cX11_undo 117 = .ok (.if_icmp .ge 21, 3) := by decide +kernel
theorem dX11_undo_120 : decode cX11_undo 120 = .ok (.aload_n 0, 1) := by decide +kernel
theorem dX11_undo_121 : decode cX11_undo 121 = .ok (.getfield 46, 3) := by decide +kernel
theorem dX11_undo_124 : decode cX11_undo 124 = .ok (.iload_n 1, 1) := by decide +kernel
theorem dX11_undo_125 : decode cX11_undo 125 = .ok (.aload_n 0, 1) := by decide +kernel
theorem dX11_undo_126 : decode cX11_undo 126 = .ok (.getfield 151, 3) := by decide +kernel
theorem dX11_undo_129 : decode cX11_undo 129 = .ok (.iload_n 1, 1) := by decide +kernel
theorem dX11_undo_130 : decode cX11_undo 130 = .ok (.iaload, 1) := by decide +kernel
theorem dX11_undo_131 : decode cX11_undo 131 = .ok (.iastore, 1) := by decide +kernel
theorem dX11_undo_132 : decode cX11_undo 132 = .ok (.iinc 1 1, 3) := by decide +kernel
theorem dX11_undo_135 : decode cX11_undo 135 = .ok (.goto (-21), 3) := by decide +kernel
theorem dX11_undo_138 : decode cX11_undo 138 = .ok (.iconst 1, 1) := by decide +kernel
theorem dX11_undo_139 : decode cX11_undo 139 = .ok (.ireturn, 1) := by decide +kernel
theorem dX11_numberAt_0 : decode cX11_numberAt 0 = .ok (.iconst 0, 1) := by decide +kernel
theorem dX11_numberAt_1 : decode cX11_numberAt 1 = .ok (.istore_n 2, 1) := by decide +kernel
theorem dX11_numberAt_2 : decode cX11_numberAt 2 = .ok (.iconst 0, 1) := by decide +kernel
theorem dX11_numberAt_3 : decode cX11_numberAt 3 = .ok (.istore_n 3, 1) := by decide +kernel
theorem dX11_numberAt_4 : decode cX11_numberAt 4 = .ok (.iload_n 3, 1) := by decide +kernel
theorem dX11_numberAt_5 : decode cX11_numberAt 5 = .ok (.iconst 4, 1) := by decide +kernel
theorem dX11_numberAt_6 : decode cX11_numberAt 6 = .ok (.if_icmp .ge 29, 3) := by decide +kernel
theorem dX11_numberAt_9 : decode cX11_numberAt 9 = .ok (.iload_n 2, 1) := by decide +kernel
theorem dX11_numberAt_10 : decode cX11_numberAt 10 = .ok (.bipush 8, 2) := by decide +kernel
theorem dX11_numberAt_12 : decode cX11_numberAt 12 = .ok (.ishl, 1) := by decide +kernel
theorem dX11_numberAt_13 : decode cX11_numberAt 13 = .ok (.aload_n 0, 1) := by decide +kernel
theorem dX11_numberAt_14 : decode cX11_numberAt 14 = .ok (.getfield 7, 3) := by decide +kernel
theorem dX11_numberAt_17 : decode cX11_numberAt 17 = .ok (.iconst 4, 1) := by decide +kernel
theorem dX11_numberAt_18 : decode cX11_numberAt 18 = .ok (.iload_n 1, 1) := by decide +kernel
theorem dX11_numberAt_19 : decode cX11_numberAt 19 = .ok (.imul, 1) := by decide +kernel
theorem dX11_numberAt_20 : decode cX11_numberAt 20 = .ok (.iload_n 3, 1) := by decide +kernel
theorem dX11_numberAt_21 : decode cX11_numberAt 21 = .ok (.iadd, 1) := by decide +kernel
theorem dX11_numberAt_22 : decode cX11_numberAt 22 = .ok (.baload, 1) := by decide +kernel
theorem dX11_numberAt_23 : decode cX11_numberAt 23 = .ok (.sipush 255, 3) := by decide +kernel
theorem dX11_numberAt_26 : decode cX11_numberAt 26 = .ok (.iand, 1) := by decide +kernel
theorem dX11_numberAt_27 : decode cX11_numberAt 27 = .ok (.ior, 1) := by decide +kernel
theorem dX11_numberAt_28 : decode cX11_numberAt 28 = .ok (.istore_n 2, 1) := by decide +kernel
theorem dX11_numberAt_29 : decode cX11_numberAt 29 = .ok (.iinc 3 1, 3) := by decide +kernel
theorem dX11_numberAt_32 : decode cX11_numberAt 32 = .ok (.goto (-28), 3) := by decide +kernel
theorem dX11_numberAt_35 : decode cX11_numberAt 35 = .ok (.iload_n 2, 1) := by decide +kernel
theorem dX11_numberAt_36 : decode cX11_numberAt 36 = .ok (.ireturn, 1) := by decide +kernel
theorem dX11_check_0 : decode cX11_check 0 = .ok (.iload_n 1, 1) := by decide +kernel
theorem dX11_check_1 : decode cX11_check 1 = .ok (.invokestatic 160, 3) := by decide +kernel
theorem dX11_check_4 : decode cX11_check 4 = .ok (.ifCond .eq 25, 3) := by decide +kernel
theorem dX11_check_7 : decode cX11_check 7 = .ok (.iload_n 2, 1) := by decide +kernel
theorem dX11_check_8 : decode cX11_check 8 = .ok (.i2l, 1) := by decide +kernel
theorem dX11_check_9 : decode cX11_check 9 = .ok (.lconst 0, 1) := by decide +kernel
theorem dX11_check_10 : decode cX11_check 10 = .ok (.ldc2_w 526, 3) := by decide +kernel
theorem dX11_check_13 : decode cX11_check 13 = .ok (.invokestatic 156, 3) := by decide +kernel
theorem dX11_check_16 : decode cX11_check 16 = .ok (.ifCond .eq 13, 3) := by decide +kernel
theorem dX11_check_19 : decode cX11_check 19 = .ok (.iload_n 2, 1) := by decide +kernel
theorem dX11_check_20 : decode cX11_check 20 = .ok (.aload_n 0, 1) := by decide +kernel
theorem dX11_check_21 : decode cX11_check 21 = .ok (.getfield 190, 3) := by decide +kernel
theorem dX11_check_24 : decode cX11_check 24 = .ok (.iconst 4, 1) := by decide +kernel
theorem dX11_check_25 : decode cX11_check 25 = .ok (.idiv, 1) := by decide +kernel
theorem dX11_check_26 : decode cX11_check 26 = .ok (.if_icmp .le 6, 3) := by decide +kernel
theorem dX11_check_29 : decode cX11_check 29 = .ok (.bipush (-2), 2) := by decide +kernel
theorem dX11_check_31 : decode cX11_check 31 = .ok (.ireturn, 1) := by decide +kernel
theorem dX11_check_32 : decode cX11_check 32 = .ok (.aload_n 0, 1) := by decide +kernel
theorem dX11_check_33 : decode cX11_check 33 = .ok (.iconst 0, 1) := by decide +kernel
theorem dX11_check_34 : decode cX11_check 34 = .ok (.putfield 190, 3) := by decide +kernel
theorem dX11_check_37 : decode cX11_check 37 = .ok (.iconst 0, 1) := by decide +kernel
theorem dX11_check_38 : decode cX11_check 38 = .ok (.istore_n 3, 1) := by decide +kernel
theorem dX11_check_39 : decode cX11_check 39 = .ok (.iload_n 3, 1) := by decide +kernel
theorem dX11_check_40 : decode cX11_check 40 = .ok (.iload_n 2, 1) := by decide +kernel
theorem dX11_check_41 : decode cX11_check 41 = .ok (.if_icmp .ge 64, 3) := by decide +kernel
theorem dX11_check_44 : decode cX11_check 44 = .ok (.bipush 16, 2) := by decide +kernel
theorem dX11_check_46 : decode cX11_check 46 = .ok (.iload_n 1, 1) := by decide +kernel
theorem dX11_check_47 : decode cX11_check 47 = .ok (.imul, 1) := by decide +kernel
theorem dX11_check_48 : decode cX11_check 48 = .ok (.iload_n 3, 1) := by decide +kernel
theorem dX11_check_49 : decode cX11_check 49 = .ok (.iadd, 1) := by decide +kernel
theorem dX11_check_50 : decode cX11_check 50 = .ok (.istore 4, 2) := by decide +kernel
theorem dX11_check_52 : decode cX11_check 52 = .ok (.aload_n 0, 1) := by decide +kernel
theorem dX11_check_53 : decode cX11_check 53 = .ok (.iload_n 3, 1) := by decide +kernel
theorem dX11_check_54 : decode cX11_check 54 = .ok (.invokevirtual 528, 3) := by decide +kernel
theorem dX11_check_57 : decode cX11_check 57 = .ok (.aload_n 0, 1) := by decide +kernel
theorem dX11_check_58 : decode cX11_check 58 = .ok (.getfield 21, 3) := by decide +kernel
theorem dX11_check_61 : decode cX11_check 61 = .ok (.iload 4, 2) := by decide +kernel
theorem dX11_check_63 : decode cX11_check 63 = .ok (.baload, 1) := by decide +kernel
theorem dX11_check_64 : decode cX11_check 64 = .ok (.ifCond .eq 7, 3) := by decide +kernel
theorem dX11_check_67 : decode cX11_check 67 = .ok (.iconst (-1), 1) := by decide +kernel
theorem dX11_check_68 : decode cX11_check 68 = .ok (.goto 26, 3) := by decide +kernel
theorem dX11_check_71 : decode cX11_check 71 = .ok (.aload_n 0, 1) := by decide +kernel
theorem dX11_check_72 : decode cX11_check 72 = .ok (.getfield 25, 3) := by decide +kernel
theorem dX11_check_75 : decode cX11_check 75 = .ok (.iload 4, 2) := by decide +kernel
theorem dX11_check_77 : decode cX11_check 77 = .ok (.iaload, 1) := by decide +kernel
theorem dX11_check_78 : decode cX11_check 78 = .ok (.iconst (-1), 1) := by decide +kernel
theorem dX11_check_79 : decode cX11_check 79 = .ok (.if_icmp .eq 8, 3) := by decide +kernel
theorem dX11_check_82 : decode cX11_check 82 = .ok (.bipush (-2), 2) := by decide +kernel
theorem dX11_check_84 : decode cX11_check 84 = .ok (.goto 10, 3) := by decide +kernel
theorem dX11_check_87 : decode cX11_check 87 = .ok (.aload_n 0, 1) := by decide +kernel
theorem dX11_check_88 : decode cX11_check 88 = .ok (.getfield 17, 3) := by decide +kernel
theorem dX11_check_91 : decode cX11_check 91 = .ok (.iload 4, 2) := by decide +kernel
theorem dX11_check_93 : decode cX11_check 93 = .ok (.iaload, 1) := by decide +kernel
theorem dX11_check_94 : decode cX11_check 94 = .ok (.if_icmp .eq 5, 3) := by decide +kernel
theorem dX11_check_97 : decode cX11_check 97 = .ok (.iload_n 3, 1) := by decide +kernel
theorem dX11_check_98 : decode cX11_check 98 = .ok (.ireturn, 1) := by decide +kernel
theorem dX11_check_99 : decode cX11_check 99 = .ok (.iinc 3 1, 3) := by decide +kernel
theorem dX11_check_102 : decode cX11_check 102 = .ok (.goto (-63), 3) := by decide +kernel
theorem dX11_check_105 : decode cX11_check 105 = .ok (.iconst (-1), 1) := by decide +kernel
theorem dX11_check_106 : decode cX11_check 106 = .ok (.ireturn, 1) := by decide +kernel
theorem dX11_count_0 : decode cX11_count 0 = .ok (.iload_n 1, 1) := by decide +kernel
theorem dX11_count_1 : decode cX11_count 1 = .ok (.tableswitch 87 0 7 #[47, 52, 57, 62, 67, 72, 77, 82], 47) := by decide +kernel
theorem dX11_count_48 : decode cX11_count 48 = .ok (.aload_n 0, 1) := by decide +kernel
theorem dX11_count_49 : decode cX11_count 49 = .ok (.getfield 329, 3) := by decide +kernel
theorem dX11_count_52 : decode cX11_count 52 = .ok (.ireturn, 1) := by decide +kernel
theorem dX11_count_53 : decode cX11_count 53 = .ok (.aload_n 0, 1) := by decide +kernel
theorem dX11_count_54 : decode cX11_count 54 = .ok (.getfield 164, 3) := by decide +kernel
theorem dX11_count_57 : decode cX11_count 57 = .ok (.ireturn, 1) := by decide +kernel
theorem dX11_count_58 : decode cX11_count 58 = .ok (.aload_n 0, 1) := by decide +kernel
theorem dX11_count_59 : decode cX11_count 59 = .ok (.getfield 170, 3) := by decide +kernel
theorem dX11_count_62 : decode cX11_count 62 = .ok (.ireturn, 1) := by decide +kernel
theorem dX11_count_63 : decode cX11_count 63 = .ok (.aload_n 0, 1) := by decide +kernel
theorem dX11_count_64 : decode cX11_count 64 = .ok (.getfield 304, 3) := by decide +kernel
theorem dX11_count_67 : decode cX11_count 67 = .ok (.ireturn, 1) := by decide +kernel
theorem dX11_count_68 : decode cX11_count 68 = .ok (.aload_n 0, 1) := by decide +kernel
theorem dX11_count_69 : decode cX11_count 69 = .ok (.getfield 190, 3) := by decide +kernel
theorem dX11_count_72 : decode cX11_count 72 = .ok (.ireturn, 1) := by decide +kernel
theorem dX11_count_73 : decode cX11_count 73 = .ok (.aload_n 0, 1) := by decide +kernel
theorem dX11_count_74 : decode cX11_count 74 = .ok (.getfield 13, 3) := by decide +kernel
theorem dX11_count_77 : decode cX11_count 77 = .ok (.ireturn, 1) := by decide +kernel
theorem dX11_count_78 : decode cX11_count 78 = .ok (.aload_n 0, 1) := by decide +kernel
theorem dX11_count_79 : decode cX11_count 79 = .ok (.invokevirtual 425, 3) := by decide +kernel
theorem dX11_count_82 : decode cX11_count 82 = .ok (.ireturn, 1) := by decide +kernel
theorem dX11_count_83 : decode cX11_count 83 = .ok (.aload_n 0, 1) := by decide +kernel
theorem dX11_count_84 : decode cX11_count 84 = .ok (.invokevirtual 414, 3) := by decide +kernel
theorem dX11_count_87 : decode cX11_count 87 = .ok (.ireturn, 1) := by decide +kernel
theorem dX11_count_88 : decode cX11_count 88 = .ok (.iconst (-1), 1) := by decide +kernel
theorem dX11_count_89 : decode cX11_count 89 = .ok (.ireturn, 1) := by decide +kernel
