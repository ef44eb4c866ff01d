theorem dX8_init_0 : decode cX8_init 0 = .ok (.aload_n 0, 1) := by decide +kernel
theorem dX8_init_1 : decode cX8_init 1 = .ok (.invokespecial 3, 3) := by decide +kernel
theorem dX8_init_4 : decode cX8_init 4 = .ok (.aload_n 0, 1) := by decide +kernel
theorem dX8_init_5 : decode cX8_init 5 = .ok (.bipush 40, 2) := by decide +kernel
theorem dX8_init_7 : decode cX8_init 7 = .ok (.newarray .int, 2) := by decide +kernel
theorem dX8_init_9 : decode cX8_init 9 = .ok (.putfield 9, 3) := by decide +kernel
theorem dX8_init_12 : decode cX8_init 12 = .ok (.aload_n 0, 1) := by decide +kernel
theorem dX8_init_13 : decode cX8_init 13 = .ok (.bipush 40, 2) := by decide +kernel
theorem dX8_init_15 : decode cX8_init 15 = .ok (.newarray .int, 2) := by decide +kernel
theorem dX8_init_17 : decode cX8_init 17 = .ok (.putfield 15, 3) := by decide +kernel
theorem dX8_init_20 : decode cX8_init 20 = .ok (.aload_n 0, 1) := by decide +kernel
theorem dX8_init_21 : decode cX8_init 21 = .ok (.bipush 40, 2) := by decide +kernel
theorem dX8_init_23 : decode cX8_init 23 = .ok (.newarray .int, 2) := by decide +kernel
theorem dX8_init_25 : decode cX8_init 25 = .ok (.putfield 18, 3) := by decide +kernel
theorem dX8_init_28 : decode cX8_init 28 = .ok (.aload_n 0, 1) := by decide +kernel
theorem dX8_init_29 : decode cX8_init 29 = .ok (.bipush 40, 2) := by decide +kernel
theorem dX8_init_31 : decode cX8_init 31 = .ok (.newarray .int, 2) := by decide +kernel
theorem dX8_init_33 : decode cX8_init 33 = .ok (.putfield 21, 3) := by decide +kernel
theorem dX8_init_36 : decode cX8_init 36 = .ok (.aload_n 0, 1) := by decide +kernel
theorem dX8_init_37 : decode cX8_init 37 = .ok (.bipush 40, 2) := by decide +kernel
theorem dX8_init_39 : decode cX8_init 39 = .ok (.newarray .int, 2) := by decide +kernel
theorem dX8_init_41 : decode cX8_init 41 = .ok (.putfield 24, 3) := by decide +kernel
theorem dX8_init_44 : decode cX8_init 44 = .ok (.aload_n 0, 1) := by decide +kernel
theorem dX8_init_45 : decode cX8_init 45 = .ok (.bipush 40, 2) := by decide +kernel
theorem dX8_init_47 : decode cX8_init 47 = .ok (.newarray .int, 2) := by decide +kernel
theorem dX8_init_49 : decode cX8_init 49 = .ok (.putfield 27, 3) := by decide +kernel
theorem dX8_init_52 : decode cX8_init 52 = .ok (.aload_n 0, 1) := by decide +kernel
theorem dX8_init_53 : decode cX8_init 53 = .ok (.bipush 40, 2) := by decide +kernel
theorem dX8_init_55 : decode cX8_init 55 = .ok (.newarray .int, 2) := by decide +kernel
theorem dX8_init_57 : decode cX8_init 57 = .ok (.putfield 30, 3) := by decide +kernel
theorem dX8_init_60 : decode cX8_init 60 = .ok (.aload_n 0, 1) := by decide +kernel
theorem dX8_init_61 : decode cX8_init 61 = .ok (.bipush 40, 2) := by decide +kernel
theorem dX8_init_63 : decode cX8_init 63 = .ok (.newarray .int, 2) := by decide +kernel
theorem dX8_init_65 : decode cX8_init 65 = .ok (.putfield 33, 3) := by decide +kernel
theorem dX8_init_68 : decode cX8_init 68 = .ok (.aload_n 0, 1) := by decide +kernel
theorem dX8_init_69 : decode cX8_init 69 = .ok (.bipush 40, 2) := by decide +kernel
theorem dX8_init_71 : decode cX8_init 71 = .ok (.newarray .int, 2) := by decide +kernel
theorem dX8_init_73 : decode cX8_init 73 = .ok (.putfield 36, 3) := by decide +kernel
theorem dX8_init_76 : decode cX8_init 76 = .ok (.aload_n 0, 1) := by decide +kernel
theorem dX8_init_77 : decode cX8_init 77 = .ok (.bipush 40, 2) := by decide +kernel
theorem dX8_init_79 : decode cX8_init 79 = .ok (.newarray .int, 2) := by decide +kernel
theorem dX8_init_81 : decode cX8_init 81 = .ok (.putfield 39, 3) := by decide +kernel
theorem dX8_init_84 : decode cX8_init 84 = .ok (.aload_n 0, 1) := by decide +kernel
theorem dX8_init_85 : decode cX8_init 85 = .ok (.sipush 160, 3) := by decide +kernel
theorem dX8_init_88 : decode cX8_init 88 = .ok (.newarray .int, 2) := by decide +kernel
theorem dX8_init_90 : decode cX8_init 90 = .ok (.putfield 42, 3) := by decide +kernel
theorem dX8_init_93 : decode cX8_init 93 = .ok (.aload_n 0, 1) := by decide +kernel
theorem dX8_init_94 : decode cX8_init 94 = .ok (.iconst 4, 1) := by decide +kernel
theorem dX8_init_95 : decode cX8_init 95 = .ok (.newarray .int, 2) := by decide +kernel
theorem dX8_init_97 : decode cX8_init 97 = .ok (.putfield 45, 3) := by decide +kernel
theorem dX8_init_100 : decode cX8_init 100 = .ok (.aload_n 0, 1) := by decide +kernel
theorem dX8_init_101 : decode cX8_init 101 = .ok (.sipush 320, 3) := by decide +kernel
theorem dX8_init_104 : decode cX8_init 104 = .ok (.newarray .int, 2) := by decide +kernel
theorem dX8_init_106 : decode cX8_init 106 = .ok (.putfield 48, 3) := by decide +kernel
theorem dX8_init_109 : decode cX8_init 109 = .ok (.aload_n 0, 1) := by decide +kernel
theorem dX8_init_110 : decode cX8_init 110 = .ok (.sipush 320, 3) := by decide +kernel
theorem dX8_init_113 : decode cX8_init 113 = .ok (.newarray .int, 2) := by decide +kernel
theorem dX8_init_115 : decode cX8_init 115 = .ok (.putfield 51, 3) := by decide +kernel
theorem dX8_init_118 : decode cX8_init 118 = .ok (.aload_n 0, 1) := by decide +kernel
theorem dX8_init_119 : decode cX8_init 119 = .ok (.sipush 320, 3) := by decide +kernel
theorem dX8_init_122 : decode cX8_init 122 = .ok (.newarray .int, 2) := by decide +kernel
theorem dX8_init_124 : decode cX8_init 124 = .ok (.putfield 54, 3) := by decide +kernel
theorem dX8_init_127 : decode cX8_init 127 = .ok (.aload_n 0, 1) := by decide +kernel
theorem dX8_init_128 : decode cX8_init 128 = .ok (.sipush 320, 3) := by decide +kernel
theorem dX8_init_131 : decode cX8_init 131 = .ok (.newarray .boolean, 2) := by decide +kernel
theorem dX8_init_133 : decode cX8_init 133 = .ok (.putfield 57, 3) := by decide +kernel
theorem dX8_init_136 : decode cX8_init 136 = .ok (.aload_n 0, 1) := by decide +kernel
theorem dX8_init_137 : decode cX8_init 137 = .ok (.sipush 320, 3) := by decide +kernel
theorem dX8_init_140 : decode cX8_init 140 = .ok (.newarray .int, 2) := by decide +kernel
theorem dX8_init_142 : decode cX8_init 142 = .ok (.putfield 61, 3) := by decide +kernel
theorem dX8_init_145 : decode cX8_init 145 = .ok (.return_, 1) := by decide +kernel
theorem dX8_clear_0 : decode cX8_clear 0 = .ok (.aload_n 0, 1) := by decide +kernel
theorem dX8_clear_1 : decode cX8_clear 1 = .ok (.iconst 0, 1) := by decide +kernel
theorem dX8_clear_2 : decode cX8_clear 2 = .ok (.putfield 64, 3) := by decide +kernel
theorem dX8_clear_5 : decode cX8_clear 5 = .ok (.aload_n 0, 1) := by decide +kernel
theorem dX8_clear_6 : decode cX8_clear 6 = .ok (.getfield 45, 3) := by decide +kernel
theorem dX8_clear_9 : decode cX8_clear 9 = .ok (.iconst 0, 1) := by decide +kernel
theorem dX8_clear_10 : decode cX8_clear 10 = .ok (.invokestatic 68, 3) := by decide +kernel
theorem dX8_clear_13 : decode cX8_clear 13 = .ok (.return_, 1) := by decide +kernel
theorem dX8_add_0 : decode cX8_add 0 = .ok (.aload_n 0, 1) := by decide +kernel
theorem dX8_add_1 : decode cX8_add 1 = .ok (.getfield 64, 3) := by decide +kernel
theorem dX8_add_4 : decode cX8_add 4 = .ok (.bipush 40, 2) := by decide +kernel
theorem dX8_add_6 : decode cX8_add 6 = .ok (.if_icmp .ge 156, 3) := by decide +kernel
theorem dX8_add_9 : decode cX8_add 9 = .ok (.aload_n 1, 1) := by decide +kernel
theorem dX8_add_10 : decode cX8_add 10 = .ok (.iload_n 2, 1) := by decide +kernel
theorem dX8_add_11 : decode cX8_add 11 = .ok (.iconst 0, 1) := by decide +kernel
theorem dX8_add_12 : decode cX8_add 12 = .ok (.invokevirtual 74, 3) := by decide +kernel
theorem dX8_add_15 : decode cX8_add 15 = .ok (.istore 6, 2) := by decide +kernel
theorem dX8_add_17 : decode cX8_add 17 = .ok (.aload_n 0, 1) := by decide +kernel
theorem dX8_add_18 : decode cX8_add 18 = .ok (.getfield 9, 3) := by decide +kernel
theorem dX8_add_21 : decode cX8_add 21 = .ok (.aload_n 0, 1) := by decide +kernel
theorem dX8_add_22 : decode cX8_add 22 = .ok (.getfield 64, 3) := by decide +kernel
theorem dX8_add_25 : decode cX8_add 25 = .ok (.iload_n 2, 1) := by decide +kernel
theorem dX8_add_26 : decode cX8_add 26 = .ok (.iastore, 1) := by decide +kernel
theorem dX8_add_27 : decode cX8_add 27 = .ok (.aload_n 0, 1) := by decide +kernel
theorem dX8_add_28 : decode cX8_add 28 = .ok (.getfield 15, 3) := by decide +kernel
theorem dX8_add_31 : decode cX8_add 31 = .ok (.aload_n 0, 1) := by decide +kernel
theorem dX8_add_32 : decode cX8_add 32 = .ok (.getfield 64, 3) := by decide +kernel
theorem dX8_add_35 : decode cX8_add 35 = .ok (.iload_n 3, 1) := by decide +kernel
theorem dX8_add_36 : decode cX8_add 36 = .ok (.iastore, 1) := by decide +kernel
theorem dX8_add_37 : decode cX8_add 37 = .ok (.aload_n 0, 1) := by decide +kernel
theorem dX8_add_38 : decode cX8_add 38 = .ok (.getfield 18, 3) := by decide +kernel
theorem dX8_add_41 : decode cX8_add 41 = .ok (.aload_n 0, 1) := by decide +kernel
theorem dX8_add_42 : decode cX8_add 42 = .ok (.getfield 64, 3) := by decide +kernel
theorem dX8_add_45 : decode cX8_add 45 = .ok (.iload 4, 2) := by decide +kernel
theorem dX8_add_47 : decode cX8_add 47 = .ok (.iastore, 1) := by decide +kernel
theorem dX8_add_48 : decode cX8_add 48 = .ok (.aload_n 0, 1) := by decide +kernel
theorem dX8_add_49 : decode cX8_add 49 = .ok (.getfield 21, 3) := by decide +kernel
theorem dX8_add_52 : decode cX8_add 52 = .ok (.aload_n 0, 1) := by decide +kernel
theorem dX8_add_53 : decode cX8_add 53 = .ok (.getfield 64, 3) := by decide +kernel
theorem dX8_add_56 : decode cX8_add 56 = .ok (.iload 5, 2) := by decide +kernel
theorem dX8_add_58 : decode cX8_add 58 = .ok (.iastore, 1) := by decide +kernel
theorem dX8_add_59 : decode cX8_add 59 = .ok (.aload_n 0, 1) := by decide +kernel
theorem dX8_add_60 : decode cX8_add 60 = .ok (.getfield 24, 3) := by decide +kernel
theorem dX8_add_63 : decode cX8_add 63 = .ok (.aload_n 0, 1) := by decide +kernel
theorem dX8_add_64 : decode cX8_add 64 = .ok (.getfield 64, 3) := by decide +kernel
theorem dX8_add_67 : decode cX8_add 67 = .ok (.iload 4, 2) := by decide +kernel
theorem dX8_add_69 : decode cX8_add 69 = .ok (.iconst (-1), 1) := by decide +kernel
theorem dX8_add_70 : decode cX8_add 70 = .ok (.if_icmp .ne 7, 3) := by decide +kernel
theorem dX8_add_73 : decode cX8_add 73 = .ok (.iconst 0, 1) := by decide +kernel
theorem dX8_add_74 : decode cX8_add 74 = .ok (.goto 12, 3) := by decide +kernel
theorem dX8_add_77 : decode cX8_add 77 = .ok (.aload_n 0, 1) := by decide +kernel
theorem dX8_add_78 : decode cX8_add 78 = .ok (.getfield 24, 3) := by decide +kernel
theorem dX8_add_81 : decode cX8_add 81 = .ok (.iload 4, 2) := by decide +kernel
theorem dX8_add_83 : decode cX8_add 83 = .ok (.iaload, 1) := by decide +kernel
theorem dX8_add_84 : decode cX8_add 84 = .ok (.iconst 1, 1) := by decide +kernel
theorem dX8_add_85 : decode cX8_add 85 = .ok (.iadd, 1) := by decide +kernel
theorem dX8_add_86 : decode cX8_add 86 = .ok (.iastore, 1) := by decide +kernel
theorem dX8_add_87 : decode cX8_add 87 = .ok (.aload_n 0, 1) := by decide +kernel
theorem dX8_add_88 : decode cX8_add 88 = .ok (.getfield 30, 3) := by decide +kernel
theorem dX8_add_91 : decode cX8_add 91 = .ok (.aload_n 0, 1) := by decide +kernel
theorem dX8_add_92 : decode cX8_add 92 = .ok (.getfield 64, 3) := by decide +kernel
theorem dX8_add_95 : decode cX8_add 95 = .ok (.iload 6, 2) := by decide +kernel
theorem dX8_add_97 : decode cX8_add 97 = .ok (.iastore, 1) := by decide +kernel
theorem dX8_add_98 : decode cX8_add 98 = .ok (.aload_n 0, 1) := by decide +kernel
theorem dX8_add_99 : decode cX8_add 99 = .ok (.getfield 33, 3) := by decide +kernel
theorem dX8_add_102 : decode cX8_add 102 = .ok (.aload_n 0, 1) := by decide +kernel
theorem dX8_add_103 : decode cX8_add 103 = .ok (.getfield 64, 3) := by decide +kernel
theorem dX8_add_106 : decode cX8_add 106 = .ok (.aload_n 1, 1) := by decide +kernel
theorem dX8_add_107 : decode cX8_add 107 = .ok (.getfield 80, 3) := by decide +kernel
theorem dX8_add_110 : decode cX8_add 110 = .ok (.iload 6, 2) := by decide +kernel
theorem dX8_add_112 : decode cX8_add 112 = .ok (.iaload, 1) := by decide +kernel
theorem dX8_add_113 : decode cX8_add 113 = .ok (.iastore, 1) := by decide +kernel
theorem dX8_add_114 : decode cX8_add 114 = .ok (.aload_n 0, 1) := by decide +kernel
theorem dX8_add_115 : decode cX8_add 115 = .ok (.getfield 36, 3) := by decide +kernel
theorem dX8_add_118 : decode cX8_add 118 = .ok (.aload_n 0, 1) := by decide +kernel
theorem dX8_add_119 : decode cX8_add 119 = .ok (.getfield 64, 3) := by decide +kernel
theorem dX8_add_122 : decode cX8_add 122 = .ok (.aload_n 1, 1) := by decide +kernel
theorem dX8_add_123 : decode cX8_add 123 = .ok (.getfield 80, 3) := by decide +kernel
theorem dX8_add_126 : decode cX8_add 126 = .ok (.iload 6, 2) := by decide +kernel
theorem dX8_add_128 : decode cX8_add 128 = .ok (.iaload, 1) := by decide +kernel
theorem dX8_add_129 : decode cX8_add 129 = .ok (.aload_n 1, 1) := by decide +kernel
theorem dX8_add_130 : decode cX8_add 130 = .ok (.getfield 81, 3) := by decide +kernel
theorem dX8_add_133 : decode cX8_add 133 = .ok (.iload 6, 2) := by decide +kernel
theorem dX8_add_135 : decode cX8_add 135 = .ok (.iaload, 1) := by decide +kernel
theorem dX8_add_136 : decode cX8_add 136 = .ok (.iadd, 1) := by decide +kernel
theorem dX8_add_137 : decode cX8_add 137 = .ok (.iastore, 1) := by decide +kernel
theorem dX8_add_138 : decode cX8_add 138 = .ok (.aload_n 0, 1) := by decide +kernel
theorem dX8_add_139 : decode cX8_add 139 = .ok (.getfield 39, 3) := by decide +kernel
theorem dX8_add_142 : decode cX8_add 142 = .ok (.aload_n 0, 1) := by decide +kernel
theorem dX8_add_143 : decode cX8_add 143 = .ok (.getfield 64, 3) := by decide +kernel
theorem dX8_add_146 : decode cX8_add 146 = .ok (.aload_n 1, 1) := by decide +kernel
theorem dX8_add_147 : decode cX8_add 147 = .ok (.iload_n 2, 1) := by decide +kernel
theorem dX8_add_148 : decode cX8_add 148 = .ok (.invokevirtual 84, 3) := by decide +kernel
theorem dX8_add_151 : decode cX8_add 151 = .ok (.iastore, 1) := by decide +kernel
theorem dX8_add_152 : decode cX8_add 152 = .ok (.aload_n 0, 1) := by decide +kernel
theorem dX8_add_153 : decode cX8_add 153 = .ok (.dup, 1) := by decide +kernel
theorem dX8_add_154 : decode cX8_add 154 = .ok (.getfield 64, 3) := by decide +kernel
theorem dX8_add_157 : decode cX8_add 157 = .ok (.iconst 1, 1) := by decide +kernel
theorem dX8_add_158 : decode cX8_add 158 = .ok (.iadd, 1) := by decide +kernel
theorem dX8_add_159 : decode cX8_add 159 = .ok (.putfield 64, 3) := by decide +kernel
theorem dX8_add_162 : decode cX8_add 162 = .ok (.return_, 1) := by decide +kernel
theorem dX8_copyAhead_0 : decode cX8_copyAhead 0 = .ok (.aload_n 0, 1) := by decide +kernel
theorem dX8_copyAhead_1 : decode cX8_copyAhead 1 = .ok (.iconst 0, 1) := by decide +kernel
theorem dX8_copyAhead_2 : decode cX8_copyAhead 2 = .ok (.putfield 64, 3) := by decide +kernel
theorem dX8_copyAhead_5 : decode cX8_copyAhead 5 = .ok (.aload_n 2, 1) := by decide +kernel
theorem dX8_copyAhead_6 : decode cX8_copyAhead 6 = .ok (.getfield 45, 3) := by decide +kernel
theorem dX8_copyAhead_9 : decode cX8_copyAhead 9 = .ok (.iconst 0, 1) := by decide +kernel
theorem dX8_copyAhead_10 : decode cX8_copyAhead 10 = .ok (.aload_n 0, 1) := by decide +kernel
theorem dX8_copyAhead_11 : decode cX8_copyAhead 11 = .ok (.getfield 45, 3) := by decide +kernel
theorem dX8_copyAhead_14 : decode cX8_copyAhead 14 = .ok (.iconst 0, 1) := by decide +kernel
theorem dX8_copyAhead_15 : decode cX8_copyAhead 15 = .ok (.iconst 4, 1) := by decide +kernel
theorem dX8_copyAhead_16 : decode cX8_copyAhead 16 = .ok (.invokestatic 87, 3) := by decide +kernel
theorem dX8_copyAhead_19 : decode cX8_copyAhead 19 = .ok (.iconst 0, 1) := by decide +kernel
theorem dX8_copyAhead_20 : decode cX8_copyAhead 20 = .ok (.istore 4, 2) := by decide +kernel
theorem dX8_copyAhead_22 : decode cX8_copyAhead 22 = .ok (.iload 4, 2) := by decide +kernel
theorem dX8_copyAhead_24 : decode cX8_copyAhead 24 = .ok (.iload_n 3, 1) := by decide +kernel
theorem dX8_copyAhead_25 : decode cX8_copyAhead 25 = .ok (.if_icmp .ge 42, 3) := by decide +kernel
theorem dX8_copyAhead_28 : decode cX8_copyAhead 28 = .ok (.aload_n 0, 1) := by decide +kernel
theorem dX8_copyAhead_29 : decode cX8_copyAhead 29 = .ok (.aload_n 1, 1) := by decide +kernel
theorem dX8_copyAhead_30 : decode cX8_copyAhead 30 = .ok (.aload_n 2, 1) := by decide +kernel
theorem dX8_copyAhead_31 : decode cX8_copyAhead 31 = .ok (.getfield 9, 3) := by decide +kernel
theorem dX8_copyAhead_34 : decode cX8_copyAhead 34 = .ok (.iload 4, 2) := by decide +kernel
theorem dX8_copyAhead_36 : decode cX8_copyAhead 36 = .ok (.iaload, 1) := by decide +kernel
theorem dX8_copyAhead_37 : decode cX8_copyAhead 37 = .ok (.aload_n 2, 1) := by decide +kernel
theorem dX8_copyAhead_38 : decode cX8_copyAhead 38 = .ok (.getfield 15, 3) := by decide +kernel
theorem dX8_copyAhead_41 : decode cX8_copyAhead 41 = .ok (.iload 4, 2) := by decide +kernel
theorem dX8_copyAhead_43 : decode cX8_copyAhead 43 = .ok (.iaload, 1) := by decide +kernel
theorem dX8_copyAhead_44 : decode cX8_copyAhead 44 = .ok (.aload_n 2, 1) := by decide +kernel
theorem dX8_copyAhead_45 : decode cX8_copyAhead 45 = .ok (.getfield 18, 3) := by decide +kernel
theorem dX8_copyAhead_48 : decode cX8_copyAhead 48 = .ok (.iload 4, 2) := by decide +kernel
theorem dX8_copyAhead_50 : decode cX8_copyAhead 50 = .ok (.iaload, 1) := by decide +kernel
theorem dX8_copyAhead_51 : decode cX8_copyAhead 51 = .ok (.aload_n 2, 1) := by decide +kernel
theorem dX8_copyAhead_52 : decode cX8_copyAhead 52 = .ok (.getfield 21, 3) := by decide +kernel
theorem dX8_copyAhead_55 : decode cX8_copyAhead 55 = .ok (.iload 4, 2) := by decide +kernel
theorem dX8_copyAhead_57 : decode cX8_copyAhead 57 = .ok (.iaload, 1) := by decide +kernel
theorem dX8_copyAhead_58 : decode cX8_copyAhead 58 = .ok (.invokevirtual 93, 3) := by decide +kernel
theorem dX8_copyAhead_61 : decode cX8_copyAhead 61 = .ok (.iinc 4 1, 3) := by decide +kernel
theorem dX8_copyAhead_64 : decode cX8_copyAhead 64 = .ok (.goto (-42), 3) := by decide +kernel
theorem dX8_copyAhead_67 : decode cX8_copyAhead 67 = .ok (.return_, 1) := by decide +kernel
theorem dX8_copyBehind_0 : decode cX8_copyBehind 0 = .ok (.aload_n 2, 1) := by decide +kernel
theorem dX8_copyBehind_1 : decode cX8_copyBehind 1 = .ok (.getfield 27, 3) := by decide +kernel
theorem dX8_copyBehind_4 : decode cX8_copyBehind 4 = .ok (.iload_n 3, 1) := by decide +kernel
theorem dX8_copyBehind_5 : decode cX8_copyBehind 5 = .ok (.iaload, 1) := by decide +kernel
theorem dX8_copyBehind_6 : decode cX8_copyBehind 6 = .ok (.istore 5, 2) := by decide +kernel
theorem dX8_copyBehind_8 : decode cX8_copyBehind 8 = .ok (.iload_n 3, 1) := by decide +kernel
theorem dX8_copyBehind_9 : decode cX8_copyBehind 9 = .ok (.iload 5, 2) := by decide +kernel
theorem dX8_copyBehind_11 : decode cX8_copyBehind 11 = .ok (.iadd, 1) := by decide +kernel
theorem dX8_copyBehind_12 : decode cX8_copyBehind 12 = .ok (.istore 6, 2) := by decide +kernel
theorem dX8_copyBehind_14 : decode cX8_copyBehind 14 = .ok (.iload 6, 2) := by decide +kernel
theorem dX8_copyBehind_16 : decode cX8_copyBehind 16 = .ok (.aload_n 2, 1) := by decide +kernel
theorem dX8_copyBehind_17 : decode cX8_copyBehind 17 = .ok (.getfield 64, 3) := by decide +kernel
theorem dX8_copyBehind_20 : decode cX8_copyBehind 20 = .ok (.if_icmp .ge 63, 3) := by decide +kernel
theorem dX8_copyBehind_23 : decode cX8_copyBehind 23 = .ok (.aload_n 2, 1) := by decide +kernel
theorem dX8_copyBehind_24 : decode cX8_copyBehind 24 = .ok (.getfield 18, 3) := by decide +kernel
theorem dX8_copyBehind_27 : decode cX8_copyBehind 27 = .ok (.iload 6, 2) := by decide +kernel
theorem dX8_copyBehind_29 : decode cX8_copyBehind 29 = .ok (.iaload, 1) := by decide +kernel
theorem dX8_copyBehind_30 : decode cX8_copyBehind 30 = .ok (.istore 7, 2) := by decide +kernel
theorem dX8_copyBehind_32 : decode cX8_copyBehind 32 = .ok (.aload_n 0, 1) := by decide +kernel
theorem dX8_copyBehind_33 : decode cX8_copyBehind 33 = .ok (.aload_n 1, 1) := by decide +kernel
theorem dX8_copyBehind_34 : decode cX8_copyBehind 34 = .ok (.aload_n 2, 1) := by decide +kernel
theorem dX8_copyBehind_35 : decode cX8_copyBehind 35 = .ok (.getfield 9, 3) := by decide +kernel
theorem dX8_copyBehind_38 : decode cX8_copyBehind 38 = .ok (.iload 6, 2) := by decide +kernel
theorem dX8_copyBehind_40 : decode cX8_copyBehind 40 = .ok (.iaload, 1) := by decide +kernel
theorem dX8_copyBehind_41 : decode cX8_copyBehind 41 = .ok (.aload_n 2, 1) := by decide +kernel
theorem dX8_copyBehind_42 : decode cX8_copyBehind 42 = .ok (.getfield 15, 3) := by decide +kernel
theorem dX8_copyBehind_45 : decode cX8_copyBehind 45 = .ok (.iload 6, 2) := by decide +kernel
theorem dX8_copyBehind_47 : decode cX8_copyBehind 47 = .ok (.iaload, 1) := by decide +kernel
theorem dX8_copyBehind_48 : decode cX8_copyBehind 48 = .ok (.iload 7, 2) := by decide +kernel
theorem dX8_copyBehind_50 : decode cX8_copyBehind 50 = .ok (.iload_n 3, 1) := by decide +kernel
theorem dX8_copyBehind_51 : decode cX8_copyBehind 51 = .ok (.if_icmp .ge 8, 3) := by decide +kernel
theorem dX8_copyBehind_54 : decode cX8_copyBehind 54 = .ok (.iload 7, 2) := by decide +kernel
theorem dX8_copyBehind_56 : decode cX8_copyBehind 56 = .ok (.goto 11, 3) := by decide +kernel
theorem dX8_copyBehind_59 : decode cX8_copyBehind 59 = .ok (.iload 7, 2) := by decide +kernel
theorem dX8_copyBehind_61 : decode cX8_copyBehind 61 = .ok (.iload 5, 2) := by decide +kernel
theorem dX8_copyBehind_63 : decode cX8_copyBehind 63 = .ok (.isub, 1) := by decide +kernel
theorem dX8_copyBehind_64 : decode cX8_copyBehind 64 = .ok (.iload 4, 2) := by decide +kernel
theorem dX8_copyBehind_66 : decode cX8_copyBehind 66 = .ok (.iadd, 1) := by decide +kernel
theorem dX8_copyBehind_67 : decode cX8_copyBehind 67 = .ok (.aload_n 2, 1) := by decide +kernel
theorem dX8_copyBehind_68 : decode cX8_copyBehind 68 = .ok (.getfield 21, 3) := by decide +kernel
theorem dX8_copyBehind_71 : decode cX8_copyBehind 71 = .ok (.iload 6, 2) := by decide +kernel
theorem dX8_copyBehind_73 : decode cX8_copyBehind 73 = .ok (.iaload, 1) := by decide +kernel
theorem dX8_copyBehind_74 : decode cX8_copyBehind 74 = .ok (.invokevirtual 93, 3) := by decide +kernel
theorem dX8_copyBehind_77 : decode cX8_copyBehind 77 = .ok (.iinc 6 1, 3) := by decide +kernel
theorem dX8_copyBehind_80 : decode cX8_copyBehind 80 = .ok (.goto (-66), 3) := by decide +kernel
theorem dX8_copyBehind_83 : decode cX8_copyBehind 83 = .ok (.return_, 1) := by decide +kernel
theorem dX8_link_0 : decode cX8_link 0 = .ok (.aload_n 0, 1) := by decide +kernel
theorem dX8_link_1 : decode cX8_link 1 = .ok (.getfield 27, 3) := by decide +kernel
theorem dX8_link_4 : decode cX8_link 4 = .ok (.iconst 1, 1) := by decide +kernel
theorem dX8_link_5 : decode cX8_link 5 = .ok (.invokestatic 68, 3) := by decide +kernel
theorem dX8_link_8 : decode cX8_link 8 = .ok (.aload_n 0, 1) := by decide +kernel
theorem dX8_link_9 : decode cX8_link 9 = .ok (.getfield 64, 3) := by decide +kernel
theorem dX8_link_12 : decode cX8_link 12 = .ok (.iconst 1, 1) := by decide +kernel
theorem dX8_link_13 : decode cX8_link 13 = .ok (.isub, 1) := by decide +kernel
theorem dX8_link_14 : decode cX8_link 14 = .ok (.istore_n 2, 1) := by decide +kernel
theorem dX8_link_15 : decode cX8_link 15 = .ok (.iload_n 2, 1) := by decide +kernel
theorem dX8_link_16 : decode cX8_link 16 = .ok (.ifCond .lt 75, 3) := by decide +kernel
theorem dX8_link_19 : decode cX8_link 19 = .ok (.aload_n 0, 1) := by decide +kernel
theorem dX8_link_20 : decode cX8_link 20 = .ok (.getfield 42, 3) := by decide +kernel
theorem dX8_link_23 : decode cX8_link 23 = .ok (.iconst 4, 1) := by decide +kernel
theorem dX8_link_24 : decode cX8_link 24 = .ok (.iload_n 2, 1) := by decide +kernel
theorem dX8_link_25 : decode cX8_link 25 = .ok (.imul, 1) := by decide +kernel
theorem dX8_link_26 : decode cX8_link 26 = .ok (.iload_n 2, 1) := by decide +kernel
theorem dX8_link_27 : decode cX8_link 27 = .ok (.iastore, 1) := by decide +kernel
theorem dX8_link_28 : decode cX8_link 28 = .ok (.aload_n 0, 1) := by decide +kernel
theorem dX8_link_29 : decode cX8_link 29 = .ok (.getfield 18, 3) := by decide +kernel
theorem dX8_link_32 : decode cX8_link 32 = .ok (.iload_n 2, 1) := by decide +kernel
theorem dX8_link_33 : decode cX8_link 33 = .ok (.iaload, 1) := by decide +kernel
theorem dX8_link_34 : decode cX8_link 34 = .ok (.iconst (-1), 1) := by decide +kernel
theorem dX8_link_35 : decode cX8_link 35 = .ok (.if_icmp .eq 44, 3) := by decide +kernel
theorem dX8_link_38 : decode cX8_link 38 = .ok (.aload_n 0, 1) := by decide +kernel
theorem dX8_link_39 : decode cX8_link 39 = .ok (.getfield 42, 3) := by decide +kernel
theorem dX8_link_42 : decode cX8_link 42 = .ok (.iconst 4, 1) := by decide +kernel
theorem dX8_link_43 : decode cX8_link 43 = .ok (.aload_n 0, 1) := by decide +kernel
theorem dX8_link_44 : decode cX8_link 44 = .ok (.getfield 18, 3) := by decide +kernel
theorem dX8_link_47 : decode cX8_link 47 = .ok (.iload_n 2, 1) := by decide +kernel
theorem dX8_link_48 : decode cX8_link 48 = .ok (.iaload, 1) := by decide +kernel
theorem dX8_link_49 : decode cX8_link 49 = .ok (.imul, 1) := by decide +kernel
theorem dX8_link_50 : decode cX8_link 50 = .ok (.aload_n 0, 1) := by decide +kernel
theorem dX8_link_51 : decode cX8_link 51 = .ok (.getfield 21, 3) := by decide +kernel
theorem dX8_link_54 : decode cX8_link 54 = .ok (.iload_n 2, 1) := by decide +kernel
theorem dX8_link_55 : decode cX8_link 55 = .ok (.iaload, 1) := by decide +kernel
theorem dX8_link_56 : decode cX8_link 56 = .ok (.iadd, 1) := by decide +kernel
theorem dX8_link_57 : decode cX8_link 57 = .ok (.iload_n 2, 1) := by decide +kernel
theorem dX8_link_58 : decode cX8_link 58 = .ok (.iastore, 1) := by decide +kernel
theorem dX8_link_59 : decode cX8_link 59 = .ok (.aload_n 0, 1) := by decide +kernel
theorem dX8_link_60 : decode cX8_link 60 = .ok (.getfield 27, 3) := by decide +kernel
theorem dX8_link_63 : decode cX8_link 63 = .ok (.aload_n 0, 1) := by decide +kernel
theorem dX8_link_64 : decode cX8_link 64 = .ok (.getfield 18, 3) := by decide +kernel
theorem dX8_link_67 : decode cX8_link 67 = .ok (.iload_n 2, 1) := by decide +kernel
theorem dX8_link_68 : decode cX8_link 68 = .ok (.iaload, 1) := by decide +kernel
theorem dX8_link_69 : decode cX8_link 69 = .ok (.dup2, 1) := by decide +kernel
theorem dX8_link_70 : decode cX8_link 70 = .ok (.iaload, 1) := by decide +kernel
theorem dX8_link_71 : decode cX8_link 71 = .ok (.aload_n 0, 1) := by decide +kernel
theorem dX8_link_72 : decode cX8_link 72 = .ok (.getfield 27, 3) := by decide +kernel
theorem dX8_link_75 : decode cX8_link 75 = .ok (.iload_n 2, 1) := by decide +kernel
theorem dX8_link_76 : decode cX8_link 76 = .ok (.iaload, 1) := by decide +kernel
theorem dX8_link_77 : decode cX8_link 77 = .ok (.iadd, 1) := by decide +kernel
theorem dX8_link_78 : decode cX8_link 78 = .ok (.iastore, 1) := by decide +kernel
theorem dX8_link_79 : decode cX8_link 79 = .ok (.aload_n 0, 1) := by decide +kernel
theorem dX8_link_80 : decode cX8_link 80 = .ok (.aload_n 1, 1) := by decide +kernel
theorem dX8_link_81 : decode cX8_link 81 = .ok (.iload_n 2, 1) := by decide +kernel
theorem dX8_link_82 : decode cX8_link 82 = .ok (.invokevirtual 97, 3) := by decide +kernel
theorem dX8_link_85 : decode cX8_link 85 = .ok (.iinc 2 (-1), 3) := by decide +kernel
theorem dX8_link_88 : decode cX8_link 88 = .ok (.goto (-73), 3) := by decide +kernel
theorem dX8_link_91 : decode cX8_link 91 = .ok (.return_, 1) := by decide +kernel
theorem dX8_linkInstances_0 : decode cX8_linkInstances 0 = .ok (.iconst 0, 1) := by decide +kernel
theorem dX8_linkInstances_1 : decode cX8_linkInstances 1 = .ok (.istore_n 3, 1) := by decide +kernel
theorem dX8_linkInstances_2 : decode cX8_linkInstances 2 = .ok (.iload_n 3, 1) := by decide +kernel
theorem dX8_linkInstances_3 : decode cX8_linkInstances 3 = .ok (.bipush 8, 2) := by decide +kernel
theorem dX8_linkInstances_5 : decode cX8_linkInstances 5 = .ok (.if_icmp .ge 133, 3) := by decide +kernel
theorem dX8_linkInstances_8 : decode cX8_linkInstances 8 = .ok (.bipush 8, 2) := by decide +kernel
theorem dX8_linkInstances_10 : decode cX8_linkInstances 10 = .ok (.iload_n 2, 1) := by decide +kernel
theorem dX8_linkInstances_11 : decode cX8_linkInstances 11 = .ok (.imul, 1) := by decide +kernel
theorem dX8_linkInstances_12 : decode cX8_linkInstances 12 = .ok (.iload_n 3, 1) := by decide +kernel
theorem dX8_linkInstances_13 : decode cX8_linkInstances 13 = .ok (.iadd, 1) := by decide +kernel
theorem dX8_linkInstances_14 : decode cX8_linkInstances 14 = .ok (.istore 4, 2) := by decide +kernel
theorem dX8_linkInstances_16 : decode cX8_linkInstances 16 = .ok (.iload_n 3, 1) := by decide +kernel
theorem dX8_linkInstances_17 : decode cX8_linkInstances 17 = .ok (.aload_n 0, 1) := by decide +kernel
theorem dX8_linkInstances_18 : decode cX8_linkInstances 18 = .ok (.getfield 33, 3) := by decide +kernel
theorem dX8_linkInstances_21 : decode cX8_linkInstances 21 = .ok (.iload_n 2, 1) := by decide +kernel
theorem dX8_linkInstances_22 : decode cX8_linkInstances 22 = .ok (.iaload, 1) := by decide +kernel
theorem dX8_linkInstances_23 : decode cX8_linkInstances 23 = .ok (.if_icmp .ge 7, 3) := by decide +kernel
theorem dX8_linkInstances_26 : decode cX8_linkInstances 26 = .ok (.iconst 1, 1) := by decide +kernel
theorem dX8_linkInstances_27 : decode cX8_linkInstances 27 = .ok (.goto 4, 3) := by decide +kernel
theorem dX8_linkInstances_30 : decode cX8_linkInstances 30 = .ok (.iconst 0, 1) := by decide +kernel
theorem dX8_linkInstances_31 : decode cX8_linkInstances 31 = .ok (.istore 5, 2) := by decide +kernel
theorem dX8_linkInstances_33 : decode cX8_linkInstances 33 = .ok (.aload_n 0, 1) := by decide +kernel
theorem dX8_linkInstances_34 : decode cX8_linkInstances 34 = .ok (.getfield 48, 3) := by decide +kernel
theorem dX8_linkInstances_37 : decode cX8_linkInstances 37 = .ok (.iload 4, 2) := by decide +kernel
theorem dX8_linkInstances_39 : decode cX8_linkInstances 39 = .ok (.iload 5, 2) := by decide +kernel
theorem dX8_linkInstances_41 : decode cX8_linkInstances 41 = .ok (.ifCond .eq 12, 3) := by decide +kernel
theorem dX8_linkInstances_44 : decode cX8_linkInstances 44 = .ok (.aload_n 0, 1) := by decide +kernel
theorem dX8_linkInstances_45 : decode cX8_linkInstances 45 = .ok (.getfield 18, 3) := by decide +kernel
theorem dX8_linkInstances_48 : decode cX8_linkInstances 48 = .ok (.iload_n 2, 1) := by decide +kernel
theorem dX8_linkInstances_49 : decode cX8_linkInstances 49 = .ok (.iaload, 1) := by decide +kernel
theorem dX8_linkInstances_50 : decode cX8_linkInstances 50 = .ok (.goto 4, 3) := by decide +kernel
theorem dX8_linkInstances_53 : decode cX8_linkInstances 53 = .ok (.iload_n 2, 1) := by decide +kernel
theorem dX8_linkInstances_54 : decode cX8_linkInstances 54 = .ok (.iastore, 1) := by decide +kernel
theorem dX8_linkInstances_55 : decode cX8_linkInstances 55 = .ok (.aload_n 0, 1) := by decide +kernel
theorem dX8_linkInstances_56 : decode cX8_linkInstances 56 = .ok (.getfield 51, 3) := by decide +kernel
theorem dX8_linkInstances_59 : decode cX8_linkInstances 59 = .ok (.iload 4, 2) := by decide +kernel
theorem dX8_linkInstances_61 : decode cX8_linkInstances 61 = .ok (.iload 5, 2) := by decide +kernel
theorem dX8_linkInstances_63 : decode cX8_linkInstances 63 = .ok (.ifCond .eq 17, 3) := by decide +kernel
theorem dX8_linkInstances_66 : decode cX8_linkInstances 66 = .ok (.bipush 8, 2) := by decide +kernel
theorem dX8_linkInstances_68 : decode cX8_linkInstances 68 = .ok (.aload_n 0, 1) := by decide +kernel
theorem dX8_linkInstances_69 : decode cX8_linkInstances 69 = .ok (.getfield 21, 3) := by decide +kernel
theorem dX8_linkInstances_72 : decode cX8_linkInstances 72 = .ok (.iload_n 2, 1) := by decide +kernel
theorem dX8_linkInstances_73 : decode cX8_linkInstances 73 = .ok (.iaload, 1) := by decide +kernel
theorem dX8_linkInstances_74 : decode cX8_linkInstances 74 = .ok (.imul, 1) := by decide +kernel
theorem dX8_linkInstances_75 : decode cX8_linkInstances 75 = .ok (.iload_n 3, 1) := by decide +kernel
theorem dX8_linkInstances_76 : decode cX8_linkInstances 76 = .ok (.iadd, 1) := by decide +kernel
theorem dX8_linkInstances_77 : decode cX8_linkInstances 77 = .ok (.goto 4, 3) := by decide +kernel
theorem dX8_linkInstances_80 : decode cX8_linkInstances 80 = .ok (.iload_n 3, 1) := by decide +kernel
theorem dX8_linkInstances_81 : decode cX8_linkInstances 81 = .ok (.iastore, 1) := by decide +kernel
theorem dX8_linkInstances_82 : decode cX8_linkInstances 82 = .ok (.aload_n 0, 1) := by decide +kernel
theorem dX8_linkInstances_83 : decode cX8_linkInstances 83 = .ok (.getfield 54, 3) := by decide +kernel
theorem dX8_linkInstances_86 : decode cX8_linkInstances 86 = .ok (.iload 4, 2) := by decide +kernel
theorem dX8_linkInstances_88 : decode cX8_linkInstances 88 = .ok (.aload_n 0, 1) := by decide +kernel
theorem dX8_linkInstances_89 : decode cX8_linkInstances 89 = .ok (.getfield 48, 3) := by decide +kernel
theorem dX8_linkInstances_92 : decode cX8_linkInstances 92 = .ok (.iload 4, 2) := by decide +kernel
theorem dX8_linkInstances_94 : decode cX8_linkInstances 94 = .ok (.iaload, 1) := by decide +kernel
theorem dX8_linkInstances_95 : decode cX8_linkInstances 95 = .ok (.iconst (-1), 1) := by decide +kernel
theorem dX8_linkInstances_96 : decode cX8_linkInstances 96 = .ok (.if_icmp .ne 7, 3) := by decide +kernel
theorem dX8_linkInstances_99 : decode cX8_linkInstances 99 = .ok (.iconst 0, 1) := by decide +kernel
theorem dX8_linkInstances_100 : decode cX8_linkInstances 100 = .ok (.goto 31, 3) := by decide +kernel
theorem dX8_linkInstances_103 : decode cX8_linkInstances 103 = .ok (.aload_n 1, 1) := by decide +kernel
theorem dX8_linkInstances_104 : decode cX8_linkInstances 104 = .ok (.getfield 101, 3) := by decide +kernel
theorem dX8_linkInstances_107 : decode cX8_linkInstances 107 = .ok (.bipush 32, 2) := by decide +kernel
theorem dX8_linkInstances_109 : decode cX8_linkInstances 109 = .ok (.aload_n 0, 1) := by decide +kernel
theorem dX8_linkInstances_110 : decode cX8_linkInstances 110 = .ok (.getfield 9, 3) := by decide +kernel
theorem dX8_linkInstances_113 : decode cX8_linkInstances 113 = .ok (.aload_n 0, 1) := by decide +kernel
theorem dX8_linkInstances_114 : decode cX8_linkInstances 114 = .ok (.getfield 48, 3) := by decide +kernel
theorem dX8_linkInstances_117 : decode cX8_linkInstances 117 = .ok (.iload 4, 2) := by decide +kernel
theorem dX8_linkInstances_119 : decode cX8_linkInstances 119 = .ok (.iaload, 1) := by decide +kernel
theorem dX8_linkInstances_120 : decode cX8_linkInstances 120 = .ok (.iaload, 1) := by decide +kernel
theorem dX8_linkInstances_121 : decode cX8_linkInstances 121 = .ok (.imul, 1) := by decide +kernel
theorem dX8_linkInstances_122 : decode cX8_linkInstances 122 = .ok (.aload_n 0, 1) := by decide +kernel
theorem dX8_linkInstances_123 : decode cX8_linkInstances 123 = .ok (.getfield 51, 3) := by decide +kernel
theorem dX8_linkInstances_126 : decode cX8_linkInstances 126 = .ok (.iload 4, 2) := by decide +kernel
theorem dX8_linkInstances_128 : decode cX8_linkInstances 128 = .ok (.iaload, 1) := by decide +kernel
theorem dX8_linkInstances_129 : decode cX8_linkInstances 129 = .ok (.iadd, 1) := by decide +kernel
theorem dX8_linkInstances_130 : decode cX8_linkInstances 130 = .ok (.iaload, 1) := by decide +kernel
theorem dX8_linkInstances_131 : decode cX8_linkInstances 131 = .ok (.iastore, 1) := by decide +kernel
theorem dX8_linkInstances_132 : decode cX8_linkInstances 132 = .ok (.iinc 3 1, 3) := by decide +kernel
theorem dX8_linkInstances_135 : decode cX8_linkInstances 135 = .ok (.goto (-133), 3) := by decide +kernel
theorem dX8_linkInstances_138 : decode cX8_linkInstances 138 = .ok (.return_, 1) := by decide +kernel
theorem dX8_hasNode_0 : decode cX8_hasNode 0 = .ok (.iload_n 1, 1) := by decide +kernel
theorem dX8_hasNode_1 : decode cX8_hasNode 1 = .ok (.ifCond .lt 15, 3) := by decide +kernel
theorem dX8_hasNode_4 : decode cX8_hasNode 4 = .ok (.iload_n 1, 1) := by decide +kernel
theorem dX8_hasNode_5 : decode cX8_hasNode 5 = .ok (.aload_n 0, 1) := by decide +kernel
theorem dX8_hasNode_6 : decode cX8_hasNode 6 = .ok (.getfield 64, 3) := by decide +kernel
theorem dX8_hasNode_9 : decode cX8_hasNode 9 = .ok (.if_icmp .ge 7, 3) := by decide +kernel
theorem dX8_hasNode_12 : decode cX8_hasNode 12 = .ok (.iconst 1, 1) := by decide +kernel
theorem dX8_hasNode_13 : decode cX8_hasNode 13 = .ok (.goto 4, 3) := by decide +kernel
theorem dX8_hasNode_16 : decode cX8_hasNode 16 = .ok (.iconst 0, 1) := by decide +kernel
theorem dX8_hasNode_17 : decode cX8_hasNode 17 = .ok (.ireturn, 1) := by decide +kernel
theorem dX8_hasInstance_0 : decode cX8_hasInstance 0 = .ok (.iload_n 2, 1) := by decide +kernel
theorem dX8_hasInstance_1 : decode cX8_hasInstance 1 = .ok (.ifCond .lt 17, 3) := by decide +kernel
theorem dX8_hasInstance_4 : decode cX8_hasInstance 4 = .ok (.iload_n 2, 1) := by decide +kernel
theorem dX8_hasInstance_5 : decode cX8_hasInstance 5 = .ok (.aload_n 0, 1) := by decide +kernel
theorem dX8_hasInstance_6 : decode cX8_hasInstance 6 = .ok (.getfield 36, 3) := by decide +kernel
theorem dX8_hasInstance_9 : decode cX8_hasInstance 9 = .ok (.iload_n 1, 1) := by decide +kernel
theorem dX8_hasInstance_10 : decode cX8_hasInstance 10 = .ok (.iaload, 1) := by decide +kernel
theorem dX8_hasInstance_11 : decode cX8_hasInstance 11 = .ok (.if_icmp .ge 7, 3) := by decide +kernel
theorem dX8_hasInstance_14 : decode cX8_hasInstance 14 = .ok (.iconst 1, 1) := by decide +kernel
theorem dX8_hasInstance_15 : decode cX8_hasInstance 15 = .ok (.goto 4, 3) := by decide +kernel
theorem dX8_hasInstance_18 : decode cX8_hasInstance 18 = .ok (.iconst 0, 1) := by decide +kernel
theorem dX8_hasInstance_19 : decode cX8_hasInstance 19 = .ok (.ireturn, 1) := by decide +kernel
theorem dX8_child_0 : decode cX8_child 0 = .ok (.aload_n 0, 1) := by decide +kernel
theorem dX8_child_1 : decode cX8_child 1 = .ok (.getfield 42, 3) := by decide +kernel
theorem dX8_child_4 : decode cX8_child 4 = .ok (.iconst 4, 1) := by decide +kernel
theorem dX8_child_5 : decode cX8_child 5 = .ok (.iload_n 1, 1) := by decide +kernel
theorem dX8_child_6 : decode cX8_child 6 = .ok (.imul, 1) := by decide +kernel
theorem dX8_child_7 : decode cX8_child 7 = .ok (.iload_n 2, 1) := by decide +kernel
theorem dX8_child_8 : decode cX8_child 8 = .ok (.iadd, 1) := by decide +kernel
theorem dX8_child_9 : decode cX8_child 9 = .ok (.iaload, 1) := by decide +kernel
theorem dX8_child_10 : decode cX8_child 10 = .ok (.ireturn, 1) := by decide +kernel
theorem dX8_instance_0 : decode cX8_instance 0 = .ok (.bipush 8, 2) := by decide +kernel
theorem dX8_instance_2 : decode cX8_instance 2 = .ok (.aload_n 0, 1) := by decide +kernel
theorem dX8_instance_3 : decode cX8_instance 3 = .ok (.getfield 42, 3) := by decide +kernel
theorem dX8_instance_6 : decode cX8_instance 6 = .ok (.iconst 4, 1) := by decide +kernel
theorem dX8_instance_7 : decode cX8_instance 7 = .ok (.iload_n 1, 1) := by decide +kernel
theorem dX8_instance_8 : decode cX8_instance 8 = .ok (.imul, 1) := by decide +kernel
theorem dX8_instance_9 : decode cX8_instance 9 = .ok (.iload_n 2, 1) := by decide +kernel
theorem dX8_instance_10 : decode cX8_instance 10 = .ok (.bipush 8, 2) := by decide +kernel
theorem dX8_instance_12 : decode cX8_instance 12 = .ok (.idiv, 1) := by decide +kernel
theorem dX8_instance_13 : decode cX8_instance 13 = .ok (.iadd, 1) := by decide +kernel
theorem dX8_instance_14 : decode cX8_instance 14 = .ok (.iaload, 1) := by decide +kernel
theorem dX8_instance_15 : decode cX8_instance 15 = .ok (.imul, 1) := by decide +kernel
theorem dX8_instance_16 : decode cX8_instance 16 = .ok (.iload_n 2, 1) := by decide +kernel
theorem dX8_instance_17 : decode cX8_instance 17 = .ok (.bipush 8, 2) := by decide +kernel
theorem dX8_instance_19 : decode cX8_instance 19 = .ok (.irem, 1) := by decide +kernel
theorem dX8_instance_20 : decode cX8_instance 20 = .ok (.iadd, 1) := by decide +kernel
theorem dX8_instance_21 : decode cX8_instance 21 = .ok (.ireturn, 1) := by decide +kernel
theorem dX8_need_0 : decode cX8_need 0 = .ok (.aload_n 0, 1) := by decide +kernel
theorem dX8_need_1 : decode cX8_need 1 = .ok (.iload_n 1, 1) := by decide +kernel
theorem dX8_need_2 : decode cX8_need 2 = .ok (.invokevirtual 102, 3) := by decide +kernel
theorem dX8_need_5 : decode cX8_need 5 = .ok (.iconst 0, 1) := by decide +kernel
theorem dX8_need_6 : decode cX8_need 6 = .ok (.istore_n 2, 1) := by decide +kernel
theorem dX8_need_7 : decode cX8_need 7 = .ok (.iload_n 2, 1) := by decide +kernel
theorem dX8_need_8 : decode cX8_need 8 = .ok (.aload_n 0, 1) := by decide +kernel
theorem dX8_need_9 : decode cX8_need 9 = .ok (.getfield 106, 3) := by decide +kernel
theorem dX8_need_12 : decode cX8_need 12 = .ok (.if_icmp .ge 42, 3) := by decide +kernel
theorem dX8_need_15 : decode cX8_need 15 = .ok (.iload_n 2, 1) := by decide +kernel
theorem dX8_need_16 : decode cX8_need 16 = .ok (.sipush 320, 3) := by decide +kernel
theorem dX8_need_19 : decode cX8_need 19 = .ok (.if_icmp .ge 35, 3) := by decide +kernel
theorem dX8_need_22 : decode cX8_need 22 = .ok (.aload_n 0, 1) := by decide +kernel
theorem dX8_need_23 : decode cX8_need 23 = .ok (.aload_n 0, 1) := by decide +kernel
theorem dX8_need_24 : decode cX8_need 24 = .ok (.getfield 48, 3) := by decide +kernel
theorem dX8_need_27 : decode cX8_need 27 = .ok (.aload_n 0, 1) := by decide +kernel
theorem dX8_need_28 : decode cX8_need 28 = .ok (.getfield 61, 3) := by decide +kernel
theorem dX8_need_31 : decode cX8_need 31 = .ok (.iload_n 2, 1) := by decide +kernel
theorem dX8_need_32 : decode cX8_need 32 = .ok (.iaload, 1) := by decide +kernel
theorem dX8_need_33 : decode cX8_need 33 = .ok (.iaload, 1) := by decide +kernel
theorem dX8_need_34 : decode cX8_need 34 = .ok (.aload_n 0, 1) := by decide +kernel
theorem dX8_need_35 : decode cX8_need 35 = .ok (.getfield 54, 3) := by decide +kernel
theorem dX8_need_38 : decode cX8_need 38 = .ok (.aload_n 0, 1) := by decide +kernel
theorem dX8_need_39 : decode cX8_need 39 = .ok (.getfield 61, 3) := by decide +kernel
theorem dX8_need_42 : decode cX8_need 42 = .ok (.iload_n 2, 1) := by decide +kernel
theorem dX8_need_43 : decode cX8_need 43 = .ok (.iaload, 1) := by decide +kernel
theorem dX8_need_44 : decode cX8_need 44 = .ok (.iaload, 1) := by decide +kernel
theorem dX8_need_45 : decode cX8_need 45 = .ok (.invokevirtual 109, 3) := by decide +kernel
theorem dX8_need_48 : decode cX8_need 48 = .ok (.iinc 2 1, 3) := by decide +kernel
theorem dX8_need_51 : decode cX8_need 51 = .ok (.goto (-44), 3) := by decide +kernel
theorem dX8_need_54 : decode cX8_need 54 = .ok (.aload_n 0, 1) := by decide +kernel
theorem dX8_need_55 : decode cX8_need 55 = .ok (.getfield 106, 3) := by decide +kernel
theorem dX8_need_58 : decode cX8_need 58 = .ok (.ireturn, 1) := by decide +kernel
theorem dX8_reach_0 : decode cX8_reach 0 = .ok (.aload_n 0, 1) := by decide +kernel
theorem dX8_reach_1 : decode cX8_reach 1 = .ok (.iload_n 2, 1) := by decide +kernel
theorem dX8_reach_2 : decode cX8_reach 2 = .ok (.invokevirtual 102, 3) := by decide +kernel
theorem dX8_reach_5 : decode cX8_reach 5 = .ok (.iconst 0, 1) := by decide +kernel
theorem dX8_reach_6 : decode cX8_reach 6 = .ok (.istore_n 3, 1) := by decide +kernel
theorem dX8_reach_7 : decode cX8_reach 7 = .ok (.iload_n 3, 1) := by decide +kernel
theorem dX8_reach_8 : decode cX8_reach 8 = .ok (.aload_n 0, 1) := by decide +kernel
theorem dX8_reach_9 : decode cX8_reach 9 = .ok (.getfield 106, 3) := by decide +kernel
theorem dX8_reach_12 : decode cX8_reach 12 = .ok (.if_icmp .ge 118, 3) := by decide +kernel
theorem dX8_reach_15 : decode cX8_reach 15 = .ok (.iload_n 3, 1) := by decide +kernel
theorem dX8_reach_16 : decode cX8_reach 16 = .ok (.sipush 320, 3) := by decide +kernel
theorem dX8_reach_19 : decode cX8_reach 19 = .ok (.if_icmp .ge 111, 3) := by decide +kernel
theorem dX8_reach_22 : decode cX8_reach 22 = .ok (.aload_n 0, 1) := by decide +kernel
theorem dX8_reach_23 : decode cX8_reach 23 = .ok (.getfield 61, 3) := by decide +kernel
theorem dX8_reach_26 : decode cX8_reach 26 = .ok (.iload_n 3, 1) := by decide +kernel
theorem dX8_reach_27 : decode cX8_reach 27 = .ok (.iaload, 1) := by decide +kernel
theorem dX8_reach_28 : decode cX8_reach 28 = .ok (.bipush 8, 2) := by decide +kernel
theorem dX8_reach_30 : decode cX8_reach 30 = .ok (.idiv, 1) := by decide +kernel
theorem dX8_reach_31 : decode cX8_reach 31 = .ok (.istore 4, 2) := by decide +kernel
theorem dX8_reach_33 : decode cX8_reach 33 = .ok (.aload_n 0, 1) := by decide +kernel
theorem dX8_reach_34 : decode cX8_reach 34 = .ok (.getfield 61, 3) := by decide +kernel
theorem dX8_reach_37 : decode cX8_reach 37 = .ok (.iload_n 3, 1) := by decide +kernel
theorem dX8_reach_38 : decode cX8_reach 38 = .ok (.iaload, 1) := by decide +kernel
theorem dX8_reach_39 : decode cX8_reach 39 = .ok (.bipush 8, 2) := by decide +kernel
theorem dX8_reach_41 : decode cX8_reach 41 = .ok (.irem, 1) := by decide +kernel
theorem dX8_reach_42 : decode cX8_reach 42 = .ok (.istore 5, 2) := by decide +kernel
theorem dX8_reach_44 : decode cX8_reach 44 = .ok (.aload_n 0, 1) := by decide +kernel
theorem dX8_reach_45 : decode cX8_reach 45 = .ok (.iload 4, 2) := by decide +kernel
theorem dX8_reach_47 : decode cX8_reach 47 = .ok (.aload_n 1, 1) := by decide +kernel
theorem dX8_reach_48 : decode cX8_reach 48 = .ok (.getfield 113, 3) := by decide +kernel
theorem dX8_reach_51 : decode cX8_reach 51 = .ok (.bipush 32, 2) := by decide +kernel
theorem dX8_reach_53 : decode cX8_reach 53 = .ok (.aload_n 0, 1) := by decide +kernel
theorem dX8_reach_54 : decode cX8_reach 54 = .ok (.getfield 9, 3) := by decide +kernel
theorem dX8_reach_57 : decode cX8_reach 57 = .ok (.iload 4, 2) := by decide +kernel
theorem dX8_reach_59 : decode cX8_reach 59 = .ok (.iaload, 1) := by decide +kernel
theorem dX8_reach_60 : decode cX8_reach 60 = .ok (.imul, 1) := by decide +kernel
theorem dX8_reach_61 : decode cX8_reach 61 = .ok (.iload 5, 2) := by decide +kernel
theorem dX8_reach_63 : decode cX8_reach 63 = .ok (.iadd, 1) := by decide +kernel
theorem dX8_reach_64 : decode cX8_reach 64 = .ok (.iaload, 1) := by decide +kernel
theorem dX8_reach_65 : decode cX8_reach 65 = .ok (.invokevirtual 109, 3) := by decide +kernel
theorem dX8_reach_68 : decode cX8_reach 68 = .ok (.aload_n 0, 1) := by decide +kernel
theorem dX8_reach_69 : decode cX8_reach 69 = .ok (.getfield 18, 3) := by decide +kernel
theorem dX8_reach_72 : decode cX8_reach 72 = .ok (.iload 4, 2) := by decide +kernel
theorem dX8_reach_74 : decode cX8_reach 74 = .ok (.iaload, 1) := by decide +kernel
theorem dX8_reach_75 : decode cX8_reach 75 = .ok (.iconst (-1), 1) := by decide +kernel
theorem dX8_reach_76 : decode cX8_reach 76 = .ok (.if_icmp .eq 48, 3) := by decide +kernel
theorem dX8_reach_79 : decode cX8_reach 79 = .ok (.aload_n 0, 1) := by decide +kernel
theorem dX8_reach_80 : decode cX8_reach 80 = .ok (.aload_n 0, 1) := by decide +kernel
theorem dX8_reach_81 : decode cX8_reach 81 = .ok (.getfield 18, 3) := by decide +kernel
theorem dX8_reach_84 : decode cX8_reach 84 = .ok (.iload 4, 2) := by decide +kernel
theorem dX8_reach_86 : decode cX8_reach 86 = .ok (.iaload, 1) := by decide +kernel
theorem dX8_reach_87 : decode cX8_reach 87 = .ok (.aload_n 1, 1) := by decide +kernel
theorem dX8_reach_88 : decode cX8_reach 88 = .ok (.getfield 113, 3) := by decide +kernel
theorem dX8_reach_91 : decode cX8_reach 91 = .ok (.bipush 32, 2) := by decide +kernel
theorem dX8_reach_93 : decode cX8_reach 93 = .ok (.aload_n 0, 1) := by decide +kernel
theorem dX8_reach_94 : decode cX8_reach 94 = .ok (.getfield 9, 3) := by decide +kernel
theorem dX8_reach_97 : decode cX8_reach 97 = .ok (.aload_n 0, 1) := by decide +kernel
theorem dX8_reach_98 : decode cX8_reach 98 = .ok (.getfield 18, 3) := by decide +kernel
theorem dX8_reach_101 : decode cX8_reach 101 = .ok (.iload 4, 2) := by decide +kernel
theorem dX8_reach_103 : decode cX8_reach 103 = .ok (.iaload, 1) := by decide +kernel
theorem dX8_reach_104 : decode cX8_reach 104 = .ok (.iaload, 1) := by decide +kernel
theorem dX8_reach_105 : decode cX8_reach 105 = .ok (.imul, 1) := by decide +kernel
theorem dX8_reach_106 : decode cX8_reach 106 = .ok (.bipush 8, 2) := by decide +kernel
theorem dX8_reach_108 : decode cX8_reach 108 = .ok (.aload_n 0, 1) := by decide +kernel
theorem dX8_reach_109 : decode cX8_reach 109 = .ok (.getfield 21, 3) := by decide +kernel
theorem dX8_reach_112 : decode cX8_reach 112 = .ok (.iload 4, 2) := by decide +kernel
theorem dX8_reach_114 : decode cX8_reach 114 = .ok (.iaload, 1) := by decide +kernel
theorem dX8_reach_115 : decode cX8_reach 115 = .ok (.imul, 1) := by decide +kernel
theorem dX8_reach_116 : decode cX8_reach 116 = .ok (.iadd, 1) := by decide +kernel
theorem dX8_reach_117 : decode cX8_reach 117 = .ok (.iload 5, 2) := by decide +kernel
theorem dX8_reach_119 : decode cX8_reach 119 = .ok (.iadd, 1) := by decide +kernel
theorem dX8_reach_120 : decode cX8_reach 120 = .ok (.iaload, 1) := by decide +kernel
theorem dX8_reach_121 : decode cX8_reach 121 = .ok (.invokevirtual 109, 3) := by decide +kernel
theorem dX8_reach_124 : decode cX8_reach 124 = .ok (.iinc 3 1, 3) := by decide +kernel
theorem dX8_reach_127 : decode cX8_reach 127 = .ok (.goto (-120), 3) := by decide +kernel
theorem dX8_reach_130 : decode cX8_reach 130 = .ok (.aload_n 0, 1) := by decide +kernel
theorem dX8_reach_131 : decode cX8_reach 131 = .ok (.getfield 106, 3) := by decide +kernel
theorem dX8_reach_134 : decode cX8_reach 134 = .ok (.ireturn, 1) := by decide +kernel
theorem dX8_begin_0 : decode cX8_begin 0 = .ok (.aload_n 0, 1) := by decide +kernel
theorem dX8_begin_1 : decode cX8_begin 1 = .ok (.getfield 57, 3) := by decide +kernel
theorem dX8_begin_4 : decode cX8_begin 4 = .ok (.invokestatic 116, 3) := by decide +kernel
theorem dX8_begin_7 : decode cX8_begin 7 = .ok (.aload_n 0, 1) := by decide +kernel
theorem dX8_begin_8 : decode cX8_begin 8 = .ok (.getfield 57, 3) := by decide +kernel
theorem dX8_begin_11 : decode cX8_begin 11 = .ok (.iload_n 1, 1) := by decide +kernel
theorem dX8_begin_12 : decode cX8_begin 12 = .ok (.iconst 1, 1) := by decide +kernel
theorem dX8_begin_13 : decode cX8_begin 13 = .ok (.bastore, 1) := by decide +kernel
theorem dX8_begin_14 : decode cX8_begin 14 = .ok (.aload_n 0, 1) := by decide +kernel
theorem dX8_begin_15 : decode cX8_begin 15 = .ok (.getfield 61, 3) := by decide +kernel
theorem dX8_begin_18 : decode cX8_begin 18 = .ok (.iconst 0, 1) := by decide +kernel
theorem dX8_begin_19 : decode cX8_begin 19 = .ok (.iload_n 1, 1) := by decide +kernel
theorem dX8_begin_20 : decode cX8_begin 20 = .ok (.iastore, 1) := by decide +kernel
theorem dX8_begin_21 : decode cX8_begin 21 = .ok (.aload_n 0, 1) := by decide +kernel
theorem dX8_begin_22 : decode cX8_begin 22 = .ok (.iconst 1, 1) := by decide +kernel
theorem dX8_begin_23 : decode cX8_begin 23 = .ok (.putfield 106, 3) := by decide +kernel
theorem dX8_begin_26 : decode cX8_begin 26 = .ok (.return_, 1) := by decide +kernel
theorem dX8_addAll_0 : decode cX8_addAll 0 = .ok (.iconst 0, 1) := by decide +kernel
theorem dX8_addAll_1 : decode cX8_addAll 1 = .ok (.istore_n 3, 1) := by decide +kernel
theorem dX8_addAll_2 : decode cX8_addAll 2 = .ok (.iload_n 3, 1) := by decide +kernel
theorem dX8_addAll_3 : decode cX8_addAll 3 = .ok (.bipush 32, 2) := by decide +kernel
theorem dX8_addAll_5 : decode cX8_addAll 5 = .ok (.if_icmp .ge 74, 3) := by decide +kernel
theorem dX8_addAll_8 : decode cX8_addAll 8 = .ok (.iload_n 2, 1) := by decide +kernel
theorem dX8_addAll_9 : decode cX8_addAll 9 = .ok (.iload_n 3, 1) := by decide +kernel
theorem dX8_addAll_10 : decode cX8_addAll 10 = .ok (.iushr, 1) := by decide +kernel
theorem dX8_addAll_11 : decode cX8_addAll 11 = .ok (.iconst 1, 1) := by decide +kernel
theorem dX8_addAll_12 : decode cX8_addAll 12 = .ok (.iand, 1) := by decide +kernel
theorem dX8_addAll_13 : decode cX8_addAll 13 = .ok (.ifCond .eq 60, 3) := by decide +kernel
theorem dX8_addAll_16 : decode cX8_addAll 16 = .ok (.aload_n 0, 1) := by decide +kernel
theorem dX8_addAll_17 : decode cX8_addAll 17 = .ok (.iload_n 1, 1) := by decide +kernel
theorem dX8_addAll_18 : decode cX8_addAll 18 = .ok (.iload_n 3, 1) := by decide +kernel
theorem dX8_addAll_19 : decode cX8_addAll 19 = .ok (.invokevirtual 120, 3) := by decide +kernel
theorem dX8_addAll_22 : decode cX8_addAll 22 = .ok (.istore 4, 2) := by decide +kernel
theorem dX8_addAll_24 : decode cX8_addAll 24 = .ok (.aload_n 0, 1) := by decide +kernel
theorem dX8_addAll_25 : decode cX8_addAll 25 = .ok (.getfield 57, 3) := by decide +kernel
theorem dX8_addAll_28 : decode cX8_addAll 28 = .ok (.iload 4, 2) := by decide +kernel
theorem dX8_addAll_30 : decode cX8_addAll 30 = .ok (.baload, 1) := by decide +kernel
theorem dX8_addAll_31 : decode cX8_addAll 31 = .ok (.ifCond .ne 42, 3) := by decide +kernel
theorem dX8_addAll_34 : decode cX8_addAll 34 = .ok (.aload_n 0, 1) := by decide +kernel
theorem dX8_addAll_35 : decode cX8_addAll 35 = .ok (.getfield 106, 3) := by decide +kernel
theorem dX8_addAll_38 : decode cX8_addAll 38 = .ok (.sipush 320, 3) := by decide +kernel
theorem dX8_addAll_41 : decode cX8_addAll 41 = .ok (.if_icmp .ge 32, 3) := by decide +kernel
theorem dX8_addAll_44 : decode cX8_addAll 44 = .ok (.aload_n 0, 1) := by decide +kernel
theorem dX8_addAll_45 : decode cX8_addAll 45 = .ok (.getfield 57, 3) := by decide +kernel
theorem dX8_addAll_48 : decode cX8_addAll 48 = .ok (.iload 4, 2) := by decide +kernel
theorem dX8_addAll_50 : decode cX8_addAll 50 = .ok (.iconst 1, 1) := by decide +kernel
theorem dX8_addAll_51 : decode cX8_addAll 51 = .ok (.bastore, 1) := by decide +kernel
theorem dX8_addAll_52 : decode cX8_addAll 52 = .ok (.aload_n 0, 1) := by decide +kernel
theorem dX8_addAll_53 : decode cX8_addAll 53 = .ok (.getfield 61, 3) := by decide +kernel
theorem dX8_addAll_56 : decode cX8_addAll 56 = .ok (.aload_n 0, 1) := by decide +kernel
theorem dX8_addAll_57 : decode cX8_addAll 57 = .ok (.getfield 106, 3) := by decide +kernel
theorem dX8_addAll_60 : decode cX8_addAll 60 = .ok (.iload 4, 2) := by decide +kernel
theorem dX8_addAll_62 : decode cX8_addAll 62 = .ok (.iastore, 1) := by decide +kernel
theorem dX8_addAll_63 : decode cX8_addAll 63 = .ok (.aload_n 0, 1) := by decide +kernel
theorem dX8_addAll_64 : decode cX8_addAll 64 = .ok (.dup, 1) := by decide +kernel
theorem dX8_addAll_65 : decode cX8_addAll 65 = .ok (.getfield 106, 3) := by decide +kernel
theorem dX8_addAll_68 : decode cX8_addAll 68 = .ok (.iconst 1, 1) := by decide +kernel
theorem dX8_addAll_69 : decode cX8_addAll 69 = .ok (.iadd, 1) := by decide +kernel
theorem dX8_addAll_70 : decode cX8_addAll 70 = .ok (.putfield 106, 3) := by decide +kernel
theorem dX8_addAll_73 : decode cX8_addAll 73 = .ok (.iinc 3 1, 3) := by decide +kernel
theorem dX8_addAll_76 : decode cX8_addAll 76 = .ok (.goto (-74), 3) := by decide +kernel
theorem dX8_addAll_79 : decode cX8_addAll 79 = .ok (.return_, 1) := by decide +kernel
theorem dX10_init_0 : decode cX10_init 0 = .ok (.aload_n 0, 1) := by decide +kernel
theorem dX10_init_1 : decode cX10_init 1 = .ok (.invokespecial 3, 3) := by decide +kernel
theorem dX10_init_4 : decode cX10_init 4 = .ok (.aload_n 0, 1) := by decide +kernel
theorem dX10_init_5 : decode cX10_init 5 = .ok (.new 9, 3) := by decide +kernel
theorem dX10_init_8 : decode cX10_init 8 = .ok (.dup, 1) := by decide +kernel
theorem dX10_init_9 : decode cX10_init 9 = .ok (.invokespecial 11, 3) := by decide +kernel
theorem dX10_init_12 : decode cX10_init 12 = .ok (.putfield 12, 3) := by decide +kernel
theorem dX10_init_15 : decode cX10_init 15 = .ok (.aload_n 0, 1) := by decide +kernel
theorem dX10_init_16 : decode cX10_init 16 = .ok (.sipush 320, 3) := by decide +kernel
theorem dX10_init_19 : decode cX10_init 19 = .ok (.newarray .int, 2) := by decide +kernel
theorem dX10_init_21 : decode cX10_init 21 = .ok (.putfield 18, 3) := by decide +kernel
theorem dX10_init_24 : decode cX10_init 24 = .ok (.aload_n 0, 1) := by decide +kernel
theorem dX10_init_25 : decode cX10_init 25 = .ok (.sipush 320, 3) := by decide +kernel
theorem dX10_init_28 : decode cX10_init 28 = .ok (.newarray .int, 2) := by decide +kernel
theorem dX10_init_30 : decode cX10_init 30 = .ok (.putfield 22, 3) := by decide +kernel
theorem dX10_init_33 : decode cX10_init 33 = .ok (.aload_n 0, 1) := by decide +kernel
theorem dX10_init_34 : decode cX10_init 34 = .ok (.sipush 320, 3) := by decide +kernel
theorem dX10_init_37 : decode cX10_init 37 = .ok (.newarray .boolean, 2) := by decide +kernel
theorem dX10_init_39 : decode cX10_init 39 = .ok (.putfield 25, 3) := by decide +kernel
theorem dX10_init_42 : decode cX10_init 42 = .ok (.aload_n 0, 1) := by decide +kernel
theorem dX10_init_43 : decode cX10_init 43 = .ok (.bipush 20, 2) := by decide +kernel
theorem dX10_init_45 : decode cX10_init 45 = .ok (.newarray .int, 2) := by decide +kernel
theorem dX10_init_47 : decode cX10_init 47 = .ok (.putfield 29, 3) := by decide +kernel
theorem dX10_init_50 : decode cX10_init 50 = .ok (.return_, 1) := by decide +kernel
theorem dX10_begin_0 : decode cX10_begin 0 = .ok (.aload_n 0, 1) := by decide +kernel
theorem dX10_begin_1 : decode cX10_begin 1 = .ok (.aload_n 1, 1) := by decide +kernel
theorem dX10_begin_2 : decode cX10_begin 2 = .ok (.putfield 32, 3) := by decide +kernel
theorem dX10_begin_5 : decode cX10_begin 5 = .ok (.aload_n 0, 1) := by decide +kernel
theorem dX10_begin_6 : decode cX10_begin 6 = .ok (.aload_n 2, 1) := by decide +kernel
theorem dX10_begin_7 : decode cX10_begin 7 = .ok (.putfield 36, 3) := by decide +kernel
theorem dX10_begin_10 : decode cX10_begin 10 = .ok (.return_, 1) := by decide +kernel
theorem dX10_reckonAll_0 : decode cX10_reckonAll 0 = .ok (.iconst 0, 1) := by decide +kernel
theorem dX10_reckonAll_1 : decode cX10_reckonAll 1 = .ok (.istore_n 1, 1) := by decide +kernel
theorem dX10_reckonAll_2 : decode cX10_reckonAll 2 = .ok (.iload_n 1, 1) := by decide +kernel
theorem dX10_reckonAll_3 : decode cX10_reckonAll 3 = .ok (.aload_n 0, 1) := by decide +kernel
theorem dX10_reckonAll_4 : decode cX10_reckonAll 4 = .ok (.getfield 12, 3) := by decide +kernel
theorem dX10_reckonAll_7 : decode cX10_reckonAll 7 = .ok (.getfield 40, 3) := by decide +kernel
theorem dX10_reckonAll_10 : decode cX10_reckonAll 10 = .ok (.if_icmp .ge 14, 3) := by decide +kernel
theorem dX10_reckonAll_13 : decode cX10_reckonAll 13 = .ok (.aload_n 0, 1) := by decide +kernel
theorem dX10_reckonAll_14 : decode cX10_reckonAll 14 = .ok (.iload_n 1, 1) := by decide +kernel
theorem dX10_reckonAll_15 : decode cX10_reckonAll 15 = .ok (.invokevirtual 44, 3) := by decide +kernel
theorem dX10_reckonAll_18 : decode cX10_reckonAll 18 = .ok (.iinc 1 1, 3) := by decide +kernel
theorem dX10_reckonAll_21 : decode cX10_reckonAll 21 = .ok (.goto (-19), 3) := by decide +kernel
theorem dX10_reckonAll_24 : decode cX10_reckonAll 24 = .ok (.return_, 1) := by decide +kernel
theorem dX10_reckonGroup_0 : decode cX10_reckonGroup 0 = .ok (.aload_n 0, 1) := by decide +kernel
theorem dX10_reckonGroup_1 : decode cX10_reckonGroup 1 = .ok (.getfield 12, 3) := by decide +kernel
theorem dX10_reckonGroup_4 : decode cX10_reckonGroup 4 = .ok (.getfield 48, 3) := by decide +kernel
theorem dX10_reckonGroup_7 : decode cX10_reckonGroup 7 = .ok (.iload_n 1, 1) := by decide +kernel
theorem dX10_reckonGroup_8 : decode cX10_reckonGroup 8 = .ok (.baload, 1) := by decide +kernel
theorem dX10_reckonGroup_9 : decode cX10_reckonGroup 9 = .ok (.ifCond .ne 24, 3) := by decide +kernel
theorem dX10_reckonGroup_12 : decode cX10_reckonGroup 12 = .ok (.aload_n 0, 1) := by decide +kernel
theorem dX10_reckonGroup_13 : decode cX10_reckonGroup 13 = .ok (.getfield 12, 3) := by decide +kernel
theorem dX10_reckonGroup_16 : decode cX10_reckonGroup 16 = .ok (.iload_n 1, 1) := by decide +kernel
theorem dX10_reckonGroup_17 : decode cX10_reckonGroup 17 = .ok (.invokevirtual 51, 3) := by decide +kernel
theorem dX10_reckonGroup_20 : decode cX10_reckonGroup 20 = .ok (.istore_n 2, 1) := by decide +kernel
theorem dX10_reckonGroup_21 : decode cX10_reckonGroup 21 = .ok (.aload_n 0, 1) := by decide +kernel
theorem dX10_reckonGroup_22 : decode cX10_reckonGroup 22 = .ok (.getfield 18, 3) := by decide +kernel
theorem dX10_reckonGroup_25 : decode cX10_reckonGroup 25 = .ok (.iload_n 2, 1) := by decide +kernel
theorem dX10_reckonGroup_26 : decode cX10_reckonGroup 26 = .ok (.aload_n 0, 1) := by decide +kernel
theorem dX10_reckonGroup_27 : decode cX10_reckonGroup 27 = .ok (.iload_n 2, 1) := by decide +kernel
theorem dX10_reckonGroup_28 : decode cX10_reckonGroup 28 = .ok (.invokevirtual 55, 3) := by decide +kernel
theorem dX10_reckonGroup_31 : decode cX10_reckonGroup 31 = .ok (.iastore, 1) := by decide +kernel
theorem dX10_reckonGroup_32 : decode cX10_reckonGroup 32 = .ok (.return_, 1) := by decide +kernel
theorem dX10_reckonGroup_33 : decode cX10_reckonGroup 33 = .ok (.aload_n 0, 1) := by decide +kernel
theorem dX10_reckonGroup_34 : decode cX10_reckonGroup 34 = .ok (.getfield 12, 3) := by decide +kernel
theorem dX10_reckonGroup_37 : decode cX10_reckonGroup 37 = .ok (.iload_n 1, 1) := by decide +kernel
theorem dX10_reckonGroup_38 : decode cX10_reckonGroup 38 = .ok (.invokevirtual 58, 3) := by decide +kernel
theorem dX10_reckonGroup_41 : decode cX10_reckonGroup 41 = .ok (.istore_n 2, 1) := by decide +kernel
theorem dX10_reckonGroup_42 : decode cX10_reckonGroup 42 = .ok (.iconst 0, 1) := by decide +kernel
theorem dX10_reckonGroup_43 : decode cX10_reckonGroup 43 = .ok (.istore_n 3, 1) := by decide +kernel
theorem dX10_reckonGroup_44 : decode cX10_reckonGroup 44 = .ok (.iload_n 3, 1) := by decide +kernel
theorem dX10_reckonGroup_45 : decode cX10_reckonGroup 45 = .ok (.iload_n 2, 1) := by decide +kernel
theorem dX10_reckonGroup_46 : decode cX10_reckonGroup 46 = .ok (.if_icmp .ge 24, 3) := by decide +kernel
theorem dX10_reckonGroup_49 : decode cX10_reckonGroup 49 = .ok (.aload_n 0, 1) := by decide +kernel
theorem dX10_reckonGroup_50 : decode cX10_reckonGroup 50 = .ok (.getfield 18, 3) := by decide +kernel
theorem dX10_reckonGroup_53 : decode cX10_reckonGroup 53 = .ok (.aload_n 0, 1) := by decide +kernel
theorem dX10_reckonGroup_54 : decode cX10_reckonGroup 54 = .ok (.getfield 12, 3) := by decide +kernel
theorem dX10_reckonGroup_57 : decode cX10_reckonGroup 57 = .ok (.iload_n 1, 1) := by decide +kernel
theorem dX10_reckonGroup_58 : decode cX10_reckonGroup 58 = .ok (.iload_n 3, 1) := by decide +kernel
theorem dX10_reckonGroup_59 : decode cX10_reckonGroup 59 = .ok (.invokevirtual 61, 3) := by decide +kernel
theorem dX10_reckonGroup_62 : decode cX10_reckonGroup 62 = .ok (.iconst 0, 1) := by decide +kernel
theorem dX10_reckonGroup_63 : decode cX10_reckonGroup 63 = .ok (.iastore, 1) := by decide +kernel
theorem dX10_reckonGroup_64 : decode cX10_reckonGroup 64 = .ok (.iinc 3 1, 3) := by decide +kernel
theorem dX10_reckonGroup_67 : decode cX10_reckonGroup 67 = .ok (.goto (-23), 3) := by decide +kernel
theorem dX10_reckonGroup_70 : decode cX10_reckonGroup 70 = .ok (.iconst 1, 1) := by decide +kernel
theorem dX10_reckonGroup_71 : decode cX10_reckonGroup 71 = .ok (.istore_n 3, 1) := by decide +kernel
theorem dX10_reckonGroup_72 : decode cX10_reckonGroup 72 = .ok (.iconst 1, 1) := by decide +kernel
theorem dX10_reckonGroup_73 : decode cX10_reckonGroup 73 = .ok (.istore 4, 2) := by decide +kernel
theorem dX10_reckonGroup_75 : decode cX10_reckonGroup 75 = .ok (.iload 4, 2) := by decide +kernel
theorem dX10_reckonGroup_77 : decode cX10_reckonGroup 77 = .ok (.bipush 64, 2) := by decide +kernel
theorem dX10_reckonGroup_79 : decode cX10_reckonGroup 79 = .ok (.if_icmp .gt 92, 3) := by decide +kernel
theorem dX10_reckonGroup_82 : decode cX10_reckonGroup 82 = .ok (.iload_n 3, 1) := by decide +kernel
theorem dX10_reckonGroup_83 : decode cX10_reckonGroup 83 = .ok (.ifCond .eq 88, 3) := by decide +kernel
theorem dX10_reckonGroup_86 : decode cX10_reckonGroup 86 = .ok (.iconst 0, 1) := by decide +kernel
theorem dX10_reckonGroup_87 : decode cX10_reckonGroup 87 = .ok (.istore_n 3, 1) := by decide +kernel
theorem dX10_reckonGroup_88 : decode cX10_reckonGroup 88 = .ok (.iconst 0, 1) := by decide +kernel
theorem dX10_reckonGroup_89 : decode cX10_reckonGroup 89 = .ok (.istore 5, 2) := by decide +kernel
theorem dX10_reckonGroup_91 : decode cX10_reckonGroup 91 = .ok (.iload 5, 2) := by decide +kernel
theorem dX10_reckonGroup_93 : decode cX10_reckonGroup 93 = .ok (.iload_n 2, 1) := by decide +kernel
theorem dX10_reckonGroup_94 : decode cX10_reckonGroup 94 = .ok (.if_icmp .ge 63, 3) := by decide +kernel
theorem dX10_reckonGroup_97 : decode cX10_reckonGroup 97 = .ok (.aload_n 0, 1) := by decide +kernel
theorem dX10_reckonGroup_98 : decode cX10_reckonGroup 98 = .ok (.getfield 12, 3) := by decide +kernel
theorem dX10_reckonGroup_101 : decode cX10_reckonGroup 101 = .ok (.iload_n 1, 1) := by decide +kernel
theorem dX10_reckonGroup_102 : decode cX10_reckonGroup 102 = .ok (.iload 5, 2) := by decide +kernel
theorem dX10_reckonGroup_104 : decode cX10_reckonGroup 104 = .ok (.invokevirtual 61, 3) := by decide +kernel
theorem dX10_reckonGroup_107 : decode cX10_reckonGroup 107 = .ok (.istore 6, 2) := by decide +kernel
theorem dX10_reckonGroup_109 : decode cX10_reckonGroup 109 = .ok (.aload_n 0, 1) := by decide +kernel
theorem dX10_reckonGroup_110 : decode cX10_reckonGroup 110 = .ok (.getfield 18, 3) := by decide +kernel
theorem dX10_reckonGroup_113 : decode cX10_reckonGroup 113 = .ok (.iload 6, 2) := by decide +kernel
theorem dX10_reckonGroup_115 : decode cX10_reckonGroup 115 = .ok (.iaload, 1) := by decide +kernel
theorem dX10_reckonGroup_116 : decode cX10_reckonGroup 116 = .ok (.istore 7, 2) := by decide +kernel
theorem dX10_reckonGroup_118 : decode cX10_reckonGroup 118 = .ok (.aload_n 0, 1) := by decide +kernel
theorem dX10_reckonGroup_119 : decode cX10_reckonGroup 119 = .ok (.getfield 18, 3) := by decide +kernel
theorem dX10_reckonGroup_122 : decode cX10_reckonGroup 122 = .ok (.iload 6, 2) := by decide +kernel
theorem dX10_reckonGroup_124 : decode cX10_reckonGroup 124 = .ok (.aload_n 0, 1) := by decide +kernel
theorem dX10_reckonGroup_125 : decode cX10_reckonGroup 125 = .ok (.iload 6, 2) := by decide +kernel
theorem dX10_reckonGroup_127 : decode cX10_reckonGroup 127 = .ok (.invokevirtual 55, 3) := by decide +kernel
theorem dX10_reckonGroup_130 : decode cX10_reckonGroup 130 = .ok (.iastore, 1) := by decide +kernel
theorem dX10_reckonGroup_131 : decode cX10_reckonGroup 131 = .ok (.iload_n 3, 1) := by decide +kernel
theorem dX10_reckonGroup_132 : decode cX10_reckonGroup 132 = .ok (.aload_n 0, 1) := by decide +kernel
theorem dX10_reckonGroup_133 : decode cX10_reckonGroup 133 = .ok (.getfield 18, 3) := by decide +kernel
theorem dX10_reckonGroup_136 : decode cX10_reckonGroup 136 = .ok (.iload 6, 2) := by decide +kernel
theorem dX10_reckonGroup_138 : decode cX10_reckonGroup 138 = .ok (.iaload, 1) := by decide +kernel
theorem dX10_reckonGroup_139 : decode cX10_reckonGroup 139 = .ok (.iload 7, 2) := by decide +kernel
theorem dX10_reckonGroup_141 : decode cX10_reckonGroup 141 = .ok (.if_icmp .eq 7, 3) := by decide +kernel
theorem dX10_reckonGroup_144 : decode cX10_reckonGroup 144 = .ok (.iconst 1, 1) := by decide +kernel
theorem dX10_reckonGroup_145 : decode cX10_reckonGroup 145 = .ok (.goto 4, 3) := by decide +kernel
theorem dX10_reckonGroup_148 : decode cX10_reckonGroup 148 = .ok (.iconst 0, 1) := by decide +kernel
theorem dX10_reckonGroup_149 : decode cX10_reckonGroup 149 = .ok (.ior, 1) := by decide +kernel
theorem dX10_reckonGroup_150 : decode cX10_reckonGroup 150 = .ok (.istore_n 3, 1) := by decide +kernel
theorem dX10_reckonGroup_151 : decode cX10_reckonGroup 151 = .ok (.iinc 5 1, 3) := by decide +kernel
theorem dX10_reckonGroup_154 : decode cX10_reckonGroup 154 = .ok (.goto (-63), 3) := by decide +kernel
theorem dX10_reckonGroup_157 : decode cX10_reckonGroup 157 = .ok (.aload_n 0, 1) := by decide +kernel
theorem dX10_reckonGroup_158 : decode cX10_reckonGroup 158 = .ok (.getfield 22, 3) := by decide +kernel
theorem dX10_reckonGroup_161 : decode cX10_reckonGroup 161 = .ok (.iload_n 1, 1) := by decide +kernel
theorem dX10_reckonGroup_162 : decode cX10_reckonGroup 162 = .ok (.iload 4, 2) := by decide +kernel
theorem dX10_reckonGroup_164 : decode cX10_reckonGroup 164 = .ok (.iastore, 1) := by decide +kernel
theorem dX10_reckonGroup_165 : decode cX10_reckonGroup 165 = .ok (.iinc 4 1, 3) := by decide +kernel
theorem dX10_reckonGroup_168 : decode cX10_reckonGroup 168 = .ok (.goto (-93), 3) := by decide +kernel
theorem dX10_reckonGroup_171 : decode cX10_reckonGroup 171 = .ok (.aload_n 0, 1) := by decide +kernel
theorem dX10_reckonGroup_172 : decode cX10_reckonGroup 172 = .ok (.getfield 25, 3) := by decide +kernel
theorem dX10_reckonGroup_175 : decode cX10_reckonGroup 175 = .ok (.iload_n 1, 1) := by decide +kernel
theorem dX10_reckonGroup_176 : decode cX10_reckonGroup 176 = .ok (.iload_n 3, 1) := by decide +kernel
theorem dX10_reckonGroup_177 : decode cX10_reckonGroup 177 = .ok (.bastore, 1) := by decide +kernel
theorem dX10_reckonGroup_178 : decode cX10_reckonGroup 178 = .ok (.return_, 1) := by decide +kernel
theorem dX10_reckon_0 : decode cX10_reckon 0 = .ok (.aload_n 0, 1) := by decide +kernel
theorem dX10_reckon_1 : decode cX10_reckon 1 = .ok (.getfield 36, 3) := by decide +kernel
theorem dX10_reckon_4 : decode cX10_reckon 4 = .ok (.getfield 65, 3) := by decide +kernel
theorem dX10_reckon_7 : decode cX10_reckon 7 = .ok (.iload_n 1, 1) := by decide +kernel
theorem dX10_reckon_8 : decode cX10_reckon 8 = .ok (.iaload, 1) := by decide +kernel
theorem dX10_reckon_9 : decode cX10_reckon 9 = .ok (.istore_n 2, 1) := by decide +kernel
theorem dX10_reckon_10 : decode cX10_reckon 10 = .ok (.iload_n 2, 1) := by decide +kernel
theorem dX10_reckon_11 : decode cX10_reckon 11 = .ok (.iconst (-1), 1) := by decide +kernel
theorem dX10_reckon_12 : decode cX10_reckon 12 = .ok (.if_icmp .ne 16, 3) := by decide +kernel
theorem dX10_reckon_15 : decode cX10_reckon 15 = .ok (.aload_n 0, 1) := by decide +kernel
theorem dX10_reckon_16 : decode cX10_reckon 16 = .ok (.getfield 36, 3) := by decide +kernel
theorem dX10_reckon_19 : decode cX10_reckon 19 = .ok (.getfield 70, 3) := by decide +kernel
theorem dX10_reckon_22 : decode cX10_reckon 22 = .ok (.iload_n 1, 1) := by decide +kernel
theorem dX10_reckon_23 : decode cX10_reckon 23 = .ok (.bipush 8, 2) := by decide +kernel
theorem dX10_reckon_25 : decode cX10_reckon 25 = .ok (.irem, 1) := by decide +kernel
theorem dX10_reckon_26 : decode cX10_reckon 26 = .ok (.iaload, 1) := by decide +kernel
theorem dX10_reckon_27 : decode cX10_reckon 27 = .ok (.ireturn, 1) := by decide +kernel
theorem dX10_reckon_28 : decode cX10_reckon 28 = .ok (.bipush 32, 2) := by decide +kernel
theorem dX10_reckon_30 : decode cX10_reckon 30 = .ok (.aload_n 0, 1) := by decide +kernel
theorem dX10_reckon_31 : decode cX10_reckon 31 = .ok (.getfield 36, 3) := by decide +kernel
theorem dX10_reckon_34 : decode cX10_reckon 34 = .ok (.getfield 73, 3) := by decide +kernel
theorem dX10_reckon_37 : decode cX10_reckon 37 = .ok (.iload_n 2, 1) := by decide +kernel
theorem dX10_reckon_38 : decode cX10_reckon 38 = .ok (.iaload, 1) := by decide +kernel
theorem dX10_reckon_39 : decode cX10_reckon 39 = .ok (.imul, 1) := by decide +kernel
theorem dX10_reckon_40 : decode cX10_reckon 40 = .ok (.aload_n 0, 1) := by decide +kernel
theorem dX10_reckon_41 : decode cX10_reckon 41 = .ok (.getfield 36, 3) := by decide +kernel
theorem dX10_reckon_44 : decode cX10_reckon 44 = .ok (.getfield 76, 3) := by decide +kernel
theorem dX10_reckon_47 : decode cX10_reckon 47 = .ok (.iload_n 1, 1) := by decide +kernel
theorem dX10_reckon_48 : decode cX10_reckon 48 = .ok (.iaload, 1) := by decide +kernel
theorem dX10_reckon_49 : decode cX10_reckon 49 = .ok (.iadd, 1) := by decide +kernel
theorem dX10_reckon_50 : decode cX10_reckon 50 = .ok (.istore_n 3, 1) := by decide +kernel
theorem dX10_reckon_51 : decode cX10_reckon 51 = .ok (.iconst 0, 1) := by decide +kernel
theorem dX10_reckon_52 : decode cX10_reckon 52 = .ok (.istore 4, 2) := by decide +kernel
theorem dX10_reckon_54 : decode cX10_reckon 54 = .ok (.aload_n 0, 1) := by decide +kernel
theorem dX10_reckon_55 : decode cX10_reckon 55 = .ok (.getfield 29, 3) := by decide +kernel
theorem dX10_reckon_58 : decode cX10_reckon 58 = .ok (.iconst 0, 1) := by decide +kernel
theorem dX10_reckon_59 : decode cX10_reckon 59 = .ok (.iconst 0, 1) := by decide +kernel
theorem dX10_reckon_60 : decode cX10_reckon 60 = .ok (.iastore, 1) := by decide +kernel
theorem dX10_reckon_61 : decode cX10_reckon 61 = .ok (.aload_n 0, 1) := by decide +kernel
theorem dX10_reckon_62 : decode cX10_reckon 62 = .ok (.getfield 32, 3) := by decide +kernel
theorem dX10_reckon_65 : decode cX10_reckon 65 = .ok (.getfield 79, 3) := by decide +kernel
theorem dX10_reckon_68 : decode cX10_reckon 68 = .ok (.iload_n 3, 1) := by decide +kernel
theorem dX10_reckon_69 : decode cX10_reckon 69 = .ok (.iaload, 1) := by decide +kernel
theorem dX10_reckon_70 : decode cX10_reckon 70 = .ok (.istore 5, 2) := by decide +kernel
theorem dX10_reckon_72 : decode cX10_reckon 72 = .ok (.iload 5, 2) := by decide +kernel
theorem dX10_reckon_74 : decode cX10_reckon 74 = .ok (.aload_n 0, 1) := by decide +kernel
theorem dX10_reckon_75 : decode cX10_reckon 75 = .ok (.getfield 32, 3) := by decide +kernel
theorem dX10_reckon_78 : decode cX10_reckon 78 = .ok (.getfield 84, 3) := by decide +kernel
theorem dX10_reckon_81 : decode cX10_reckon 81 = .ok (.iload_n 3, 1) := by decide +kernel
theorem dX10_reckon_82 : decode cX10_reckon 82 = .ok (.iaload, 1) := by decide +kernel
theorem dX10_reckon_83 : decode cX10_reckon 83 = .ok (.if_icmp .ge 158, 3) := by decide +kernel
theorem dX10_reckon_86 : decode cX10_reckon 86 = .ok (.aload_n 0, 1) := by decide +kernel
theorem dX10_reckon_87 : decode cX10_reckon 87 = .ok (.getfield 32, 3) := by decide +kernel
theorem dX10_reckon_90 : decode cX10_reckon 90 = .ok (.getfield 87, 3) := by decide +kernel
theorem dX10_reckon_93 : decode cX10_reckon 93 = .ok (.iload 5, 2) := by decide +kernel
theorem dX10_reckon_95 : decode cX10_reckon 95 = .ok (.iaload, 1) := by decide +kernel
theorem dX10_reckon_96 : decode cX10_reckon 96 = .ok (.istore 6, 2) := by decide +kernel
theorem dX10_reckon_98 : decode cX10_reckon 98 = .ok (.iload 6, 2) := by decide +kernel
theorem dX10_reckon_100 : decode cX10_reckon 100 = .ok (.sipush 30000, 3) := by decide +kernel
theorem dX10_reckon_103 : decode cX10_reckon 103 = .ok (.if_icmp .ge 30, 3) := by decide +kernel
theorem dX10_reckon_106 : decode cX10_reckon 106 = .ok (.iload 4, 2) := by decide +kernel
theorem dX10_reckon_108 : decode cX10_reckon 108 = .ok (.bipush 20, 2) := by decide +kernel
theorem dX10_reckon_110 : decode cX10_reckon 110 = .ok (.if_icmp .ge 23, 3) := by decide +kernel
theorem dX10_reckon_113 : decode cX10_reckon 113 = .ok (.aload_n 0, 1) := by decide +kernel
theorem dX10_reckon_114 : decode cX10_reckon 114 = .ok (.getfield 29, 3) := by decide +kernel
theorem dX10_reckon_117 : decode cX10_reckon 117 = .ok (.iload 4, 2) := by decide +kernel
theorem dX10_reckon_119 : decode cX10_reckon 119 = .ok (.aload_n 0, 1) := by decide +kernel
theorem dX10_reckon_120 : decode cX10_reckon 120 = .ok (.iload_n 2, 1) := by decide +kernel
theorem dX10_reckon_121 : decode cX10_reckon 121 = .ok (.iload 6, 2) := by decide +kernel
theorem dX10_reckon_123 : decode cX10_reckon 123 = .ok (.invokevirtual 90, 3) := by decide +kernel
theorem dX10_reckon_126 : decode cX10_reckon 126 = .ok (.iastore, 1) := by decide +kernel
theorem dX10_reckon_127 : decode cX10_reckon 127 = .ok (.iinc 4 1, 3) := by decide +kernel
theorem dX10_reckon_130 : decode cX10_reckon 130 = .ok (.goto 105, 3) := by decide +kernel
theorem dX10_reckon_133 : decode cX10_reckon 133 = .ok (.iload 6, 2) := by decide +kernel
theorem dX10_reckon_135 : decode cX10_reckon 135 = .ok (.ldc 93, 2) := by decide +kernel
theorem dX10_reckon_137 : decode cX10_reckon 137 = .ok (.if_icmp .ne 55, 3) := by decide +kernel
theorem dX10_reckon_140 : decode cX10_reckon 140 = .ok (.iload 4, 2) := by decide +kernel
theorem dX10_reckon_142 : decode cX10_reckon 142 = .ok (.iconst 3, 1) := by decide +kernel
theorem dX10_reckon_143 : decode cX10_reckon 143 = .ok (.if_icmp .lt 49, 3) := by decide +kernel
theorem dX10_reckon_146 : decode cX10_reckon 146 = .ok (.iinc 4 (-2), 3) := by decide +kernel
theorem dX10_reckon_149 : decode cX10_reckon 149 = .ok (.aload_n 0, 1) := by decide +kernel
theorem dX10_reckon_150 : decode cX10_reckon 150 = .ok (.getfield 29, 3) := by decide +kernel
theorem dX10_reckon_153 : decode cX10_reckon 153 = .ok (.iload 4, 2) := by decide +kernel
theorem dX10_reckon_155 : decode cX10_reckon 155 = .ok (.iconst 1, 1) := by decide +kernel
theorem dX10_reckon_156 : decode cX10_reckon 156 = .ok (.isub, 1) := by decide +kernel
theorem dX10_reckon_157 : decode cX10_reckon 157 = .ok (.aload_n 0, 1) := by decide +kernel
theorem dX10_reckon_158 : decode cX10_reckon 158 = .ok (.getfield 29, 3) := by decide +kernel
theorem dX10_reckon_161 : decode cX10_reckon 161 = .ok (.iload 4, 2) := by decide +kernel
theorem dX10_reckon_163 : decode cX10_reckon 163 = .ok (.iconst 1, 1) := by decide +kernel
theorem dX10_reckon_164 : decode cX10_reckon 164 = .ok (.isub, 1) := by decide +kernel
theorem dX10_reckon_165 : decode cX10_reckon 165 = .ok (.iaload, 1) := by decide +kernel
theorem dX10_reckon_166 : decode cX10_reckon 166 = .ok (.ifCond .eq 13, 3) := by decide +kernel
theorem dX10_reckon_169 : decode cX10_reckon 169 = .ok (.aload_n 0, 1) := by decide +kernel
theorem dX10_reckon_170 : decode cX10_reckon 170 = .ok (.getfield 29, 3) := by decide +kernel
theorem dX10_reckon_173 : decode cX10_reckon 173 = .ok (.iload 4, 2) := by decide +kernel
theorem dX10_reckon_175 : decode cX10_reckon 175 = .ok (.iaload, 1) := by decide +kernel
theorem dX10_reckon_176 : decode cX10_reckon 176 = .ok (.goto 12, 3) := by decide +kernel
theorem dX10_reckon_179 : decode cX10_reckon 179 = .ok (.aload_n 0, 1) := by decide +kernel
theorem dX10_reckon_180 : decode cX10_reckon 180 = .ok (.getfield 29, 3) := by decide +kernel
theorem dX10_reckon_183 : decode cX10_reckon 183 = .ok (.iload 4, 2) := by decide +kernel
theorem dX10_reckon_185 : decode cX10_reckon 185 = .ok (.iconst 1, 1) := by decide +kernel
theorem dX10_reckon_186 : decode cX10_reckon 186 = .ok (.iadd, 1) := by decide +kernel
theorem dX10_reckon_187 : decode cX10_reckon 187 = .ok (.iaload, 1) := by decide +kernel
theorem dX10_reckon_188 : decode cX10_reckon 188 = .ok (.iastore, 1) := by decide +kernel
theorem dX10_reckon_189 : decode cX10_reckon 189 = .ok (.goto 46, 3) := by decide +kernel
theorem dX10_reckon_192 : decode cX10_reckon 192 = .ok (.iload 4, 2) := by decide +kernel
theorem dX10_reckon_194 : decode cX10_reckon 194 = .ok (.iconst 2, 1) := by decide +kernel
theorem dX10_reckon_195 : decode cX10_reckon 195 = .ok (.if_icmp .lt 40, 3) := by decide +kernel
theorem dX10_reckon_198 : decode cX10_reckon 198 = .ok (.iinc 4 (-1), 3) := by decide +kernel
theorem dX10_reckon_201 : decode cX10_reckon 201 = .ok (.aload_n 0, 1) := by decide +kernel
theorem dX10_reckon_202 : decode cX10_reckon 202 = .ok (.getfield 29, 3) := by decide +kernel
theorem dX10_reckon_205 : decode cX10_reckon 205 = .ok (.iload 4, 2) := by decide +kernel
theorem dX10_reckon_207 : decode cX10_reckon 207 = .ok (.iconst 1, 1) := by decide +kernel
theorem dX10_reckon_208 : decode cX10_reckon 208 = .ok (.isub, 1) := by decide +kernel
theorem dX10_reckon_209 : decode cX10_reckon 209 = .ok (.iload 6, 2) := by decide +kernel
theorem dX10_reckon_211 : decode cX10_reckon 211 = .ok (.sipush 30000, 3) := by decide +kernel
theorem dX10_reckon_214 : decode cX10_reckon 214 = .ok (.isub, 1) := by decide +kernel
theorem dX10_reckon_215 : decode cX10_reckon 215 = .ok (.aload_n 0, 1) := by decide +kernel
theorem dX10_reckon_216 : decode cX10_reckon 216 = .ok (.getfield 29, 3) := by decide +kernel
theorem dX10_reckon_219 : decode cX10_reckon 219 = .ok (.iload 4, 2) := by decide +kernel
theorem dX10_reckon_221 : decode cX10_reckon 221 = .ok (.iconst 1, 1) := by decide +kernel
theorem dX10_reckon_222 : decode cX10_reckon 222 = .ok (.isub, 1) := by decide +kernel
theorem dX10_reckon_223 : decode cX10_reckon 223 = .ok (.iaload, 1) := by decide +kernel
theorem dX10_reckon_224 : decode cX10_reckon 224 = .ok (.aload_n 0, 1) := by decide +kernel
theorem dX10_reckon_225 : decode cX10_reckon 225 = .ok (.getfield 29, 3) := by decide +kernel
theorem dX10_reckon_228 : decode cX10_reckon 228 = .ok (.iload 4, 2) := by decide +kernel
theorem dX10_reckon_230 : decode cX10_reckon 230 = .ok (.iaload, 1) := by decide +kernel
theorem dX10_reckon_231 : decode cX10_reckon 231 = .ok (.invokestatic 94, 3) := by decide +kernel
theorem dX10_reckon_234 : decode cX10_reckon 234 = .ok (.iastore, 1) := by decide +kernel
theorem dX10_reckon_235 : decode cX10_reckon 235 = .ok (.iinc 5 1, 3) := by decide +kernel
theorem dX10_reckon_238 : decode cX10_reckon 238 = .ok (.goto (-166), 3) := by decide +kernel
theorem dX10_reckon_241 : decode cX10_reckon 241 = .ok (.aload_n 0, 1) := by decide +kernel
theorem dX10_reckon_242 : decode cX10_reckon 242 = .ok (.getfield 29, 3) := by decide +kernel
theorem dX10_reckon_245 : decode cX10_reckon 245 = .ok (.iconst 0, 1) := by decide +kernel
theorem dX10_reckon_246 : decode cX10_reckon 246 = .ok (.iaload, 1) := by decide +kernel
theorem dX10_reckon_247 : decode cX10_reckon 247 = .ok (.ireturn, 1) := by decide +kernel
theorem dX10_load_0 : decode cX10_load 0 = .ok (.iload_n 2, 1) := by decide +kernel
theorem dX10_load_1 : decode cX10_load 1 = .ok (.sipush 20000, 3) := by decide +kernel
theorem dX10_load_4 : decode cX10_load 4 = .ok (.if_icmp .ne 13, 3) := by decide +kernel
theorem dX10_load_7 : decode cX10_load 7 = .ok (.aload_n 0, 1) := by decide +kernel
theorem dX10_load_8 : decode cX10_load 8 = .ok (.getfield 36, 3) := by decide +kernel
theorem dX10_load_11 : decode cX10_load 11 = .ok (.getfield 98, 3) := by decide +kernel
theorem dX10_load_14 : decode cX10_load 14 = .ok (.iload_n 1, 1) := by decide +kernel
theorem dX10_load_15 : decode cX10_load 15 = .ok (.iaload, 1) := by decide +kernel
theorem dX10_load_16 : decode cX10_load 16 = .ok (.ireturn, 1) := by decide +kernel
theorem dX10_load_17 : decode cX10_load 17 = .ok (.iload_n 2, 1) := by decide +kernel
theorem dX10_load_18 : decode cX10_load 18 = .ok (.sipush 10000, 3) := by decide +kernel
theorem dX10_load_21 : decode cX10_load 21 = .ok (.if_icmp .ge 7, 3) := by decide +kernel
theorem dX10_load_24 : decode cX10_load 24 = .ok (.iload_n 2, 1) := by decide +kernel
theorem dX10_load_25 : decode cX10_load 25 = .ok (.goto 21, 3) := by decide +kernel
theorem dX10_load_28 : decode cX10_load 28 = .ok (.aload_n 0, 1) := by decide +kernel
theorem dX10_load_29 : decode cX10_load 29 = .ok (.getfield 18, 3) := by decide +kernel
theorem dX10_load_32 : decode cX10_load 32 = .ok (.aload_n 0, 1) := by decide +kernel
theorem dX10_load_33 : decode cX10_load 33 = .ok (.getfield 36, 3) := by decide +kernel
theorem dX10_load_36 : decode cX10_load 36 = .ok (.iload_n 1, 1) := by decide +kernel
theorem dX10_load_37 : decode cX10_load 37 = .ok (.iload_n 2, 1) := by decide +kernel
theorem dX10_load_38 : decode cX10_load 38 = .ok (.sipush 10000, 3) := by decide +kernel
theorem dX10_load_41 : decode cX10_load 41 = .ok (.isub, 1) := by decide +kernel
theorem dX10_load_42 : decode cX10_load 42 = .ok (.invokevirtual 101, 3) := by decide +kernel
theorem dX10_load_45 : decode cX10_load 45 = .ok (.iaload, 1) := by decide +kernel
theorem dX10_load_46 : decode cX10_load 46 = .ok (.ireturn, 1) := by decide +kernel
theorem dX10_join_0 : decode cX10_join 0 = .ok (.iload_n 0, 1) := by decide +kernel
theorem dX10_join_1 : decode cX10_join 1 = .ok (.tableswitch 80 0 6 #[43, 47, 51, 55, 59, 63, 74], 43) := by decide +kernel
theorem dX10_join_44 : decode cX10_join 44 = .ok (.iload_n 1, 1) := by decide +kernel
theorem dX10_join_45 : decode cX10_join 45 = .ok (.iload_n 2, 1) := by decide +kernel
theorem dX10_join_46 : decode cX10_join 46 = .ok (.iadd, 1) := by decide +kernel
theorem dX10_join_47 : decode cX10_join 47 = .ok (.ireturn, 1) := by decide +kernel
theorem dX10_join_48 : decode cX10_join 48 = .ok (.iload_n 1, 1) := by decide +kernel
theorem dX10_join_49 : decode cX10_join 49 = .ok (.iload_n 2, 1) := by decide +kernel
theorem dX10_join_50 : decode cX10_join 50 = .ok (.isub, 1) := by decide +kernel
theorem dX10_join_51 : decode cX10_join 51 = .ok (.ireturn, 1) := by decide +kernel
theorem dX10_join_52 : decode cX10_join 52 = .ok (.iload_n 1, 1) := by decide +kernel
theorem dX10_join_53 : decode cX10_join 53 = .ok (.iload_n 2, 1) := by decide +kernel
theorem dX10_join_54 : decode cX10_join 54 = .ok (.imul, 1) := by decide +kernel
theorem dX10_join_55 : decode cX10_join 55 = .ok (.ireturn, 1) := by decide +kernel
theorem dX10_join_56 : decode cX10_join 56 = .ok (.iload_n 1, 1) := by decide +kernel
theorem dX10_join_57 : decode cX10_join 57 = .ok (.iload_n 2, 1) := by decide +kernel
theorem dX10_join_58 : decode cX10_join 58 = .ok (.ior, 1) := by decide +kernel
theorem dX10_join_59 : decode cX10_join 59 = .ok (.ireturn, 1) := by decide +kernel
theorem dX10_join_60 : decode cX10_join 60 = .ok (.iload_n 1, 1) := by decide +kernel
theorem dX10_join_61 : decode cX10_join 61 = .ok (.iload_n 2, 1) := by decide +kernel
theorem dX10_join_62 : decode cX10_join 62 = .ok (.iand, 1) := by decide +kernel
theorem dX10_join_63 : decode cX10_join 63 = .ok (.ireturn, 1) := by decide +kernel
theorem dX10_join_64 : decode cX10_join 64 = .ok (.iload_n 1, 1) := by decide +kernel
theorem dX10_join_65 : decode cX10_join 65 = .ok (.iload_n 2, 1) := by decide +kernel
theorem dX10_join_66 : decode cX10_join 66 = .ok (.if_icmp .ge 7, 3) := by decide +kernel
theorem dX10_join_69 : decode cX10_join 69 = .ok (.iconst 1, 1) := by decide +kernel
theorem dX10_join_70 : decode cX10_join 70 = .ok (.goto 4, 3) := by decide +kernel
theorem dX10_join_73 : decode cX10_join 73 = .ok (.iconst 0, 1) := by decide +kernel
theorem dX10_join_74 : decode cX10_join 74 = .ok (.ireturn, 1) := by decide +kernel
theorem dX10_join_75 : decode cX10_join 75 = .ok (.iload_n 1, 1) := by decide +kernel
theorem dX10_join_76 : decode cX10_join 76 = .ok (.iload_n 2, 1) := by decide +kernel
theorem dX10_join_77 : decode cX10_join 77 = .ok (.invokestatic 104, 3) := by decide +kernel
theorem dX10_join_80 : decode cX10_join 80 = .ok (.ireturn, 1) := by decide +kernel
theorem dX10_join_81 : decode cX10_join 81 = .ok (.iload_n 1, 1) := by decide +kernel
theorem dX10_join_82 : decode cX10_join 82 = .ok (.iload_n 2, 1) := by decide +kernel
theorem dX10_join_83 : decode cX10_join 83 = .ok (.invokestatic 109, 3) := by decide +kernel
theorem dX10_join_86 : decode cX10_join 86 = .ok (.ireturn, 1) := by decide +kernel
theorem dX11_init_0 : decode cX11_init 0 = .ok (.aload_n 0, 1) := by decide +kernel
theorem dX11_init_1 : decode cX11_init 1 = .ok (.invokespecial 3, 3) := by decide +kernel
theorem dX11_init_4 : decode cX11_init 4 = .ok (.aload_n 0, 1) := by decide +kernel
theorem dX11_init_5 : decode cX11_init 5 = .ok (.iconst 0, 1) := by decide +kernel
theorem dX11_init_6 : decode cX11_init 6 = .ok (.putfield 9, 3) := by decide +kernel
theorem dX11_init_9 : decode cX11_init 9 = .ok (.aload_n 0, 1) := by decide +kernel
theorem dX11_init_10 : decode cX11_init 10 = .ok (.iconst (-1), 1) := by decide +kernel
theorem dX11_init_11 : decode cX11_init 11 = .ok (.putfield 13, 3) := by decide +kernel
theorem dX11_init_14 : decode cX11_init 14 = .ok (.aload_n 0, 1) := by decide +kernel
theorem dX11_init_15 : decode cX11_init 15 = .ok (.iconst (-1), 1) := by decide +kernel
theorem dX11_init_16 : decode cX11_init 16 = .ok (.putfield 16, 3) := by decide +kernel
theorem dX11_init_19 : decode cX11_init 19 = .ok (.aload_n 0, 1) := by decide +kernel
theorem dX11_init_20 : decode cX11_init 20 = .ok (.iconst 0, 1) := by decide +kernel
theorem dX11_init_21 : decode cX11_init 21 = .ok (.putfield 19, 3) := by decide +kernel
theorem dX11_init_24 : decode cX11_init 24 = .ok (.aload_n 0, 1) := by decide +kernel
theorem dX11_init_25 : decode cX11_init 25 = .ok (.new 23, 3) := by decide +kernel
theorem dX11_init_28 : decode cX11_init 28 = .ok (.dup, 1) := by decide +kernel
theorem dX11_init_29 : decode cX11_init 29 = .ok (.invokespecial 25, 3) := by decide +kernel
theorem dX11_init_32 : decode cX11_init 32 = .ok (.putfield 26, 3) := by decide +kernel
theorem dX11_init_35 : decode cX11_init 35 = .ok (.aload_n 0, 1) := by decide +kernel
theorem dX11_init_36 : decode cX11_init 36 = .ok (.new 30, 3) := by decide +kernel
theorem dX11_init_39 : decode cX11_init 39 = .ok (.dup, 1) := by decide +kernel
theorem dX11_init_40 : decode cX11_init 40 = .ok (.invokespecial 32, 3) := by decide +kernel
theorem dX11_init_43 : decode cX11_init 43 = .ok (.putfield 33, 3) := by decide +kernel
theorem dX11_init_46 : decode cX11_init 46 = .ok (.aload_n 0, 1) := by decide +kernel
theorem dX11_init_47 : decode cX11_init 47 = .ok (.new 37, 3) := by decide +kernel
theorem dX11_init_50 : decode cX11_init 50 = .ok (.dup, 1) := by decide +kernel
theorem dX11_init_51 : decode cX11_init 51 = .ok (.invokespecial 39, 3) := by decide +kernel
theorem dX11_init_54 : decode cX11_init 54 = .ok (.putfield 40, 3) := by decide +kernel
theorem dX11_init_57 : decode cX11_init 57 = .ok (.aload_n 0, 1) := by decide +kernel
theorem dX11_init_58 : decode cX11_init 58 = .ok (.new 44, 3) := by decide +kernel
theorem dX11_init_61 : decode cX11_init 61 = .ok (.dup, 1) := by decide +kernel
theorem dX11_init_62 : decode cX11_init 62 = .ok (.invokespecial 46, 3) := by decide +kernel
theorem dX11_init_65 : decode cX11_init 65 = .ok (.putfield 47, 3) := by decide +kernel
theorem dX11_init_68 : decode cX11_init 68 = .ok (.aload_n 0, 1) := by decide +kernel
theorem dX11_init_69 : decode cX11_init 69 = .ok (.new 51, 3) := by decide +kernel
theorem dX11_init_72 : decode cX11_init 72 = .ok (.dup, 1) := by decide +kernel
theorem dX11_init_73 : decode cX11_init 73 = .ok (.invokespecial 53, 3) := by decide +kernel
theorem dX11_init_76 : decode cX11_init 76 = .ok (.putfield 54, 3) := by decide +kernel
theorem dX11_init_79 : decode cX11_init 79 = .ok (.aload_n 0, 1) := by decide +kernel
theorem dX11_init_80 : decode cX11_init 80 = .ok (.new 58, 3) := by decide +kernel
theorem dX11_init_83 : decode cX11_init 83 = .ok (.dup, 1) := by decide +kernel
theorem dX11_init_84 : decode cX11_init 84 = .ok (.invokespecial 60, 3) := by decide +kernel
theorem dX11_init_87 : decode cX11_init 87 = .ok (.putfield 61, 3) := by decide +kernel
theorem dX11_init_90 : decode cX11_init 90 = .ok (.aload_n 0, 1) := by decide +kernel
theorem dX11_init_91 : decode cX11_init 91 = .ok (.new 65, 3) := by decide +kernel
theorem dX11_init_94 : decode cX11_init 94 = .ok (.dup, 1) := by decide +kernel
theorem dX11_init_95 : decode cX11_init 95 = .ok (.invokespecial 67, 3) := by decide +kernel
theorem dX11_init_98 : decode cX11_init 98 = .ok (.putfield 68, 3) := by decide +kernel
theorem dX11_init_101 : decode cX11_init 101 = .ok (.aload_n 0, 1) := by decide +kernel
theorem dX11_init_102 : decode cX11_init 102 = .ok (.new 72, 3) := by decide +kernel
theorem dX11_init_105 : decode cX11_init 105 = .ok (.dup, 1) := by decide +kernel
theorem dX11_init_106 : decode cX11_init 106 = .ok (.invokespecial 74, 3) := by decide +kernel
theorem dX11_init_109 : decode cX11_init 109 = .ok (.putfield 75, 3) := by decide +kernel
theorem dX11_init_112 : decode cX11_init 112 = .ok (.aload_n 0, 1) := by decide +kernel
theorem dX11_init_113 : decode cX11_init 113 = .ok (.new 72, 3) := by decide +kernel
theorem dX11_init_116 : decode cX11_init 116 = .ok (.dup, 1) := by decide +kernel
theorem dX11_init_117 : decode cX11_init 117 = .ok (.invokespecial 74, 3) := by decide +kernel
theorem dX11_init_120 : decode cX11_init 120 = .ok (.putfield 79, 3) := by decide +kernel
theorem dX11_init_123 : decode cX11_init 123 = .ok (.aload_n 0, 1) := by decide +kernel
theorem dX11_init_124 : decode cX11_init 124 = .ok (.new 82, 3) := by decide +kernel
theorem dX11_init_127 : decode cX11_init 127 = .ok (.dup, 1) := by decide +kernel
theorem dX11_init_128 : decode cX11_init 128 = .ok (.invokespecial 84, 3) := by decide +kernel
theorem dX11_init_131 : decode cX11_init 131 = .ok (.putfield 85, 3) := by decide +kernel
theorem dX11_init_134 : decode cX11_init 134 = .ok (.aload_n 0, 1) := by decide +kernel
theorem dX11_init_135 : decode cX11_init 135 = .ok (.new 82, 3) := by decide +kernel
theorem dX11_init_138 : decode cX11_init 138 = .ok (.dup, 1) := by decide +kernel
theorem dX11_init_139 : decode cX11_init 139 = .ok (.invokespecial 84, 3) := by decide +kernel
theorem dX11_init_142 : decode cX11_init 142 = .ok (.putfield 89, 3) := by decide +kernel
theorem dX11_init_145 : decode cX11_init 145 = .ok (.aload_n 0, 1) := by decide +kernel
theorem dX11_init_146 : decode cX11_init 146 = .ok (.new 92, 3) := by decide +kernel
theorem dX11_init_149 : decode cX11_init 149 = .ok (.dup, 1) := by decide +kernel
theorem dX11_init_150 : decode cX11_init 150 = .ok (.invokespecial 94, 3) := by decide +kernel
theorem dX11_init_153 : decode cX11_init 153 = .ok (.putfield 95, 3) := by decide +kernel
theorem dX11_init_156 : decode cX11_init 156 = .ok (.aload_n 0, 1) := by decide +kernel
theorem dX11_init_157 : decode cX11_init 157 = .ok (.new 92, 3) := by decide +kernel
theorem dX11_init_160 : decode cX11_init 160 = .ok (.dup, 1) := by decide +kernel
theorem dX11_init_161 : decode cX11_init 161 = .ok (.invokespecial 94, 3) := by decide +kernel
theorem dX11_init_164 : decode cX11_init 164 = .ok (.putfield 99, 3) := by decide +kernel
theorem dX11_init_167 : decode cX11_init 167 = .ok (.return_, 1) := by decide +kernel
theorem dX11_status_0 : decode cX11_status 0 = .ok (.aload_n 0, 1) := by decide +kernel
theorem dX11_status_1 : decode cX11_status 1 = .ok (.getfield 9, 3) := by decide +kernel
theorem dX11_status_4 : decode cX11_status 4 = .ok (.ireturn, 1) := by decide +kernel
theorem dX11_feed_0 : decode cX11_feed 0 = .ok (.aload_n 0, 1) := by decide +kernel
theorem dX11_feed_1 : decode cX11_feed 1 = .ok (.getfield 26, 3) := by decide +kernel
theorem dX11_feed_4 : decode cX11_feed 4 = .ok (.getfield 102, 3) := by decide +kernel
theorem dX11_feed_7 : decode cX11_feed 7 = .ok (.bipush 20, 2) := by decide +kernel
theorem dX11_feed_9 : decode cX11_feed 9 = .ok (.iadd, 1) := by decide +kernel
theorem dX11_feed_10 : decode cX11_feed 10 = .ok (.sipush 1000, 3) := by decide +kernel
theorem dX11_feed_13 : decode cX11_feed 13 = .ok (.if_icmp .le 5, 3) := by decide +kernel
theorem dX11_feed_16 : decode cX11_feed 16 = .ok (.iconst (-1), 1) := by decide +kernel
theorem dX11_feed_17 : decode cX11_feed 17 = .ok (.ireturn, 1) := by decide +kernel
theorem dX11_feed_18 : decode cX11_feed 18 = .ok (.aload_n 0, 1) := by decide +kernel
theorem dX11_feed_19 : decode cX11_feed 19 = .ok (.getfield 26, 3) := by decide +kernel
theorem dX11_feed_22 : decode cX11_feed 22 = .ok (.iload_n 1, 1) := by decide +kernel
theorem dX11_feed_23 : decode cX11_feed 23 = .ok (.invokevirtual 105, 3) := by decide +kernel
theorem dX11_feed_26 : decode cX11_feed 26 = .ok (.aload_n 0, 1) := by decide +kernel
theorem dX11_feed_27 : decode cX11_feed 27 = .ok (.getfield 26, 3) := by decide +kernel
theorem dX11_feed_30 : decode cX11_feed 30 = .ok (.iload_n 2, 1) := by decide +kernel
theorem dX11_feed_31 : decode cX11_feed 31 = .ok (.invokevirtual 105, 3) := by decide +kernel
theorem dX11_feed_34 : decode cX11_feed 34 = .ok (.aload_n 0, 1) := by decide +kernel
theorem dX11_feed_35 : decode cX11_feed 35 = .ok (.getfield 26, 3) := by decide +kernel
theorem dX11_feed_38 : decode cX11_feed 38 = .ok (.iload_n 3, 1) := by decide +kernel
theorem dX11_feed_39 : decode cX11_feed 39 = .ok (.invokevirtual 105, 3) := by decide +kernel
theorem dX11_feed_42 : decode cX11_feed 42 = .ok (.aload_n 0, 1) := by decide +kernel
theorem dX11_feed_43 : decode cX11_feed 43 = .ok (.getfield 26, 3) := by decide +kernel
theorem dX11_feed_46 : decode cX11_feed 46 = .ok (.iload 4, 2) := by decide +kernel
theorem dX11_feed_48 : decode cX11_feed 48 = .ok (.invokevirtual 105, 3) := by decide +kernel
theorem dX11_feed_51 : decode cX11_feed 51 = .ok (.aload_n 0, 1) := by decide +kernel
theorem dX11_feed_52 : decode cX11_feed 52 = .ok (.getfield 26, 3) := by decide +kernel
theorem dX11_feed_55 : decode cX11_feed 55 = .ok (.iload 5, 2) := by decide +kernel
theorem dX11_feed_57 : decode cX11_feed 57 = .ok (.invokevirtual 105, 3) := by decide +kernel
theorem dX11_feed_60 : decode cX11_feed 60 = .ok (.aload_n 0, 1) := by decide +kernel
theorem dX11_feed_61 : decode cX11_feed 61 = .ok (.getfield 26, 3) := by decide +kernel
theorem dX11_feed_64 : decode cX11_feed 64 = .ok (.getfield 102, 3) := by decide +kernel
theorem dX11_feed_67 : decode cX11_feed 67 = .ok (.ireturn, 1) := by decide +kernel
theorem dX11_grammar_0 : decode cX11_grammar 0 = .ok (.aload_n 0, 1) := by decide +kernel
theorem dX11_grammar_1 : decode cX11_grammar 1 = .ok (.getfield 26, 3) := by decide +kernel
theorem dX11_grammar_4 : decode cX11_grammar 4 = .ok (.iload_n 1, 1) := by decide +kernel
theorem dX11_grammar_5 : decode cX11_grammar 5 = .ok (.invokevirtual 109, 3) := by decide +kernel
theorem dX11_grammar_8 : decode cX11_grammar 8 = .ok (.ifCond .ne 9, 3) := by decide +kernel
theorem dX11_grammar_11 : decode cX11_grammar 11 = .ok (.aload_n 0, 1) := by decide +kernel
theorem dX11_grammar_12 : decode cX11_grammar 12 = .ok (.iconst 1, 1) := by decide +kernel
theorem dX11_grammar_13 : decode cX11_grammar 13 = .ok (.invokevirtual 113, 3) := by decide +kernel
theorem dX11_grammar_16 : decode cX11_grammar 16 = .ok (.ireturn, 1) := by decide +kernel
theorem dX11_grammar_17 : decode cX11_grammar 17 = .ok (.aload_n 0, 1) := by decide +kernel
theorem dX11_grammar_18 : decode cX11_grammar 18 = .ok (.getfield 26, 3) := by decide +kernel
theorem dX11_grammar_21 : decode cX11_grammar 21 = .ok (.iload_n 1, 1) := by decide +kernel
theorem dX11_grammar_22 : decode cX11_grammar 22 = .ok (.invokevirtual 117, 3) := by decide +kernel
theorem dX11_grammar_25 : decode cX11_grammar 25 = .ok (.aload_n 0, 1) := by decide +kernel
theorem dX11_grammar_26 : decode cX11_grammar 26 = .ok (.getfield 33, 3) := by decide +kernel
theorem dX11_grammar_29 : decode cX11_grammar 29 = .ok (.aload_n 0, 1) := by decide +kernel
theorem dX11_grammar_30 : decode cX11_grammar 30 = .ok (.getfield 26, 3) := by decide +kernel
theorem dX11_grammar_33 : decode cX11_grammar 33 = .ok (.aload_n 0, 1) := by decide +kernel
theorem dX11_grammar_34 : decode cX11_grammar 34 = .ok (.getfield 79, 3) := by decide +kernel
theorem dX11_grammar_37 : decode cX11_grammar 37 = .ok (.invokevirtual 120, 3) := by decide +kernel
theorem dX11_grammar_40 : decode cX11_grammar 40 = .ok (.istore_n 2, 1) := by decide +kernel
theorem dX11_grammar_41 : decode cX11_grammar 41 = .ok (.aload_n 0, 1) := by decide +kernel
theorem dX11_grammar_42 : decode cX11_grammar 42 = .ok (.iload_n 2, 1) := by decide +kernel
theorem dX11_grammar_43 : decode cX11_grammar 43 = .ok (.invokevirtual 124, 3) := by decide +kernel
theorem dX11_grammar_46 : decode cX11_grammar 46 = .ok (.iload_n 2, 1) := by decide +kernel
theorem dX11_grammar_47 : decode cX11_grammar 47 = .ok (.ifCond .ne 10, 3) := by decide +kernel
theorem dX11_grammar_50 : decode cX11_grammar 50 = .ok (.aload_n 0, 1) := by decide +kernel
theorem dX11_grammar_51 : decode cX11_grammar 51 = .ok (.bipush 9, 2) := by decide +kernel
theorem dX11_grammar_53 : decode cX11_grammar 53 = .ok (.invokevirtual 113, 3) := by decide +kernel
theorem dX11_grammar_56 : decode cX11_grammar 56 = .ok (.ireturn, 1) := by decide +kernel
theorem dX11_grammar_57 : decode cX11_grammar 57 = .ok (.aload_n 0, 1) := by decide +kernel
theorem dX11_grammar_58 : decode cX11_grammar 58 = .ok (.invokevirtual 128, 3) := by decide +kernel
theorem dX11_grammar_61 : decode cX11_grammar 61 = .ok (.aload_n 0, 1) := by decide +kernel
theorem dX11_grammar_62 : decode cX11_grammar 62 = .ok (.getfield 85, 3) := by decide +kernel
theorem dX11_grammar_65 : decode cX11_grammar 65 = .ok (.invokevirtual 131, 3) := by decide +kernel
theorem dX11_grammar_68 : decode cX11_grammar 68 = .ok (.aload_n 0, 1) := by decide +kernel
theorem dX11_grammar_69 : decode cX11_grammar 69 = .ok (.getfield 47, 3) := by decide +kernel
theorem dX11_grammar_72 : decode cX11_grammar 72 = .ok (.aload_n 0, 1) := by decide +kernel
theorem dX11_grammar_73 : decode cX11_grammar 73 = .ok (.getfield 75, 3) := by decide +kernel
theorem dX11_grammar_76 : decode cX11_grammar 76 = .ok (.invokevirtual 134, 3) := by decide +kernel
theorem dX11_grammar_79 : decode cX11_grammar 79 = .ok (.aload_n 0, 1) := by decide +kernel
theorem dX11_grammar_80 : decode cX11_grammar 80 = .ok (.getfield 54, 3) := by decide +kernel
theorem dX11_grammar_83 : decode cX11_grammar 83 = .ok (.aload_n 0, 1) := by decide +kernel
theorem dX11_grammar_84 : decode cX11_grammar 84 = .ok (.getfield 75, 3) := by decide +kernel
theorem dX11_grammar_87 : decode cX11_grammar 87 = .ok (.aload_n 0, 1) := by decide +kernel
theorem dX11_grammar_88 : decode cX11_grammar 88 = .ok (.getfield 47, 3) := by decide +kernel
theorem dX11_grammar_91 : decode cX11_grammar 91 = .ok (.invokevirtual 138, 3) := by decide +kernel
theorem dX11_grammar_94 : decode cX11_grammar 94 = .ok (.aload_n 0, 1) := by decide +kernel
theorem dX11_grammar_95 : decode cX11_grammar 95 = .ok (.getfield 61, 3) := by decide +kernel
theorem dX11_grammar_98 : decode cX11_grammar 98 = .ok (.invokevirtual 141, 3) := by decide +kernel
theorem dX11_grammar_101 : decode cX11_grammar 101 = .ok (.aload_n 0, 1) := by decide +kernel
theorem dX11_grammar_102 : decode cX11_grammar 102 = .ok (.aload_n 0, 1) := by decide +kernel
theorem dX11_grammar_103 : decode cX11_grammar 103 = .ok (.getfield 75, 3) := by decide +kernel
theorem dX11_grammar_106 : decode cX11_grammar 106 = .ok (.getfield 144, 3) := by decide +kernel
theorem dX11_grammar_109 : decode cX11_grammar 109 = .ok (.invokevirtual 147, 3) := by decide +kernel
theorem dX11_grammar_112 : decode cX11_grammar 112 = .ok (.ireturn, 1) := by decide +kernel
theorem dX11_fault_0 : decode cX11_fault 0 = .ok (.iload_n 1, 1) := by decide +kernel
theorem dX11_fault_1 : decode cX11_fault 1 = .ok (.ifCond .ne 10, 3) := by decide +kernel
theorem dX11_fault_4 : decode cX11_fault 4 = .ok (.aload_n 0, 1) := by decide +kernel
theorem dX11_fault_5 : decode cX11_fault 5 = .ok (.getfield 13, 3) := by decide +kernel
theorem dX11_fault_8 : decode cX11_fault 8 = .ok (.goto 16, 3) := by decide +kernel
theorem dX11_fault_11 : decode cX11_fault 11 = .ok (.iload_n 1, 1) := by decide +kernel
theorem dX11_fault_12 : decode cX11_fault 12 = .ok (.iconst 1, 1) := by decide +kernel
theorem dX11_fault_13 : decode cX11_fault 13 = .ok (.if_icmp .ne 10, 3) := by decide +kernel
theorem dX11_fault_16 : decode cX11_fault 16 = .ok (.aload_n 0, 1) := by decide +kernel
theorem dX11_fault_17 : decode cX11_fault 17 = .ok (.getfield 16, 3) := by decide +kernel
theorem dX11_fault_20 : decode cX11_fault 20 = .ok (.goto 4, 3) := by decide +kernel
theorem dX11_fault_23 : decode cX11_fault 23 = .ok (.iconst (-1), 1) := by decide +kernel
theorem dX11_fault_24 : decode cX11_fault 24 = .ok (.ireturn, 1) := by decide +kernel
theorem dX11_many_0 : decode cX11_many 0 = .ok (.iload_n 1, 1) := by decide +kernel
theorem dX11_many_1 : decode cX11_many 1 = .ok (.ifCond .lt 8, 3) := by decide +kernel
theorem dX11_many_4 : decode cX11_many 4 = .ok (.iload_n 1, 1) := by decide +kernel
theorem dX11_many_5 : decode cX11_many 5 = .ok (.iconst 4, 1) := by decide +kernel
theorem dX11_many_6 : decode cX11_many 6 = .ok (.if_icmp .le 9, 3) := by decide +kernel
theorem dX11_many_9 : decode cX11_many 9 = .ok (.aload_n 0, 1) := by decide +kernel
theorem dX11_many_10 : decode cX11_many 10 = .ok (.iconst 1, 1) := by decide +kernel
theorem dX11_many_11 : decode cX11_many 11 = .ok (.invokevirtual 113, 3) := by decide +kernel
theorem dX11_many_14 : decode cX11_many 14 = .ok (.ireturn, 1) := by decide +kernel
theorem dX11_many_15 : decode cX11_many 15 = .ok (.iload_n 1, 1) := by decide +kernel
theorem dX11_many_16 : decode cX11_many 16 = .ok (.iconst 4, 1) := by decide +kernel
theorem dX11_many_17 : decode cX11_many 17 = .ok (.if_icmp .ne 19, 3) := by decide +kernel
theorem dX11_many_20 : decode cX11_many 20 = .ok (.aload_n 0, 1) := by decide +kernel
theorem dX11_many_21 : decode cX11_many 21 = .ok (.getfield 85, 3) := by decide +kernel
theorem dX11_many_24 : decode cX11_many 24 = .ok (.getfield 150, 3) := by decide +kernel
theorem dX11_many_27 : decode cX11_many 27 = .ok (.ifCond .ne 9, 3) := by decide +kernel
theorem dX11_many_30 : decode cX11_many 30 = .ok (.aload_n 0, 1) := by decide +kernel
theorem dX11_many_31 : decode cX11_many 31 = .ok (.iconst 3, 1) := by decide +kernel
theorem dX11_many_32 : decode cX11_many 32 = .ok (.invokevirtual 113, 3) := by decide +kernel
theorem dX11_many_35 : decode cX11_many 35 = .ok (.ireturn, 1) := by decide +kernel
theorem dX11_many_36 : decode cX11_many 36 = .ok (.iload_n 1, 1) := by decide +kernel
theorem dX11_many_37 : decode cX11_many 37 = .ok (.tableswitch 79 0 3 #[31, 43, 55, 67], 31) := by decide +kernel
theorem dX11_many_68 : decode cX11_many 68 = .ok (.aload_n 0, 1) := by decide +kernel
theorem dX11_many_69 : decode cX11_many 69 = .ok (.aload_n 0, 1) := by decide +kernel
theorem dX11_many_70 : decode cX11_many 70 = .ok (.getfield 75, 3) := by decide +kernel
theorem dX11_many_73 : decode cX11_many 73 = .ok (.getfield 153, 3) := by decide +kernel
theorem dX11_many_76 : decode cX11_many 76 = .ok (.invokevirtual 147, 3) := by decide +kernel
theorem dX11_many_79 : decode cX11_many 79 = .ok (.ireturn, 1) := by decide +kernel
theorem dX11_many_80 : decode cX11_many 80 = .ok (.aload_n 0, 1) := by decide +kernel
theorem dX11_many_81 : decode cX11_many 81 = .ok (.aload_n 0, 1) := by decide +kernel
theorem dX11_many_82 : decode cX11_many 82 = .ok (.getfield 75, 3) := by decide +kernel
theorem dX11_many_85 : decode cX11_many 85 = .ok (.getfield 144, 3) := by decide +kernel
theorem dX11_many_88 : decode cX11_many 88 = .ok (.invokevirtual 147, 3) := by decide +kernel
theorem dX11_many_91 : decode cX11_many 91 = .ok (.ireturn, 1) := by decide +kernel
theorem dX11_many_92 : decode cX11_many 92 = .ok (.aload_n 0, 1) := by decide +kernel
theorem dX11_many_93 : decode cX11_many 93 = .ok (.aload_n 0, 1) := by decide +kernel
theorem dX11_many_94 : decode cX11_many 94 = .ok (.getfield 75, 3) := by decide +kernel
theorem dX11_many_97 : decode cX11_many 97 = .ok (.invokevirtual 156, 3) := by decide +kernel
theorem dX11_many_100 : decode cX11_many 100 = .ok (.invokevirtual 147, 3) := by decide +kernel
theorem dX11_many_103 : decode cX11_many 103 = .ok (.ireturn, 1) := by decide +kernel
theorem dX11_many_104 : decode cX11_many 104 = .ok (.aload_n 0, 1) := by decide +kernel
theorem dX11_many_105 : decode cX11_many 105 = .ok (.aload_n 0, 1) := by decide +kernel
theorem dX11_many_106 : decode cX11_many 106 = .ok (.getfield 85, 3) := by decide +kernel
theorem dX11_many_109 : decode cX11_many 109 = .ok (.getfield 150, 3) := by decide +kernel
theorem dX11_many_112 : decode cX11_many 112 = .ok (.invokevirtual 147, 3) := by decide +kernel
theorem dX11_many_115 : decode cX11_many 115 = .ok (.ireturn, 1) := by decide +kernel
theorem dX11_many_116 : decode cX11_many 116 = .ok (.aload_n 0, 1) := by decide +kernel
theorem dX11_many_117 : decode cX11_many 117 = .ok (.aload_n 0, 1) := by decide +kernel
theorem dX11_many_118 : decode cX11_many 118 = .ok (.getfield 95, 3) := by decide +kernel
theorem dX11_many_121 : decode cX11_many 121 = .ok (.getfield 160, 3) := by decide +kernel
theorem dX11_many_124 : decode cX11_many 124 = .ok (.getfield 164, 3) := by decide +kernel
theorem dX11_many_127 : decode cX11_many 127 = .ok (.invokevirtual 147, 3) := by decide +kernel
theorem dX11_many_130 : decode cX11_many 130 = .ok (.ireturn, 1) := by decide +kernel
theorem dX11_symbol_0 : decode cX11_symbol 0 = .ok (.iload_n 2, 1) := by decide +kernel
theorem dX11_symbol_1 : decode cX11_symbol 1 = .ok (.ifCond .lt 8, 3) := by decide +kernel
theorem dX11_symbol_4 : decode cX11_symbol 4 = .ok (.iload_n 2, 1) := by decide +kernel
theorem dX11_symbol_5 : decode cX11_symbol 5 = .ok (.iconst 3, 1) := by decide +kernel
theorem dX11_symbol_6 : decode cX11_symbol 6 = .ok (.if_icmp .le 9, 3) := by decide +kernel
theorem dX11_symbol_9 : decode cX11_symbol 9 = .ok (.aload_n 0, 1) := by decide +kernel
theorem dX11_symbol_10 : decode cX11_symbol 10 = .ok (.iconst 1, 1) := by decide +kernel
theorem dX11_symbol_11 : decode cX11_symbol 11 = .ok (.invokevirtual 113, 3) := by decide +kernel
theorem dX11_symbol_14 : decode cX11_symbol 14 = .ok (.ireturn, 1) := by decide +kernel
theorem dX11_symbol_15 : decode cX11_symbol 15 = .ok (.aload_n 0, 1) := by decide +kernel
theorem dX11_symbol_16 : decode cX11_symbol 16 = .ok (.getfield 75, 3) := by decide +kernel
theorem dX11_symbol_19 : decode cX11_symbol 19 = .ok (.iload_n 1, 1) := by decide +kernel
theorem dX11_symbol_20 : decode cX11_symbol 20 = .ok (.invokevirtual 169, 3) := by decide +kernel
theorem dX11_symbol_23 : decode cX11_symbol 23 = .ok (.ifCond .ne 9, 3) := by decide +kernel
theorem dX11_symbol_26 : decode cX11_symbol 26 = .ok (.aload_n 0, 1) := by decide +kernel
theorem dX11_symbol_27 : decode cX11_symbol 27 = .ok (.iconst 4, 1) := by decide +kernel
theorem dX11_symbol_28 : decode cX11_symbol 28 = .ok (.invokevirtual 113, 3) := by decide +kernel
theorem dX11_symbol_31 : decode cX11_symbol 31 = .ok (.ireturn, 1) := by decide +kernel
theorem dX11_symbol_32 : decode cX11_symbol 32 = .ok (.iload_n 2, 1) := by decide +kernel
theorem dX11_symbol_33 : decode cX11_symbol 33 = .ok (.tableswitch 68 0 2 #[27, 41, 55], 27) := by decide +kernel
theorem dX11_symbol_60 : decode cX11_symbol 60 = .ok (.aload_n 0, 1) := by decide +kernel
theorem dX11_symbol_61 : decode cX11_symbol 61 = .ok (.aload_n 0, 1) := by decide +kernel
theorem dX11_symbol_62 : decode cX11_symbol 62 = .ok (.getfield 75, 3) := by decide +kernel
theorem dX11_symbol_65 : decode cX11_symbol 65 = .ok (.getfield 172, 3) := by decide +kernel
theorem dX11_symbol_68 : decode cX11_symbol 68 = .ok (.iload_n 1, 1) := by decide +kernel
theorem dX11_symbol_69 : decode cX11_symbol 69 = .ok (.iaload, 1) := by decide +kernel
theorem dX11_symbol_70 : decode cX11_symbol 70 = .ok (.invokevirtual 147, 3) := by decide +kernel
theorem dX11_symbol_73 : decode cX11_symbol 73 = .ok (.ireturn, 1) := by decide +kernel
theorem dX11_symbol_74 : decode cX11_symbol 74 = .ok (.aload_n 0, 1) := by decide +kernel
theorem dX11_symbol_75 : decode cX11_symbol 75 = .ok (.aload_n 0, 1) := by decide +kernel
theorem dX11_symbol_76 : decode cX11_symbol 76 = .ok (.getfield 75, 3) := by decide +kernel
theorem dX11_symbol_79 : decode cX11_symbol 79 = .ok (.getfield 176, 3) := by decide +kernel
theorem dX11_symbol_82 : decode cX11_symbol 82 = .ok (.iload_n 1, 1) := by decide +kernel
theorem dX11_symbol_83 : decode cX11_symbol 83 = .ok (.iaload, 1) := by decide +kernel
theorem dX11_symbol_84 : decode cX11_symbol 84 = .ok (.invokevirtual 147, 3) := by decide +kernel
theorem dX11_symbol_87 : decode cX11_symbol 87 = .ok (.ireturn, 1) := by decide +kernel
theorem dX11_symbol_88 : decode cX11_symbol 88 = .ok (.aload_n 0, 1) := by decide +kernel
theorem dX11_symbol_89 : decode cX11_symbol 89 = .ok (.aload_n 0, 1) := by decide +kernel
theorem dX11_symbol_90 : decode cX11_symbol 90 = .ok (.getfield 75, 3) := by decide +kernel
theorem dX11_symbol_93 : decode cX11_symbol 93 = .ok (.iload_n 1, 1) := by decide +kernel
theorem dX11_symbol_94 : decode cX11_symbol 94 = .ok (.invokevirtual 179, 3) := by decide +kernel
theorem dX11_symbol_97 : decode cX11_symbol 97 = .ok (.invokevirtual 147, 3) := by decide +kernel
theorem dX11_symbol_100 : decode cX11_symbol 100 = .ok (.ireturn, 1) := by decide +kernel
theorem dX11_symbol_101 : decode cX11_symbol 101 = .ok (.aload_n 0, 1) := by decide +kernel
theorem dX11_symbol_102 : decode cX11_symbol 102 = .ok (.getfield 54, 3) := by decide +kernel
theorem dX11_symbol_105 : decode cX11_symbol 105 = .ok (.getfield 182, 3) := by decide +kernel
theorem dX11_symbol_108 : decode cX11_symbol 108 = .ok (.iload_n 1, 1) := by decide +kernel
theorem dX11_symbol_109 : decode cX11_symbol 109 = .ok (.iaload, 1) := by decide +kernel
theorem dX11_symbol_110 : decode cX11_symbol 110 = .ok (.ifCond .ne 12, 3) := by decide +kernel
theorem dX11_symbol_113 : decode cX11_symbol 113 = .ok (.aload_n 0, 1) := by decide +kernel
theorem dX11_symbol_114 : decode cX11_symbol 114 = .ok (.bipush 7, 2) := by decide +kernel
theorem dX11_symbol_116 : decode cX11_symbol 116 = .ok (.invokevirtual 113, 3) := by decide +kernel
theorem dX11_symbol_119 : decode cX11_symbol 119 = .ok (.goto 16, 3) := by decide +kernel
theorem dX11_symbol_122 : decode cX11_symbol 122 = .ok (.aload_n 0, 1) := by decide +kernel
theorem dX11_symbol_123 : decode cX11_symbol 123 = .ok (.aload_n 0, 1) := by decide +kernel
theorem dX11_symbol_124 : decode cX11_symbol 124 = .ok (.getfield 54, 3) := by decide +kernel
theorem dX11_symbol_127 : decode cX11_symbol 127 = .ok (.getfield 182, 3) := by decide +kernel
theorem dX11_symbol_130 : decode cX11_symbol 130 = .ok (.iload_n 1, 1) := by decide +kernel
theorem dX11_symbol_131 : decode cX11_symbol 131 = .ok (.iaload, 1) := by decide +kernel
theorem dX11_symbol_132 : decode cX11_symbol 132 = .ok (.invokevirtual 147, 3) := by decide +kernel
theorem dX11_symbol_135 : decode cX11_symbol 135 = .ok (.ireturn, 1) := by decide +kernel
theorem dX11_production_0 : decode cX11_production 0 = .ok (.iload_n 2, 1) := by decide +kernel
theorem dX11_production_1 : decode cX11_production 1 = .ok (.ifCond .lt 8, 3) := by decide +kernel
theorem dX11_production_4 : decode cX11_production 4 = .ok (.iload_n 2, 1) := by decide +kernel
theorem dX11_production_5 : decode cX11_production 5 = .ok (.iconst 5, 1) := by decide +kernel
theorem dX11_production_6 : decode cX11_production 6 = .ok (.if_icmp .le 9, 3) := by decide +kernel
theorem dX11_production_9 : decode cX11_production 9 = .ok (.aload_n 0, 1) := by decide +kernel
theorem dX11_production_10 : decode cX11_production 10 = .ok (.iconst 1, 1) := by decide +kernel
theorem dX11_production_11 : decode cX11_production 11 = .ok (.invokevirtual 113, 3) := by decide +kernel
theorem dX11_production_14 : decode cX11_production 14 = .ok (.ireturn, 1) := by decide +kernel
theorem dX11_production_15 : decode cX11_production 15 = .ok (.aload_n 0, 1) := by decide +kernel
theorem dX11_production_16 : decode cX11_production 16 = .ok (.getfield 75, 3) := by decide +kernel
theorem dX11_production_19 : decode cX11_production 19 = .ok (.iload_n 1, 1) := by decide +kernel
theorem dX11_production_20 : decode cX11_production 20 = .ok (.invokevirtual 184, 3) := by decide +kernel
theorem dX11_production_23 : decode cX11_production 23 = .ok (.ifCond .ne 9, 3) := by decide +kernel
theorem dX11_production_26 : decode cX11_production 26 = .ok (.aload_n 0, 1) := by decide +kernel
theorem dX11_production_27 : decode cX11_production 27 = .ok (.iconst 4, 1) := by decide +kernel
theorem dX11_production_28 : decode cX11_production 28 = .ok (.invokevirtual 113, 3) := by decide +kernel
theorem dX11_production_31 : decode cX11_production 31 = .ok (.ireturn, 1) := by decide +kernel
theorem dX11_production_32 : decode cX11_production 32 = .ok (.iload_n 2, 1) := by decide +kernel
theorem dX11_production_33 : decode cX11_production 33 = .ok (.ifCond .ne 17, 3) := by decide +kernel
theorem dX11_production_36 : decode cX11_production 36 = .ok (.aload_n 0, 1) := by decide +kernel
theorem dX11_production_37 : decode cX11_production 37 = .ok (.aload_n 0, 1) := by decide +kernel
theorem dX11_production_38 : decode cX11_production 38 = .ok (.getfield 75, 3) := by decide +kernel
theorem dX11_production_41 : decode cX11_production 41 = .ok (.iload_n 1, 1) := by decide +kernel
theorem dX11_production_42 : decode cX11_production 42 = .ok (.iconst 0, 1) := by decide +kernel
theorem dX11_production_43 : decode cX11_production 43 = .ok (.invokevirtual 187, 3) := by decide +kernel
theorem dX11_production_46 : decode cX11_production 46 = .ok (.invokevirtual 147, 3) := by decide +kernel
theorem dX11_production_49 : decode cX11_production 49 = .ok (.ireturn, 1) := by decide +kernel
theorem dX11_production_50 : decode cX11_production 50 = .ok (.iload_n 2, 1) := by decide +kernel
theorem dX11_production_51 : decode cX11_production 51 = .ok (.iconst 1, 1) := by decide +kernel
theorem dX11_production_52 : decode cX11_production 52 = .ok (.if_icmp .ne 16, 3) := by decide +kernel
theorem dX11_production_55 : decode cX11_production 55 = .ok (.aload_n 0, 1) := by decide +kernel
theorem dX11_production_56 : decode cX11_production 56 = .ok (.aload_n 0, 1) := by decide +kernel
theorem dX11_production_57 : decode cX11_production 57 = .ok (.getfield 75, 3) := by decide +kernel
theorem dX11_production_60 : decode cX11_production 60 = .ok (.iload_n 1, 1) := by decide +kernel
theorem dX11_production_61 : decode cX11_production 61 = .ok (.invokevirtual 191, 3) := by decide +kernel
theorem dX11_production_64 : decode cX11_production 64 = .ok (.invokevirtual 147, 3) := by decide +kernel
theorem dX11_production_67 : decode cX11_production 67 = .ok (.ireturn, 1) := by decide +kernel
theorem dX11_production_68 : decode cX11_production 68 = .ok (.iload_n 2, 1) := by decide +kernel
theorem dX11_production_69 : decode cX11_production 69 = .ok (.iconst 5, 1) := by decide +kernel
theorem dX11_production_70 : decode cX11_production 70 = .ok (.if_icmp .ne 20, 3) := by decide +kernel
theorem dX11_production_73 : decode cX11_production 73 = .ok (.aload_n 0, 1) := by decide +kernel
theorem dX11_production_74 : decode cX11_production 74 = .ok (.aload_n 0, 1) := by decide +kernel
theorem dX11_production_75 : decode cX11_production 75 = .ok (.getfield 75, 3) := by decide +kernel
theorem dX11_production_78 : decode cX11_production 78 = .ok (.getfield 194, 3) := by decide +kernel
theorem dX11_production_81 : decode cX11_production 81 = .ok (.iload_n 1, 1) := by decide +kernel
theorem dX11_production_82 : decode cX11_production 82 = .ok (.iaload, 1) := by decide +kernel
theorem dX11_production_83 : decode cX11_production 83 = .ok (.invokestatic 197, 3) := by decide +kernel
theorem dX11_production_86 : decode cX11_production 86 = .ok (.invokevirtual 147, 3) := by decide +kernel
theorem dX11_production_89 : decode cX11_production 89 = .ok (.ireturn, 1) := by decide +kernel
theorem dX11_production_90 : decode cX11_production 90 = .ok (.iload_n 2, 1) := by decide +kernel
theorem dX11_production_91 : decode cX11_production 91 = .ok (.iconst 1, 1) := by decide +kernel
theorem dX11_production_92 : decode cX11_production 92 = .ok (.isub, 1) := by decide +kernel
theorem dX11_production_93 : decode cX11_production 93 = .ok (.istore_n 3, 1) := by decide +kernel
theorem dX11_production_94 : decode cX11_production 94 = .ok (.iload_n 3, 1) := by decide +kernel
theorem dX11_production_95 : decode cX11_production 95 = .ok (.aload_n 0, 1) := by decide +kernel
theorem dX11_production_96 : decode cX11_production 96 = .ok (.getfield 75, 3) := by decide +kernel
theorem dX11_production_99 : decode cX11_production 99 = .ok (.iload_n 1, 1) := by decide +kernel
theorem dX11_production_100 : decode cX11_production 100 = .ok (.invokevirtual 191, 3) := by decide +kernel
theorem dX11_production_103 : decode cX11_production 103 = .ok (.if_icmp .le 12, 3) := by decide +kernel
theorem dX11_production_106 : decode cX11_production 106 = .ok (.aload_n 0, 1) := by decide +kernel
theorem dX11_production_107 : decode cX11_production 107 = .ok (.bipush 7, 2) := by decide +kernel
theorem dX11_production_109 : decode cX11_production 109 = .ok (.invokevirtual 113, 3) := by decide +kernel
theorem dX11_production_112 : decode cX11_production 112 = .ok (.goto 16, 3) := by decide +kernel
theorem dX11_production_115 : decode cX11_production 115 = .ok (.aload_n 0, 1) := by decide +kernel
theorem dX11_production_116 : decode cX11_production 116 = .ok (.aload_n 0, 1) := by decide +kernel
theorem dX11_production_117 : decode cX11_production 117 = .ok (.getfield 75, 3) := by decide +kernel
theorem dX11_production_120 : decode cX11_production 120 = .ok (.iload_n 1, 1) := by decide +kernel
theorem dX11_production_121 : decode cX11_production 121 = .ok (.iload_n 3, 1) := by decide +kernel
theorem dX11_production_122 : decode cX11_production 122 = .ok (.invokevirtual 187, 3) := by decide +kernel
theorem dX11_production_125 : decode cX11_production 125 = .ok (.invokevirtual 147, 3) := by decide +kernel
theorem dX11_production_128 : decode cX11_production 128 = .ok (.ireturn, 1) := by decide +kernel
theorem dX11_hangs_0 : decode cX11_hangs 0 = .ok (.iload 4, 2) := by decide +kernel
theorem dX11_hangs_2 : decode cX11_hangs 2 = .ok (.ifCond .lt 9, 3) := by decide +kernel
theorem dX11_hangs_5 : decode cX11_hangs 5 = .ok (.iload 4, 2) := by decide +kernel
theorem dX11_hangs_7 : decode cX11_hangs 7 = .ok (.iconst 2, 1) := by decide +kernel
theorem dX11_hangs_8 : decode cX11_hangs 8 = .ok (.if_icmp .le 9, 3) := by decide +kernel
theorem dX11_hangs_11 : decode cX11_hangs 11 = .ok (.aload_n 0, 1) := by decide +kernel
theorem dX11_hangs_12 : decode cX11_hangs 12 = .ok (.iconst 1, 1) := by decide +kernel
theorem dX11_hangs_13 : decode cX11_hangs 13 = .ok (.invokevirtual 113, 3) := by decide +kernel
theorem dX11_hangs_16 : decode cX11_hangs 16 = .ok (.ireturn, 1) := by decide +kernel
theorem dX11_hangs_17 : decode cX11_hangs 17 = .ok (.aload_n 0, 1) := by decide +kernel
theorem dX11_hangs_18 : decode cX11_hangs 18 = .ok (.getfield 75, 3) := by decide +kernel
theorem dX11_hangs_21 : decode cX11_hangs 21 = .ok (.iload_n 1, 1) := by decide +kernel
theorem dX11_hangs_22 : decode cX11_hangs 22 = .ok (.invokevirtual 184, 3) := by decide +kernel
theorem dX11_hangs_25 : decode cX11_hangs 25 = .ok (.ifCond .eq 27, 3) := by decide +kernel
theorem dX11_hangs_28 : decode cX11_hangs 28 = .ok (.aload_n 0, 1) := by decide +kernel
theorem dX11_hangs_29 : decode cX11_hangs 29 = .ok (.getfield 75, 3) := by decide +kernel
theorem dX11_hangs_32 : decode cX11_hangs 32 = .ok (.iload_n 1, 1) := by decide +kernel
theorem dX11_hangs_33 : decode cX11_hangs 33 = .ok (.iload_n 2, 1) := by decide +kernel
theorem dX11_hangs_34 : decode cX11_hangs 34 = .ok (.invokevirtual 202, 3) := by decide +kernel
theorem dX11_hangs_37 : decode cX11_hangs 37 = .ok (.ifCond .eq 15, 3) := by decide +kernel
theorem dX11_hangs_40 : decode cX11_hangs 40 = .ok (.aload_n 0, 1) := by decide +kernel
theorem dX11_hangs_41 : decode cX11_hangs 41 = .ok (.getfield 75, 3) := by decide +kernel
theorem dX11_hangs_44 : decode cX11_hangs 44 = .ok (.iload_n 1, 1) := by decide +kernel
theorem dX11_hangs_45 : decode cX11_hangs 45 = .ok (.iload_n 3, 1) := by decide +kernel
theorem dX11_hangs_46 : decode cX11_hangs 46 = .ok (.invokevirtual 202, 3) := by decide +kernel
theorem dX11_hangs_49 : decode cX11_hangs 49 = .ok (.ifCond .ne 9, 3) := by decide +kernel
theorem dX11_hangs_52 : decode cX11_hangs 52 = .ok (.aload_n 0, 1) := by decide +kernel
theorem dX11_hangs_53 : decode cX11_hangs 53 = .ok (.iconst 4, 1) := by decide +kernel
theorem dX11_hangs_54 : decode cX11_hangs 54 = .ok (.invokevirtual 113, 3) := by decide +kernel
theorem dX11_hangs_57 : decode cX11_hangs 57 = .ok (.ireturn, 1) := by decide +kernel
theorem dX11_hangs_58 : decode cX11_hangs 58 = .ok (.iload 4, 2) := by decide +kernel
theorem dX11_hangs_60 : decode cX11_hangs 60 = .ok (.iconst 2, 1) := by decide +kernel
theorem dX11_hangs_61 : decode cX11_hangs 61 = .ok (.if_icmp .ne 25, 3) := by decide +kernel
theorem dX11_hangs_64 : decode cX11_hangs 64 = .ok (.aload_n 0, 1) := by decide +kernel
theorem dX11_hangs_65 : decode cX11_hangs 65 = .ok (.getfield 54, 3) := by decide +kernel
theorem dX11_hangs_68 : decode cX11_hangs 68 = .ok (.aload_n 0, 1) := by decide +kernel
theorem dX11_hangs_69 : decode cX11_hangs 69 = .ok (.getfield 75, 3) := by decide +kernel
theorem dX11_hangs_72 : decode cX11_hangs 72 = .ok (.iload_n 1, 1) := by decide +kernel
theorem dX11_hangs_73 : decode cX11_hangs 73 = .ok (.invokevirtual 206, 3) := by decide +kernel
theorem dX11_hangs_76 : decode cX11_hangs 76 = .ok (.ifCond .ne 10, 3) := by decide +kernel
theorem dX11_hangs_79 : decode cX11_hangs 79 = .ok (.aload_n 0, 1) := by decide +kernel
theorem dX11_hangs_80 : decode cX11_hangs 80 = .ok (.bipush 7, 2) := by decide +kernel
theorem dX11_hangs_82 : decode cX11_hangs 82 = .ok (.invokevirtual 113, 3) := by decide +kernel
theorem dX11_hangs_85 : decode cX11_hangs 85 = .ok (.ireturn, 1) := by decide +kernel
theorem dX11_hangs_86 : decode cX11_hangs 86 = .ok (.bipush 32, 2) := by decide +kernel
theorem dX11_hangs_88 : decode cX11_hangs 88 = .ok (.iload_n 1, 1) := by decide +kernel
theorem dX11_hangs_89 : decode cX11_hangs 89 = .ok (.imul, 1) := by decide +kernel
theorem dX11_hangs_90 : decode cX11_hangs 90 = .ok (.iload_n 2, 1) := by decide +kernel
theorem dX11_hangs_91 : decode cX11_hangs 91 = .ok (.iadd, 1) := by decide +kernel
theorem dX11_hangs_92 : decode cX11_hangs 92 = .ok (.istore 5, 2) := by decide +kernel
theorem dX11_hangs_94 : decode cX11_hangs 94 = .ok (.iload 4, 2) := by decide +kernel
theorem dX11_hangs_96 : decode cX11_hangs 96 = .ok (.ifCond .ne 16, 3) := by decide +kernel
theorem dX11_hangs_99 : decode cX11_hangs 99 = .ok (.aload_n 0, 1) := by decide +kernel
theorem dX11_hangs_100 : decode cX11_hangs 100 = .ok (.getfield 75, 3) := by decide +kernel
theorem dX11_hangs_103 : decode cX11_hangs 103 = .ok (.getfield 210, 3) := by decide +kernel
theorem dX11_hangs_106 : decode cX11_hangs 106 = .ok (.iload 5, 2) := by decide +kernel
theorem dX11_hangs_108 : decode cX11_hangs 108 = .ok (.iaload, 1) := by decide +kernel
theorem dX11_hangs_109 : decode cX11_hangs 109 = .ok (.goto 32, 3) := by decide +kernel
theorem dX11_hangs_112 : decode cX11_hangs 112 = .ok (.iload 4, 2) := by decide +kernel
theorem dX11_hangs_114 : decode cX11_hangs 114 = .ok (.iconst 1, 1) := by decide +kernel
theorem dX11_hangs_115 : decode cX11_hangs 115 = .ok (.if_icmp .ne 16, 3) := by decide +kernel
theorem dX11_hangs_118 : decode cX11_hangs 118 = .ok (.aload_n 0, 1) := by decide +kernel
theorem dX11_hangs_119 : decode cX11_hangs 119 = .ok (.getfield 47, 3) := by decide +kernel
theorem dX11_hangs_122 : decode cX11_hangs 122 = .ok (.getfield 213, 3) := by decide +kernel
theorem dX11_hangs_125 : decode cX11_hangs 125 = .ok (.iload 5, 2) := by decide +kernel
theorem dX11_hangs_127 : decode cX11_hangs 127 = .ok (.iaload, 1) := by decide +kernel
theorem dX11_hangs_128 : decode cX11_hangs 128 = .ok (.goto 13, 3) := by decide +kernel
theorem dX11_hangs_131 : decode cX11_hangs 131 = .ok (.aload_n 0, 1) := by decide +kernel
theorem dX11_hangs_132 : decode cX11_hangs 132 = .ok (.getfield 54, 3) := by decide +kernel
theorem dX11_hangs_135 : decode cX11_hangs 135 = .ok (.getfield 216, 3) := by decide +kernel
theorem dX11_hangs_138 : decode cX11_hangs 138 = .ok (.iload 5, 2) := by decide +kernel
theorem dX11_hangs_140 : decode cX11_hangs 140 = .ok (.iaload, 1) := by decide +kernel
theorem dX11_hangs_141 : decode cX11_hangs 141 = .ok (.istore 6, 2) := by decide +kernel
theorem dX11_hangs_143 : decode cX11_hangs 143 = .ok (.aload_n 0, 1) := by decide +kernel
theorem dX11_hangs_144 : decode cX11_hangs 144 = .ok (.iload 6, 2) := by decide +kernel
theorem dX11_hangs_146 : decode cX11_hangs 146 = .ok (.iload_n 3, 1) := by decide +kernel
theorem dX11_hangs_147 : decode cX11_hangs 147 = .ok (.iushr, 1) := by decide +kernel
theorem dX11_hangs_148 : decode cX11_hangs 148 = .ok (.iconst 1, 1) := by decide +kernel
theorem dX11_hangs_149 : decode cX11_hangs 149 = .ok (.iand, 1) := by decide +kernel
theorem dX11_hangs_150 : decode cX11_hangs 150 = .ok (.invokevirtual 147, 3) := by decide +kernel
theorem dX11_hangs_153 : decode cX11_hangs 153 = .ok (.ireturn, 1) := by decide +kernel
theorem dX11_induced_0 : decode cX11_induced 0 = .ok (.aload_n 0, 1) := by decide +kernel
theorem dX11_induced_1 : decode cX11_induced 1 = .ok (.getfield 75, 3) := by decide +kernel
theorem dX11_induced_4 : decode cX11_induced 4 = .ok (.iload_n 1, 1) := by decide +kernel
theorem dX11_induced_5 : decode cX11_induced 5 = .ok (.iload_n 2, 1) := by decide +kernel
theorem dX11_induced_6 : decode cX11_induced 6 = .ok (.invokevirtual 219, 3) := by decide +kernel
theorem dX11_induced_9 : decode cX11_induced 9 = .ok (.ifCond .eq 15, 3) := by decide +kernel
theorem dX11_induced_12 : decode cX11_induced 12 = .ok (.aload_n 0, 1) := by decide +kernel
theorem dX11_induced_13 : decode cX11_induced 13 = .ok (.getfield 75, 3) := by decide +kernel
theorem dX11_induced_16 : decode cX11_induced 16 = .ok (.iload_n 1, 1) := by decide +kernel
theorem dX11_induced_17 : decode cX11_induced 17 = .ok (.iload_n 3, 1) := by decide +kernel
theorem dX11_induced_18 : decode cX11_induced 18 = .ok (.invokevirtual 219, 3) := by decide +kernel
theorem dX11_induced_21 : decode cX11_induced 21 = .ok (.ifCond .ne 9, 3) := by decide +kernel
theorem dX11_induced_24 : decode cX11_induced 24 = .ok (.aload_n 0, 1) := by decide +kernel
theorem dX11_induced_25 : decode cX11_induced 25 = .ok (.iconst 4, 1) := by decide +kernel
theorem dX11_induced_26 : decode cX11_induced 26 = .ok (.invokevirtual 113, 3) := by decide +kernel
theorem dX11_induced_29 : decode cX11_induced 29 = .ok (.ireturn, 1) := by decide +kernel
theorem dX11_induced_30 : decode cX11_induced 30 = .ok (.aload_n 0, 1) := by decide +kernel
theorem dX11_induced_31 : decode cX11_induced 31 = .ok (.aload_n 0, 1) := by decide +kernel
theorem dX11_induced_32 : decode cX11_induced 32 = .ok (.getfield 47, 3) := by decide +kernel
theorem dX11_induced_35 : decode cX11_induced 35 = .ok (.getfield 222, 3) := by decide +kernel
theorem dX11_induced_38 : decode cX11_induced 38 = .ok (.bipush 8, 2) := by decide +kernel
theorem dX11_induced_40 : decode cX11_induced 40 = .ok (.iload_n 1, 1) := by decide +kernel
theorem dX11_induced_41 : decode cX11_induced 41 = .ok (.imul, 1) := by decide +kernel
theorem dX11_induced_42 : decode cX11_induced 42 = .ok (.iload_n 2, 1) := by decide +kernel
theorem dX11_induced_43 : decode cX11_induced 43 = .ok (.iadd, 1) := by decide +kernel
theorem dX11_induced_44 : decode cX11_induced 44 = .ok (.iaload, 1) := by decide +kernel
theorem dX11_induced_45 : decode cX11_induced 45 = .ok (.iload_n 3, 1) := by decide +kernel
theorem dX11_induced_46 : decode cX11_induced 46 = .ok (.iushr, 1) := by decide +kernel
theorem dX11_induced_47 : decode cX11_induced 47 = .ok (.iconst 1, 1) := by decide +kernel
theorem dX11_induced_48 : decode cX11_induced 48 = .ok (.iand, 1) := by decide +kernel
theorem dX11_induced_49 : decode cX11_induced 49 = .ok (.invokevirtual 147, 3) := by decide +kernel
theorem dX11_induced_52 : decode cX11_induced 52 = .ok (.ireturn, 1) := by decide +kernel
theorem dX11_circle_0 : decode cX11_circle 0 = .ok (.iload_n 1, 1) := by decide +kernel
theorem dX11_circle_1 : decode cX11_circle 1 = .ok (.iconst (-1), 1) := by decide +kernel
theorem dX11_circle_2 : decode cX11_circle 2 = .ok (.if_icmp .ge 9, 3) := by decide +kernel
theorem dX11_circle_5 : decode cX11_circle 5 = .ok (.aload_n 0, 1) := by decide +kernel
theorem dX11_circle_6 : decode cX11_circle 6 = .ok (.iconst 1, 1) := by decide +kernel
theorem dX11_circle_7 : decode cX11_circle 7 = .ok (.invokevirtual 113, 3) := by decide +kernel
theorem dX11_circle_10 : decode cX11_circle 10 = .ok (.ireturn, 1) := by decide +kernel
theorem dX11_circle_11 : decode cX11_circle 11 = .ok (.aload_n 0, 1) := by decide +kernel
theorem dX11_circle_12 : decode cX11_circle 12 = .ok (.getfield 75, 3) := by decide +kernel
theorem dX11_circle_15 : decode cX11_circle 15 = .ok (.getfield 153, 3) := by decide +kernel
theorem dX11_circle_18 : decode cX11_circle 18 = .ok (.ifCond .ne 9, 3) := by decide +kernel
theorem dX11_circle_21 : decode cX11_circle 21 = .ok (.aload_n 0, 1) := by decide +kernel
theorem dX11_circle_22 : decode cX11_circle 22 = .ok (.iconst 2, 1) := by decide +kernel
theorem dX11_circle_23 : decode cX11_circle 23 = .ok (.invokevirtual 113, 3) := by decide +kernel
theorem dX11_circle_26 : decode cX11_circle 26 = .ok (.ireturn, 1) := by decide +kernel
theorem dX11_circle_27 : decode cX11_circle 27 = .ok (.aload_n 0, 1) := by decide +kernel
theorem dX11_circle_28 : decode cX11_circle 28 = .ok (.getfield 47, 3) := by decide +kernel
theorem dX11_circle_31 : decode cX11_circle 31 = .ok (.getfield 225, 3) := by decide +kernel
theorem dX11_circle_34 : decode cX11_circle 34 = .ok (.iconst (-1), 1) := by decide +kernel
theorem dX11_circle_35 : decode cX11_circle 35 = .ok (.if_icmp .eq 7, 3) := by decide +kernel
theorem dX11_circle_38 : decode cX11_circle 38 = .ok (.iload_n 1, 1) := by decide +kernel
theorem dX11_circle_39 : decode cX11_circle 39 = .ok (.ifCond .le 10, 3) := by decide +kernel
theorem dX11_circle_42 : decode cX11_circle 42 = .ok (.aload_n 0, 1) := by decide +kernel
theorem dX11_circle_43 : decode cX11_circle 43 = .ok (.bipush 7, 2) := by decide +kernel
theorem dX11_circle_45 : decode cX11_circle 45 = .ok (.invokevirtual 113, 3) := by decide +kernel
theorem dX11_circle_48 : decode cX11_circle 48 = .ok (.ireturn, 1) := by decide +kernel
theorem dX11_circle_49 : decode cX11_circle 49 = .ok (.aload_n 0, 1) := by decide +kernel
theorem dX11_circle_50 : decode cX11_circle 50 = .ok (.iload_n 1, 1) := by decide +kernel
theorem dX11_circle_51 : decode cX11_circle 51 = .ok (.iconst (-1), 1) := by decide +kernel
theorem dX11_circle_52 : decode cX11_circle 52 = .ok (.if_icmp .ne 13, 3) := by decide +kernel
theorem dX11_circle_55 : decode cX11_circle 55 = .ok (.aload_n 0, 1) := by decide +kernel
theorem dX11_circle_56 : decode cX11_circle 56 = .ok (.getfield 47, 3) := by decide +kernel
theorem dX11_circle_59 : decode cX11_circle 59 = .ok (.getfield 228, 3) := by decide +kernel
theorem dX11_circle_62 : decode cX11_circle 62 = .ok (.goto 10, 3) := by decide +kernel
theorem dX11_circle_65 : decode cX11_circle 65 = .ok (.aload_n 0, 1) := by decide +kernel
theorem dX11_circle_66 : decode cX11_circle 66 = .ok (.getfield 47, 3) := by decide +kernel
theorem dX11_circle_69 : decode cX11_circle 69 = .ok (.getfield 225, 3) := by decide +kernel
theorem dX11_circle_72 : decode cX11_circle 72 = .ok (.invokevirtual 147, 3) := by decide +kernel
theorem dX11_circle_75 : decode cX11_circle 75 = .ok (.ireturn, 1) := by decide +kernel
theorem dX11_visit_0 : decode cX11_visit 0 = .ok (.aload_n 0, 1) := by decide +kernel
theorem dX11_visit_1 : decode cX11_visit 1 = .ok (.getfield 75, 3) := by decide +kernel
theorem dX11_visit_4 : decode cX11_visit 4 = .ok (.iload_n 1, 1) := by decide +kernel
theorem dX11_visit_5 : decode cX11_visit 5 = .ok (.iload_n 2, 1) := by decide +kernel
theorem dX11_visit_6 : decode cX11_visit 6 = .ok (.invokevirtual 219, 3) := by decide +kernel
theorem dX11_visit_9 : decode cX11_visit 9 = .ok (.ifCond .ne 9, 3) := by decide +kernel
theorem dX11_visit_12 : decode cX11_visit 12 = .ok (.aload_n 0, 1) := by decide +kernel
theorem dX11_visit_13 : decode cX11_visit 13 = .ok (.iconst 4, 1) := by decide +kernel
theorem dX11_visit_14 : decode cX11_visit 14 = .ok (.invokevirtual 113, 3) := by decide +kernel
theorem dX11_visit_17 : decode cX11_visit 17 = .ok (.ireturn, 1) := by decide +kernel
theorem dX11_visit_18 : decode cX11_visit 18 = .ok (.aload_n 0, 1) := by decide +kernel
theorem dX11_visit_19 : decode cX11_visit 19 = .ok (.getfield 54, 3) := by decide +kernel
theorem dX11_visit_22 : decode cX11_visit 22 = .ok (.getfield 182, 3) := by decide +kernel
theorem dX11_visit_25 : decode cX11_visit 25 = .ok (.iload_n 1, 1) := by decide +kernel
theorem dX11_visit_26 : decode cX11_visit 26 = .ok (.iaload, 1) := by decide +kernel
theorem dX11_visit_27 : decode cX11_visit 27 = .ok (.ifCond .ne 12, 3) := by decide +kernel
theorem dX11_visit_30 : decode cX11_visit 30 = .ok (.aload_n 0, 1) := by decide +kernel
theorem dX11_visit_31 : decode cX11_visit 31 = .ok (.bipush 7, 2) := by decide +kernel
theorem dX11_visit_33 : decode cX11_visit 33 = .ok (.invokevirtual 113, 3) := by decide +kernel
theorem dX11_visit_36 : decode cX11_visit 36 = .ok (.goto 21, 3) := by decide +kernel
theorem dX11_visit_39 : decode cX11_visit 39 = .ok (.aload_n 0, 1) := by decide +kernel
theorem dX11_visit_40 : decode cX11_visit 40 = .ok (.aload_n 0, 1) := by decide +kernel
theorem dX11_visit_41 : decode cX11_visit 41 = .ok (.getfield 54, 3) := by decide +kernel
theorem dX11_visit_44 : decode cX11_visit 44 = .ok (.getfield 231, 3) := by decide +kernel
theorem dX11_visit_47 : decode cX11_visit 47 = .ok (.bipush 8, 2) := by decide +kernel
theorem dX11_visit_49 : decode cX11_visit 49 = .ok (.iload_n 1, 1) := by decide +kernel
theorem dX11_visit_50 : decode cX11_visit 50 = .ok (.imul, 1) := by decide +kernel
theorem dX11_visit_51 : decode cX11_visit 51 = .ok (.iload_n 2, 1) := by decide +kernel
theorem dX11_visit_52 : decode cX11_visit 52 = .ok (.iadd, 1) := by decide +kernel
theorem dX11_visit_53 : decode cX11_visit 53 = .ok (.iaload, 1) := by decide +kernel
theorem dX11_visit_54 : decode cX11_visit 54 = .ok (.invokevirtual 147, 3) := by decide +kernel
theorem dX11_visit_57 : decode cX11_visit 57 = .ok (.ireturn, 1) := by decide +kernel
theorem dX11_ordered_0 : decode cX11_ordered 0 = .ok (.iload_n 1, 1) := by decide +kernel
theorem dX11_ordered_1 : decode cX11_ordered 1 = .ok (.ifCond .lt 8, 3) := by decide +kernel
theorem dX11_ordered_4 : decode cX11_ordered 4 = .ok (.iload_n 1, 1) := by decide +kernel
theorem dX11_ordered_5 : decode cX11_ordered 5 = .ok (.iconst 1, 1) := by decide +kernel
theorem dX11_ordered_6 : decode cX11_ordered 6 = .ok (.if_icmp .le 9, 3) := by decide +kernel
theorem dX11_ordered_9 : decode cX11_ordered 9 = .ok (.aload_n 0, 1) := by decide +kernel
theorem dX11_ordered_10 : decode cX11_ordered 10 = .ok (.iconst 1, 1) := by decide +kernel
theorem dX11_ordered_11 : decode cX11_ordered 11 = .ok (.invokevirtual 113, 3) := by decide +kernel
theorem dX11_ordered_14 : decode cX11_ordered 14 = .ok (.ireturn, 1) := by decide +kernel
theorem dX11_ordered_15 : decode cX11_ordered 15 = .ok (.aload_n 0, 1) := by decide +kernel
theorem dX11_ordered_16 : decode cX11_ordered 16 = .ok (.getfield 75, 3) := by decide +kernel
theorem dX11_ordered_19 : decode cX11_ordered 19 = .ok (.getfield 153, 3) := by decide +kernel
theorem dX11_ordered_22 : decode cX11_ordered 22 = .ok (.ifCond .ne 9, 3) := by decide +kernel
theorem dX11_ordered_25 : decode cX11_ordered 25 = .ok (.aload_n 0, 1) := by decide +kernel
theorem dX11_ordered_26 : decode cX11_ordered 26 = .ok (.iconst 2, 1) := by decide +kernel
theorem dX11_ordered_27 : decode cX11_ordered 27 = .ok (.invokevirtual 113, 3) := by decide +kernel
theorem dX11_ordered_30 : decode cX11_ordered 30 = .ok (.ireturn, 1) := by decide +kernel
theorem dX11_ordered_31 : decode cX11_ordered 31 = .ok (.aload_n 0, 1) := by decide +kernel
theorem dX11_ordered_32 : decode cX11_ordered 32 = .ok (.getfield 54, 3) := by decide +kernel
theorem dX11_ordered_35 : decode cX11_ordered 35 = .ok (.getfield 234, 3) := by decide +kernel
theorem dX11_ordered_38 : decode cX11_ordered 38 = .ok (.iconst (-1), 1) := by decide +kernel
theorem dX11_ordered_39 : decode cX11_ordered 39 = .ok (.if_icmp .ne 7, 3) := by decide +kernel
theorem dX11_ordered_42 : decode cX11_ordered 42 = .ok (.iconst 1, 1) := by decide +kernel
theorem dX11_ordered_43 : decode cX11_ordered 43 = .ok (.goto 4, 3) := by decide +kernel
theorem dX11_ordered_46 : decode cX11_ordered 46 = .ok (.iconst 0, 1) := by decide +kernel
theorem dX11_ordered_47 : decode cX11_ordered 47 = .ok (.istore_n 2, 1) := by decide +kernel
theorem dX11_ordered_48 : decode cX11_ordered 48 = .ok (.iload_n 1, 1) := by decide +kernel
theorem dX11_ordered_49 : decode cX11_ordered 49 = .ok (.ifCond .ne 17, 3) := by decide +kernel
theorem dX11_ordered_52 : decode cX11_ordered 52 = .ok (.aload_n 0, 1) := by decide +kernel
theorem dX11_ordered_53 : decode cX11_ordered 53 = .ok (.iload_n 2, 1) := by decide +kernel
theorem dX11_ordered_54 : decode cX11_ordered 54 = .ok (.ifCond .eq 7, 3) := by decide +kernel
theorem dX11_ordered_57 : decode cX11_ordered 57 = .ok (.iconst 1, 1) := by decide +kernel
theorem dX11_ordered_58 : decode cX11_ordered 58 = .ok (.goto 4, 3) := by decide +kernel
theorem dX11_ordered_61 : decode cX11_ordered 61 = .ok (.iconst 0, 1) := by decide +kernel
theorem dX11_ordered_62 : decode cX11_ordered 62 = .ok (.invokevirtual 147, 3) := by decide +kernel
theorem dX11_ordered_65 : decode cX11_ordered 65 = .ok (.ireturn, 1) := by decide +kernel
theorem dX11_ordered_66 : decode cX11_ordered 66 = .ok (.iload_n 2, 1) := by decide +kernel
theorem dX11_ordered_67 : decode cX11_ordered 67 = .ok (.ifCond .eq 12, 3) := by decide +kernel
theorem dX11_ordered_70 : decode cX11_ordered 70 = .ok (.aload_n 0, 1) := by decide +kernel
theorem dX11_ordered_71 : decode cX11_ordered 71 = .ok (.bipush 7, 2) := by decide +kernel
theorem dX11_ordered_73 : decode cX11_ordered 73 = .ok (.invokevirtual 113, 3) := by decide +kernel
theorem dX11_ordered_76 : decode cX11_ordered 76 = .ok (.goto 14, 3) := by decide +kernel
theorem dX11_ordered_79 : decode cX11_ordered 79 = .ok (.aload_n 0, 1) := by decide +kernel
theorem dX11_ordered_80 : decode cX11_ordered 80 = .ok (.aload_n 0, 1) := by decide +kernel
theorem dX11_ordered_81 : decode cX11_ordered 81 = .ok (.getfield 54, 3) := by decide +kernel
theorem dX11_ordered_84 : decode cX11_ordered 84 = .ok (.getfield 234, 3) := by decide +kernel
theorem dX11_ordered_87 : decode cX11_ordered 87 = .ok (.invokevirtual 147, 3) := by decide +kernel
theorem dX11_ordered_90 : decode cX11_ordered 90 = .ok (.ireturn, 1) := by decide +kernel
theorem dX11_plan_0 : decode cX11_plan 0 = .ok (.iload_n 2, 1) := by decide +kernel
theorem dX11_plan_1 : decode cX11_plan 1 = .ok (.iconst (-1), 1) := by decide +kernel
theorem dX11_plan_2 : decode cX11_plan 2 = .ok (.if_icmp .ge 9, 3) := by decide +kernel
theorem dX11_plan_5 : decode cX11_plan 5 = .ok (.aload_n 0, 1) := by decide +kernel
theorem dX11_plan_6 : decode cX11_plan 6 = .ok (.iconst 1, 1) := by decide +kernel
theorem dX11_plan_7 : decode cX11_plan 7 = .ok (.invokevirtual 113, 3) := by decide +kernel
theorem dX11_plan_10 : decode cX11_plan 10 = .ok (.ireturn, 1) := by decide +kernel
theorem dX11_plan_11 : decode cX11_plan 11 = .ok (.aload_n 0, 1) := by decide +kernel
theorem dX11_plan_12 : decode cX11_plan 12 = .ok (.getfield 75, 3) := by decide +kernel
theorem dX11_plan_15 : decode cX11_plan 15 = .ok (.iload_n 1, 1) := by decide +kernel
theorem dX11_plan_16 : decode cX11_plan 16 = .ok (.invokevirtual 184, 3) := by decide +kernel
theorem dX11_plan_19 : decode cX11_plan 19 = .ok (.ifCond .ne 9, 3) := by decide +kernel
theorem dX11_plan_22 : decode cX11_plan 22 = .ok (.aload_n 0, 1) := by decide +kernel
theorem dX11_plan_23 : decode cX11_plan 23 = .ok (.iconst 4, 1) := by decide +kernel
theorem dX11_plan_24 : decode cX11_plan 24 = .ok (.invokevirtual 113, 3) := by decide +kernel
theorem dX11_plan_27 : decode cX11_plan 27 = .ok (.ireturn, 1) := by decide +kernel
theorem dX11_plan_28 : decode cX11_plan 28 = .ok (.aload_n 0, 1) := by decide +kernel
theorem dX11_plan_29 : decode cX11_plan 29 = .ok (.getfield 54, 3) := by decide +kernel
theorem dX11_plan_32 : decode cX11_plan 32 = .ok (.getfield 234, 3) := by decide +kernel
theorem dX11_plan_35 : decode cX11_plan 35 = .ok (.iconst (-1), 1) := by decide +kernel
theorem dX11_plan_36 : decode cX11_plan 36 = .ok (.if_icmp .eq 9, 3) := by decide +kernel
theorem dX11_plan_39 : decode cX11_plan 39 = .ok (.aload_n 0, 1) := by decide +kernel
theorem dX11_plan_40 : decode cX11_plan 40 = .ok (.iconst 5, 1) := by decide +kernel
theorem dX11_plan_41 : decode cX11_plan 41 = .ok (.invokevirtual 113, 3) := by decide +kernel
theorem dX11_plan_44 : decode cX11_plan 44 = .ok (.ireturn, 1) := by decide +kernel
theorem dX11_plan_45 : decode cX11_plan 45 = .ok (.iload_n 2, 1) := by decide +kernel
theorem dX11_plan_46 : decode cX11_plan 46 = .ok (.iconst (-1), 1) := by decide +kernel
theorem dX11_plan_47 : decode cX11_plan 47 = .ok (.if_icmp .ne 17, 3) := by decide +kernel
theorem dX11_plan_50 : decode cX11_plan 50 = .ok (.aload_n 0, 1) := by decide +kernel
theorem dX11_plan_51 : decode cX11_plan 51 = .ok (.aload_n 0, 1) := by decide +kernel
theorem dX11_plan_52 : decode cX11_plan 52 = .ok (.getfield 54, 3) := by decide +kernel
theorem dX11_plan_55 : decode cX11_plan 55 = .ok (.getfield 237, 3) := by decide +kernel
theorem dX11_plan_58 : decode cX11_plan 58 = .ok (.iload_n 1, 1) := by decide +kernel
theorem dX11_plan_59 : decode cX11_plan 59 = .ok (.iaload, 1) := by decide +kernel
theorem dX11_plan_60 : decode cX11_plan 60 = .ok (.invokevirtual 147, 3) := by decide +kernel
theorem dX11_plan_63 : decode cX11_plan 63 = .ok (.ireturn, 1) := by decide +kernel
theorem dX11_plan_64 : decode cX11_plan 64 = .ok (.iload_n 2, 1) := by decide +kernel
theorem dX11_plan_65 : decode cX11_plan 65 = .ok (.aload_n 0, 1) := by decide +kernel
theorem dX11_plan_66 : decode cX11_plan 66 = .ok (.getfield 54, 3) := by decide +kernel
theorem dX11_plan_69 : decode cX11_plan 69 = .ok (.getfield 237, 3) := by decide +kernel
theorem dX11_plan_72 : decode cX11_plan 72 = .ok (.iload_n 1, 1) := by decide +kernel
theorem dX11_plan_73 : decode cX11_plan 73 = .ok (.iaload, 1) := by decide +kernel
theorem dX11_plan_74 : decode cX11_plan 74 = .ok (.if_icmp .lt 12, 3) := by decide +kernel
theorem dX11_plan_77 : decode cX11_plan 77 = .ok (.aload_n 0, 1) := by decide +kernel
theorem dX11_plan_78 : decode cX11_plan 78 = .ok (.bipush 7, 2) := by decide +kernel
theorem dX11_plan_80 : decode cX11_plan 80 = .ok (.invokevirtual 113, 3) := by decide +kernel
theorem dX11_plan_83 : decode cX11_plan 83 = .ok (.goto 16, 3) := by decide +kernel
theorem dX11_plan_86 : decode cX11_plan 86 = .ok (.aload_n 0, 1) := by decide +kernel
theorem dX11_plan_87 : decode cX11_plan 87 = .ok (.aload_n 0, 1) := by decide +kernel
theorem dX11_plan_88 : decode cX11_plan 88 = .ok (.getfield 54, 3) := by decide +kernel
theorem dX11_plan_91 : decode cX11_plan 91 = .ok (.iload_n 1, 1) := by decide +kernel
theorem dX11_plan_92 : decode cX11_plan 92 = .ok (.iload_n 2, 1) := by decide +kernel
theorem dX11_plan_93 : decode cX11_plan 93 = .ok (.invokevirtual 239, 3) := by decide +kernel
theorem dX11_plan_96 : decode cX11_plan 96 = .ok (.invokevirtual 147, 3) := by decide +kernel
theorem dX11_plan_99 : decode cX11_plan 99 = .ok (.ireturn, 1) := by decide +kernel
theorem dX11_real_0 : decode cX11_real 0 = .ok (.iload_n 1, 1) := by decide +kernel
theorem dX11_real_1 : decode cX11_real 1 = .ok (.ifCond .lt 8, 3) := by decide +kernel
theorem dX11_real_4 : decode cX11_real 4 = .ok (.iload_n 1, 1) := by decide +kernel
theorem dX11_real_5 : decode cX11_real 5 = .ok (.iconst 3, 1) := by decide +kernel
theorem dX11_real_6 : decode cX11_real 6 = .ok (.if_icmp .le 9, 3) := by decide +kernel
theorem dX11_real_9 : decode cX11_real 9 = .ok (.aload_n 0, 1) := by decide +kernel
theorem dX11_real_10 : decode cX11_real 10 = .ok (.iconst 1, 1) := by decide +kernel
theorem dX11_real_11 : decode cX11_real 11 = .ok (.invokevirtual 113, 3) := by decide +kernel
theorem dX11_real_14 : decode cX11_real 14 = .ok (.ireturn, 1) := by decide +kernel
theorem dX11_real_15 : decode cX11_real 15 = .ok (.aload_n 0, 1) := by decide +kernel
theorem dX11_real_16 : decode cX11_real 16 = .ok (.getfield 75, 3) := by decide +kernel
theorem dX11_real_19 : decode cX11_real 19 = .ok (.getfield 153, 3) := by decide +kernel
theorem dX11_real_22 : decode cX11_real 22 = .ok (.ifCond .ne 9, 3) := by decide +kernel
theorem dX11_real_25 : decode cX11_real 25 = .ok (.aload_n 0, 1) := by decide +kernel
theorem dX11_real_26 : decode cX11_real 26 = .ok (.iconst 2, 1) := by decide +kernel
theorem dX11_real_27 : decode cX11_real 27 = .ok (.invokevirtual 113, 3) := by decide +kernel
theorem dX11_real_30 : decode cX11_real 30 = .ok (.ireturn, 1) := by decide +kernel
theorem dX11_real_31 : decode cX11_real 31 = .ok (.aload_n 0, 1) := by decide +kernel
theorem dX11_real_32 : decode cX11_real 32 = .ok (.getfield 61, 3) := by decide +kernel
theorem dX11_real_35 : decode cX11_real 35 = .ok (.aload_n 0, 1) := by decide +kernel
theorem dX11_real_36 : decode cX11_real 36 = .ok (.getfield 75, 3) := by decide +kernel
theorem dX11_real_39 : decode cX11_real 39 = .ok (.invokevirtual 242, 3) := by decide +kernel
theorem dX11_real_42 : decode cX11_real 42 = .ok (.aload_n 0, 1) := by decide +kernel
theorem dX11_real_43 : decode cX11_real 43 = .ok (.getfield 61, 3) := by decide +kernel
theorem dX11_real_46 : decode cX11_real 46 = .ok (.invokevirtual 245, 3) := by decide +kernel
theorem dX11_real_49 : decode cX11_real 49 = .ok (.ifCond .eq 10, 3) := by decide +kernel
theorem dX11_real_52 : decode cX11_real 52 = .ok (.aload_n 0, 1) := by decide +kernel
theorem dX11_real_53 : decode cX11_real 53 = .ok (.bipush 6, 2) := by decide +kernel
theorem dX11_real_55 : decode cX11_real 55 = .ok (.invokevirtual 113, 3) := by decide +kernel
theorem dX11_real_58 : decode cX11_real 58 = .ok (.ireturn, 1) := by decide +kernel
theorem dX11_real_59 : decode cX11_real 59 = .ok (.aload_n 0, 1) := by decide +kernel
theorem dX11_real_60 : decode cX11_real 60 = .ok (.getfield 61, 3) := by decide +kernel
theorem dX11_real_63 : decode cX11_real 63 = .ok (.getfield 249, 3) := by decide +kernel
theorem dX11_real_66 : decode cX11_real 66 = .ok (.ifCond .le 7, 3) := by decide +kernel
theorem dX11_real_69 : decode cX11_real 69 = .ok (.iconst 1, 1) := by decide +kernel
theorem dX11_real_70 : decode cX11_real 70 = .ok (.goto 4, 3) := by decide +kernel
theorem dX11_real_73 : decode cX11_real 73 = .ok (.iconst 0, 1) := by decide +kernel
theorem dX11_real_74 : decode cX11_real 74 = .ok (.istore_n 2, 1) := by decide +kernel
theorem dX11_real_75 : decode cX11_real 75 = .ok (.iload_n 1, 1) := by decide +kernel
theorem dX11_real_76 : decode cX11_real 76 = .ok (.tableswitch 93 0 2 #[28, 42, 67], 28) := by decide +kernel
theorem dX11_real_104 : decode cX11_real 104 = .ok (.aload_n 0, 1) := by decide +kernel
theorem dX11_real_105 : decode cX11_real 105 = .ok (.iload_n 2, 1) := by decide +kernel
theorem dX11_real_106 : decode cX11_real 106 = .ok (.ifCond .eq 7, 3) := by decide +kernel
theorem dX11_real_109 : decode cX11_real 109 = .ok (.iconst 1, 1) := by decide +kernel
theorem dX11_real_110 : decode cX11_real 110 = .ok (.goto 4, 3) := by decide +kernel
theorem dX11_real_113 : decode cX11_real 113 = .ok (.iconst 0, 1) := by decide +kernel
theorem dX11_real_114 : decode cX11_real 114 = .ok (.invokevirtual 147, 3) := by decide +kernel
theorem dX11_real_117 : decode cX11_real 117 = .ok (.ireturn, 1) := by decide +kernel
theorem dX11_real_118 : decode cX11_real 118 = .ok (.iload_n 2, 1) := by decide +kernel
theorem dX11_real_119 : decode cX11_real 119 = .ok (.ifCond .eq 17, 3) := by decide +kernel
theorem dX11_real_122 : decode cX11_real 122 = .ok (.aload_n 0, 1) := by decide +kernel
theorem dX11_real_123 : decode cX11_real 123 = .ok (.aload_n 0, 1) := by decide +kernel
theorem dX11_real_124 : decode cX11_real 124 = .ok (.getfield 61, 3) := by decide +kernel
theorem dX11_real_127 : decode cX11_real 127 = .ok (.getfield 249, 3) := by decide +kernel
theorem dX11_real_130 : decode cX11_real 130 = .ok (.invokevirtual 147, 3) := by decide +kernel
theorem dX11_real_133 : decode cX11_real 133 = .ok (.goto 9, 3) := by decide +kernel
theorem dX11_real_136 : decode cX11_real 136 = .ok (.aload_n 0, 1) := by decide +kernel
theorem dX11_real_137 : decode cX11_real 137 = .ok (.bipush 7, 2) := by decide +kernel
theorem dX11_real_139 : decode cX11_real 139 = .ok (.invokevirtual 113, 3) := by decide +kernel
theorem dX11_real_142 : decode cX11_real 142 = .ok (.ireturn, 1) := by decide +kernel
theorem dX11_real_143 : decode cX11_real 143 = .ok (.aload_n 0, 1) := by decide +kernel
theorem dX11_real_144 : decode cX11_real 144 = .ok (.iload_n 2, 1) := by decide +kernel
theorem dX11_real_145 : decode cX11_real 145 = .ok (.ifCond .eq 13, 3) := by decide +kernel
theorem dX11_real_148 : decode cX11_real 148 = .ok (.aload_n 0, 1) := by decide +kernel
theorem dX11_real_149 : decode cX11_real 149 = .ok (.getfield 61, 3) := by decide +kernel
theorem dX11_real_152 : decode cX11_real 152 = .ok (.getfield 249, 3) := by decide +kernel
theorem dX11_real_155 : decode cX11_real 155 = .ok (.goto 10, 3) := by decide +kernel
theorem dX11_real_158 : decode cX11_real 158 = .ok (.aload_n 0, 1) := by decide +kernel
theorem dX11_real_159 : decode cX11_real 159 = .ok (.getfield 61, 3) := by decide +kernel
theorem dX11_real_162 : decode cX11_real 162 = .ok (.getfield 252, 3) := by decide +kernel
theorem dX11_real_165 : decode cX11_real 165 = .ok (.invokevirtual 147, 3) := by decide +kernel
theorem dX11_real_168 : decode cX11_real 168 = .ok (.ireturn, 1) := by decide +kernel
theorem dX11_real_169 : decode cX11_real 169 = .ok (.aload_n 0, 1) := by decide +kernel
theorem dX11_real_170 : decode cX11_real 170 = .ok (.iload_n 2, 1) := by decide +kernel
theorem dX11_real_171 : decode cX11_real 171 = .ok (.ifCond .eq 13, 3) := by decide +kernel
theorem dX11_real_174 : decode cX11_real 174 = .ok (.aload_n 0, 1) := by decide +kernel
theorem dX11_real_175 : decode cX11_real 175 = .ok (.getfield 61, 3) := by decide +kernel
theorem dX11_real_178 : decode cX11_real 178 = .ok (.getfield 255, 3) := by decide +kernel
theorem dX11_real_181 : decode cX11_real 181 = .ok (.goto 10, 3) := by decide +kernel
theorem dX11_real_184 : decode cX11_real 184 = .ok (.aload_n 0, 1) := by decide +kernel
theorem dX11_real_185 : decode cX11_real 185 = .ok (.getfield 61, 3) := by decide +kernel
theorem dX11_real_188 : decode cX11_real 188 = .ok (.invokevirtual 258, 3) := by decide +kernel
theorem dX11_real_191 : decode cX11_real 191 = .ok (.invokevirtual 147, 3) := by decide +kernel
theorem dX11_real_194 : decode cX11_real 194 = .ok (.ireturn, 1) := by decide +kernel
theorem dX11_shades_0 : decode cX11_shades 0 = .ok (.aload_n 0, 1) := by decide +kernel
theorem dX11_shades_1 : decode cX11_shades 1 = .ok (.getfield 75, 3) := by decide +kernel
theorem dX11_shades_4 : decode cX11_shades 4 = .ok (.iload_n 1, 1) := by decide +kernel
theorem dX11_shades_5 : decode cX11_shades 5 = .ok (.invokevirtual 169, 3) := by decide +kernel
theorem dX11_shades_8 : decode cX11_shades 8 = .ok (.ifCond .ne 9, 3) := by decide +kernel
theorem dX11_shades_11 : decode cX11_shades 11 = .ok (.aload_n 0, 1) := by decide +kernel
theorem dX11_shades_12 : decode cX11_shades 12 = .ok (.iconst 4, 1) := by decide +kernel
theorem dX11_shades_13 : decode cX11_shades 13 = .ok (.invokevirtual 113, 3) := by decide +kernel
theorem dX11_shades_16 : decode cX11_shades 16 = .ok (.ireturn, 1) := by decide +kernel
theorem dX11_shades_17 : decode cX11_shades 17 = .ok (.aload_n 0, 1) := by decide +kernel
theorem dX11_shades_18 : decode cX11_shades 18 = .ok (.getfield 61, 3) := by decide +kernel
theorem dX11_shades_21 : decode cX11_shades 21 = .ok (.aload_n 0, 1) := by decide +kernel
theorem dX11_shades_22 : decode cX11_shades 22 = .ok (.getfield 75, 3) := by decide +kernel
theorem dX11_shades_25 : decode cX11_shades 25 = .ok (.invokevirtual 242, 3) := by decide +kernel
theorem dX11_shades_28 : decode cX11_shades 28 = .ok (.aload_n 0, 1) := by decide +kernel
theorem dX11_shades_29 : decode cX11_shades 29 = .ok (.getfield 61, 3) := by decide +kernel
theorem dX11_shades_32 : decode cX11_shades 32 = .ok (.getfield 261, 3) := by decide +kernel
theorem dX11_shades_35 : decode cX11_shades 35 = .ok (.ifCond .eq 12, 3) := by decide +kernel
theorem dX11_shades_38 : decode cX11_shades 38 = .ok (.aload_n 0, 1) := by decide +kernel
theorem dX11_shades_39 : decode cX11_shades 39 = .ok (.bipush 6, 2) := by decide +kernel
theorem dX11_shades_41 : decode cX11_shades 41 = .ok (.invokevirtual 113, 3) := by decide +kernel
theorem dX11_shades_44 : decode cX11_shades 44 = .ok (.goto 16, 3) := by decide +kernel
theorem dX11_shades_47 : decode cX11_shades 47 = .ok (.aload_n 0, 1) := by decide +kernel
theorem dX11_shades_48 : decode cX11_shades 48 = .ok (.aload_n 0, 1) := by decide +kernel
theorem dX11_shades_49 : decode cX11_shades 49 = .ok (.getfield 61, 3) := by decide +kernel
theorem dX11_shades_52 : decode cX11_shades 52 = .ok (.getfield 264, 3) := by decide +kernel
theorem dX11_shades_55 : decode cX11_shades 55 = .ok (.iload_n 1, 1) := by decide +kernel
theorem dX11_shades_56 : decode cX11_shades 56 = .ok (.iaload, 1) := by decide +kernel
theorem dX11_shades_57 : decode cX11_shades 57 = .ok (.invokevirtual 147, 3) := by decide +kernel
theorem dX11_shades_60 : decode cX11_shades 60 = .ok (.ireturn, 1) := by decide +kernel
theorem dX11_tree_0 : decode cX11_tree 0 = .ok (.aload_n 0, 1) := by decide +kernel
theorem dX11_tree_1 : decode cX11_tree 1 = .ok (.getfield 26, 3) := by decide +kernel
theorem dX11_tree_4 : decode cX11_tree 4 = .ok (.iload_n 1, 1) := by decide +kernel
theorem dX11_tree_5 : decode cX11_tree 5 = .ok (.invokevirtual 109, 3) := by decide +kernel
theorem dX11_tree_8 : decode cX11_tree 8 = .ok (.ifCond .ne 9, 3) := by decide +kernel
theorem dX11_tree_11 : decode cX11_tree 11 = .ok (.aload_n 0, 1) := by decide +kernel
theorem dX11_tree_12 : decode cX11_tree 12 = .ok (.iconst 1, 1) := by decide +kernel
theorem dX11_tree_13 : decode cX11_tree 13 = .ok (.invokevirtual 113, 3) := by decide +kernel
theorem dX11_tree_16 : decode cX11_tree 16 = .ok (.ireturn, 1) := by decide +kernel
theorem dX11_tree_17 : decode cX11_tree 17 = .ok (.aload_n 0, 1) := by decide +kernel
theorem dX11_tree_18 : decode cX11_tree 18 = .ok (.getfield 75, 3) := by decide +kernel
theorem dX11_tree_21 : decode cX11_tree 21 = .ok (.getfield 153, 3) := by decide +kernel
theorem dX11_tree_24 : decode cX11_tree 24 = .ok (.ifCond .ne 9, 3) := by decide +kernel
theorem dX11_tree_27 : decode cX11_tree 27 = .ok (.aload_n 0, 1) := by decide +kernel
theorem dX11_tree_28 : decode cX11_tree 28 = .ok (.iconst 2, 1) := by decide +kernel
theorem dX11_tree_29 : decode cX11_tree 29 = .ok (.invokevirtual 113, 3) := by decide +kernel
theorem dX11_tree_32 : decode cX11_tree 32 = .ok (.ireturn, 1) := by decide +kernel
theorem dX11_tree_33 : decode cX11_tree 33 = .ok (.aload_n 0, 1) := by decide +kernel
theorem dX11_tree_34 : decode cX11_tree 34 = .ok (.getfield 26, 3) := by decide +kernel
theorem dX11_tree_37 : decode cX11_tree 37 = .ok (.iload_n 1, 1) := by decide +kernel
theorem dX11_tree_38 : decode cX11_tree 38 = .ok (.invokevirtual 117, 3) := by decide +kernel
theorem dX11_tree_41 : decode cX11_tree 41 = .ok (.aload_n 0, 1) := by decide +kernel
theorem dX11_tree_42 : decode cX11_tree 42 = .ok (.getfield 89, 3) := by decide +kernel
theorem dX11_tree_45 : decode cX11_tree 45 = .ok (.invokevirtual 131, 3) := by decide +kernel
theorem dX11_tree_48 : decode cX11_tree 48 = .ok (.aload_n 0, 1) := by decide +kernel
theorem dX11_tree_49 : decode cX11_tree 49 = .ok (.getfield 40, 3) := by decide +kernel
theorem dX11_tree_52 : decode cX11_tree 52 = .ok (.aload_n 0, 1) := by decide +kernel
theorem dX11_tree_53 : decode cX11_tree 53 = .ok (.getfield 26, 3) := by decide +kernel
theorem dX11_tree_56 : decode cX11_tree 56 = .ok (.aload_n 0, 1) := by decide +kernel
theorem dX11_tree_57 : decode cX11_tree 57 = .ok (.getfield 75, 3) := by decide +kernel
theorem dX11_tree_60 : decode cX11_tree 60 = .ok (.aload_n 0, 1) := by decide +kernel
theorem dX11_tree_61 : decode cX11_tree 61 = .ok (.getfield 89, 3) := by decide +kernel
theorem dX11_tree_64 : decode cX11_tree 64 = .ok (.iconst (-1), 1) := by decide +kernel
theorem dX11_tree_65 : decode cX11_tree 65 = .ok (.iconst 0, 1) := by decide +kernel
theorem dX11_tree_66 : decode cX11_tree 66 = .ok (.iconst (-1), 1) := by decide +kernel
theorem dX11_tree_67 : decode cX11_tree 67 = .ok (.iconst 0, 1) := by decide +kernel
theorem dX11_tree_68 : decode cX11_tree 68 = .ok (.invokevirtual 265, 3) := by decide +kernel
theorem dX11_tree_71 : decode cX11_tree 71 = .ok (.istore_n 2, 1) := by decide +kernel
theorem dX11_tree_72 : decode cX11_tree 72 = .ok (.aload_n 0, 1) := by decide +kernel
theorem dX11_tree_73 : decode cX11_tree 73 = .ok (.iload_n 2, 1) := by decide +kernel
theorem dX11_tree_74 : decode cX11_tree 74 = .ok (.invokevirtual 124, 3) := by decide +kernel
theorem dX11_tree_77 : decode cX11_tree 77 = .ok (.iload_n 2, 1) := by decide +kernel
theorem dX11_tree_78 : decode cX11_tree 78 = .ok (.ifCond .ne 10, 3) := by decide +kernel
theorem dX11_tree_81 : decode cX11_tree 81 = .ok (.aload_n 0, 1) := by decide +kernel
theorem dX11_tree_82 : decode cX11_tree 82 = .ok (.bipush 9, 2) := by decide +kernel
theorem dX11_tree_84 : decode cX11_tree 84 = .ok (.invokevirtual 113, 3) := by decide +kernel
theorem dX11_tree_87 : decode cX11_tree 87 = .ok (.ireturn, 1) := by decide +kernel
theorem dX11_tree_88 : decode cX11_tree 88 = .ok (.aload_n 0, 1) := by decide +kernel
theorem dX11_tree_89 : decode cX11_tree 89 = .ok (.getfield 89, 3) := by decide +kernel
theorem dX11_tree_92 : decode cX11_tree 92 = .ok (.aload_n 0, 1) := by decide +kernel
theorem dX11_tree_93 : decode cX11_tree 93 = .ok (.getfield 75, 3) := by decide +kernel
theorem dX11_tree_96 : decode cX11_tree 96 = .ok (.invokevirtual 268, 3) := by decide +kernel
theorem dX11_tree_99 : decode cX11_tree 99 = .ok (.aload_n 0, 1) := by decide +kernel
theorem dX11_tree_100 : decode cX11_tree 100 = .ok (.invokevirtual 271, 3) := by decide +kernel
theorem dX11_tree_103 : decode cX11_tree 103 = .ok (.aload_n 0, 1) := by decide +kernel
theorem dX11_tree_104 : decode cX11_tree 104 = .ok (.iconst 0, 1) := by decide +kernel
theorem dX11_tree_105 : decode cX11_tree 105 = .ok (.putfield 19, 3) := by decide +kernel
theorem dX11_tree_108 : decode cX11_tree 108 = .ok (.aload_n 0, 1) := by decide +kernel
theorem dX11_tree_109 : decode cX11_tree 109 = .ok (.getfield 95, 3) := by decide +kernel
theorem dX11_tree_112 : decode cX11_tree 112 = .ok (.aload_n 0, 1) := by decide +kernel
theorem dX11_tree_113 : decode cX11_tree 113 = .ok (.getfield 75, 3) := by decide +kernel
theorem dX11_tree_116 : decode cX11_tree 116 = .ok (.aload_n 0, 1) := by decide +kernel
theorem dX11_tree_117 : decode cX11_tree 117 = .ok (.getfield 85, 3) := by decide +kernel
theorem dX11_tree_120 : decode cX11_tree 120 = .ok (.invokevirtual 274, 3) := by decide +kernel
theorem dX11_tree_123 : decode cX11_tree 123 = .ok (.aload_n 0, 1) := by decide +kernel
theorem dX11_tree_124 : decode cX11_tree 124 = .ok (.getfield 95, 3) := by decide +kernel
theorem dX11_tree_127 : decode cX11_tree 127 = .ok (.getfield 160, 3) := by decide +kernel
theorem dX11_tree_130 : decode cX11_tree 130 = .ok (.aload_n 0, 1) := by decide +kernel
theorem dX11_tree_131 : decode cX11_tree 131 = .ok (.getfield 85, 3) := by decide +kernel
theorem dX11_tree_134 : decode cX11_tree 134 = .ok (.invokevirtual 277, 3) := by decide +kernel
theorem dX11_tree_137 : decode cX11_tree 137 = .ok (.aload_n 0, 1) := by decide +kernel
theorem dX11_tree_138 : decode cX11_tree 138 = .ok (.getfield 95, 3) := by decide +kernel
theorem dX11_tree_141 : decode cX11_tree 141 = .ok (.invokevirtual 280, 3) := by decide +kernel
theorem dX11_tree_144 : decode cX11_tree 144 = .ok (.aload_n 0, 1) := by decide +kernel
theorem dX11_tree_145 : decode cX11_tree 145 = .ok (.aload_n 0, 1) := by decide +kernel
theorem dX11_tree_146 : decode cX11_tree 146 = .ok (.getfield 85, 3) := by decide +kernel
theorem dX11_tree_149 : decode cX11_tree 149 = .ok (.getfield 150, 3) := by decide +kernel
theorem dX11_tree_152 : decode cX11_tree 152 = .ok (.invokevirtual 147, 3) := by decide +kernel
theorem dX11_tree_155 : decode cX11_tree 155 = .ok (.ireturn, 1) := by decide +kernel
theorem dX11_node_0 : decode cX11_node 0 = .ok (.iload_n 2, 1) := by decide +kernel
theorem dX11_node_1 : decode cX11_node 1 = .ok (.ifCond .lt 9, 3) := by decide +kernel
theorem dX11_node_4 : decode cX11_node 4 = .ok (.iload_n 2, 1) := by decide +kernel
theorem dX11_node_5 : decode cX11_node 5 = .ok (.bipush 8, 2) := by decide +kernel
theorem dX11_node_7 : decode cX11_node 7 = .ok (.if_icmp .le 9, 3) := by decide +kernel
theorem dX11_node_10 : decode cX11_node 10 = .ok (.aload_n 0, 1) := by decide +kernel
theorem dX11_node_11 : decode cX11_node 11 = .ok (.iconst 1, 1) := by decide +kernel
theorem dX11_node_12 : decode cX11_node 12 = .ok (.invokevirtual 113, 3) := by decide +kernel
theorem dX11_node_15 : decode cX11_node 15 = .ok (.ireturn, 1) := by decide +kernel
theorem dX11_node_16 : decode cX11_node 16 = .ok (.aload_n 0, 1) := by decide +kernel
theorem dX11_node_17 : decode cX11_node 17 = .ok (.getfield 85, 3) := by decide +kernel
theorem dX11_node_20 : decode cX11_node 20 = .ok (.getfield 150, 3) := by decide +kernel
theorem dX11_node_23 : decode cX11_node 23 = .ok (.ifCond .ne 9, 3) := by decide +kernel
theorem dX11_node_26 : decode cX11_node 26 = .ok (.aload_n 0, 1) := by decide +kernel
theorem dX11_node_27 : decode cX11_node 27 = .ok (.iconst 3, 1) := by decide +kernel
theorem dX11_node_28 : decode cX11_node 28 = .ok (.invokevirtual 113, 3) := by decide +kernel
theorem dX11_node_31 : decode cX11_node 31 = .ok (.ireturn, 1) := by decide +kernel
theorem dX11_node_32 : decode cX11_node 32 = .ok (.aload_n 0, 1) := by decide +kernel
theorem dX11_node_33 : decode cX11_node 33 = .ok (.getfield 85, 3) := by decide +kernel
theorem dX11_node_36 : decode cX11_node 36 = .ok (.iload_n 1, 1) := by decide +kernel
theorem dX11_node_37 : decode cX11_node 37 = .ok (.invokevirtual 283, 3) := by decide +kernel
theorem dX11_node_40 : decode cX11_node 40 = .ok (.ifCond .ne 9, 3) := by decide +kernel
theorem dX11_node_43 : decode cX11_node 43 = .ok (.aload_n 0, 1) := by decide +kernel
theorem dX11_node_44 : decode cX11_node 44 = .ok (.iconst 4, 1) := by decide +kernel
theorem dX11_node_45 : decode cX11_node 45 = .ok (.invokevirtual 113, 3) := by decide +kernel
theorem dX11_node_48 : decode cX11_node 48 = .ok (.ireturn, 1) := by decide +kernel
theorem dX11_node_49 : decode cX11_node 49 = .ok (.iload_n 2, 1) := by decide +kernel
theorem dX11_node_50 : decode cX11_node 50 = .ok (.tableswitch 134 0 8 #[50, 64, 78, 92, 134, 134, 134, 106, 120], 50) := by decide +kernel
theorem dX11_node_100 : decode cX11_node 100 = .ok (.aload_n 0, 1) := by decide +kernel
theorem dX11_node_101 : decode cX11_node 101 = .ok (.aload_n 0, 1) := by decide +kernel
theorem dX11_node_102 : decode cX11_node 102 = .ok (.getfield 85, 3) := by decide +kernel
theorem dX11_node_105 : decode cX11_node 105 = .ok (.getfield 286, 3) := by decide +kernel
theorem dX11_node_108 : decode cX11_node 108 = .ok (.iload_n 1, 1) := by decide +kernel
theorem dX11_node_109 : decode cX11_node 109 = .ok (.iaload, 1) := by decide +kernel
theorem dX11_node_110 : decode cX11_node 110 = .ok (.invokevirtual 147, 3) := by decide +kernel
theorem dX11_node_113 : decode cX11_node 113 = .ok (.ireturn, 1) := by decide +kernel
theorem dX11_node_114 : decode cX11_node 114 = .ok (.aload_n 0, 1) := by decide +kernel
theorem dX11_node_115 : decode cX11_node 115 = .ok (.aload_n 0, 1) := by decide +kernel
theorem dX11_node_116 : decode cX11_node 116 = .ok (.getfield 85, 3) := by decide +kernel
theorem dX11_node_119 : decode cX11_node 119 = .ok (.getfield 289, 3) := by decide +kernel
theorem dX11_node_122 : decode cX11_node 122 = .ok (.iload_n 1, 1) := by decide +kernel
theorem dX11_node_123 : decode cX11_node 123 = .ok (.iaload, 1) := by decide +kernel
theorem dX11_node_124 : decode cX11_node 124 = .ok (.invokevirtual 147, 3) := by decide +kernel
theorem dX11_node_127 : decode cX11_node 127 = .ok (.ireturn, 1) := by decide +kernel
theorem dX11_node_128 : decode cX11_node 128 = .ok (.aload_n 0, 1) := by decide +kernel
theorem dX11_node_129 : decode cX11_node 129 = .ok (.aload_n 0, 1) := by decide +kernel
theorem dX11_node_130 : decode cX11_node 130 = .ok (.getfield 85, 3) := by decide +kernel
theorem dX11_node_133 : decode cX11_node 133 = .ok (.getfield 292, 3) := by decide +kernel
theorem dX11_node_136 : decode cX11_node 136 = .ok (.iload_n 1, 1) := by decide +kernel
theorem dX11_node_137 : decode cX11_node 137 = .ok (.iaload, 1) := by decide +kernel
theorem dX11_node_138 : decode cX11_node 138 = .ok (.invokevirtual 147, 3) := by decide +kernel
theorem dX11_node_141 : decode cX11_node 141 = .ok (.ireturn, 1) := by decide +kernel
theorem dX11_node_142 : decode cX11_node 142 = .ok (.aload_n 0, 1) := by decide +kernel
theorem dX11_node_143 : decode cX11_node 143 = .ok (.aload_n 0, 1) := by decide +kernel
theorem dX11_node_144 : decode cX11_node 144 = .ok (.getfield 85, 3) := by decide +kernel
theorem dX11_node_147 : decode cX11_node 147 = .ok (.getfield 295, 3) := by decide +kernel
theorem dX11_node_150 : decode cX11_node 150 = .ok (.iload_n 1, 1) := by decide +kernel
theorem dX11_node_151 : decode cX11_node 151 = .ok (.iaload, 1) := by decide +kernel
theorem dX11_node_152 : decode cX11_node 152 = .ok (.invokevirtual 147, 3) := by decide +kernel
theorem dX11_node_155 : decode cX11_node 155 = .ok (.ireturn, 1) := by decide +kernel
theorem dX11_node_156 : decode cX11_node 156 = .ok (.aload_n 0, 1) := by decide +kernel
theorem dX11_node_157 : decode cX11_node 157 = .ok (.aload_n 0, 1) := by decide +kernel
theorem dX11_node_158 : decode cX11_node 158 = .ok (.getfield 85, 3) := by decide +kernel
theorem dX11_node_161 : decode cX11_node 161 = .ok (.getfield 297, 3) := by decide +kernel
theorem dX11_node_164 : decode cX11_node 164 = .ok (.iload_n 1, 1) := by decide +kernel
theorem dX11_node_165 : decode cX11_node 165 = .ok (.iaload, 1) := by decide +kernel
theorem dX11_node_166 : decode cX11_node 166 = .ok (.invokevirtual 147, 3) := by decide +kernel
theorem dX11_node_169 : decode cX11_node 169 = .ok (.ireturn, 1) := by decide +kernel
theorem dX11_node_170 : decode cX11_node 170 = .ok (.aload_n 0, 1) := by decide +kernel
theorem dX11_node_171 : decode cX11_node 171 = .ok (.aload_n 0, 1) := by decide +kernel
theorem dX11_node_172 : decode cX11_node 172 = .ok (.getfield 85, 3) := by decide +kernel
theorem dX11_node_175 : decode cX11_node 175 = .ok (.getfield 300, 3) := by decide +kernel
theorem dX11_node_178 : decode cX11_node 178 = .ok (.iload_n 1, 1) := by decide +kernel
theorem dX11_node_179 : decode cX11_node 179 = .ok (.iaload, 1) := by decide +kernel
theorem dX11_node_180 : decode cX11_node 180 = .ok (.invokevirtual 147, 3) := by decide +kernel
theorem dX11_node_183 : decode cX11_node 183 = .ok (.ireturn, 1) := by decide +kernel
theorem dX11_node_184 : decode cX11_node 184 = .ok (.iload_n 2, 1) := by decide +kernel
theorem dX11_node_185 : decode cX11_node 185 = .ok (.iconst 3, 1) := by decide +kernel
theorem dX11_node_186 : decode cX11_node 186 = .ok (.isub, 1) := by decide +kernel
theorem dX11_node_187 : decode cX11_node 187 = .ok (.istore_n 3, 1) := by decide +kernel
theorem dX11_node_188 : decode cX11_node 188 = .ok (.iload_n 3, 1) := by decide +kernel
theorem dX11_node_189 : decode cX11_node 189 = .ok (.aload_n 0, 1) := by decide +kernel
theorem dX11_node_190 : decode cX11_node 190 = .ok (.getfield 85, 3) := by decide +kernel
theorem dX11_node_193 : decode cX11_node 193 = .ok (.getfield 295, 3) := by decide +kernel
theorem dX11_node_196 : decode cX11_node 196 = .ok (.iload_n 1, 1) := by decide +kernel
theorem dX11_node_197 : decode cX11_node 197 = .ok (.iaload, 1) := by decide +kernel
theorem dX11_node_198 : decode cX11_node 198 = .ok (.if_icmp .le 12, 3) := by decide +kernel
theorem dX11_node_201 : decode cX11_node 201 = .ok (.aload_n 0, 1) := by decide +kernel
theorem dX11_node_202 : decode cX11_node 202 = .ok (.bipush 7, 2) := by decide +kernel
theorem dX11_node_204 : decode cX11_node 204 = .ok (.invokevirtual 113, 3) := by decide +kernel
theorem dX11_node_207 : decode cX11_node 207 = .ok (.goto 16, 3) := by decide +kernel
theorem dX11_node_210 : decode cX11_node 210 = .ok (.aload_n 0, 1) := by decide +kernel
theorem dX11_node_211 : decode cX11_node 211 = .ok (.aload_n 0, 1) := by decide +kernel
theorem dX11_node_212 : decode cX11_node 212 = .ok (.getfield 85, 3) := by decide +kernel
theorem dX11_node_215 : decode cX11_node 215 = .ok (.iload_n 1, 1) := by decide +kernel
theorem dX11_node_216 : decode cX11_node 216 = .ok (.iload_n 3, 1) := by decide +kernel
theorem dX11_node_217 : decode cX11_node 217 = .ok (.invokevirtual 303, 3) := by decide +kernel
theorem dX11_node_220 : decode cX11_node 220 = .ok (.invokevirtual 147, 3) := by decide +kernel
theorem dX11_node_223 : decode cX11_node 223 = .ok (.ireturn, 1) := by decide +kernel
theorem dX11_value_0 : decode cX11_value 0 = .ok (.aload_n 0, 1) := by decide +kernel
theorem dX11_value_1 : decode cX11_value 1 = .ok (.iload_n 1, 1) := by decide +kernel
theorem dX11_value_2 : decode cX11_value 2 = .ok (.iload_n 2, 1) := by decide +kernel
theorem dX11_value_3 : decode cX11_value 3 = .ok (.invokevirtual 306, 3) := by decide +kernel
theorem dX11_value_6 : decode cX11_value 6 = .ok (.istore_n 3, 1) := by decide +kernel
theorem dX11_value_7 : decode cX11_value 7 = .ok (.iload_n 3, 1) := by decide +kernel
theorem dX11_value_8 : decode cX11_value 8 = .ok (.ifCond .eq 11, 3) := by decide +kernel
theorem dX11_value_11 : decode cX11_value 11 = .ok (.aload_n 0, 1) := by decide +kernel
theorem dX11_value_12 : decode cX11_value 12 = .ok (.iload_n 3, 1) := by decide +kernel
theorem dX11_value_13 : decode cX11_value 13 = .ok (.invokevirtual 113, 3) := by decide +kernel
theorem dX11_value_16 : decode cX11_value 16 = .ok (.goto 21, 3) := by decide +kernel
theorem dX11_value_19 : decode cX11_value 19 = .ok (.aload_n 0, 1) := by decide +kernel
theorem dX11_value_20 : decode cX11_value 20 = .ok (.aload_n 0, 1) := by decide +kernel
theorem dX11_value_21 : decode cX11_value 21 = .ok (.getfield 95, 3) := by decide +kernel
theorem dX11_value_24 : decode cX11_value 24 = .ok (.getfield 309, 3) := by decide +kernel
theorem dX11_value_27 : decode cX11_value 27 = .ok (.bipush 8, 2) := by decide +kernel
theorem dX11_value_29 : decode cX11_value 29 = .ok (.iload_n 1, 1) := by decide +kernel
theorem dX11_value_30 : decode cX11_value 30 = .ok (.imul, 1) := by decide +kernel
theorem dX11_value_31 : decode cX11_value 31 = .ok (.iload_n 2, 1) := by decide +kernel
theorem dX11_value_32 : decode cX11_value 32 = .ok (.iadd, 1) := by decide +kernel
theorem dX11_value_33 : decode cX11_value 33 = .ok (.iaload, 1) := by decide +kernel
theorem dX11_value_34 : decode cX11_value 34 = .ok (.invokevirtual 147, 3) := by decide +kernel
theorem dX11_value_37 : decode cX11_value 37 = .ok (.ireturn, 1) := by decide +kernel
theorem dX11_knot_0 : decode cX11_knot 0 = .ok (.iload_n 3, 1) := by decide +kernel
theorem dX11_knot_1 : decode cX11_knot 1 = .ok (.ifCond .lt 8, 3) := by decide +kernel
theorem dX11_knot_4 : decode cX11_knot 4 = .ok (.iload_n 3, 1) := by decide +kernel
theorem dX11_knot_5 : decode cX11_knot 5 = .ok (.iconst 4, 1) := by decide +kernel
theorem dX11_knot_6 : decode cX11_knot 6 = .ok (.if_icmp .le 9, 3) := by decide +kernel
theorem dX11_knot_9 : decode cX11_knot 9 = .ok (.aload_n 0, 1) := by decide +kernel
theorem dX11_knot_10 : decode cX11_knot 10 = .ok (.iconst 1, 1) := by decide +kernel
theorem dX11_knot_11 : decode cX11_knot 11 = .ok (.invokevirtual 113, 3) := by decide +kernel
theorem dX11_knot_14 : decode cX11_knot 14 = .ok (.ireturn, 1) := by decide +kernel
theorem dX11_knot_15 : decode cX11_knot 15 = .ok (.aload_n 0, 1) := by decide +kernel
theorem dX11_knot_16 : decode cX11_knot 16 = .ok (.iload_n 1, 1) := by decide +kernel
theorem dX11_knot_17 : decode cX11_knot 17 = .ok (.iload_n 2, 1) := by decide +kernel
theorem dX11_knot_18 : decode cX11_knot 18 = .ok (.invokevirtual 306, 3) := by decide +kernel
theorem dX11_knot_21 : decode cX11_knot 21 = .ok (.istore 4, 2) := by decide +kernel
theorem dX11_knot_23 : decode cX11_knot 23 = .ok (.iload 4, 2) := by decide +kernel
theorem dX11_knot_25 : decode cX11_knot 25 = .ok (.ifCond .eq 10, 3) := by decide +kernel
theorem dX11_knot_28 : decode cX11_knot 28 = .ok (.aload_n 0, 1) := by decide +kernel
theorem dX11_knot_29 : decode cX11_knot 29 = .ok (.iload 4, 2) := by decide +kernel
theorem dX11_knot_31 : decode cX11_knot 31 = .ok (.invokevirtual 113, 3) := by decide +kernel
theorem dX11_knot_34 : decode cX11_knot 34 = .ok (.ireturn, 1) := by decide +kernel
theorem dX11_knot_35 : decode cX11_knot 35 = .ok (.aload_n 0, 1) := by decide +kernel
theorem dX11_knot_36 : decode cX11_knot 36 = .ok (.getfield 95, 3) := by decide +kernel
theorem dX11_knot_39 : decode cX11_knot 39 = .ok (.getfield 160, 3) := by decide +kernel
theorem dX11_knot_42 : decode cX11_knot 42 = .ok (.getfield 312, 3) := by decide +kernel
theorem dX11_knot_45 : decode cX11_knot 45 = .ok (.bipush 8, 2) := by decide +kernel
theorem dX11_knot_47 : decode cX11_knot 47 = .ok (.iload_n 1, 1) := by decide +kernel
theorem dX11_knot_48 : decode cX11_knot 48 = .ok (.imul, 1) := by decide +kernel
theorem dX11_knot_49 : decode cX11_knot 49 = .ok (.iload_n 2, 1) := by decide +kernel
theorem dX11_knot_50 : decode cX11_knot 50 = .ok (.iadd, 1) := by decide +kernel
theorem dX11_knot_51 : decode cX11_knot 51 = .ok (.iaload, 1) := by decide +kernel
theorem dX11_knot_52 : decode cX11_knot 52 = .ok (.istore 5, 2) := by decide +kernel
theorem dX11_knot_54 : decode cX11_knot 54 = .ok (.aload_n 0, 1) := by decide +kernel
theorem dX11_knot_55 : decode cX11_knot 55 = .ok (.getfield 95, 3) := by decide +kernel
theorem dX11_knot_58 : decode cX11_knot 58 = .ok (.getfield 160, 3) := by decide +kernel
theorem dX11_knot_61 : decode cX11_knot 61 = .ok (.getfield 315, 3) := by decide +kernel
theorem dX11_knot_64 : decode cX11_knot 64 = .ok (.iload 5, 2) := by decide +kernel
theorem dX11_knot_66 : decode cX11_knot 66 = .ok (.baload, 1) := by decide +kernel
theorem dX11_knot_67 : decode cX11_knot 67 = .ok (.ifCond .ne 10, 3) := by decide +kernel
theorem dX11_knot_70 : decode cX11_knot 70 = .ok (.aload_n 0, 1) := by decide +kernel
theorem dX11_knot_71 : decode cX11_knot 71 = .ok (.bipush 7, 2) := by decide +kernel
theorem dX11_knot_73 : decode cX11_knot 73 = .ok (.invokevirtual 113, 3) := by decide +kernel
theorem dX11_knot_76 : decode cX11_knot 76 = .ok (.ireturn, 1) := by decide +kernel
theorem dX11_knot_77 : decode cX11_knot 77 = .ok (.iload_n 3, 1) := by decide +kernel
theorem dX11_knot_78 : decode cX11_knot 78 = .ok (.tableswitch 105 0 3 #[30, 47, 62, 85], 30) := by decide +kernel
theorem dX11_knot_108 : decode cX11_knot 108 = .ok (.aload_n 0, 1) := by decide +kernel
theorem dX11_knot_109 : decode cX11_knot 109 = .ok (.aload_n 0, 1) := by decide +kernel
theorem dX11_knot_110 : decode cX11_knot 110 = .ok (.getfield 95, 3) := by decide +kernel
theorem dX11_knot_113 : decode cX11_knot 113 = .ok (.getfield 160, 3) := by decide +kernel
theorem dX11_knot_116 : decode cX11_knot 116 = .ok (.iload 5, 2) := by decide +kernel
theorem dX11_knot_118 : decode cX11_knot 118 = .ok (.invokevirtual 319, 3) := by decide +kernel
theorem dX11_knot_121 : decode cX11_knot 121 = .ok (.invokevirtual 147, 3) := by decide +kernel
theorem dX11_knot_124 : decode cX11_knot 124 = .ok (.ireturn, 1) := by decide +kernel
theorem dX11_knot_125 : decode cX11_knot 125 = .ok (.aload_n 0, 1) := by decide +kernel
theorem dX11_knot_126 : decode cX11_knot 126 = .ok (.aload_n 0, 1) := by decide +kernel
theorem dX11_knot_127 : decode cX11_knot 127 = .ok (.getfield 95, 3) := by decide +kernel
theorem dX11_knot_130 : decode cX11_knot 130 = .ok (.getfield 321, 3) := by decide +kernel
theorem dX11_knot_133 : decode cX11_knot 133 = .ok (.iload 5, 2) := by decide +kernel
theorem dX11_knot_135 : decode cX11_knot 135 = .ok (.iaload, 1) := by decide +kernel
theorem dX11_knot_136 : decode cX11_knot 136 = .ok (.invokevirtual 147, 3) := by decide +kernel
theorem dX11_knot_139 : decode cX11_knot 139 = .ok (.ireturn, 1) := by decide +kernel
theorem dX11_knot_140 : decode cX11_knot 140 = .ok (.aload_n 0, 1) := by decide +kernel
theorem dX11_knot_141 : decode cX11_knot 141 = .ok (.aload_n 0, 1) := by decide +kernel
theorem dX11_knot_142 : decode cX11_knot 142 = .ok (.getfield 95, 3) := by decide +kernel
theorem dX11_knot_145 : decode cX11_knot 145 = .ok (.getfield 324, 3) := by decide +kernel
theorem dX11_knot_148 : decode cX11_knot 148 = .ok (.iload 5, 2) := by decide +kernel
theorem dX11_knot_150 : decode cX11_knot 150 = .ok (.baload, 1) := by decide +kernel
theorem dX11_knot_151 : decode cX11_knot 151 = .ok (.ifCond .eq 7, 3) := by decide +kernel
theorem dX11_knot_154 : decode cX11_knot 154 = .ok (.iconst 1, 1) := by decide +kernel
theorem dX11_knot_155 : decode cX11_knot 155 = .ok (.goto 4, 3) := by decide +kernel
theorem dX11_knot_158 : decode cX11_knot 158 = .ok (.iconst 0, 1) := by decide +kernel
theorem dX11_knot_159 : decode cX11_knot 159 = .ok (.invokevirtual 147, 3) := by decide +kernel
theorem dX11_knot_162 : decode cX11_knot 162 = .ok (.ireturn, 1) := by decide +kernel
theorem dX11_knot_163 : decode cX11_knot 163 = .ok (.aload_n 0, 1) := by decide +kernel
theorem dX11_knot_164 : decode cX11_knot 164 = .ok (.aload_n 0, 1) := by decide +kernel
theorem dX11_knot_165 : decode cX11_knot 165 = .ok (.getfield 95, 3) := by decide +kernel
theorem dX11_knot_168 : decode cX11_knot 168 = .ok (.getfield 160, 3) := by decide +kernel
theorem dX11_knot_171 : decode cX11_knot 171 = .ok (.iload 5, 2) := by decide +kernel
theorem dX11_knot_173 : decode cX11_knot 173 = .ok (.invokevirtual 327, 3) := by decide +kernel
theorem dX11_knot_176 : decode cX11_knot 176 = .ok (.bipush 8, 2) := by decide +kernel
theorem dX11_knot_178 : decode cX11_knot 178 = .ok (.idiv, 1) := by decide +kernel
theorem dX11_knot_179 : decode cX11_knot 179 = .ok (.invokevirtual 147, 3) := by decide +kernel
theorem dX11_knot_182 : decode cX11_knot 182 = .ok (.ireturn, 1) := by decide +kernel
theorem dX11_knot_183 : decode cX11_knot 183 = .ok (.aload_n 0, 1) := by decide +kernel
theorem dX11_knot_184 : decode cX11_knot 184 = .ok (.aload_n 0, 1) := by decide +kernel
theorem dX11_knot_185 : decode cX11_knot 185 = .ok (.getfield 95, 3) := by decide +kernel
theorem dX11_knot_188 : decode cX11_knot 188 = .ok (.getfield 160, 3) := by decide +kernel
theorem dX11_knot_191 : decode cX11_knot 191 = .ok (.iload 5, 2) := by decide +kernel
theorem dX11_knot_193 : decode cX11_knot 193 = .ok (.invokevirtual 327, 3) := by decide +kernel
theorem dX11_knot_196 : decode cX11_knot 196 = .ok (.bipush 8, 2) := by decide +kernel
theorem dX11_knot_198 : decode cX11_knot 198 = .ok (.irem, 1) := by decide +kernel
theorem dX11_knot_199 : decode cX11_knot 199 = .ok (.invokevirtual 147, 3) := by decide +kernel
theorem dX11_knot_202 : decode cX11_knot 202 = .ok (.ireturn, 1) := by decide +kernel
theorem dX11_span_0 : decode cX11_span 0 = .ok (.iload_n 3, 1) := by decide +kernel
theorem dX11_span_1 : decode cX11_span 1 = .ok (.ifCond .lt 8, 3) := by decide +kernel
theorem dX11_span_4 : decode cX11_span 4 = .ok (.iload_n 3, 1) := by decide +kernel
theorem dX11_span_5 : decode cX11_span 5 = .ok (.iconst 1, 1) := by decide +kernel
theorem dX11_span_6 : decode cX11_span 6 = .ok (.if_icmp .le 9, 3) := by decide +kernel
theorem dX11_span_9 : decode cX11_span 9 = .ok (.aload_n 0, 1) := by decide +kernel
theorem dX11_span_10 : decode cX11_span 10 = .ok (.iconst 1, 1) := by decide +kernel
theorem dX11_span_11 : decode cX11_span 11 = .ok (.invokevirtual 113, 3) := by decide +kernel
theorem dX11_span_14 : decode cX11_span 14 = .ok (.ireturn, 1) := by decide +kernel
theorem dX11_span_15 : decode cX11_span 15 = .ok (.aload_n 0, 1) := by decide +kernel
theorem dX11_span_16 : decode cX11_span 16 = .ok (.iload_n 1, 1) := by decide +kernel
theorem dX11_span_17 : decode cX11_span 17 = .ok (.iload_n 2, 1) := by decide +kernel
theorem dX11_span_18 : decode cX11_span 18 = .ok (.invokevirtual 306, 3) := by decide +kernel
theorem dX11_span_21 : decode cX11_span 21 = .ok (.istore 4, 2) := by decide +kernel
theorem dX11_span_23 : decode cX11_span 23 = .ok (.iload 4, 2) := by decide +kernel
theorem dX11_span_25 : decode cX11_span 25 = .ok (.ifCond .eq 10, 3) := by decide +kernel
theorem dX11_span_28 : decode cX11_span 28 = .ok (.aload_n 0, 1) := by decide +kernel
theorem dX11_span_29 : decode cX11_span 29 = .ok (.iload 4, 2) := by decide +kernel
theorem dX11_span_31 : decode cX11_span 31 = .ok (.invokevirtual 113, 3) := by decide +kernel
theorem dX11_span_34 : decode cX11_span 34 = .ok (.ireturn, 1) := by decide +kernel
theorem dX11_span_35 : decode cX11_span 35 = .ok (.bipush 8, 2) := by decide +kernel
theorem dX11_span_37 : decode cX11_span 37 = .ok (.iload_n 1, 1) := by decide +kernel
theorem dX11_span_38 : decode cX11_span 38 = .ok (.imul, 1) := by decide +kernel
theorem dX11_span_39 : decode cX11_span 39 = .ok (.iload_n 2, 1) := by decide +kernel
theorem dX11_span_40 : decode cX11_span 40 = .ok (.iadd, 1) := by decide +kernel
theorem dX11_span_41 : decode cX11_span 41 = .ok (.istore 5, 2) := by decide +kernel
theorem dX11_span_43 : decode cX11_span 43 = .ok (.aload_n 0, 1) := by decide +kernel
theorem dX11_span_44 : decode cX11_span 44 = .ok (.iload_n 3, 1) := by decide +kernel
theorem dX11_span_45 : decode cX11_span 45 = .ok (.ifCond .ne 15, 3) := by decide +kernel
theorem dX11_span_48 : decode cX11_span 48 = .ok (.aload_n 0, 1) := by decide +kernel
theorem dX11_span_49 : decode cX11_span 49 = .ok (.getfield 85, 3) := by decide +kernel
theorem dX11_span_52 : decode cX11_span 52 = .ok (.iload 5, 2) := by decide +kernel
theorem dX11_span_54 : decode cX11_span 54 = .ok (.invokevirtual 330, 3) := by decide +kernel
theorem dX11_span_57 : decode cX11_span 57 = .ok (.goto 16, 3) := by decide +kernel
theorem dX11_span_60 : decode cX11_span 60 = .ok (.aload_n 0, 1) := by decide +kernel
theorem dX11_span_61 : decode cX11_span 61 = .ok (.getfield 85, 3) := by decide +kernel
theorem dX11_span_64 : decode cX11_span 64 = .ok (.aload_n 0, 1) := by decide +kernel
theorem dX11_span_65 : decode cX11_span 65 = .ok (.getfield 75, 3) := by decide +kernel
theorem dX11_span_68 : decode cX11_span 68 = .ok (.iload 5, 2) := by decide +kernel
theorem dX11_span_70 : decode cX11_span 70 = .ok (.invokevirtual 333, 3) := by decide +kernel
theorem dX11_span_73 : decode cX11_span 73 = .ok (.invokevirtual 147, 3) := by decide +kernel
theorem dX11_span_76 : decode cX11_span 76 = .ok (.ireturn, 1) := by decide +kernel
theorem dX11_run_0 : decode cX11_run 0 = .ok (.iload_n 1, 1) := by decide +kernel
theorem dX11_run_1 : decode cX11_run 1 = .ok (.ifCond .lt 8, 3) := by decide +kernel
theorem dX11_run_4 : decode cX11_run 4 = .ok (.iload_n 1, 1) := by decide +kernel
theorem dX11_run_5 : decode cX11_run 5 = .ok (.iconst 1, 1) := by decide +kernel
theorem dX11_run_6 : decode cX11_run 6 = .ok (.if_icmp .le 9, 3) := by decide +kernel
theorem dX11_run_9 : decode cX11_run 9 = .ok (.aload_n 0, 1) := by decide +kernel
theorem dX11_run_10 : decode cX11_run 10 = .ok (.iconst 1, 1) := by decide +kernel
theorem dX11_run_11 : decode cX11_run 11 = .ok (.invokevirtual 113, 3) := by decide +kernel
theorem dX11_run_14 : decode cX11_run 14 = .ok (.ireturn, 1) := by decide +kernel
theorem dX11_run_15 : decode cX11_run 15 = .ok (.aload_n 0, 1) := by decide +kernel
theorem dX11_run_16 : decode cX11_run 16 = .ok (.getfield 85, 3) := by decide +kernel
theorem dX11_run_19 : decode cX11_run 19 = .ok (.getfield 150, 3) := by decide +kernel
theorem dX11_run_22 : decode cX11_run 22 = .ok (.ifCond .ne 9, 3) := by decide +kernel
theorem dX11_run_25 : decode cX11_run 25 = .ok (.aload_n 0, 1) := by decide +kernel
theorem dX11_run_26 : decode cX11_run 26 = .ok (.iconst 3, 1) := by decide +kernel
theorem dX11_run_27 : decode cX11_run 27 = .ok (.invokevirtual 113, 3) := by decide +kernel
theorem dX11_run_30 : decode cX11_run 30 = .ok (.ireturn, 1) := by decide +kernel
theorem dX11_run_31 : decode cX11_run 31 = .ok (.aload_n 0, 1) := by decide +kernel
theorem dX11_run_32 : decode cX11_run 32 = .ok (.getfield 54, 3) := by decide +kernel
theorem dX11_run_35 : decode cX11_run 35 = .ok (.getfield 234, 3) := by decide +kernel
theorem dX11_run_38 : decode cX11_run 38 = .ok (.iconst (-1), 1) := by decide +kernel
theorem dX11_run_39 : decode cX11_run 39 = .ok (.if_icmp .eq 9, 3) := by decide +kernel
theorem dX11_run_42 : decode cX11_run 42 = .ok (.aload_n 0, 1) := by decide +kernel
theorem dX11_run_43 : decode cX11_run 43 = .ok (.iconst 5, 1) := by decide +kernel
theorem dX11_run_44 : decode cX11_run 44 = .ok (.invokevirtual 113, 3) := by decide +kernel
theorem dX11_run_47 : decode cX11_run 47 = .ok (.ireturn, 1) := by decide +kernel
theorem dX11_run_48 : decode cX11_run 48 = .ok (.iload_n 1, 1) := by decide +kernel
theorem dX11_run_49 : decode cX11_run 49 = .ok (.ifCond .ne 23, 3) := by decide +kernel
theorem dX11_run_52 : decode cX11_run 52 = .ok (.aload_n 0, 1) := by decide +kernel
theorem dX11_run_53 : decode cX11_run 53 = .ok (.getfield 54, 3) := by decide +kernel
theorem dX11_run_56 : decode cX11_run 56 = .ok (.getfield 182, 3) := by decide +kernel
theorem dX11_run_59 : decode cX11_run 59 = .ok (.aload_n 0, 1) := by decide +kernel
theorem dX11_run_60 : decode cX11_run 60 = .ok (.getfield 85, 3) := by decide +kernel
theorem dX11_run_63 : decode cX11_run 63 = .ok (.getfield 337, 3) := by decide +kernel
theorem dX11_run_66 : decode cX11_run 66 = .ok (.iconst 0, 1) := by decide +kernel
theorem dX11_run_67 : decode cX11_run 67 = .ok (.iaload, 1) := by decide +kernel
theorem dX11_run_68 : decode cX11_run 68 = .ok (.iaload, 1) := by decide +kernel
theorem dX11_run_69 : decode cX11_run 69 = .ok (.goto 4, 3) := by decide +kernel
theorem dX11_run_72 : decode cX11_run 72 = .ok (.iconst 0, 1) := by decide +kernel
theorem dX11_run_73 : decode cX11_run 73 = .ok (.istore_n 2, 1) := by decide +kernel
theorem dX11_run_74 : decode cX11_run 74 = .ok (.iconst 0, 1) := by decide +kernel
theorem dX11_run_75 : decode cX11_run 75 = .ok (.istore_n 3, 1) := by decide +kernel
theorem dX11_run_76 : decode cX11_run 76 = .ok (.iload_n 3, 1) := by decide +kernel
theorem dX11_run_77 : decode cX11_run 77 = .ok (.aload_n 0, 1) := by decide +kernel
theorem dX11_run_78 : decode cX11_run 78 = .ok (.getfield 85, 3) := by decide +kernel
theorem dX11_run_81 : decode cX11_run 81 = .ok (.getfield 150, 3) := by decide +kernel
theorem dX11_run_84 : decode cX11_run 84 = .ok (.if_icmp .ge 53, 3) := by decide +kernel
theorem dX11_run_87 : decode cX11_run 87 = .ok (.iload_n 2, 1) := by decide +kernel
theorem dX11_run_88 : decode cX11_run 88 = .ok (.iload_n 1, 1) := by decide +kernel
theorem dX11_run_89 : decode cX11_run 89 = .ok (.ifCond .ne 23, 3) := by decide +kernel
theorem dX11_run_92 : decode cX11_run 92 = .ok (.aload_n 0, 1) := by decide +kernel
theorem dX11_run_93 : decode cX11_run 93 = .ok (.getfield 54, 3) := by decide +kernel
theorem dX11_run_96 : decode cX11_run 96 = .ok (.getfield 340, 3) := by decide +kernel
theorem dX11_run_99 : decode cX11_run 99 = .ok (.aload_n 0, 1) := by decide +kernel
theorem dX11_run_100 : decode cX11_run 100 = .ok (.getfield 85, 3) := by decide +kernel
theorem dX11_run_103 : decode cX11_run 103 = .ok (.getfield 286, 3) := by decide +kernel
theorem dX11_run_106 : decode cX11_run 106 = .ok (.iload_n 3, 1) := by decide +kernel
theorem dX11_run_107 : decode cX11_run 107 = .ok (.iaload, 1) := by decide +kernel
theorem dX11_run_108 : decode cX11_run 108 = .ok (.iaload, 1) := by decide +kernel
theorem dX11_run_109 : decode cX11_run 109 = .ok (.goto 20, 3) := by decide +kernel
theorem dX11_run_112 : decode cX11_run 112 = .ok (.aload_n 0, 1) := by decide +kernel
theorem dX11_run_113 : decode cX11_run 113 = .ok (.getfield 54, 3) := by decide +kernel
theorem dX11_run_116 : decode cX11_run 116 = .ok (.getfield 343, 3) := by decide +kernel
theorem dX11_run_119 : decode cX11_run 119 = .ok (.aload_n 0, 1) := by decide +kernel
theorem dX11_run_120 : decode cX11_run 120 = .ok (.getfield 85, 3) := by decide +kernel
theorem dX11_run_123 : decode cX11_run 123 = .ok (.getfield 286, 3) := by decide +kernel
theorem dX11_run_126 : decode cX11_run 126 = .ok (.iload_n 3, 1) := by decide +kernel
theorem dX11_run_127 : decode cX11_run 127 = .ok (.iaload, 1) := by decide +kernel
theorem dX11_run_128 : decode cX11_run 128 = .ok (.iaload, 1) := by decide +kernel
theorem dX11_run_129 : decode cX11_run 129 = .ok (.iadd, 1) := by decide +kernel
theorem dX11_run_130 : decode cX11_run 130 = .ok (.istore_n 2, 1) := by decide +kernel
theorem dX11_run_131 : decode cX11_run 131 = .ok (.iinc 3 1, 3) := by decide +kernel
theorem dX11_run_134 : decode cX11_run 134 = .ok (.goto (-58), 3) := by decide +kernel
theorem dX11_run_137 : decode cX11_run 137 = .ok (.aload_n 0, 1) := by decide +kernel
theorem dX11_run_138 : decode cX11_run 138 = .ok (.iload_n 2, 1) := by decide +kernel
theorem dX11_run_139 : decode cX11_run 139 = .ok (.invokevirtual 147, 3) := by decide +kernel
theorem dX11_run_142 : decode cX11_run 142 = .ok (.ireturn, 1) := by decide +kernel
theorem dX11_longest_0 : decode cX11_longest 0 = .ok (.aload_n 0, 1) := by decide +kernel
theorem dX11_longest_1 : decode cX11_longest 1 = .ok (.getfield 85, 3) := by decide +kernel
theorem dX11_longest_4 : decode cX11_longest 4 = .ok (.getfield 150, 3) := by decide +kernel
theorem dX11_longest_7 : decode cX11_longest 7 = .ok (.ifCond .ne 9, 3) := by decide +kernel
theorem dX11_longest_10 : decode cX11_longest 10 = .ok (.aload_n 0, 1) := by decide +kernel
theorem dX11_longest_11 : decode cX11_longest 11 = .ok (.iconst 3, 1) := by decide +kernel
theorem dX11_longest_12 : decode cX11_longest 12 = .ok (.invokevirtual 113, 3) := by decide +kernel
theorem dX11_longest_15 : decode cX11_longest 15 = .ok (.ireturn, 1) := by decide +kernel
theorem dX11_longest_16 : decode cX11_longest 16 = .ok (.aload_n 0, 1) := by decide +kernel
theorem dX11_longest_17 : decode cX11_longest 17 = .ok (.aload_n 0, 1) := by decide +kernel
theorem dX11_longest_18 : decode cX11_longest 18 = .ok (.getfield 95, 3) := by decide +kernel
theorem dX11_longest_21 : decode cX11_longest 21 = .ok (.getfield 160, 3) := by decide +kernel
theorem dX11_longest_24 : decode cX11_longest 24 = .ok (.invokevirtual 346, 3) := by decide +kernel
theorem dX11_longest_27 : decode cX11_longest 27 = .ok (.invokevirtual 147, 3) := by decide +kernel
theorem dX11_longest_30 : decode cX11_longest 30 = .ok (.ireturn, 1) := by decide +kernel
theorem dX11_put_0 : decode cX11_put 0 = .ok (.iload_n 2, 1) := by decide +kernel
theorem dX11_put_1 : decode cX11_put 1 = .ok (.ifCond .lt 10, 3) := by decide +kernel
theorem dX11_put_4 : decode cX11_put 4 = .ok (.iload_n 2, 1) := by decide +kernel
theorem dX11_put_5 : decode cX11_put 5 = .ok (.sipush 9999, 3) := by decide +kernel
theorem dX11_put_8 : decode cX11_put 8 = .ok (.if_icmp .le 9, 3) := by decide +kernel
theorem dX11_put_11 : decode cX11_put 11 = .ok (.aload_n 0, 1) := by decide +kernel
theorem dX11_put_12 : decode cX11_put 12 = .ok (.iconst 1, 1) := by decide +kernel
theorem dX11_put_13 : decode cX11_put 13 = .ok (.invokevirtual 113, 3) := by decide +kernel
theorem dX11_put_16 : decode cX11_put 16 = .ok (.ireturn, 1) := by decide +kernel
theorem dX11_put_17 : decode cX11_put 17 = .ok (.aload_n 0, 1) := by decide +kernel
theorem dX11_put_18 : decode cX11_put 18 = .ok (.getfield 85, 3) := by decide +kernel
theorem dX11_put_21 : decode cX11_put 21 = .ok (.getfield 150, 3) := by decide +kernel
theorem dX11_put_24 : decode cX11_put 24 = .ok (.ifCond .ne 9, 3) := by decide +kernel
theorem dX11_put_27 : decode cX11_put 27 = .ok (.aload_n 0, 1) := by decide +kernel
theorem dX11_put_28 : decode cX11_put 28 = .ok (.iconst 3, 1) := by decide +kernel
theorem dX11_put_29 : decode cX11_put 29 = .ok (.invokevirtual 113, 3) := by decide +kernel
theorem dX11_put_32 : decode cX11_put 32 = .ok (.ireturn, 1) := by decide +kernel
theorem dX11_put_33 : decode cX11_put 33 = .ok (.aload_n 0, 1) := by decide +kernel
theorem dX11_put_34 : decode cX11_put 34 = .ok (.getfield 85, 3) := by decide +kernel
theorem dX11_put_37 : decode cX11_put 37 = .ok (.iload_n 1, 1) := by decide +kernel
theorem dX11_put_38 : decode cX11_put 38 = .ok (.invokevirtual 283, 3) := by decide +kernel
theorem dX11_put_41 : decode cX11_put 41 = .ok (.ifCond .ne 9, 3) := by decide +kernel
theorem dX11_put_44 : decode cX11_put 44 = .ok (.aload_n 0, 1) := by decide +kernel
theorem dX11_put_45 : decode cX11_put 45 = .ok (.iconst 4, 1) := by decide +kernel
theorem dX11_put_46 : decode cX11_put 46 = .ok (.invokevirtual 113, 3) := by decide +kernel
theorem dX11_put_49 : decode cX11_put 49 = .ok (.ireturn, 1) := by decide +kernel
theorem dX11_put_50 : decode cX11_put 50 = .ok (.aload_n 0, 1) := by decide +kernel
theorem dX11_put_51 : decode cX11_put 51 = .ok (.getfield 85, 3) := by decide +kernel
theorem dX11_put_54 : decode cX11_put 54 = .ok (.getfield 289, 3) := by decide +kernel
theorem dX11_put_57 : decode cX11_put 57 = .ok (.iload_n 1, 1) := by decide +kernel
theorem dX11_put_58 : decode cX11_put 58 = .ok (.iaload, 1) := by decide +kernel
theorem dX11_put_59 : decode cX11_put 59 = .ok (.istore_n 3, 1) := by decide +kernel
theorem dX11_put_60 : decode cX11_put 60 = .ok (.aload_n 0, 1) := by decide +kernel
theorem dX11_put_61 : decode cX11_put 61 = .ok (.getfield 85, 3) := by decide +kernel
theorem dX11_put_64 : decode cX11_put 64 = .ok (.getfield 289, 3) := by decide +kernel
theorem dX11_put_67 : decode cX11_put 67 = .ok (.iload_n 1, 1) := by decide +kernel
theorem dX11_put_68 : decode cX11_put 68 = .ok (.iload_n 2, 1) := by decide +kernel
theorem dX11_put_69 : decode cX11_put 69 = .ok (.iastore, 1) := by decide +kernel
theorem dX11_put_70 : decode cX11_put 70 = .ok (.aload_n 0, 1) := by decide +kernel
theorem dX11_put_71 : decode cX11_put 71 = .ok (.getfield 68, 3) := by decide +kernel
theorem dX11_put_74 : decode cX11_put 74 = .ok (.aload_n 0, 1) := by decide +kernel
theorem dX11_put_75 : decode cX11_put 75 = .ok (.getfield 85, 3) := by decide +kernel
theorem dX11_put_78 : decode cX11_put 78 = .ok (.getfield 150, 3) := by decide +kernel
theorem dX11_put_81 : decode cX11_put 81 = .ok (.invokevirtual 349, 3) := by decide +kernel
theorem dX11_put_84 : decode cX11_put 84 = .ok (.iload_n 3, 1) := by decide +kernel
theorem dX11_put_85 : decode cX11_put 85 = .ok (.iload_n 2, 1) := by decide +kernel
theorem dX11_put_86 : decode cX11_put 86 = .ok (.if_icmp .eq 19, 3) := by decide +kernel
theorem dX11_put_89 : decode cX11_put 89 = .ok (.aload_n 0, 1) := by decide +kernel
theorem dX11_put_90 : decode cX11_put 90 = .ok (.getfield 68, 3) := by decide +kernel
theorem dX11_put_93 : decode cX11_put 93 = .ok (.aload_n 0, 1) := by decide +kernel
theorem dX11_put_94 : decode cX11_put 94 = .ok (.getfield 75, 3) := by decide +kernel
theorem dX11_put_97 : decode cX11_put 97 = .ok (.aload_n 0, 1) := by decide +kernel
theorem dX11_put_98 : decode cX11_put 98 = .ok (.getfield 85, 3) := by decide +kernel
theorem dX11_put_101 : decode cX11_put 101 = .ok (.iload_n 1, 1) := by decide +kernel
theorem dX11_put_102 : decode cX11_put 102 = .ok (.invokevirtual 350, 3) := by decide +kernel
theorem dX11_put_105 : decode cX11_put 105 = .ok (.aload_n 0, 1) := by decide +kernel
theorem dX11_put_106 : decode cX11_put 106 = .ok (.invokevirtual 354, 3) := by decide +kernel
theorem dX11_put_109 : decode cX11_put 109 = .ok (.aload_n 0, 1) := by decide +kernel
theorem dX11_put_110 : decode cX11_put 110 = .ok (.iload_n 3, 1) := by decide +kernel
theorem dX11_put_111 : decode cX11_put 111 = .ok (.invokevirtual 147, 3) := by decide +kernel
theorem dX11_put_114 : decode cX11_put 114 = .ok (.ireturn, 1) := by decide +kernel
theorem dX11_give_0 : decode cX11_give 0 = .ok (.aload_n 0, 1) := by decide +kernel
theorem dX11_give_1 : decode cX11_give 1 = .ok (.getfield 85, 3) := by decide +kernel
theorem dX11_give_4 : decode cX11_give 4 = .ok (.getfield 150, 3) := by decide +kernel
theorem dX11_give_7 : decode cX11_give 7 = .ok (.ifCond .ne 9, 3) := by decide +kernel
theorem dX11_give_10 : decode cX11_give 10 = .ok (.aload_n 0, 1) := by decide +kernel
theorem dX11_give_11 : decode cX11_give 11 = .ok (.iconst 3, 1) := by decide +kernel
theorem dX11_give_12 : decode cX11_give 12 = .ok (.invokevirtual 113, 3) := by decide +kernel
theorem dX11_give_15 : decode cX11_give 15 = .ok (.ireturn, 1) := by decide +kernel
theorem dX11_give_16 : decode cX11_give 16 = .ok (.iload_n 1, 1) := by decide +kernel
theorem dX11_give_17 : decode cX11_give 17 = .ok (.ifCond .lt 16, 3) := by decide +kernel
theorem dX11_give_20 : decode cX11_give 20 = .ok (.iload_n 1, 1) := by decide +kernel
theorem dX11_give_21 : decode cX11_give 21 = .ok (.aload_n 0, 1) := by decide +kernel
theorem dX11_give_22 : decode cX11_give 22 = .ok (.getfield 85, 3) := by decide +kernel
theorem dX11_give_25 : decode cX11_give 25 = .ok (.getfield 357, 3) := by decide +kernel
theorem dX11_give_28 : decode cX11_give 28 = .ok (.iconst 0, 1) := by decide +kernel
theorem dX11_give_29 : decode cX11_give 29 = .ok (.iaload, 1) := by decide +kernel
theorem dX11_give_30 : decode cX11_give 30 = .ok (.if_icmp .lt 9, 3) := by decide +kernel
theorem dX11_give_33 : decode cX11_give 33 = .ok (.aload_n 0, 1) := by decide +kernel
theorem dX11_give_34 : decode cX11_give 34 = .ok (.iconst 4, 1) := by decide +kernel
theorem dX11_give_35 : decode cX11_give 35 = .ok (.invokevirtual 113, 3) := by decide +kernel
theorem dX11_give_38 : decode cX11_give 38 = .ok (.ireturn, 1) := by decide +kernel
theorem dX11_give_39 : decode cX11_give 39 = .ok (.aload_n 0, 1) := by decide +kernel
theorem dX11_give_40 : decode cX11_give 40 = .ok (.getfield 85, 3) := by decide +kernel
theorem dX11_give_43 : decode cX11_give 43 = .ok (.getfield 358, 3) := by decide +kernel
theorem dX11_give_46 : decode cX11_give 46 = .ok (.iload_n 1, 1) := by decide +kernel
theorem dX11_give_47 : decode cX11_give 47 = .ok (.iaload, 1) := by decide +kernel
theorem dX11_give_48 : decode cX11_give 48 = .ok (.istore_n 3, 1) := by decide +kernel
theorem dX11_give_49 : decode cX11_give 49 = .ok (.aload_n 0, 1) := by decide +kernel
theorem dX11_give_50 : decode cX11_give 50 = .ok (.getfield 85, 3) := by decide +kernel
theorem dX11_give_53 : decode cX11_give 53 = .ok (.getfield 358, 3) := by decide +kernel
theorem dX11_give_56 : decode cX11_give 56 = .ok (.iload_n 1, 1) := by decide +kernel
theorem dX11_give_57 : decode cX11_give 57 = .ok (.iload_n 2, 1) := by decide +kernel
theorem dX11_give_58 : decode cX11_give 58 = .ok (.iastore, 1) := by decide +kernel
theorem dX11_give_59 : decode cX11_give 59 = .ok (.aload_n 0, 1) := by decide +kernel
theorem dX11_give_60 : decode cX11_give 60 = .ok (.getfield 68, 3) := by decide +kernel
theorem dX11_give_63 : decode cX11_give 63 = .ok (.aload_n 0, 1) := by decide +kernel
theorem dX11_give_64 : decode cX11_give 64 = .ok (.getfield 85, 3) := by decide +kernel
theorem dX11_give_67 : decode cX11_give 67 = .ok (.getfield 150, 3) := by decide +kernel
theorem dX11_give_70 : decode cX11_give 70 = .ok (.invokevirtual 349, 3) := by decide +kernel
theorem dX11_give_73 : decode cX11_give 73 = .ok (.iload_n 3, 1) := by decide +kernel
theorem dX11_give_74 : decode cX11_give 74 = .ok (.iload_n 2, 1) := by decide +kernel
theorem dX11_give_75 : decode cX11_give 75 = .ok (.if_icmp .eq 11, 3) := by decide +kernel
theorem dX11_give_78 : decode cX11_give 78 = .ok (.aload_n 0, 1) := by decide +kernel
theorem dX11_give_79 : decode cX11_give 79 = .ok (.getfield 68, 3) := by decide +kernel
theorem dX11_give_82 : decode cX11_give 82 = .ok (.iload_n 1, 1) := by decide +kernel
theorem dX11_give_83 : decode cX11_give 83 = .ok (.invokevirtual 361, 3) := by decide +kernel
theorem dX11_give_86 : decode cX11_give 86 = .ok (.aload_n 0, 1) := by decide +kernel
theorem dX11_give_87 : decode cX11_give 87 = .ok (.invokevirtual 354, 3) := by decide +kernel
theorem dX11_give_90 : decode cX11_give 90 = .ok (.aload_n 0, 1) := by decide +kernel
theorem dX11_give_91 : decode cX11_give 91 = .ok (.iload_n 3, 1) := by decide +kernel
theorem dX11_give_92 : decode cX11_give 92 = .ok (.invokevirtual 147, 3) := by decide +kernel
theorem dX11_give_95 : decode cX11_give 95 = .ok (.ireturn, 1) := by decide +kernel
theorem dX11_graft_0 : decode cX11_graft 0 = .ok (.aload_n 0, 1) := by decide +kernel
theorem dX11_graft_1 : decode cX11_graft 1 = .ok (.getfield 26, 3) := by decide +kernel
theorem dX11_graft_4 : decode cX11_graft 4 = .ok (.iload_n 2, 1) := by decide +kernel
theorem dX11_graft_5 : decode cX11_graft 5 = .ok (.invokevirtual 109, 3) := by decide +kernel
theorem dX11_graft_8 : decode cX11_graft 8 = .ok (.ifCond .ne 9, 3) := by decide +kernel
theorem dX11_graft_11 : decode cX11_graft 11 = .ok (.aload_n 0, 1) := by decide +kernel
theorem dX11_graft_12 : decode cX11_graft 12 = .ok (.iconst 1, 1) := by decide +kernel
theorem dX11_graft_13 : decode cX11_graft 13 = .ok (.invokevirtual 113, 3) := by decide +kernel
theorem dX11_graft_16 : decode cX11_graft 16 = .ok (.ireturn, 1) := by decide +kernel
theorem dX11_graft_17 : decode cX11_graft 17 = .ok (.aload_n 0, 1) := by decide +kernel
theorem dX11_graft_18 : decode cX11_graft 18 = .ok (.getfield 85, 3) := by decide +kernel
theorem dX11_graft_21 : decode cX11_graft 21 = .ok (.getfield 150, 3) := by decide +kernel
theorem dX11_graft_24 : decode cX11_graft 24 = .ok (.ifCond .ne 9, 3) := by decide +kernel
theorem dX11_graft_27 : decode cX11_graft 27 = .ok (.aload_n 0, 1) := by decide +kernel
theorem dX11_graft_28 : decode cX11_graft 28 = .ok (.iconst 3, 1) := by decide +kernel
theorem dX11_graft_29 : decode cX11_graft 29 = .ok (.invokevirtual 113, 3) := by decide +kernel
theorem dX11_graft_32 : decode cX11_graft 32 = .ok (.ireturn, 1) := by decide +kernel
theorem dX11_graft_33 : decode cX11_graft 33 = .ok (.aload_n 0, 1) := by decide +kernel
theorem dX11_graft_34 : decode cX11_graft 34 = .ok (.getfield 85, 3) := by decide +kernel
theorem dX11_graft_37 : decode cX11_graft 37 = .ok (.iload_n 1, 1) := by decide +kernel
theorem dX11_graft_38 : decode cX11_graft 38 = .ok (.invokevirtual 283, 3) := by decide +kernel
theorem dX11_graft_41 : decode cX11_graft 41 = .ok (.ifCond .ne 9, 3) := by decide +kernel
theorem dX11_graft_44 : decode cX11_graft 44 = .ok (.aload_n 0, 1) := by decide +kernel
theorem dX11_graft_45 : decode cX11_graft 45 = .ok (.iconst 4, 1) := by decide +kernel
theorem dX11_graft_46 : decode cX11_graft 46 = .ok (.invokevirtual 113, 3) := by decide +kernel
theorem dX11_graft_49 : decode cX11_graft 49 = .ok (.ireturn, 1) := by decide +kernel
theorem dX11_graft_50 : decode cX11_graft 50 = .ok (.aload_n 0, 1) := by decide +kernel
theorem dX11_graft_51 : decode cX11_graft 51 = .ok (.getfield 26, 3) := by decide +kernel
theorem dX11_graft_54 : decode cX11_graft 54 = .ok (.iload_n 2, 1) := by decide +kernel
theorem dX11_graft_55 : decode cX11_graft 55 = .ok (.invokevirtual 117, 3) := by decide +kernel
theorem dX11_graft_58 : decode cX11_graft 58 = .ok (.aload_n 0, 1) := by decide +kernel
theorem dX11_graft_59 : decode cX11_graft 59 = .ok (.getfield 89, 3) := by decide +kernel
theorem dX11_graft_62 : decode cX11_graft 62 = .ok (.aload_n 0, 1) := by decide +kernel
theorem dX11_graft_63 : decode cX11_graft 63 = .ok (.getfield 75, 3) := by decide +kernel
theorem dX11_graft_66 : decode cX11_graft 66 = .ok (.aload_n 0, 1) := by decide +kernel
theorem dX11_graft_67 : decode cX11_graft 67 = .ok (.getfield 85, 3) := by decide +kernel
theorem dX11_graft_70 : decode cX11_graft 70 = .ok (.iload_n 1, 1) := by decide +kernel
theorem dX11_graft_71 : decode cX11_graft 71 = .ok (.invokevirtual 364, 3) := by decide +kernel
theorem dX11_graft_74 : decode cX11_graft 74 = .ok (.aload_n 0, 1) := by decide +kernel
theorem dX11_graft_75 : decode cX11_graft 75 = .ok (.getfield 85, 3) := by decide +kernel
theorem dX11_graft_78 : decode cX11_graft 78 = .ok (.getfield 150, 3) := by decide +kernel
theorem dX11_graft_81 : decode cX11_graft 81 = .ok (.iload_n 1, 1) := by decide +kernel
theorem dX11_graft_82 : decode cX11_graft 82 = .ok (.isub, 1) := by decide +kernel
theorem dX11_graft_83 : decode cX11_graft 83 = .ok (.aload_n 0, 1) := by decide +kernel
theorem dX11_graft_84 : decode cX11_graft 84 = .ok (.getfield 85, 3) := by decide +kernel
theorem dX11_graft_87 : decode cX11_graft 87 = .ok (.getfield 297, 3) := by decide +kernel
theorem dX11_graft_90 : decode cX11_graft 90 = .ok (.iload_n 1, 1) := by decide +kernel
theorem dX11_graft_91 : decode cX11_graft 91 = .ok (.iaload, 1) := by decide +kernel
theorem dX11_graft_92 : decode cX11_graft 92 = .ok (.isub, 1) := by decide +kernel
theorem dX11_graft_93 : decode cX11_graft 93 = .ok (.istore_n 3, 1) := by decide +kernel
theorem dX11_graft_94 : decode cX11_graft 94 = .ok (.aload_n 0, 1) := by decide +kernel
theorem dX11_graft_95 : decode cX11_graft 95 = .ok (.getfield 85, 3) := by decide +kernel
theorem dX11_graft_98 : decode cX11_graft 98 = .ok (.getfield 337, 3) := by decide +kernel
theorem dX11_graft_101 : decode cX11_graft 101 = .ok (.iload_n 1, 1) := by decide +kernel
theorem dX11_graft_102 : decode cX11_graft 102 = .ok (.iaload, 1) := by decide +kernel
theorem dX11_graft_103 : decode cX11_graft 103 = .ok (.istore 4, 2) := by decide +kernel
theorem dX11_graft_105 : decode cX11_graft 105 = .ok (.aload_n 0, 1) := by decide +kernel
theorem dX11_graft_106 : decode cX11_graft 106 = .ok (.getfield 40, 3) := by decide +kernel
theorem dX11_graft_109 : decode cX11_graft 109 = .ok (.aload_n 0, 1) := by decide +kernel
theorem dX11_graft_110 : decode cX11_graft 110 = .ok (.getfield 26, 3) := by decide +kernel
theorem dX11_graft_113 : decode cX11_graft 113 = .ok (.aload_n 0, 1) := by decide +kernel
theorem dX11_graft_114 : decode cX11_graft 114 = .ok (.getfield 75, 3) := by decide +kernel
theorem dX11_graft_117 : decode cX11_graft 117 = .ok (.aload_n 0, 1) := by decide +kernel
theorem dX11_graft_118 : decode cX11_graft 118 = .ok (.getfield 89, 3) := by decide +kernel
theorem dX11_graft_121 : decode cX11_graft 121 = .ok (.aload_n 0, 1) := by decide +kernel
theorem dX11_graft_122 : decode cX11_graft 122 = .ok (.getfield 85, 3) := by decide +kernel
theorem dX11_graft_125 : decode cX11_graft 125 = .ok (.getfield 292, 3) := by decide +kernel
theorem dX11_graft_128 : decode cX11_graft 128 = .ok (.iload_n 1, 1) := by decide +kernel
theorem dX11_graft_129 : decode cX11_graft 129 = .ok (.iaload, 1) := by decide +kernel
theorem dX11_graft_130 : decode cX11_graft 130 = .ok (.aload_n 0, 1) := by decide +kernel
theorem dX11_graft_131 : decode cX11_graft 131 = .ok (.getfield 85, 3) := by decide +kernel
theorem dX11_graft_134 : decode cX11_graft 134 = .ok (.getfield 367, 3) := by decide +kernel
theorem dX11_graft_137 : decode cX11_graft 137 = .ok (.iload_n 1, 1) := by decide +kernel
theorem dX11_graft_138 : decode cX11_graft 138 = .ok (.iaload, 1) := by decide +kernel
theorem dX11_graft_139 : decode cX11_graft 139 = .ok (.iload 4, 2) := by decide +kernel
theorem dX11_graft_141 : decode cX11_graft 141 = .ok (.iload_n 3, 1) := by decide +kernel
theorem dX11_graft_142 : decode cX11_graft 142 = .ok (.invokevirtual 265, 3) := by decide +kernel
theorem dX11_graft_145 : decode cX11_graft 145 = .ok (.istore 5, 2) := by decide +kernel
theorem dX11_graft_147 : decode cX11_graft 147 = .ok (.aload_n 0, 1) := by decide +kernel
theorem dX11_graft_148 : decode cX11_graft 148 = .ok (.iload 5, 2) := by decide +kernel
theorem dX11_graft_150 : decode cX11_graft 150 = .ok (.invokevirtual 124, 3) := by decide +kernel
theorem dX11_graft_153 : decode cX11_graft 153 = .ok (.iload 5, 2) := by decide +kernel
theorem dX11_graft_155 : decode cX11_graft 155 = .ok (.ifCond .ne 10, 3) := by decide +kernel
theorem dX11_graft_158 : decode cX11_graft 158 = .ok (.aload_n 0, 1) := by decide +kernel
theorem dX11_graft_159 : decode cX11_graft 159 = .ok (.bipush 9, 2) := by decide +kernel
theorem dX11_graft_161 : decode cX11_graft 161 = .ok (.invokevirtual 113, 3) := by decide +kernel
theorem dX11_graft_164 : decode cX11_graft 164 = .ok (.ireturn, 1) := by decide +kernel
theorem dX11_graft_165 : decode cX11_graft 165 = .ok (.aload_n 0, 1) := by decide +kernel
theorem dX11_graft_166 : decode cX11_graft 166 = .ok (.getfield 89, 3) := by decide +kernel
theorem dX11_graft_169 : decode cX11_graft 169 = .ok (.getfield 150, 3) := by decide +kernel
theorem dX11_graft_172 : decode cX11_graft 172 = .ok (.iload_n 1, 1) := by decide +kernel
theorem dX11_graft_173 : decode cX11_graft 173 = .ok (.isub, 1) := by decide +kernel
theorem dX11_graft_174 : decode cX11_graft 174 = .ok (.istore 6, 2) := by decide +kernel
theorem dX11_graft_176 : decode cX11_graft 176 = .ok (.aload_n 0, 1) := by decide +kernel
theorem dX11_graft_177 : decode cX11_graft 177 = .ok (.getfield 89, 3) := by decide +kernel
theorem dX11_graft_180 : decode cX11_graft 180 = .ok (.aload_n 0, 1) := by decide +kernel
theorem dX11_graft_181 : decode cX11_graft 181 = .ok (.getfield 75, 3) := by decide +kernel
theorem dX11_graft_184 : decode cX11_graft 184 = .ok (.aload_n 0, 1) := by decide +kernel
theorem dX11_graft_185 : decode cX11_graft 185 = .ok (.getfield 85, 3) := by decide +kernel
theorem dX11_graft_188 : decode cX11_graft 188 = .ok (.iload_n 1, 1) := by decide +kernel
theorem dX11_graft_189 : decode cX11_graft 189 = .ok (.iload 6, 2) := by decide +kernel
theorem dX11_graft_191 : decode cX11_graft 191 = .ok (.invokevirtual 370, 3) := by decide +kernel
theorem dX11_graft_194 : decode cX11_graft 194 = .ok (.aload_n 0, 1) := by decide +kernel
theorem dX11_graft_195 : decode cX11_graft 195 = .ok (.getfield 89, 3) := by decide +kernel
theorem dX11_graft_198 : decode cX11_graft 198 = .ok (.aload_n 0, 1) := by decide +kernel
theorem dX11_graft_199 : decode cX11_graft 199 = .ok (.getfield 75, 3) := by decide +kernel
theorem dX11_graft_202 : decode cX11_graft 202 = .ok (.invokevirtual 268, 3) := by decide +kernel
theorem dX11_graft_205 : decode cX11_graft 205 = .ok (.aload_n 0, 1) := by decide +kernel
theorem dX11_graft_206 : decode cX11_graft 206 = .ok (.getfield 68, 3) := by decide +kernel
theorem dX11_graft_209 : decode cX11_graft 209 = .ok (.aload_n 0, 1) := by decide +kernel
theorem dX11_graft_210 : decode cX11_graft 210 = .ok (.getfield 85, 3) := by decide +kernel
theorem dX11_graft_213 : decode cX11_graft 213 = .ok (.getfield 150, 3) := by decide +kernel
theorem dX11_graft_216 : decode cX11_graft 216 = .ok (.iload_n 1, 1) := by decide +kernel
theorem dX11_graft_217 : decode cX11_graft 217 = .ok (.aload_n 0, 1) := by decide +kernel
theorem dX11_graft_218 : decode cX11_graft 218 = .ok (.getfield 85, 3) := by decide +kernel
theorem dX11_graft_221 : decode cX11_graft 221 = .ok (.getfield 297, 3) := by decide +kernel
theorem dX11_graft_224 : decode cX11_graft 224 = .ok (.iload_n 1, 1) := by decide +kernel
theorem dX11_graft_225 : decode cX11_graft 225 = .ok (.iaload, 1) := by decide +kernel
theorem dX11_graft_226 : decode cX11_graft 226 = .ok (.iload 6, 2) := by decide +kernel
theorem dX11_graft_228 : decode cX11_graft 228 = .ok (.invokevirtual 374, 3) := by decide +kernel
theorem dX11_graft_231 : decode cX11_graft 231 = .ok (.aload_n 0, 1) := by decide +kernel
theorem dX11_graft_232 : decode cX11_graft 232 = .ok (.getfield 68, 3) := by decide +kernel
theorem dX11_graft_235 : decode cX11_graft 235 = .ok (.aload_n 0, 1) := by decide +kernel
theorem dX11_graft_236 : decode cX11_graft 236 = .ok (.getfield 85, 3) := by decide +kernel
theorem dX11_graft_239 : decode cX11_graft 239 = .ok (.aload_n 0, 1) := by decide +kernel
theorem dX11_graft_240 : decode cX11_graft 240 = .ok (.getfield 89, 3) := by decide +kernel
theorem dX11_graft_243 : decode cX11_graft 243 = .ok (.aload_n 0, 1) := by decide +kernel
theorem dX11_graft_244 : decode cX11_graft 244 = .ok (.getfield 95, 3) := by decide +kernel
theorem dX11_graft_247 : decode cX11_graft 247 = .ok (.getfield 160, 3) := by decide +kernel
theorem dX11_graft_250 : decode cX11_graft 250 = .ok (.invokevirtual 378, 3) := by decide +kernel
theorem dX11_graft_253 : decode cX11_graft 253 = .ok (.aload_n 0, 1) := by decide +kernel
theorem dX11_graft_254 : decode cX11_graft 254 = .ok (.invokevirtual 271, 3) := by decide +kernel
theorem dX11_graft_257 : decode cX11_graft 257 = .ok (.aload_n 0, 1) := by decide +kernel
theorem dX11_graft_258 : decode cX11_graft 258 = .ok (.invokevirtual 354, 3) := by decide +kernel
theorem dX11_graft_261 : decode cX11_graft 261 = .ok (.aload_n 0, 1) := by decide +kernel
theorem dX11_graft_262 : decode cX11_graft 262 = .ok (.aload_n 0, 1) := by decide +kernel
theorem dX11_graft_263 : decode cX11_graft 263 = .ok (.getfield 85, 3) := by decide +kernel
theorem dX11_graft_266 : decode cX11_graft 266 = .ok (.getfield 150, 3) := by decide +kernel
theorem dX11_graft_269 : decode cX11_graft 269 = .ok (.invokevirtual 147, 3) := by decide +kernel
theorem dX11_graft_272 : decode cX11_graft 272 = .ok (.ireturn, 1) := by decide +kernel
theorem dX11_anew_0 : decode cX11_anew 0 = .ok (.iload_n 1, 1) := by decide +kernel
theorem dX11_anew_1 : decode cX11_anew 1 = .ok (.ifCond .lt 8, 3) := by decide +kernel
theorem dX11_anew_4 : decode cX11_anew 4 = .ok (.iload_n 1, 1) := by decide +kernel
theorem dX11_anew_5 : decode cX11_anew 5 = .ok (.iconst 1, 1) := by decide +kernel
theorem dX11_anew_6 : decode cX11_anew 6 = .ok (.if_icmp .le 9, 3) := by decide +kernel
theorem dX11_anew_9 : decode cX11_anew 9 = .ok (.aload_n 0, 1) := by decide +kernel
theorem dX11_anew_10 : decode cX11_anew 10 = .ok (.iconst 1, 1) := by decide +kernel
theorem dX11_anew_11 : decode cX11_anew 11 = .ok (.invokevirtual 113, 3) := by decide +kernel
theorem dX11_anew_14 : decode cX11_anew 14 = .ok (.ireturn, 1) := by decide +kernel
theorem dX11_anew_15 : decode cX11_anew 15 = .ok (.aload_n 0, 1) := by decide +kernel
theorem dX11_anew_16 : decode cX11_anew 16 = .ok (.getfield 85, 3) := by decide +kernel
theorem dX11_anew_19 : decode cX11_anew 19 = .ok (.getfield 150, 3) := by decide +kernel
theorem dX11_anew_22 : decode cX11_anew 22 = .ok (.ifCond .ne 9, 3) := by decide +kernel
theorem dX11_anew_25 : decode cX11_anew 25 = .ok (.aload_n 0, 1) := by decide +kernel
theorem dX11_anew_26 : decode cX11_anew 26 = .ok (.iconst 3, 1) := by decide +kernel
theorem dX11_anew_27 : decode cX11_anew 27 = .ok (.invokevirtual 113, 3) := by decide +kernel
theorem dX11_anew_30 : decode cX11_anew 30 = .ok (.ireturn, 1) := by decide +kernel
theorem dX11_anew_31 : decode cX11_anew 31 = .ok (.aload_n 0, 1) := by decide +kernel
theorem dX11_anew_32 : decode cX11_anew 32 = .ok (.getfield 19, 3) := by decide +kernel
theorem dX11_anew_35 : decode cX11_anew 35 = .ok (.ifCond .ne 10, 3) := by decide +kernel
theorem dX11_anew_38 : decode cX11_anew 38 = .ok (.aload_n 0, 1) := by decide +kernel
theorem dX11_anew_39 : decode cX11_anew 39 = .ok (.bipush 7, 2) := by decide +kernel
theorem dX11_anew_41 : decode cX11_anew 41 = .ok (.invokevirtual 113, 3) := by decide +kernel
theorem dX11_anew_44 : decode cX11_anew 44 = .ok (.ireturn, 1) := by decide +kernel
theorem dX11_anew_45 : decode cX11_anew 45 = .ok (.aload_n 0, 1) := by decide +kernel
theorem dX11_anew_46 : decode cX11_anew 46 = .ok (.iload_n 1, 1) := by decide +kernel
theorem dX11_anew_47 : decode cX11_anew 47 = .ok (.ifCond .ne 13, 3) := by decide +kernel
theorem dX11_anew_50 : decode cX11_anew 50 = .ok (.aload_n 0, 1) := by decide +kernel
theorem dX11_anew_51 : decode cX11_anew 51 = .ok (.getfield 68, 3) := by decide +kernel
theorem dX11_anew_54 : decode cX11_anew 54 = .ok (.getfield 382, 3) := by decide +kernel
theorem dX11_anew_57 : decode cX11_anew 57 = .ok (.goto 10, 3) := by decide +kernel
theorem dX11_anew_60 : decode cX11_anew 60 = .ok (.aload_n 0, 1) := by decide +kernel
theorem dX11_anew_61 : decode cX11_anew 61 = .ok (.getfield 68, 3) := by decide +kernel
theorem dX11_anew_64 : decode cX11_anew 64 = .ok (.getfield 385, 3) := by decide +kernel
theorem dX11_anew_67 : decode cX11_anew 67 = .ok (.invokevirtual 147, 3) := by decide +kernel
theorem dX11_anew_70 : decode cX11_anew 70 = .ok (.ireturn, 1) := by decide +kernel
theorem dX11_digest_0 : decode cX11_digest 0 = .ok (.aload_n 0, 1) := by decide +kernel
theorem dX11_digest_1 : decode cX11_digest 1 = .ok (.getfield 85, 3) := by decide +kernel
theorem dX11_digest_4 : decode cX11_digest 4 = .ok (.getfield 150, 3) := by decide +kernel
theorem dX11_digest_7 : decode cX11_digest 7 = .ok (.ifCond .ne 9, 3) := by decide +kernel
theorem dX11_digest_10 : decode cX11_digest 10 = .ok (.aload_n 0, 1) := by decide +kernel
theorem dX11_digest_11 : decode cX11_digest 11 = .ok (.iconst 3, 1) := by decide +kernel
theorem dX11_digest_12 : decode cX11_digest 12 = .ok (.invokevirtual 113, 3) := by decide +kernel
theorem dX11_digest_15 : decode cX11_digest 15 = .ok (.ireturn, 1) := by decide +kernel
theorem dX11_digest_16 : decode cX11_digest 16 = .ok (.bipush 17, 2) := by decide +kernel
theorem dX11_digest_18 : decode cX11_digest 18 = .ok (.istore_n 1, 1) := by decide +kernel
theorem dX11_digest_19 : decode cX11_digest 19 = .ok (.iconst 0, 1) := by decide +kernel
theorem dX11_digest_20 : decode cX11_digest 20 = .ok (.istore_n 2, 1) := by decide +kernel
theorem dX11_digest_21 : decode cX11_digest 21 = .ok (.iload_n 2, 1) := by decide +kernel
theorem dX11_digest_22 : decode cX11_digest 22 = .ok (.bipush 8, 2) := by decide +kernel
theorem dX11_digest_24 : decode cX11_digest 24 = .ok (.aload_n 0, 1) := by decide +kernel
theorem dX11_digest_25 : decode cX11_digest 25 = .ok (.getfield 85, 3) := by decide +kernel
theorem dX11_digest_28 : decode cX11_digest 28 = .ok (.getfield 150, 3) := by decide +kernel
theorem dX11_digest_31 : decode cX11_digest 31 = .ok (.imul, 1) := by decide +kernel
theorem dX11_digest_32 : decode cX11_digest 32 = .ok (.if_icmp .ge 42, 3) := by decide +kernel
theorem dX11_digest_35 : decode cX11_digest 35 = .ok (.aload_n 0, 1) := by decide +kernel
theorem dX11_digest_36 : decode cX11_digest 36 = .ok (.getfield 85, 3) := by decide +kernel
theorem dX11_digest_39 : decode cX11_digest 39 = .ok (.iload_n 2, 1) := by decide +kernel
theorem dX11_digest_40 : decode cX11_digest 40 = .ok (.bipush 8, 2) := by decide +kernel
theorem dX11_digest_42 : decode cX11_digest 42 = .ok (.idiv, 1) := by decide +kernel
theorem dX11_digest_43 : decode cX11_digest 43 = .ok (.iload_n 2, 1) := by decide +kernel
theorem dX11_digest_44 : decode cX11_digest 44 = .ok (.bipush 8, 2) := by decide +kernel
theorem dX11_digest_46 : decode cX11_digest 46 = .ok (.irem, 1) := by decide +kernel
theorem dX11_digest_47 : decode cX11_digest 47 = .ok (.invokevirtual 388, 3) := by decide +kernel
theorem dX11_digest_50 : decode cX11_digest 50 = .ok (.ifCond .eq 18, 3) := by decide +kernel
theorem dX11_digest_53 : decode cX11_digest 53 = .ok (.bipush 31, 2) := by decide +kernel
theorem dX11_digest_55 : decode cX11_digest 55 = .ok (.iload_n 1, 1) := by decide +kernel
theorem dX11_digest_56 : decode cX11_digest 56 = .ok (.imul, 1) := by decide +kernel
theorem dX11_digest_57 : decode cX11_digest 57 = .ok (.aload_n 0, 1) := by decide +kernel
theorem dX11_digest_58 : decode cX11_digest 58 = .ok (.getfield 95, 3) := by decide +kernel
theorem dX11_digest_61 : decode cX11_digest 61 = .ok (.getfield 309, 3) := by decide +kernel
theorem dX11_digest_64 : decode cX11_digest 64 = .ok (.iload_n 2, 1) := by decide +kernel
theorem dX11_digest_65 : decode cX11_digest 65 = .ok (.iaload, 1) := by decide +kernel
theorem dX11_digest_66 : decode cX11_digest 66 = .ok (.iadd, 1) := by decide +kernel
theorem dX11_digest_67 : decode cX11_digest 67 = .ok (.istore_n 1, 1) := by decide +kernel
theorem dX11_digest_68 : decode cX11_digest 68 = .ok (.iinc 2 1, 3) := by decide +kernel
theorem dX11_digest_71 : decode cX11_digest 71 = .ok (.goto (-50), 3) := by decide +kernel
theorem dX11_digest_74 : decode cX11_digest 74 = .ok (.aload_n 0, 1) := by decide +kernel
theorem dX11_digest_75 : decode cX11_digest 75 = .ok (.iload_n 1, 1) := by decide +kernel
theorem dX11_digest_76 : decode cX11_digest 76 = .ok (.invokevirtual 147, 3) := by decide +kernel
theorem dX11_digest_79 : decode cX11_digest 79 = .ok (.ireturn, 1) := by decide +kernel
theorem dX11_refuse_0 : decode cX11_refuse 0 = .ok (.aload_n 0, 1) := by decide +kernel
theorem dX11_refuse_1 : decode cX11_refuse 1 = .ok (.iload_n 1, 1) := by decide +kernel
theorem dX11_refuse_2 : decode cX11_refuse 2 = .ok (.putfield 9, 3) := by decide +kernel
theorem dX11_refuse_5 : decode cX11_refuse 5 = .ok (.iconst (-1), 1) := by decide +kernel
theorem dX11_refuse_6 : decode cX11_refuse 6 = .ok (.ireturn, 1) := by decide +kernel
theorem dX11_answer_0 : decode cX11_answer 0 = .ok (.aload_n 0, 1) := by decide +kernel
theorem dX11_answer_1 : decode cX11_answer 1 = .ok (.iconst 0, 1) := by decide +kernel
theorem dX11_answer_2 : decode cX11_answer 2 = .ok (.putfield 9, 3) := by decide +kernel
theorem dX11_answer_5 : decode cX11_answer 5 = .ok (.iload_n 1, 1) := by decide +kernel
theorem dX11_answer_6 : decode cX11_answer 6 = .ok (.ireturn, 1) := by decide +kernel
theorem dX11_keepFault_0 : decode cX11_keepFault 0 = .ok (.aload_n 0, 1) := by decide +kernel
theorem dX11_keepFault_1 : decode cX11_keepFault 1 = .ok (.iload_n 1, 1) := by decide +kernel
theorem dX11_keepFault_2 : decode cX11_keepFault 2 = .ok (.ifCond .eq 7, 3) := by decide +kernel
theorem dX11_keepFault_5 : decode cX11_keepFault 5 = .ok (.iconst 0, 1) := by decide +kernel
theorem dX11_keepFault_6 : decode cX11_keepFault 6 = .ok (.goto 10, 3) := by decide +kernel
theorem dX11_keepFault_9 : decode cX11_keepFault 9 = .ok (.aload_n 0, 1) := by decide +kernel
theorem dX11_keepFault_10 : decode cX11_keepFault 10 = .ok (.getfield 26, 3) := by decide +kernel
theorem dX11_keepFault_13 : decode cX11_keepFault 13 = .ok (.getfield 391, 3) := by decide +kernel
theorem dX11_keepFault_16 : decode cX11_keepFault 16 = .ok (.putfield 13, 3) := by decide +kernel
theorem dX11_keepFault_19 : decode cX11_keepFault 19 = .ok (.aload_n 0, 1) := by decide +kernel
theorem dX11_keepFault_20 : decode cX11_keepFault 20 = .ok (.iload_n 1, 1) := by decide +kernel
theorem dX11_keepFault_21 : decode cX11_keepFault 21 = .ok (.ifCond .eq 7, 3) := by decide +kernel
theorem dX11_keepFault_24 : decode cX11_keepFault 24 = .ok (.iconst (-1), 1) := by decide +kernel
theorem dX11_keepFault_25 : decode cX11_keepFault 25 = .ok (.goto 10, 3) := by decide +kernel
theorem dX11_keepFault_28 : decode cX11_keepFault 28 = .ok (.aload_n 0, 1) := by decide +kernel
theorem dX11_keepFault_29 : decode cX11_keepFault 29 = .ok (.getfield 26, 3) := by decide +kernel
theorem dX11_keepFault_32 : decode cX11_keepFault 32 = .ok (.getfield 394, 3) := by decide +kernel
theorem dX11_keepFault_35 : decode cX11_keepFault 35 = .ok (.putfield 16, 3) := by decide +kernel
theorem dX11_keepFault_38 : decode cX11_keepFault 38 = .ok (.return_, 1) := by decide +kernel
theorem dX11_noInstance_0 : decode cX11_noInstance 0 = .ok (.aload_n 0, 1) := by decide +kernel
theorem dX11_noInstance_1 : decode cX11_noInstance 1 = .ok (.getfield 85, 3) := by decide +kernel
theorem dX11_noInstance_4 : decode cX11_noInstance 4 = .ok (.getfield 150, 3) := by decide +kernel
theorem dX11_noInstance_7 : decode cX11_noInstance 7 = .ok (.ifCond .ne 5, 3) := by decide +kernel
theorem dX11_noInstance_10 : decode cX11_noInstance 10 = .ok (.iconst 3, 1) := by decide +kernel
theorem dX11_noInstance_11 : decode cX11_noInstance 11 = .ok (.ireturn, 1) := by decide +kernel
theorem dX11_noInstance_12 : decode cX11_noInstance 12 = .ok (.aload_n 0, 1) := by decide +kernel
theorem dX11_noInstance_13 : decode cX11_noInstance 13 = .ok (.getfield 85, 3) := by decide +kernel
theorem dX11_noInstance_16 : decode cX11_noInstance 16 = .ok (.iload_n 1, 1) := by decide +kernel
theorem dX11_noInstance_17 : decode cX11_noInstance 17 = .ok (.invokevirtual 283, 3) := by decide +kernel
theorem dX11_noInstance_20 : decode cX11_noInstance 20 = .ok (.ifCond .eq 19, 3) := by decide +kernel
theorem dX11_noInstance_23 : decode cX11_noInstance 23 = .ok (.aload_n 0, 1) := by decide +kernel
theorem dX11_noInstance_24 : decode cX11_noInstance 24 = .ok (.getfield 85, 3) := by decide +kernel
theorem dX11_noInstance_27 : decode cX11_noInstance 27 = .ok (.iload_n 1, 1) := by decide +kernel
theorem dX11_noInstance_28 : decode cX11_noInstance 28 = .ok (.iload_n 2, 1) := by decide +kernel
theorem dX11_noInstance_29 : decode cX11_noInstance 29 = .ok (.invokevirtual 388, 3) := by decide +kernel
theorem dX11_noInstance_32 : decode cX11_noInstance 32 = .ok (.ifCond .eq 7, 3) := by decide +kernel
theorem dX11_noInstance_35 : decode cX11_noInstance 35 = .ok (.iconst 0, 1) := by decide +kernel
theorem dX11_noInstance_36 : decode cX11_noInstance 36 = .ok (.goto 4, 3) := by decide +kernel
theorem dX11_noInstance_39 : decode cX11_noInstance 39 = .ok (.iconst 4, 1) := by decide +kernel
theorem dX11_noInstance_40 : decode cX11_noInstance 40 = .ok (.ireturn, 1) := by decide +kernel
theorem dX11_swapRules_0 : decode cX11_swapRules 0 = .ok (.aload_n 0, 1) := by decide +kernel
theorem dX11_swapRules_1 : decode cX11_swapRules 1 = .ok (.getfield 79, 3) := by decide +kernel
theorem dX11_swapRules_4 : decode cX11_swapRules 4 = .ok (.astore_n 1, 1) := by decide +kernel
theorem dX11_swapRules_5 : decode cX11_swapRules 5 = .ok (.aload_n 0, 1) := by decide +kernel
theorem dX11_swapRules_6 : decode cX11_swapRules 6 = .ok (.aload_n 0, 1) := by decide +kernel
theorem dX11_swapRules_7 : decode cX11_swapRules 7 = .ok (.getfield 75, 3) := by decide +kernel
theorem dX11_swapRules_10 : decode cX11_swapRules 10 = .ok (.putfield 79, 3) := by decide +kernel
theorem dX11_swapRules_13 : decode cX11_swapRules 13 = .ok (.aload_n 0, 1) := by decide +kernel
theorem dX11_swapRules_14 : decode cX11_swapRules 14 = .ok (.aload_n 1, 1) := by decide +kernel
theorem dX11_swapRules_15 : decode cX11_swapRules 15 = .ok (.putfield 75, 3) := by decide +kernel
theorem dX11_swapRules_18 : decode cX11_swapRules 18 = .ok (.return_, 1) := by decide +kernel
theorem dX11_swapWood_0 : decode cX11_swapWood 0 = .ok (.aload_n 0, 1) := by decide +kernel
theorem dX11_swapWood_1 : decode cX11_swapWood 1 = .ok (.getfield 89, 3) := by decide +kernel
theorem dX11_swapWood_4 : decode cX11_swapWood 4 = .ok (.astore_n 1, 1) := by decide +kernel
theorem dX11_swapWood_5 : decode cX11_swapWood 5 = .ok (.aload_n 0, 1) := by decide +kernel
theorem dX11_swapWood_6 : decode cX11_swapWood 6 = .ok (.aload_n 0, 1) := by decide +kernel
theorem dX11_swapWood_7 : decode cX11_swapWood 7 = .ok (.getfield 85, 3) := by decide +kernel
theorem dX11_swapWood_10 : decode cX11_swapWood 10 = .ok (.putfield 89, 3) := by decide +kernel
theorem dX11_swapWood_13 : decode cX11_swapWood 13 = .ok (.aload_n 0, 1) := by decide +kernel
theorem dX11_swapWood_14 : decode cX11_swapWood 14 = .ok (.aload_n 1, 1) := by decide +kernel
theorem dX11_swapWood_15 : decode cX11_swapWood 15 = .ok (.putfield 85, 3) := by decide +kernel
theorem dX11_swapWood_18 : decode cX11_swapWood 18 = .ok (.return_, 1) := by decide +kernel
theorem dX11_clearFlags_0 : decode cX11_clearFlags 0 = .ok (.iconst 0, 1) := by decide +kernel
theorem dX11_clearFlags_1 : decode cX11_clearFlags 1 = .ok (.istore_n 1, 1) := by decide +kernel
theorem dX11_clearFlags_2 : decode cX11_clearFlags 2 = .ok (.iload_n 1, 1) := by decide +kernel
theorem dX11_clearFlags_3 : decode cX11_clearFlags 3 = .ok (.aload_n 0, 1) := by decide +kernel
theorem dX11_clearFlags_4 : decode cX11_clearFlags 4 = .ok (.arraylength, 1) := by decide +kernel
theorem dX11_clearFlags_5 : decode cX11_clearFlags 5 = .ok (.if_icmp .ge 13, 3) := by decide +kernel
theorem dX11_clearFlags_8 : decode cX11_clearFlags 8 = .ok (.aload_n 0, 1) := by decide +kernel
theorem dX11_clearFlags_9 : decode cX11_clearFlags 9 = .ok (.iload_n 1, 1) := by decide +kernel
theorem dX11_clearFlags_10 : decode cX11_clearFlags 10 = .ok (.iconst 0, 1) := by decide +kernel
theorem dX11_clearFlags_11 : decode cX11_clearFlags 11 = .ok (.bastore, 1) := by decide +kernel
theorem dX11_clearFlags_12 : decode cX11_clearFlags 12 = .ok (.iinc 1 1, 3) := by decide +kernel
theorem dX11_clearFlags_15 : decode cX11_clearFlags 15 = .ok (.goto (-13), 3) := by decide +kernel
theorem dX11_clearFlags_18 : decode cX11_clearFlags 18 = .ok (.return_, 1) := by decide +kernel
theorem dX11_reckonAnew_0 : decode cX11_reckonAnew 0 = .ok (.aload_n 0, 1) := by decide +kernel
theorem dX11_reckonAnew_1 : decode cX11_reckonAnew 1 = .ok (.getfield 95, 3) := by decide +kernel
theorem dX11_reckonAnew_4 : decode cX11_reckonAnew 4 = .ok (.astore_n 1, 1) := by decide +kernel
theorem dX11_reckonAnew_5 : decode cX11_reckonAnew 5 = .ok (.aload_n 0, 1) := by decide +kernel
theorem dX11_reckonAnew_6 : decode cX11_reckonAnew 6 = .ok (.aload_n 0, 1) := by decide +kernel
theorem dX11_reckonAnew_7 : decode cX11_reckonAnew 7 = .ok (.getfield 99, 3) := by decide +kernel
theorem dX11_reckonAnew_10 : decode cX11_reckonAnew 10 = .ok (.putfield 95, 3) := by decide +kernel
theorem dX11_reckonAnew_13 : decode cX11_reckonAnew 13 = .ok (.aload_n 0, 1) := by decide +kernel
theorem dX11_reckonAnew_14 : decode cX11_reckonAnew 14 = .ok (.aload_n 1, 1) := by decide +kernel
theorem dX11_reckonAnew_15 : decode cX11_reckonAnew 15 = .ok (.putfield 99, 3) := by decide +kernel
theorem dX11_reckonAnew_18 : decode cX11_reckonAnew 18 = .ok (.aload_n 0, 1) := by decide +kernel
theorem dX11_reckonAnew_19 : decode cX11_reckonAnew 19 = .ok (.getfield 95, 3) := by decide +kernel
theorem dX11_reckonAnew_22 : decode cX11_reckonAnew 22 = .ok (.aload_n 0, 1) := by decide +kernel
theorem dX11_reckonAnew_23 : decode cX11_reckonAnew 23 = .ok (.getfield 75, 3) := by decide +kernel
theorem dX11_reckonAnew_26 : decode cX11_reckonAnew 26 = .ok (.aload_n 0, 1) := by decide +kernel
theorem dX11_reckonAnew_27 : decode cX11_reckonAnew 27 = .ok (.getfield 85, 3) := by decide +kernel
theorem dX11_reckonAnew_30 : decode cX11_reckonAnew 30 = .ok (.invokevirtual 274, 3) := by decide +kernel
theorem dX11_reckonAnew_33 : decode cX11_reckonAnew 33 = .ok (.aload_n 0, 1) := by decide +kernel
theorem dX11_reckonAnew_34 : decode cX11_reckonAnew 34 = .ok (.getfield 95, 3) := by decide +kernel
theorem dX11_reckonAnew_37 : decode cX11_reckonAnew 37 = .ok (.getfield 160, 3) := by decide +kernel
theorem dX11_reckonAnew_40 : decode cX11_reckonAnew 40 = .ok (.aload_n 0, 1) := by decide +kernel
theorem dX11_reckonAnew_41 : decode cX11_reckonAnew 41 = .ok (.getfield 85, 3) := by decide +kernel
theorem dX11_reckonAnew_44 : decode cX11_reckonAnew 44 = .ok (.invokevirtual 277, 3) := by decide +kernel
theorem dX11_reckonAnew_47 : decode cX11_reckonAnew 47 = .ok (.aload_n 0, 1) := by decide +kernel
theorem dX11_reckonAnew_48 : decode cX11_reckonAnew 48 = .ok (.getfield 68, 3) := by decide +kernel
theorem dX11_reckonAnew_51 : decode cX11_reckonAnew 51 = .ok (.aload_n 0, 1) := by decide +kernel
theorem dX11_reckonAnew_52 : decode cX11_reckonAnew 52 = .ok (.getfield 85, 3) := by decide +kernel
theorem dX11_reckonAnew_55 : decode cX11_reckonAnew 55 = .ok (.aload_n 0, 1) := by decide +kernel
theorem dX11_reckonAnew_56 : decode cX11_reckonAnew 56 = .ok (.getfield 95, 3) := by decide +kernel
theorem dX11_reckonAnew_59 : decode cX11_reckonAnew 59 = .ok (.aload_n 1, 1) := by decide +kernel
theorem dX11_reckonAnew_60 : decode cX11_reckonAnew 60 = .ok (.invokevirtual 396, 3) := by decide +kernel
theorem dX11_reckonAnew_63 : decode cX11_reckonAnew 63 = .ok (.aload_n 0, 1) := by decide +kernel
theorem dX11_reckonAnew_64 : decode cX11_reckonAnew 64 = .ok (.iconst 1, 1) := by decide +kernel
theorem dX11_reckonAnew_65 : decode cX11_reckonAnew 65 = .ok (.putfield 19, 3) := by decide +kernel
theorem dX11_reckonAnew_68 : decode cX11_reckonAnew 68 = .ok (.return_, 1) := by decide +kernel
