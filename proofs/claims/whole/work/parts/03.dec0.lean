theorem dX9_init_0 : decode cX9_init 0 = .ok (.aload_n 0, 1) := by decide +kernel
theorem dX9_init_1 : decode cX9_init 1 = .ok (.invokespecial 3, 3) := by decide +kernel
theorem dX9_init_4 : decode cX9_init 4 = .ok (.return_, 1) := by decide +kernel
theorem dX9_read_0 : decode cX9_read 0 = .ok (.aload_n 0, 1) := by decide +kernel
theorem dX9_read_1 : decode cX9_read 1 = .ok (.aload_n 1, 1) := by decide +kernel
theorem dX9_read_2 : decode cX9_read 2 = .ok (.putfield 9, 3) := by decide +kernel
theorem dX9_read_5 : decode cX9_read 5 = .ok (.aload_n 0, 1) := by decide +kernel
theorem dX9_read_6 : decode cX9_read 6 = .ok (.aload_n 2, 1) := by decide +kernel
theorem dX9_read_7 : decode cX9_read 7 = .ok (.putfield 15, 3) := by decide +kernel
theorem dX9_read_10 : decode cX9_read 10 = .ok (.aload_n 0, 1) := by decide +kernel
theorem dX9_read_11 : decode cX9_read 11 = .ok (.aload_n 3, 1) := by decide +kernel
theorem dX9_read_12 : decode cX9_read 12 = .ok (.putfield 19, 3) := by decide +kernel
theorem dX9_read_15 : decode cX9_read 15 = .ok (.aload_n 0, 1) := by decide +kernel
theorem dX9_read_16 : decode cX9_read 16 = .ok (.iload 7, 2) := by decide +kernel
theorem dX9_read_18 : decode cX9_read 18 = .ok (.putfield 23, 3) := by decide +kernel
theorem dX9_read_21 : decode cX9_read 21 = .ok (.aload_n 0, 1) := by decide +kernel
theorem dX9_read_22 : decode cX9_read 22 = .ok (.getfield 19, 3) := by decide +kernel
theorem dX9_read_25 : decode cX9_read 25 = .ok (.getfield 27, 3) := by decide +kernel
theorem dX9_read_28 : decode cX9_read 28 = .ok (.istore 8, 2) := by decide +kernel
theorem dX9_read_30 : decode cX9_read 30 = .ok (.aload_n 0, 1) := by decide +kernel
theorem dX9_read_31 : decode cX9_read 31 = .ok (.iload 4, 2) := by decide +kernel
theorem dX9_read_33 : decode cX9_read 33 = .ok (.iload 5, 2) := by decide +kernel
theorem dX9_read_35 : decode cX9_read 35 = .ok (.iload 6, 2) := by decide +kernel
theorem dX9_read_37 : decode cX9_read 37 = .ok (.invokevirtual 32, 3) := by decide +kernel
theorem dX9_read_40 : decode cX9_read 40 = .ok (.istore 9, 2) := by decide +kernel
theorem dX9_read_42 : decode cX9_read 42 = .ok (.iload 8, 2) := by decide +kernel
theorem dX9_read_44 : decode cX9_read 44 = .ok (.istore 10, 2) := by decide +kernel
theorem dX9_read_46 : decode cX9_read 46 = .ok (.iconst 0, 1) := by decide +kernel
theorem dX9_read_47 : decode cX9_read 47 = .ok (.istore 11, 2) := by decide +kernel
theorem dX9_read_49 : decode cX9_read 49 = .ok (.iload 11, 2) := by decide +kernel
theorem dX9_read_51 : decode cX9_read 51 = .ok (.bipush 40, 2) := by decide +kernel
theorem dX9_read_53 : decode cX9_read 53 = .ok (.if_icmp .gt 166, 3) := by decide +kernel
theorem dX9_read_56 : decode cX9_read 56 = .ok (.iload 9, 2) := by decide +kernel
theorem dX9_read_58 : decode cX9_read 58 = .ok (.ifCond .eq 161, 3) := by decide +kernel
theorem dX9_read_61 : decode cX9_read 61 = .ok (.aload_n 0, 1) := by decide +kernel
theorem dX9_read_62 : decode cX9_read 62 = .ok (.getfield 19, 3) := by decide +kernel
theorem dX9_read_65 : decode cX9_read 65 = .ok (.getfield 36, 3) := by decide +kernel
theorem dX9_read_68 : decode cX9_read 68 = .ok (.iload 10, 2) := by decide +kernel
theorem dX9_read_70 : decode cX9_read 70 = .ok (.iaload, 1) := by decide +kernel
theorem dX9_read_71 : decode cX9_read 71 = .ok (.ifCond .le 7, 3) := by decide +kernel
theorem dX9_read_74 : decode cX9_read 74 = .ok (.iconst 1, 1) := by decide +kernel
theorem dX9_read_75 : decode cX9_read 75 = .ok (.goto 4, 3) := by decide +kernel
theorem dX9_read_78 : decode cX9_read 78 = .ok (.iconst 0, 1) := by decide +kernel
theorem dX9_read_79 : decode cX9_read 79 = .ok (.istore 12, 2) := by decide +kernel
theorem dX9_read_81 : decode cX9_read 81 = .ok (.iload 12, 2) := by decide +kernel
theorem dX9_read_83 : decode cX9_read 83 = .ok (.ifCond .eq 8, 3) := by decide +kernel
theorem dX9_read_86 : decode cX9_read 86 = .ok (.iload 10, 2) := by decide +kernel
theorem dX9_read_88 : decode cX9_read 88 = .ok (.goto 11, 3) := by decide +kernel
theorem dX9_read_91 : decode cX9_read 91 = .ok (.aload_n 0, 1) := by decide +kernel
theorem dX9_read_92 : decode cX9_read 92 = .ok (.iload 10, 2) := by decide +kernel
theorem dX9_read_94 : decode cX9_read 94 = .ok (.iload 8, 2) := by decide +kernel
theorem dX9_read_96 : decode cX9_read 96 = .ok (.invokevirtual 40, 3) := by decide +kernel
theorem dX9_read_99 : decode cX9_read 99 = .ok (.istore 10, 2) := by decide +kernel
theorem dX9_read_101 : decode cX9_read 101 = .ok (.iload 10, 2) := by decide +kernel
theorem dX9_read_103 : decode cX9_read 103 = .ok (.iload 8, 2) := by decide +kernel
theorem dX9_read_105 : decode cX9_read 105 = .ok (.if_icmp .ne 35, 3) := by decide +kernel
theorem dX9_read_108 : decode cX9_read 108 = .ok (.iload 12, 2) := by decide +kernel
theorem dX9_read_110 : decode cX9_read 110 = .ok (.ifCond .ne 30, 3) := by decide +kernel
theorem dX9_read_113 : decode cX9_read 113 = .ok (.aload_n 0, 1) := by decide +kernel
theorem dX9_read_114 : decode cX9_read 114 = .ok (.getfield 9, 3) := by decide +kernel
theorem dX9_read_117 : decode cX9_read 117 = .ok (.getfield 44, 3) := by decide +kernel
theorem dX9_read_120 : decode cX9_read 120 = .ok (.ifCond .eq 14, 3) := by decide +kernel
theorem dX9_read_123 : decode cX9_read 123 = .ok (.aload_n 0, 1) := by decide +kernel
theorem dX9_read_124 : decode cX9_read 124 = .ok (.getfield 9, 3) := by decide +kernel
theorem dX9_read_127 : decode cX9_read 127 = .ok (.iconst 2, 1) := by decide +kernel
theorem dX9_read_128 : decode cX9_read 128 = .ok (.invokevirtual 49, 3) := by decide +kernel
theorem dX9_read_131 : decode cX9_read 131 = .ok (.ifCond .eq 7, 3) := by decide +kernel
theorem dX9_read_134 : decode cX9_read 134 = .ok (.iconst 1, 1) := by decide +kernel
theorem dX9_read_135 : decode cX9_read 135 = .ok (.goto 4, 3) := by decide +kernel
theorem dX9_read_138 : decode cX9_read 138 = .ok (.iconst 0, 1) := by decide +kernel
theorem dX9_read_139 : decode cX9_read 139 = .ok (.ireturn, 1) := by decide +kernel
theorem dX9_read_140 : decode cX9_read 140 = .ok (.iload 10, 2) := by decide +kernel
theorem dX9_read_142 : decode cX9_read 142 = .ok (.iconst (-1), 1) := by decide +kernel
theorem dX9_read_143 : decode cX9_read 143 = .ok (.if_icmp .eq 56, 3) := by decide +kernel
theorem dX9_read_146 : decode cX9_read 146 = .ok (.aload_n 0, 1) := by decide +kernel
theorem dX9_read_147 : decode cX9_read 147 = .ok (.getfield 9, 3) := by decide +kernel
theorem dX9_read_150 : decode cX9_read 150 = .ok (.iload 12, 2) := by decide +kernel
theorem dX9_read_152 : decode cX9_read 152 = .ok (.ifCond .eq 8, 3) := by decide +kernel
theorem dX9_read_155 : decode cX9_read 155 = .ok (.bipush 40, 2) := by decide +kernel
theorem dX9_read_157 : decode cX9_read 157 = .ok (.goto 5, 3) := by decide +kernel
theorem dX9_read_160 : decode cX9_read 160 = .ok (.bipush 44, 2) := by decide +kernel
theorem dX9_read_162 : decode cX9_read 162 = .ok (.invokevirtual 53, 3) := by decide +kernel
theorem dX9_read_165 : decode cX9_read 165 = .ok (.ifCond .eq 34, 3) := by decide +kernel
theorem dX9_read_168 : decode cX9_read 168 = .ok (.iload 12, 2) := by decide +kernel
theorem dX9_read_170 : decode cX9_read 170 = .ok (.ifCond .eq 16, 3) := by decide +kernel
theorem dX9_read_173 : decode cX9_read 173 = .ok (.aload_n 0, 1) := by decide +kernel
theorem dX9_read_174 : decode cX9_read 174 = .ok (.iload 10, 2) := by decide +kernel
theorem dX9_read_176 : decode cX9_read 176 = .ok (.iconst 1, 1) := by decide +kernel
theorem dX9_read_177 : decode cX9_read 177 = .ok (.invokevirtual 56, 3) := by decide +kernel
theorem dX9_read_180 : decode cX9_read 180 = .ok (.ifCond .eq 19, 3) := by decide +kernel
theorem dX9_read_183 : decode cX9_read 183 = .ok (.goto 12, 3) := by decide +kernel
theorem dX9_read_186 : decode cX9_read 186 = .ok (.aload_n 0, 1) := by decide +kernel
theorem dX9_read_187 : decode cX9_read 187 = .ok (.iload 10, 2) := by decide +kernel
theorem dX9_read_189 : decode cX9_read 189 = .ok (.invokevirtual 60, 3) := by decide +kernel
theorem dX9_read_192 : decode cX9_read 192 = .ok (.ifCond .eq 7, 3) := by decide +kernel
theorem dX9_read_195 : decode cX9_read 195 = .ok (.iconst 1, 1) := by decide +kernel
theorem dX9_read_196 : decode cX9_read 196 = .ok (.goto 4, 3) := by decide +kernel
theorem dX9_read_199 : decode cX9_read 199 = .ok (.iconst 0, 1) := by decide +kernel
theorem dX9_read_200 : decode cX9_read 200 = .ok (.istore 9, 2) := by decide +kernel
theorem dX9_read_202 : decode cX9_read 202 = .ok (.aload_n 0, 1) := by decide +kernel
theorem dX9_read_203 : decode cX9_read 203 = .ok (.getfield 19, 3) := by decide +kernel
theorem dX9_read_206 : decode cX9_read 206 = .ok (.getfield 27, 3) := by decide +kernel
theorem dX9_read_209 : decode cX9_read 209 = .ok (.iconst 1, 1) := by decide +kernel
theorem dX9_read_210 : decode cX9_read 210 = .ok (.isub, 1) := by decide +kernel
theorem dX9_read_211 : decode cX9_read 211 = .ok (.istore 10, 2) := by decide +kernel
theorem dX9_read_213 : decode cX9_read 213 = .ok (.iinc 11 1, 3) := by decide +kernel
theorem dX9_read_216 : decode cX9_read 216 = .ok (.goto (-167), 3) := by decide +kernel
theorem dX9_read_219 : decode cX9_read 219 = .ok (.iconst 0, 1) := by decide +kernel
theorem dX9_read_220 : decode cX9_read 220 = .ok (.ireturn, 1) := by decide +kernel
theorem dX9_readNext_0 : decode cX9_readNext 0 = .ok (.aload_n 0, 1) := by decide +kernel
theorem dX9_readNext_1 : decode cX9_readNext 1 = .ok (.aload_n 0, 1) := by decide +kernel
theorem dX9_readNext_2 : decode cX9_readNext 2 = .ok (.getfield 19, 3) := by decide +kernel
theorem dX9_readNext_5 : decode cX9_readNext 5 = .ok (.getfield 63, 3) := by decide +kernel
theorem dX9_readNext_8 : decode cX9_readNext 8 = .ok (.iload_n 1, 1) := by decide +kernel
theorem dX9_readNext_9 : decode cX9_readNext 9 = .ok (.iaload, 1) := by decide +kernel
theorem dX9_readNext_10 : decode cX9_readNext 10 = .ok (.aload_n 0, 1) := by decide +kernel
theorem dX9_readNext_11 : decode cX9_readNext 11 = .ok (.getfield 19, 3) := by decide +kernel
theorem dX9_readNext_14 : decode cX9_readNext 14 = .ok (.getfield 66, 3) := by decide +kernel
theorem dX9_readNext_17 : decode cX9_readNext 17 = .ok (.iload_n 1, 1) := by decide +kernel
theorem dX9_readNext_18 : decode cX9_readNext 18 = .ok (.iaload, 1) := by decide +kernel
theorem dX9_readNext_19 : decode cX9_readNext 19 = .ok (.iconst 1, 1) := by decide +kernel
theorem dX9_readNext_20 : decode cX9_readNext 20 = .ok (.iadd, 1) := by decide +kernel
theorem dX9_readNext_21 : decode cX9_readNext 21 = .ok (.invokevirtual 56, 3) := by decide +kernel
theorem dX9_readNext_24 : decode cX9_readNext 24 = .ok (.ireturn, 1) := by decide +kernel
theorem dX9_readChild_0 : decode cX9_readChild 0 = .ok (.aload_n 0, 1) := by decide +kernel
theorem dX9_readChild_1 : decode cX9_readChild 1 = .ok (.iload_n 1, 1) := by decide +kernel
theorem dX9_readChild_2 : decode cX9_readChild 2 = .ok (.iload_n 2, 1) := by decide +kernel
theorem dX9_readChild_3 : decode cX9_readChild 3 = .ok (.aload_n 0, 1) := by decide +kernel
theorem dX9_readChild_4 : decode cX9_readChild 4 = .ok (.getfield 15, 3) := by decide +kernel
theorem dX9_readChild_7 : decode cX9_readChild 7 = .ok (.aload_n 0, 1) := by decide +kernel
theorem dX9_readChild_8 : decode cX9_readChild 8 = .ok (.getfield 19, 3) := by decide +kernel
theorem dX9_readChild_11 : decode cX9_readChild 11 = .ok (.getfield 69, 3) := by decide +kernel
theorem dX9_readChild_14 : decode cX9_readChild 14 = .ok (.iload_n 1, 1) := by decide +kernel
theorem dX9_readChild_15 : decode cX9_readChild 15 = .ok (.iaload, 1) := by decide +kernel
theorem dX9_readChild_16 : decode cX9_readChild 16 = .ok (.iload_n 2, 1) := by decide +kernel
theorem dX9_readChild_17 : decode cX9_readChild 17 = .ok (.invokevirtual 72, 3) := by decide +kernel
theorem dX9_readChild_20 : decode cX9_readChild 20 = .ok (.invokevirtual 32, 3) := by decide +kernel
theorem dX9_readChild_23 : decode cX9_readChild 23 = .ok (.ireturn, 1) := by decide +kernel
theorem dX9_readNode_0 : decode cX9_readNode 0 = .ok (.aload_n 0, 1) := by decide +kernel
theorem dX9_readNode_1 : decode cX9_readNode 1 = .ok (.getfield 9, 3) := by decide +kernel
theorem dX9_readNode_4 : decode cX9_readNode 4 = .ok (.invokevirtual 77, 3) := by decide +kernel
theorem dX9_readNode_7 : decode cX9_readNode 7 = .ok (.ifCond .ne 12, 3) := by decide +kernel
theorem dX9_readNode_10 : decode cX9_readNode 10 = .ok (.aload_n 0, 1) := by decide +kernel
theorem dX9_readNode_11 : decode cX9_readNode 11 = .ok (.getfield 9, 3) := by decide +kernel
theorem dX9_readNode_14 : decode cX9_readNode 14 = .ok (.iconst 2, 1) := by decide +kernel
theorem dX9_readNode_15 : decode cX9_readNode 15 = .ok (.invokevirtual 49, 3) := by decide +kernel
theorem dX9_readNode_18 : decode cX9_readNode 18 = .ok (.ireturn, 1) := by decide +kernel
theorem dX9_readNode_19 : decode cX9_readNode 19 = .ok (.aload_n 0, 1) := by decide +kernel
theorem dX9_readNode_20 : decode cX9_readNode 20 = .ok (.getfield 15, 3) := by decide +kernel
theorem dX9_readNode_23 : decode cX9_readNode 23 = .ok (.aload_n 0, 1) := by decide +kernel
theorem dX9_readNode_24 : decode cX9_readNode 24 = .ok (.getfield 9, 3) := by decide +kernel
theorem dX9_readNode_27 : decode cX9_readNode 27 = .ok (.getfield 81, 3) := by decide +kernel
theorem dX9_readNode_30 : decode cX9_readNode 30 = .ok (.invokevirtual 85, 3) := by decide +kernel
theorem dX9_readNode_33 : decode cX9_readNode 33 = .ok (.istore 4, 2) := by decide +kernel
theorem dX9_readNode_35 : decode cX9_readNode 35 = .ok (.iload 4, 2) := by decide +kernel
theorem dX9_readNode_37 : decode cX9_readNode 37 = .ok (.iconst (-1), 1) := by decide +kernel
theorem dX9_readNode_38 : decode cX9_readNode 38 = .ok (.if_icmp .ne 12, 3) := by decide +kernel
theorem dX9_readNode_41 : decode cX9_readNode 41 = .ok (.aload_n 0, 1) := by decide +kernel
theorem dX9_readNode_42 : decode cX9_readNode 42 = .ok (.getfield 9, 3) := by decide +kernel
theorem dX9_readNode_45 : decode cX9_readNode 45 = .ok (.iconst 3, 1) := by decide +kernel
theorem dX9_readNode_46 : decode cX9_readNode 46 = .ok (.invokevirtual 49, 3) := by decide +kernel
theorem dX9_readNode_49 : decode cX9_readNode 49 = .ok (.ireturn, 1) := by decide +kernel
theorem dX9_readNode_50 : decode cX9_readNode 50 = .ok (.iload_n 1, 1) := by decide +kernel
theorem dX9_readNode_51 : decode cX9_readNode 51 = .ok (.iconst (-1), 1) := by decide +kernel
theorem dX9_readNode_52 : decode cX9_readNode 52 = .ok (.if_icmp .eq 23, 3) := by decide +kernel
theorem dX9_readNode_55 : decode cX9_readNode 55 = .ok (.aload_n 0, 1) := by decide +kernel
theorem dX9_readNode_56 : decode cX9_readNode 56 = .ok (.getfield 19, 3) := by decide +kernel
theorem dX9_readNode_59 : decode cX9_readNode 59 = .ok (.getfield 89, 3) := by decide +kernel
theorem dX9_readNode_62 : decode cX9_readNode 62 = .ok (.iload_n 1, 1) := by decide +kernel
theorem dX9_readNode_63 : decode cX9_readNode 63 = .ok (.iaload, 1) := by decide +kernel
theorem dX9_readNode_64 : decode cX9_readNode 64 = .ok (.iconst 2, 1) := by decide +kernel
theorem dX9_readNode_65 : decode cX9_readNode 65 = .ok (.iadd, 1) := by decide +kernel
theorem dX9_readNode_66 : decode cX9_readNode 66 = .ok (.bipush 12, 2) := by decide +kernel
theorem dX9_readNode_68 : decode cX9_readNode 68 = .ok (.if_icmp .le 7, 3) := by decide +kernel
theorem dX9_readNode_71 : decode cX9_readNode 71 = .ok (.iconst 1, 1) := by decide +kernel
theorem dX9_readNode_72 : decode cX9_readNode 72 = .ok (.goto 4, 3) := by decide +kernel
theorem dX9_readNode_75 : decode cX9_readNode 75 = .ok (.iconst 0, 1) := by decide +kernel
theorem dX9_readNode_76 : decode cX9_readNode 76 = .ok (.istore 5, 2) := by decide +kernel
theorem dX9_readNode_78 : decode cX9_readNode 78 = .ok (.iload 5, 2) := by decide +kernel
theorem dX9_readNode_80 : decode cX9_readNode 80 = .ok (.ifCond .ne 20, 3) := by decide +kernel
theorem dX9_readNode_83 : decode cX9_readNode 83 = .ok (.aload_n 0, 1) := by decide +kernel
theorem dX9_readNode_84 : decode cX9_readNode 84 = .ok (.getfield 19, 3) := by decide +kernel
theorem dX9_readNode_87 : decode cX9_readNode 87 = .ok (.getfield 27, 3) := by decide +kernel
theorem dX9_readNode_90 : decode cX9_readNode 90 = .ok (.aload_n 0, 1) := by decide +kernel
theorem dX9_readNode_91 : decode cX9_readNode 91 = .ok (.getfield 23, 3) := by decide +kernel
theorem dX9_readNode_94 : decode cX9_readNode 94 = .ok (.iadd, 1) := by decide +kernel
theorem dX9_readNode_95 : decode cX9_readNode 95 = .ok (.bipush 40, 2) := by decide +kernel
theorem dX9_readNode_97 : decode cX9_readNode 97 = .ok (.if_icmp .lt 13, 3) := by decide +kernel
theorem dX9_readNode_100 : decode cX9_readNode 100 = .ok (.aload_n 0, 1) := by decide +kernel
theorem dX9_readNode_101 : decode cX9_readNode 101 = .ok (.getfield 9, 3) := by decide +kernel
theorem dX9_readNode_104 : decode cX9_readNode 104 = .ok (.bipush 6, 2) := by decide +kernel
theorem dX9_readNode_106 : decode cX9_readNode 106 = .ok (.invokevirtual 49, 3) := by decide +kernel
theorem dX9_readNode_109 : decode cX9_readNode 109 = .ok (.ireturn, 1) := by decide +kernel
theorem dX9_readNode_110 : decode cX9_readNode 110 = .ok (.iload_n 3, 1) := by decide +kernel
theorem dX9_readNode_111 : decode cX9_readNode 111 = .ok (.iconst (-1), 1) := by decide +kernel
theorem dX9_readNode_112 : decode cX9_readNode 112 = .ok (.if_icmp .eq 27, 3) := by decide +kernel
theorem dX9_readNode_115 : decode cX9_readNode 115 = .ok (.iload_n 3, 1) := by decide +kernel
theorem dX9_readNode_116 : decode cX9_readNode 116 = .ok (.aload_n 0, 1) := by decide +kernel
theorem dX9_readNode_117 : decode cX9_readNode 117 = .ok (.getfield 15, 3) := by decide +kernel
theorem dX9_readNode_120 : decode cX9_readNode 120 = .ok (.iload 4, 2) := by decide +kernel
theorem dX9_readNode_122 : decode cX9_readNode 122 = .ok (.iconst 0, 1) := by decide +kernel
theorem dX9_readNode_123 : decode cX9_readNode 123 = .ok (.invokevirtual 72, 3) := by decide +kernel
theorem dX9_readNode_126 : decode cX9_readNode 126 = .ok (.if_icmp .eq 13, 3) := by decide +kernel
theorem dX9_readNode_129 : decode cX9_readNode 129 = .ok (.aload_n 0, 1) := by decide +kernel
theorem dX9_readNode_130 : decode cX9_readNode 130 = .ok (.getfield 9, 3) := by decide +kernel
theorem dX9_readNode_133 : decode cX9_readNode 133 = .ok (.bipush 7, 2) := by decide +kernel
theorem dX9_readNode_135 : decode cX9_readNode 135 = .ok (.invokevirtual 49, 3) := by decide +kernel
theorem dX9_readNode_138 : decode cX9_readNode 138 = .ok (.ireturn, 1) := by decide +kernel
theorem dX9_readNode_139 : decode cX9_readNode 139 = .ok (.aload_n 0, 1) := by decide +kernel
theorem dX9_readNode_140 : decode cX9_readNode 140 = .ok (.getfield 9, 3) := by decide +kernel
theorem dX9_readNode_143 : decode cX9_readNode 143 = .ok (.invokevirtual 92, 3) := by decide +kernel
theorem dX9_readNode_146 : decode cX9_readNode 146 = .ok (.aload_n 0, 1) := by decide +kernel
theorem dX9_readNode_147 : decode cX9_readNode 147 = .ok (.getfield 9, 3) := by decide +kernel
theorem dX9_readNode_150 : decode cX9_readNode 150 = .ok (.getfield 44, 3) := by decide +kernel
theorem dX9_readNode_153 : decode cX9_readNode 153 = .ok (.iconst 2, 1) := by decide +kernel
theorem dX9_readNode_154 : decode cX9_readNode 154 = .ok (.if_icmp .ne 7, 3) := by decide +kernel
theorem dX9_readNode_157 : decode cX9_readNode 157 = .ok (.iconst 1, 1) := by decide +kernel
theorem dX9_readNode_158 : decode cX9_readNode 158 = .ok (.goto 4, 3) := by decide +kernel
theorem dX9_readNode_161 : decode cX9_readNode 161 = .ok (.iconst 0, 1) := by decide +kernel
theorem dX9_readNode_162 : decode cX9_readNode 162 = .ok (.istore 6, 2) := by decide +kernel
theorem dX9_readNode_164 : decode cX9_readNode 164 = .ok (.aload_n 0, 1) := by decide +kernel
theorem dX9_readNode_165 : decode cX9_readNode 165 = .ok (.getfield 19, 3) := by decide +kernel
theorem dX9_readNode_168 : decode cX9_readNode 168 = .ok (.aload_n 0, 1) := by decide +kernel
theorem dX9_readNode_169 : decode cX9_readNode 169 = .ok (.getfield 15, 3) := by decide +kernel
theorem dX9_readNode_172 : decode cX9_readNode 172 = .ok (.iload 4, 2) := by decide +kernel
theorem dX9_readNode_174 : decode cX9_readNode 174 = .ok (.iload 6, 2) := by decide +kernel
theorem dX9_readNode_176 : decode cX9_readNode 176 = .ok (.ifCond .eq 14, 3) := by decide +kernel
theorem dX9_readNode_179 : decode cX9_readNode 179 = .ok (.aload_n 0, 1) := by decide +kernel
theorem dX9_readNode_180 : decode cX9_readNode 180 = .ok (.getfield 9, 3) := by decide +kernel
theorem dX9_readNode_183 : decode cX9_readNode 183 = .ok (.getfield 81, 3) := by decide +kernel
theorem dX9_readNode_186 : decode cX9_readNode 186 = .ok (.l2i, 1) := by decide +kernel
theorem dX9_readNode_187 : decode cX9_readNode 187 = .ok (.goto 4, 3) := by decide +kernel
theorem dX9_readNode_190 : decode cX9_readNode 190 = .ok (.iconst 0, 1) := by decide +kernel
theorem dX9_readNode_191 : decode cX9_readNode 191 = .ok (.iload_n 1, 1) := by decide +kernel
theorem dX9_readNode_192 : decode cX9_readNode 192 = .ok (.iload_n 2, 1) := by decide +kernel
theorem dX9_readNode_193 : decode cX9_readNode 193 = .ok (.invokevirtual 95, 3) := by decide +kernel
theorem dX9_readNode_196 : decode cX9_readNode 196 = .ok (.iload 6, 2) := by decide +kernel
theorem dX9_readNode_198 : decode cX9_readNode 198 = .ok (.ifCond .eq 10, 3) := by decide +kernel
theorem dX9_readNode_201 : decode cX9_readNode 201 = .ok (.aload_n 0, 1) := by decide +kernel
theorem dX9_readNode_202 : decode cX9_readNode 202 = .ok (.getfield 9, 3) := by decide +kernel
theorem dX9_readNode_205 : decode cX9_readNode 205 = .ok (.invokevirtual 92, 3) := by decide +kernel
theorem dX9_readNode_208 : decode cX9_readNode 208 = .ok (.iconst 1, 1) := by decide +kernel
theorem dX9_readNode_209 : decode cX9_readNode 209 = .ok (.ireturn, 1) := by decide +kernel
theorem dX9_climb_0 : decode cX9_climb 0 = .ok (.iload_n 1, 1) := by decide +kernel
theorem dX9_climb_1 : decode cX9_climb 1 = .ok (.istore_n 3, 1) := by decide +kernel
theorem dX9_climb_2 : decode cX9_climb 2 = .ok (.iconst 0, 1) := by decide +kernel
theorem dX9_climb_3 : decode cX9_climb 3 = .ok (.istore 4, 2) := by decide +kernel
theorem dX9_climb_5 : decode cX9_climb 5 = .ok (.iload 4, 2) := by decide +kernel
theorem dX9_climb_7 : decode cX9_climb 7 = .ok (.bipush 12, 2) := by decide +kernel
theorem dX9_climb_9 : decode cX9_climb 9 = .ok (.if_icmp .gt 46, 3) := by decide +kernel
theorem dX9_climb_12 : decode cX9_climb 12 = .ok (.iload_n 3, 1) := by decide +kernel
theorem dX9_climb_13 : decode cX9_climb 13 = .ok (.iload_n 2, 1) := by decide +kernel
theorem dX9_climb_14 : decode cX9_climb 14 = .ok (.if_icmp .eq 41, 3) := by decide +kernel
theorem dX9_climb_17 : decode cX9_climb 17 = .ok (.aload_n 0, 1) := by decide +kernel
theorem dX9_climb_18 : decode cX9_climb 18 = .ok (.iload_n 3, 1) := by decide +kernel
theorem dX9_climb_19 : decode cX9_climb 19 = .ok (.invokevirtual 99, 3) := by decide +kernel
theorem dX9_climb_22 : decode cX9_climb 22 = .ok (.ifCond .eq 33, 3) := by decide +kernel
theorem dX9_climb_25 : decode cX9_climb 25 = .ok (.aload_n 0, 1) := by decide +kernel
theorem dX9_climb_26 : decode cX9_climb 26 = .ok (.getfield 9, 3) := by decide +kernel
theorem dX9_climb_29 : decode cX9_climb 29 = .ok (.bipush 41, 2) := by decide +kernel
theorem dX9_climb_31 : decode cX9_climb 31 = .ok (.invokevirtual 53, 3) := by decide +kernel
theorem dX9_climb_34 : decode cX9_climb 34 = .ok (.ifCond .ne 5, 3) := by decide +kernel
theorem dX9_climb_37 : decode cX9_climb 37 = .ok (.iconst (-1), 1) := by decide +kernel
theorem dX9_climb_38 : decode cX9_climb 38 = .ok (.ireturn, 1) := by decide +kernel
theorem dX9_climb_39 : decode cX9_climb 39 = .ok (.aload_n 0, 1) := by decide +kernel
theorem dX9_climb_40 : decode cX9_climb 40 = .ok (.getfield 19, 3) := by decide +kernel
theorem dX9_climb_43 : decode cX9_climb 43 = .ok (.getfield 63, 3) := by decide +kernel
theorem dX9_climb_46 : decode cX9_climb 46 = .ok (.iload_n 3, 1) := by decide +kernel
theorem dX9_climb_47 : decode cX9_climb 47 = .ok (.iaload, 1) := by decide +kernel
theorem dX9_climb_48 : decode cX9_climb 48 = .ok (.istore_n 3, 1) := by decide +kernel
theorem dX9_climb_49 : decode cX9_climb 49 = .ok (.iinc 4 1, 3) := by decide +kernel
theorem dX9_climb_52 : decode cX9_climb 52 = .ok (.goto (-47), 3) := by decide +kernel
theorem dX9_climb_55 : decode cX9_climb 55 = .ok (.iload_n 3, 1) := by decide +kernel
theorem dX9_climb_56 : decode cX9_climb 56 = .ok (.ireturn, 1) := by decide +kernel
theorem dX9_isLast_0 : decode cX9_isLast 0 = .ok (.aload_n 0, 1) := by decide +kernel
theorem dX9_isLast_1 : decode cX9_isLast 1 = .ok (.getfield 19, 3) := by decide +kernel
theorem dX9_isLast_4 : decode cX9_isLast 4 = .ok (.getfield 66, 3) := by decide +kernel
theorem dX9_isLast_7 : decode cX9_isLast 7 = .ok (.iload_n 1, 1) := by decide +kernel
theorem dX9_isLast_8 : decode cX9_isLast 8 = .ok (.iaload, 1) := by decide +kernel
theorem dX9_isLast_9 : decode cX9_isLast 9 = .ok (.aload_n 0, 1) := by decide +kernel
theorem dX9_isLast_10 : decode cX9_isLast 10 = .ok (.getfield 19, 3) := by decide +kernel
theorem dX9_isLast_13 : decode cX9_isLast 13 = .ok (.getfield 36, 3) := by decide +kernel
theorem dX9_isLast_16 : decode cX9_isLast 16 = .ok (.aload_n 0, 1) := by decide +kernel
theorem dX9_isLast_17 : decode cX9_isLast 17 = .ok (.getfield 19, 3) := by decide +kernel
theorem dX9_isLast_20 : decode cX9_isLast 20 = .ok (.getfield 63, 3) := by decide +kernel
theorem dX9_isLast_23 : decode cX9_isLast 23 = .ok (.iload_n 1, 1) := by decide +kernel
theorem dX9_isLast_24 : decode cX9_isLast 24 = .ok (.iaload, 1) := by decide +kernel
theorem dX9_isLast_25 : decode cX9_isLast 25 = .ok (.iaload, 1) := by decide +kernel
theorem dX9_isLast_26 : decode cX9_isLast 26 = .ok (.if_icmp .ne 7, 3) := by decide +kernel
theorem dX9_isLast_29 : decode cX9_isLast 29 = .ok (.iconst 1, 1) := by decide +kernel
theorem dX9_isLast_30 : decode cX9_isLast 30 = .ok (.goto 4, 3) := by decide +kernel
theorem dX9_isLast_33 : decode cX9_isLast 33 = .ok (.iconst 0, 1) := by decide +kernel
theorem dX9_isLast_34 : decode cX9_isLast 34 = .ok (.ireturn, 1) := by decide +kernel
theorem dX0_init_0 : decode cX0_init 0 = .ok (.aload_n 0, 1) := by decide +kernel
theorem dX0_init_1 : decode cX0_init 1 = .ok (.invokespecial 3, 3) := by decide +kernel
theorem dX0_init_4 : decode cX0_init 4 = .ok (.aload_n 0, 1) := by decide +kernel
theorem dX0_init_5 : decode cX0_init 5 = .ok (.sipush 320, 3) := by decide +kernel
theorem dX0_init_8 : decode cX0_init 8 = .ok (.newarray .boolean, 2) := by decide +kernel
theorem dX0_init_10 : decode cX0_init 10 = .ok (.putfield 9, 3) := by decide +kernel
theorem dX0_init_13 : decode cX0_init 13 = .ok (.aload_n 0, 1) := by decide +kernel
theorem dX0_init_14 : decode cX0_init 14 = .ok (.sipush 320, 3) := by decide +kernel
theorem dX0_init_17 : decode cX0_init 17 = .ok (.newarray .boolean, 2) := by decide +kernel
theorem dX0_init_19 : decode cX0_init 19 = .ok (.putfield 15, 3) := by decide +kernel
theorem dX0_init_22 : decode cX0_init 22 = .ok (.aload_n 0, 1) := by decide +kernel
theorem dX0_init_23 : decode cX0_init 23 = .ok (.sipush 320, 3) := by decide +kernel
theorem dX0_init_26 : decode cX0_init 26 = .ok (.newarray .boolean, 2) := by decide +kernel
theorem dX0_init_28 : decode cX0_init 28 = .ok (.putfield 18, 3) := by decide +kernel
theorem dX0_init_31 : decode cX0_init 31 = .ok (.aload_n 0, 1) := by decide +kernel
theorem dX0_init_32 : decode cX0_init 32 = .ok (.bipush 40, 2) := by decide +kernel
theorem dX0_init_34 : decode cX0_init 34 = .ok (.newarray .int, 2) := by decide +kernel
theorem dX0_init_36 : decode cX0_init 36 = .ok (.putfield 21, 3) := by decide +kernel
theorem dX0_init_39 : decode cX0_init 39 = .ok (.return_, 1) := by decide +kernel
theorem dX0_begin_0 : decode cX0_begin 0 = .ok (.aload_n 0, 1) := by decide +kernel
theorem dX0_begin_1 : decode cX0_begin 1 = .ok (.getfield 9, 3) := by decide +kernel
theorem dX0_begin_4 : decode cX0_begin 4 = .ok (.invokestatic 25, 3) := by decide +kernel
theorem dX0_begin_7 : decode cX0_begin 7 = .ok (.iconst 0, 1) := by decide +kernel
theorem dX0_begin_8 : decode cX0_begin 8 = .ok (.istore_n 2, 1) := by decide +kernel
theorem dX0_begin_9 : decode cX0_begin 9 = .ok (.iload_n 2, 1) := by decide +kernel
theorem dX0_begin_10 : decode cX0_begin 10 = .ok (.iload_n 1, 1) := by decide +kernel
theorem dX0_begin_11 : decode cX0_begin 11 = .ok (.if_icmp .ge 16, 3) := by decide +kernel
theorem dX0_begin_14 : decode cX0_begin 14 = .ok (.aload_n 0, 1) := by decide +kernel
theorem dX0_begin_15 : decode cX0_begin 15 = .ok (.getfield 21, 3) := by decide +kernel
theorem dX0_begin_18 : decode cX0_begin 18 = .ok (.iload_n 2, 1) := by decide +kernel
theorem dX0_begin_19 : decode cX0_begin 19 = .ok (.iload_n 2, 1) := by decide +kernel
theorem dX0_begin_20 : decode cX0_begin 20 = .ok (.iastore, 1) := by decide +kernel
theorem dX0_begin_21 : decode cX0_begin 21 = .ok (.iinc 2 1, 3) := by decide +kernel
theorem dX0_begin_24 : decode cX0_begin 24 = .ok (.goto (-15), 3) := by decide +kernel
theorem dX0_begin_27 : decode cX0_begin 27 = .ok (.return_, 1) := by decide +kernel
theorem dX0_beginGraft_0 : decode cX0_beginGraft 0 = .ok (.aload_n 0, 1) := by decide +kernel
theorem dX0_beginGraft_1 : decode cX0_beginGraft 1 = .ok (.iload_n 2, 1) := by decide +kernel
theorem dX0_beginGraft_2 : decode cX0_beginGraft 2 = .ok (.iconst 1, 1) := by decide +kernel
theorem dX0_beginGraft_3 : decode cX0_beginGraft 3 = .ok (.iadd, 1) := by decide +kernel
theorem dX0_beginGraft_4 : decode cX0_beginGraft 4 = .ok (.invokevirtual 29, 3) := by decide +kernel
theorem dX0_beginGraft_7 : decode cX0_beginGraft 7 = .ok (.aload_n 0, 1) := by decide +kernel
theorem dX0_beginGraft_8 : decode cX0_beginGraft 8 = .ok (.iload_n 2, 1) := by decide +kernel
theorem dX0_beginGraft_9 : decode cX0_beginGraft 9 = .ok (.putfield 33, 3) := by decide +kernel
theorem dX0_beginGraft_12 : decode cX0_beginGraft 12 = .ok (.aload_n 0, 1) := by decide +kernel
theorem dX0_beginGraft_13 : decode cX0_beginGraft 13 = .ok (.iload_n 3, 1) := by decide +kernel
theorem dX0_beginGraft_14 : decode cX0_beginGraft 14 = .ok (.putfield 37, 3) := by decide +kernel
theorem dX0_beginGraft_17 : decode cX0_beginGraft 17 = .ok (.iload_n 2, 1) := by decide +kernel
theorem dX0_beginGraft_18 : decode cX0_beginGraft 18 = .ok (.iconst 1, 1) := by decide +kernel
theorem dX0_beginGraft_19 : decode cX0_beginGraft 19 = .ok (.iadd, 1) := by decide +kernel
theorem dX0_beginGraft_20 : decode cX0_beginGraft 20 = .ok (.istore 5, 2) := by decide +kernel
theorem dX0_beginGraft_22 : decode cX0_beginGraft 22 = .ok (.iload 5, 2) := by decide +kernel
theorem dX0_beginGraft_24 : decode cX0_beginGraft 24 = .ok (.iload_n 2, 1) := by decide +kernel
theorem dX0_beginGraft_25 : decode cX0_beginGraft 25 = .ok (.iload 4, 2) := by decide +kernel
theorem dX0_beginGraft_27 : decode cX0_beginGraft 27 = .ok (.iadd, 1) := by decide +kernel
theorem dX0_beginGraft_28 : decode cX0_beginGraft 28 = .ok (.if_icmp .ge 24, 3) := by decide +kernel
theorem dX0_beginGraft_31 : decode cX0_beginGraft 31 = .ok (.iload 5, 2) := by decide +kernel
theorem dX0_beginGraft_33 : decode cX0_beginGraft 33 = .ok (.bipush 40, 2) := by decide +kernel
theorem dX0_beginGraft_35 : decode cX0_beginGraft 35 = .ok (.if_icmp .ge 17, 3) := by decide +kernel
theorem dX0_beginGraft_38 : decode cX0_beginGraft 38 = .ok (.aload_n 0, 1) := by decide +kernel
theorem dX0_beginGraft_39 : decode cX0_beginGraft 39 = .ok (.getfield 21, 3) := by decide +kernel
theorem dX0_beginGraft_42 : decode cX0_beginGraft 42 = .ok (.iload 5, 2) := by decide +kernel
theorem dX0_beginGraft_44 : decode cX0_beginGraft 44 = .ok (.iconst (-1), 1) := by decide +kernel
theorem dX0_beginGraft_45 : decode cX0_beginGraft 45 = .ok (.iastore, 1) := by decide +kernel
theorem dX0_beginGraft_46 : decode cX0_beginGraft 46 = .ok (.iinc 5 1, 3) := by decide +kernel
theorem dX0_beginGraft_49 : decode cX0_beginGraft 49 = .ok (.goto (-27), 3) := by decide +kernel
theorem dX0_beginGraft_52 : decode cX0_beginGraft 52 = .ok (.iload_n 2, 1) := by decide +kernel
theorem dX0_beginGraft_53 : decode cX0_beginGraft 53 = .ok (.iload_n 3, 1) := by decide +kernel
theorem dX0_beginGraft_54 : decode cX0_beginGraft 54 = .ok (.iadd, 1) := by decide +kernel
theorem dX0_beginGraft_55 : decode cX0_beginGraft 55 = .ok (.istore 5, 2) := by decide +kernel
theorem dX0_beginGraft_57 : decode cX0_beginGraft 57 = .ok (.iload 5, 2) := by decide +kernel
theorem dX0_beginGraft_59 : decode cX0_beginGraft 59 = .ok (.iload_n 1, 1) := by decide +kernel
theorem dX0_beginGraft_60 : decode cX0_beginGraft 60 = .ok (.if_icmp .ge 35, 3) := by decide +kernel
theorem dX0_beginGraft_63 : decode cX0_beginGraft 63 = .ok (.iload 5, 2) := by decide +kernel
theorem dX0_beginGraft_65 : decode cX0_beginGraft 65 = .ok (.iload_n 3, 1) := by decide +kernel
theorem dX0_beginGraft_66 : decode cX0_beginGraft 66 = .ok (.isub, 1) := by decide +kernel
theorem dX0_beginGraft_67 : decode cX0_beginGraft 67 = .ok (.iload 4, 2) := by decide +kernel
theorem dX0_beginGraft_69 : decode cX0_beginGraft 69 = .ok (.iadd, 1) := by decide +kernel
theorem dX0_beginGraft_70 : decode cX0_beginGraft 70 = .ok (.bipush 40, 2) := by decide +kernel
theorem dX0_beginGraft_72 : decode cX0_beginGraft 72 = .ok (.if_icmp .ge 23, 3) := by decide +kernel
theorem dX0_beginGraft_75 : decode cX0_beginGraft 75 = .ok (.aload_n 0, 1) := by decide +kernel
theorem dX0_beginGraft_76 : decode cX0_beginGraft 76 = .ok (.getfield 21, 3) := by decide +kernel
theorem dX0_beginGraft_79 : decode cX0_beginGraft 79 = .ok (.iload 5, 2) := by decide +kernel
theorem dX0_beginGraft_81 : decode cX0_beginGraft 81 = .ok (.iload_n 3, 1) := by decide +kernel
theorem dX0_beginGraft_82 : decode cX0_beginGraft 82 = .ok (.isub, 1) := by decide +kernel
theorem dX0_beginGraft_83 : decode cX0_beginGraft 83 = .ok (.iload 4, 2) := by decide +kernel
theorem dX0_beginGraft_85 : decode cX0_beginGraft 85 = .ok (.iadd, 1) := by decide +kernel
theorem dX0_beginGraft_86 : decode cX0_beginGraft 86 = .ok (.iload 5, 2) := by decide +kernel
theorem dX0_beginGraft_88 : decode cX0_beginGraft 88 = .ok (.iastore, 1) := by decide +kernel
theorem dX0_beginGraft_89 : decode cX0_beginGraft 89 = .ok (.iinc 5 1, 3) := by decide +kernel
theorem dX0_beginGraft_92 : decode cX0_beginGraft 92 = .ok (.goto (-35), 3) := by decide +kernel
theorem dX0_beginGraft_95 : decode cX0_beginGraft 95 = .ok (.return_, 1) := by decide +kernel
theorem dX0_mark_0 : decode cX0_mark 0 = .ok (.aload_n 0, 1) := by decide +kernel
theorem dX0_mark_1 : decode cX0_mark 1 = .ok (.getfield 9, 3) := by decide +kernel
theorem dX0_mark_4 : decode cX0_mark 4 = .ok (.iload_n 1, 1) := by decide +kernel
theorem dX0_mark_5 : decode cX0_mark 5 = .ok (.iconst 1, 1) := by decide +kernel
theorem dX0_mark_6 : decode cX0_mark 6 = .ok (.bastore, 1) := by decide +kernel
theorem dX0_mark_7 : decode cX0_mark 7 = .ok (.return_, 1) := by decide +kernel
theorem dX0_markAskingOwn_0 : decode cX0_markAskingOwn 0 = .ok (.aload_n 1, 1) := by decide +kernel
theorem dX0_markAskingOwn_1 : decode cX0_markAskingOwn 1 = .ok (.getfield 40, 3) := by decide +kernel
theorem dX0_markAskingOwn_4 : decode cX0_markAskingOwn 4 = .ok (.aload_n 2, 1) := by decide +kernel
theorem dX0_markAskingOwn_5 : decode cX0_markAskingOwn 5 = .ok (.getfield 45, 3) := by decide +kernel
theorem dX0_markAskingOwn_8 : decode cX0_markAskingOwn 8 = .ok (.iload_n 3, 1) := by decide +kernel
theorem dX0_markAskingOwn_9 : decode cX0_markAskingOwn 9 = .ok (.iaload, 1) := by decide +kernel
theorem dX0_markAskingOwn_10 : decode cX0_markAskingOwn 10 = .ok (.iaload, 1) := by decide +kernel
theorem dX0_markAskingOwn_11 : decode cX0_markAskingOwn 11 = .ok (.istore 4, 2) := by decide +kernel
theorem dX0_markAskingOwn_13 : decode cX0_markAskingOwn 13 = .ok (.iconst 0, 1) := by decide +kernel
theorem dX0_markAskingOwn_14 : decode cX0_markAskingOwn 14 = .ok (.istore 5, 2) := by decide +kernel
theorem dX0_markAskingOwn_16 : decode cX0_markAskingOwn 16 = .ok (.iload 5, 2) := by decide +kernel
theorem dX0_markAskingOwn_18 : decode cX0_markAskingOwn 18 = .ok (.bipush 32, 2) := by decide +kernel
theorem dX0_markAskingOwn_20 : decode cX0_markAskingOwn 20 = .ok (.if_icmp .ge 30, 3) := by decide +kernel
theorem dX0_markAskingOwn_23 : decode cX0_markAskingOwn 23 = .ok (.iload 4, 2) := by decide +kernel
theorem dX0_markAskingOwn_25 : decode cX0_markAskingOwn 25 = .ok (.iload 5, 2) := by decide +kernel
theorem dX0_markAskingOwn_27 : decode cX0_markAskingOwn 27 = .ok (.iushr, 1) := by decide +kernel
theorem dX0_markAskingOwn_28 : decode cX0_markAskingOwn 28 = .ok (.iconst 1, 1) := by decide +kernel
theorem dX0_markAskingOwn_29 : decode cX0_markAskingOwn 29 = .ok (.iand, 1) := by decide +kernel
theorem dX0_markAskingOwn_30 : decode cX0_markAskingOwn 30 = .ok (.ifCond .eq 14, 3) := by decide +kernel
theorem dX0_markAskingOwn_33 : decode cX0_markAskingOwn 33 = .ok (.aload_n 0, 1) := by decide +kernel
theorem dX0_markAskingOwn_34 : decode cX0_markAskingOwn 34 = .ok (.aload_n 2, 1) := by decide +kernel
theorem dX0_markAskingOwn_35 : decode cX0_markAskingOwn 35 = .ok (.iload_n 3, 1) := by decide +kernel
theorem dX0_markAskingOwn_36 : decode cX0_markAskingOwn 36 = .ok (.iload 5, 2) := by decide +kernel
theorem dX0_markAskingOwn_38 : decode cX0_markAskingOwn 38 = .ok (.invokevirtual 50, 3) := by decide +kernel
theorem dX0_markAskingOwn_41 : decode cX0_markAskingOwn 41 = .ok (.invokevirtual 54, 3) := by decide +kernel
theorem dX0_markAskingOwn_44 : decode cX0_markAskingOwn 44 = .ok (.iinc 5 1, 3) := by decide +kernel
theorem dX0_markAskingOwn_47 : decode cX0_markAskingOwn 47 = .ok (.goto (-31), 3) := by decide +kernel
theorem dX0_markAskingOwn_50 : decode cX0_markAskingOwn 50 = .ok (.return_, 1) := by decide +kernel
theorem dX0_markGraft_0 : decode cX0_markGraft 0 = .ok (.aload_n 0, 1) := by decide +kernel
theorem dX0_markGraft_1 : decode cX0_markGraft 1 = .ok (.aload_n 1, 1) := by decide +kernel
theorem dX0_markGraft_2 : decode cX0_markGraft 2 = .ok (.aload_n 3, 1) := by decide +kernel
theorem dX0_markGraft_3 : decode cX0_markGraft 3 = .ok (.invokevirtual 57, 3) := by decide +kernel
theorem dX0_markGraft_6 : decode cX0_markGraft 6 = .ok (.iconst 0, 1) := by decide +kernel
theorem dX0_markGraft_7 : decode cX0_markGraft 7 = .ok (.istore 4, 2) := by decide +kernel
theorem dX0_markGraft_9 : decode cX0_markGraft 9 = .ok (.iload 4, 2) := by decide +kernel
theorem dX0_markGraft_11 : decode cX0_markGraft 11 = .ok (.aload_n 2, 1) := by decide +kernel
theorem dX0_markGraft_12 : decode cX0_markGraft 12 = .ok (.getfield 61, 3) := by decide +kernel
theorem dX0_markGraft_15 : decode cX0_markGraft 15 = .ok (.if_icmp .ge 122, 3) := by decide +kernel
theorem dX0_markGraft_18 : decode cX0_markGraft 18 = .ok (.iconst 0, 1) := by decide +kernel
theorem dX0_markGraft_19 : decode cX0_markGraft 19 = .ok (.istore 5, 2) := by decide +kernel
theorem dX0_markGraft_21 : decode cX0_markGraft 21 = .ok (.iload 5, 2) := by decide +kernel
theorem dX0_markGraft_23 : decode cX0_markGraft 23 = .ok (.bipush 8, 2) := by decide +kernel
theorem dX0_markGraft_25 : decode cX0_markGraft 25 = .ok (.if_icmp .ge 106, 3) := by decide +kernel
theorem dX0_markGraft_28 : decode cX0_markGraft 28 = .ok (.aload_n 2, 1) := by decide +kernel
theorem dX0_markGraft_29 : decode cX0_markGraft 29 = .ok (.iload 4, 2) := by decide +kernel
theorem dX0_markGraft_31 : decode cX0_markGraft 31 = .ok (.iload 5, 2) := by decide +kernel
theorem dX0_markGraft_33 : decode cX0_markGraft 33 = .ok (.invokevirtual 64, 3) := by decide +kernel
theorem dX0_markGraft_36 : decode cX0_markGraft 36 = .ok (.ifCond .eq 89, 3) := by decide +kernel
theorem dX0_markGraft_39 : decode cX0_markGraft 39 = .ok (.aload_n 0, 1) := by decide +kernel
theorem dX0_markGraft_40 : decode cX0_markGraft 40 = .ok (.iload 4, 2) := by decide +kernel
theorem dX0_markGraft_42 : decode cX0_markGraft 42 = .ok (.invokevirtual 68, 3) := by decide +kernel
theorem dX0_markGraft_45 : decode cX0_markGraft 45 = .ok (.ifCond .ne 80, 3) := by decide +kernel
theorem dX0_markGraft_48 : decode cX0_markGraft 48 = .ok (.iload 4, 2) := by decide +kernel
theorem dX0_markGraft_50 : decode cX0_markGraft 50 = .ok (.aload_n 0, 1) := by decide +kernel
theorem dX0_markGraft_51 : decode cX0_markGraft 51 = .ok (.getfield 33, 3) := by decide +kernel
theorem dX0_markGraft_54 : decode cX0_markGraft 54 = .ok (.if_icmp .ne 19, 3) := by decide +kernel
theorem dX0_markGraft_57 : decode cX0_markGraft 57 = .ok (.iload 5, 2) := by decide +kernel
theorem dX0_markGraft_59 : decode cX0_markGraft 59 = .ok (.aload_n 2, 1) := by decide +kernel
theorem dX0_markGraft_60 : decode cX0_markGraft 60 = .ok (.getfield 72, 3) := by decide +kernel
theorem dX0_markGraft_63 : decode cX0_markGraft 63 = .ok (.iload 4, 2) := by decide +kernel
theorem dX0_markGraft_65 : decode cX0_markGraft 65 = .ok (.iaload, 1) := by decide +kernel
theorem dX0_markGraft_66 : decode cX0_markGraft 66 = .ok (.if_icmp .lt 7, 3) := by decide +kernel
theorem dX0_markGraft_69 : decode cX0_markGraft 69 = .ok (.iconst 1, 1) := by decide +kernel
theorem dX0_markGraft_70 : decode cX0_markGraft 70 = .ok (.goto 4, 3) := by decide +kernel
theorem dX0_markGraft_73 : decode cX0_markGraft 73 = .ok (.iconst 0, 1) := by decide +kernel
theorem dX0_markGraft_74 : decode cX0_markGraft 74 = .ok (.istore 6, 2) := by decide +kernel
theorem dX0_markGraft_76 : decode cX0_markGraft 76 = .ok (.aload_n 0, 1) := by decide +kernel
theorem dX0_markGraft_77 : decode cX0_markGraft 77 = .ok (.getfield 9, 3) := by decide +kernel
theorem dX0_markGraft_80 : decode cX0_markGraft 80 = .ok (.bipush 8, 2) := by decide +kernel
theorem dX0_markGraft_82 : decode cX0_markGraft 82 = .ok (.iload 4, 2) := by decide +kernel
theorem dX0_markGraft_84 : decode cX0_markGraft 84 = .ok (.imul, 1) := by decide +kernel
theorem dX0_markGraft_85 : decode cX0_markGraft 85 = .ok (.iload 5, 2) := by decide +kernel
theorem dX0_markGraft_87 : decode cX0_markGraft 87 = .ok (.iadd, 1) := by decide +kernel
theorem dX0_markGraft_88 : decode cX0_markGraft 88 = .ok (.iload 6, 2) := by decide +kernel
theorem dX0_markGraft_90 : decode cX0_markGraft 90 = .ok (.ifCond .ne 29, 3) := by decide +kernel
theorem dX0_markGraft_93 : decode cX0_markGraft 93 = .ok (.aload_n 0, 1) := by decide +kernel
theorem dX0_markGraft_94 : decode cX0_markGraft 94 = .ok (.getfield 18, 3) := by decide +kernel
theorem dX0_markGraft_97 : decode cX0_markGraft 97 = .ok (.aload_n 3, 1) := by decide +kernel
theorem dX0_markGraft_98 : decode cX0_markGraft 98 = .ok (.getfield 75, 3) := by decide +kernel
theorem dX0_markGraft_101 : decode cX0_markGraft 101 = .ok (.bipush 8, 2) := by decide +kernel
theorem dX0_markGraft_103 : decode cX0_markGraft 103 = .ok (.aload_n 0, 1) := by decide +kernel
theorem dX0_markGraft_104 : decode cX0_markGraft 104 = .ok (.getfield 21, 3) := by decide +kernel
theorem dX0_markGraft_107 : decode cX0_markGraft 107 = .ok (.iload 4, 2) := by decide +kernel
theorem dX0_markGraft_109 : decode cX0_markGraft 109 = .ok (.iaload, 1) := by decide +kernel
theorem dX0_markGraft_110 : decode cX0_markGraft 110 = .ok (.imul, 1) := by decide +kernel
theorem dX0_markGraft_111 : decode cX0_markGraft 111 = .ok (.iload 5, 2) := by decide +kernel
theorem dX0_markGraft_113 : decode cX0_markGraft 113 = .ok (.iadd, 1) := by decide +kernel
theorem dX0_markGraft_114 : decode cX0_markGraft 114 = .ok (.iaload, 1) := by decide +kernel
theorem dX0_markGraft_115 : decode cX0_markGraft 115 = .ok (.baload, 1) := by decide +kernel
theorem dX0_markGraft_116 : decode cX0_markGraft 116 = .ok (.ifCond .eq 7, 3) := by decide +kernel
theorem dX0_markGraft_119 : decode cX0_markGraft 119 = .ok (.iconst 1, 1) := by decide +kernel
theorem dX0_markGraft_120 : decode cX0_markGraft 120 = .ok (.goto 4, 3) := by decide +kernel
theorem dX0_markGraft_123 : decode cX0_markGraft 123 = .ok (.iconst 0, 1) := by decide +kernel
theorem dX0_markGraft_124 : decode cX0_markGraft 124 = .ok (.bastore, 1) := by decide +kernel
theorem dX0_markGraft_125 : decode cX0_markGraft 125 = .ok (.iinc 5 1, 3) := by decide +kernel
theorem dX0_markGraft_128 : decode cX0_markGraft 128 = .ok (.goto (-107), 3) := by decide +kernel
theorem dX0_markGraft_131 : decode cX0_markGraft 131 = .ok (.iinc 4 1, 3) := by decide +kernel
theorem dX0_markGraft_134 : decode cX0_markGraft 134 = .ok (.goto (-125), 3) := by decide +kernel
theorem dX0_markGraft_137 : decode cX0_markGraft 137 = .ok (.return_, 1) := by decide +kernel
theorem dX0_findGone_0 : decode cX0_findGone 0 = .ok (.aload_n 0, 1) := by decide +kernel
theorem dX0_findGone_1 : decode cX0_findGone 1 = .ok (.getfield 18, 3) := by decide +kernel
theorem dX0_findGone_4 : decode cX0_findGone 4 = .ok (.invokestatic 25, 3) := by decide +kernel
theorem dX0_findGone_7 : decode cX0_findGone 7 = .ok (.bipush 8, 2) := by decide +kernel
theorem dX0_findGone_9 : decode cX0_findGone 9 = .ok (.aload_n 0, 1) := by decide +kernel
theorem dX0_findGone_10 : decode cX0_findGone 10 = .ok (.getfield 33, 3) := by decide +kernel
theorem dX0_findGone_13 : decode cX0_findGone 13 = .ok (.imul, 1) := by decide +kernel
theorem dX0_findGone_14 : decode cX0_findGone 14 = .ok (.istore_n 3, 1) := by decide +kernel
theorem dX0_findGone_15 : decode cX0_findGone 15 = .ok (.iload_n 3, 1) := by decide +kernel
theorem dX0_findGone_16 : decode cX0_findGone 16 = .ok (.bipush 8, 2) := by decide +kernel
theorem dX0_findGone_18 : decode cX0_findGone 18 = .ok (.aload_n 0, 1) := by decide +kernel
theorem dX0_findGone_19 : decode cX0_findGone 19 = .ok (.getfield 33, 3) := by decide +kernel
theorem dX0_findGone_22 : decode cX0_findGone 22 = .ok (.aload_n 0, 1) := by decide +kernel
theorem dX0_findGone_23 : decode cX0_findGone 23 = .ok (.getfield 37, 3) := by decide +kernel
theorem dX0_findGone_26 : decode cX0_findGone 26 = .ok (.iadd, 1) := by decide +kernel
theorem dX0_findGone_27 : decode cX0_findGone 27 = .ok (.imul, 1) := by decide +kernel
theorem dX0_findGone_28 : decode cX0_findGone 28 = .ok (.if_icmp .ge 46, 3) := by decide +kernel
theorem dX0_findGone_31 : decode cX0_findGone 31 = .ok (.aload_n 1, 1) := by decide +kernel
theorem dX0_findGone_32 : decode cX0_findGone 32 = .ok (.iload_n 3, 1) := by decide +kernel
theorem dX0_findGone_33 : decode cX0_findGone 33 = .ok (.bipush 8, 2) := by decide +kernel
theorem dX0_findGone_35 : decode cX0_findGone 35 = .ok (.idiv, 1) := by decide +kernel
theorem dX0_findGone_36 : decode cX0_findGone 36 = .ok (.iload_n 3, 1) := by decide +kernel
theorem dX0_findGone_37 : decode cX0_findGone 37 = .ok (.bipush 8, 2) := by decide +kernel
theorem dX0_findGone_39 : decode cX0_findGone 39 = .ok (.irem, 1) := by decide +kernel
theorem dX0_findGone_40 : decode cX0_findGone 40 = .ok (.invokevirtual 64, 3) := by decide +kernel
theorem dX0_findGone_43 : decode cX0_findGone 43 = .ok (.ifCond .eq 25, 3) := by decide +kernel
theorem dX0_findGone_46 : decode cX0_findGone 46 = .ok (.aload_n 2, 1) := by decide +kernel
theorem dX0_findGone_47 : decode cX0_findGone 47 = .ok (.getfield 75, 3) := by decide +kernel
theorem dX0_findGone_50 : decode cX0_findGone 50 = .ok (.iload_n 3, 1) := by decide +kernel
theorem dX0_findGone_51 : decode cX0_findGone 51 = .ok (.iaload, 1) := by decide +kernel
theorem dX0_findGone_52 : decode cX0_findGone 52 = .ok (.istore 4, 2) := by decide +kernel
theorem dX0_findGone_54 : decode cX0_findGone 54 = .ok (.aload_n 0, 1) := by decide +kernel
theorem dX0_findGone_55 : decode cX0_findGone 55 = .ok (.getfield 18, 3) := by decide +kernel
theorem dX0_findGone_58 : decode cX0_findGone 58 = .ok (.iload 4, 2) := by decide +kernel
theorem dX0_findGone_60 : decode cX0_findGone 60 = .ok (.aload_n 2, 1) := by decide +kernel
theorem dX0_findGone_61 : decode cX0_findGone 61 = .ok (.getfield 80, 3) := by decide +kernel
theorem dX0_findGone_64 : decode cX0_findGone 64 = .ok (.iload 4, 2) := by decide +kernel
theorem dX0_findGone_66 : decode cX0_findGone 66 = .ok (.baload, 1) := by decide +kernel
theorem dX0_findGone_67 : decode cX0_findGone 67 = .ok (.bastore, 1) := by decide +kernel
theorem dX0_findGone_68 : decode cX0_findGone 68 = .ok (.iinc 3 1, 3) := by decide +kernel
theorem dX0_findGone_71 : decode cX0_findGone 71 = .ok (.goto (-56), 3) := by decide +kernel
theorem dX0_findGone_74 : decode cX0_findGone 74 = .ok (.return_, 1) := by decide +kernel
theorem dX0_isNew_0 : decode cX0_isNew 0 = .ok (.aload_n 0, 1) := by decide +kernel
theorem dX0_isNew_1 : decode cX0_isNew 1 = .ok (.getfield 21, 3) := by decide +kernel
theorem dX0_isNew_4 : decode cX0_isNew 4 = .ok (.iload_n 1, 1) := by decide +kernel
theorem dX0_isNew_5 : decode cX0_isNew 5 = .ok (.iaload, 1) := by decide +kernel
theorem dX0_isNew_6 : decode cX0_isNew 6 = .ok (.iconst (-1), 1) := by decide +kernel
theorem dX0_isNew_7 : decode cX0_isNew 7 = .ok (.if_icmp .ne 7, 3) := by decide +kernel
theorem dX0_isNew_10 : decode cX0_isNew 10 = .ok (.iconst 1, 1) := by decide +kernel
theorem dX0_isNew_11 : decode cX0_isNew 11 = .ok (.goto 4, 3) := by decide +kernel
theorem dX0_isNew_14 : decode cX0_isNew 14 = .ok (.iconst 0, 1) := by decide +kernel
theorem dX0_isNew_15 : decode cX0_isNew 15 = .ok (.ireturn, 1) := by decide +kernel
theorem dX0_reckon_0 : decode cX0_reckon 0 = .ok (.aload_n 0, 1) := by decide +kernel
theorem dX0_reckon_1 : decode cX0_reckon 1 = .ok (.getfield 15, 3) := by decide +kernel
theorem dX0_reckon_4 : decode cX0_reckon 4 = .ok (.invokestatic 25, 3) := by decide +kernel
theorem dX0_reckon_7 : decode cX0_reckon 7 = .ok (.aload_n 0, 1) := by decide +kernel
theorem dX0_reckon_8 : decode cX0_reckon 8 = .ok (.iconst 0, 1) := by decide +kernel
theorem dX0_reckon_9 : decode cX0_reckon 9 = .ok (.putfield 83, 3) := by decide +kernel
theorem dX0_reckon_12 : decode cX0_reckon 12 = .ok (.aload_n 0, 1) := by decide +kernel
theorem dX0_reckon_13 : decode cX0_reckon 13 = .ok (.iconst 0, 1) := by decide +kernel
theorem dX0_reckon_14 : decode cX0_reckon 14 = .ok (.putfield 86, 3) := by decide +kernel
theorem dX0_reckon_17 : decode cX0_reckon 17 = .ok (.iconst 0, 1) := by decide +kernel
theorem dX0_reckon_18 : decode cX0_reckon 18 = .ok (.istore 4, 2) := by decide +kernel
theorem dX0_reckon_20 : decode cX0_reckon 20 = .ok (.iload 4, 2) := by decide +kernel
theorem dX0_reckon_22 : decode cX0_reckon 22 = .ok (.aload_n 2, 1) := by decide +kernel
theorem dX0_reckon_23 : decode cX0_reckon 23 = .ok (.getfield 89, 3) := by decide +kernel
theorem dX0_reckon_26 : decode cX0_reckon 26 = .ok (.getfield 95, 3) := by decide +kernel
theorem dX0_reckon_29 : decode cX0_reckon 29 = .ok (.if_icmp .ge 48, 3) := by decide +kernel
theorem dX0_reckon_32 : decode cX0_reckon 32 = .ok (.aload_n 0, 1) := by decide +kernel
theorem dX0_reckon_33 : decode cX0_reckon 33 = .ok (.aload_n 1, 1) := by decide +kernel
theorem dX0_reckon_34 : decode cX0_reckon 34 = .ok (.aload_n 2, 1) := by decide +kernel
theorem dX0_reckon_35 : decode cX0_reckon 35 = .ok (.getfield 89, 3) := by decide +kernel
theorem dX0_reckon_38 : decode cX0_reckon 38 = .ok (.iload 4, 2) := by decide +kernel
theorem dX0_reckon_40 : decode cX0_reckon 40 = .ok (.invokevirtual 98, 3) := by decide +kernel
theorem dX0_reckon_43 : decode cX0_reckon 43 = .ok (.ifCond .eq 20, 3) := by decide +kernel
theorem dX0_reckon_46 : decode cX0_reckon 46 = .ok (.aload_n 2, 1) := by decide +kernel
theorem dX0_reckon_47 : decode cX0_reckon 47 = .ok (.iload 4, 2) := by decide +kernel
theorem dX0_reckon_49 : decode cX0_reckon 49 = .ok (.invokevirtual 102, 3) := by decide +kernel
theorem dX0_reckon_52 : decode cX0_reckon 52 = .ok (.aload_n 0, 1) := by decide +kernel
theorem dX0_reckon_53 : decode cX0_reckon 53 = .ok (.iload 4, 2) := by decide +kernel
theorem dX0_reckon_55 : decode cX0_reckon 55 = .ok (.aload_n 2, 1) := by decide +kernel
theorem dX0_reckon_56 : decode cX0_reckon 56 = .ok (.aload_n 3, 1) := by decide +kernel
theorem dX0_reckon_57 : decode cX0_reckon 57 = .ok (.invokevirtual 105, 3) := by decide +kernel
theorem dX0_reckon_60 : decode cX0_reckon 60 = .ok (.goto 11, 3) := by decide +kernel
theorem dX0_reckon_63 : decode cX0_reckon 63 = .ok (.aload_n 0, 1) := by decide +kernel
theorem dX0_reckon_64 : decode cX0_reckon 64 = .ok (.iload 4, 2) := by decide +kernel
theorem dX0_reckon_66 : decode cX0_reckon 66 = .ok (.aload_n 2, 1) := by decide +kernel
theorem dX0_reckon_67 : decode cX0_reckon 67 = .ok (.aload_n 3, 1) := by decide +kernel
theorem dX0_reckon_68 : decode cX0_reckon 68 = .ok (.invokevirtual 108, 3) := by decide +kernel
theorem dX0_reckon_71 : decode cX0_reckon 71 = .ok (.iinc 4 1, 3) := by decide +kernel
theorem dX0_reckon_74 : decode cX0_reckon 74 = .ok (.goto (-54), 3) := by decide +kernel
theorem dX0_reckon_77 : decode cX0_reckon 77 = .ok (.return_, 1) := by decide +kernel
theorem dX0_isAnew_0 : decode cX0_isAnew 0 = .ok (.iconst 0, 1) := by decide +kernel
theorem dX0_isAnew_1 : decode cX0_isAnew 1 = .ok (.istore 4, 2) := by decide +kernel
theorem dX0_isAnew_3 : decode cX0_isAnew 3 = .ok (.iload 4, 2) := by decide +kernel
theorem dX0_isAnew_5 : decode cX0_isAnew 5 = .ok (.aload_n 2, 1) := by decide +kernel
theorem dX0_isAnew_6 : decode cX0_isAnew 6 = .ok (.iload_n 3, 1) := by decide +kernel
theorem dX0_isAnew_7 : decode cX0_isAnew 7 = .ok (.invokevirtual 111, 3) := by decide +kernel
theorem dX0_isAnew_10 : decode cX0_isAnew 10 = .ok (.if_icmp .ge 52, 3) := by decide +kernel
theorem dX0_isAnew_13 : decode cX0_isAnew 13 = .ok (.aload_n 2, 1) := by decide +kernel
theorem dX0_isAnew_14 : decode cX0_isAnew 14 = .ok (.iload_n 3, 1) := by decide +kernel
theorem dX0_isAnew_15 : decode cX0_isAnew 15 = .ok (.iload 4, 2) := by decide +kernel
theorem dX0_isAnew_17 : decode cX0_isAnew 17 = .ok (.invokevirtual 115, 3) := by decide +kernel
theorem dX0_isAnew_20 : decode cX0_isAnew 20 = .ok (.istore 5, 2) := by decide +kernel
theorem dX0_isAnew_22 : decode cX0_isAnew 22 = .ok (.aload_n 0, 1) := by decide +kernel
theorem dX0_isAnew_23 : decode cX0_isAnew 23 = .ok (.getfield 9, 3) := by decide +kernel
theorem dX0_isAnew_26 : decode cX0_isAnew 26 = .ok (.iload 5, 2) := by decide +kernel
theorem dX0_isAnew_28 : decode cX0_isAnew 28 = .ok (.baload, 1) := by decide +kernel
theorem dX0_isAnew_29 : decode cX0_isAnew 29 = .ok (.ifCond .ne 25, 3) := by decide +kernel
theorem dX0_isAnew_32 : decode cX0_isAnew 32 = .ok (.aload_n 0, 1) := by decide +kernel
theorem dX0_isAnew_33 : decode cX0_isAnew 33 = .ok (.iload 5, 2) := by decide +kernel
theorem dX0_isAnew_35 : decode cX0_isAnew 35 = .ok (.bipush 8, 2) := by decide +kernel
theorem dX0_isAnew_37 : decode cX0_isAnew 37 = .ok (.idiv, 1) := by decide +kernel
theorem dX0_isAnew_38 : decode cX0_isAnew 38 = .ok (.invokevirtual 68, 3) := by decide +kernel
theorem dX0_isAnew_41 : decode cX0_isAnew 41 = .ok (.ifCond .ne 13, 3) := by decide +kernel
theorem dX0_isAnew_44 : decode cX0_isAnew 44 = .ok (.aload_n 0, 1) := by decide +kernel
theorem dX0_isAnew_45 : decode cX0_isAnew 45 = .ok (.aload_n 1, 1) := by decide +kernel
theorem dX0_isAnew_46 : decode cX0_isAnew 46 = .ok (.iload 5, 2) := by decide +kernel
theorem dX0_isAnew_48 : decode cX0_isAnew 48 = .ok (.invokevirtual 118, 3) := by decide +kernel
theorem dX0_isAnew_51 : decode cX0_isAnew 51 = .ok (.ifCond .eq 5, 3) := by decide +kernel
theorem dX0_isAnew_54 : decode cX0_isAnew 54 = .ok (.iconst 1, 1) := by decide +kernel
theorem dX0_isAnew_55 : decode cX0_isAnew 55 = .ok (.ireturn, 1) := by decide +kernel
theorem dX0_isAnew_56 : decode cX0_isAnew 56 = .ok (.iinc 4 1, 3) := by decide +kernel
theorem dX0_isAnew_59 : decode cX0_isAnew 59 = .ok (.goto (-56), 3) := by decide +kernel
theorem dX0_isAnew_62 : decode cX0_isAnew 62 = .ok (.iconst 0, 1) := by decide +kernel
theorem dX0_isAnew_63 : decode cX0_isAnew 63 = .ok (.ireturn, 1) := by decide +kernel
theorem dX0_hangsOnOther_0 : decode cX0_hangsOnOther 0 = .ok (.aload_n 1, 1) := by decide +kernel
theorem dX0_hangsOnOther_1 : decode cX0_hangsOnOther 1 = .ok (.getfield 122, 3) := by decide +kernel
theorem dX0_hangsOnOther_4 : decode cX0_hangsOnOther 4 = .ok (.iload_n 2, 1) := by decide +kernel
theorem dX0_hangsOnOther_5 : decode cX0_hangsOnOther 5 = .ok (.iaload, 1) := by decide +kernel
theorem dX0_hangsOnOther_6 : decode cX0_hangsOnOther 6 = .ok (.istore_n 3, 1) := by decide +kernel
theorem dX0_hangsOnOther_7 : decode cX0_hangsOnOther 7 = .ok (.aload_n 1, 1) := by decide +kernel
theorem dX0_hangsOnOther_8 : decode cX0_hangsOnOther 8 = .ok (.getfield 125, 3) := by decide +kernel
theorem dX0_hangsOnOther_11 : decode cX0_hangsOnOther 11 = .ok (.iload_n 2, 1) := by decide +kernel
theorem dX0_hangsOnOther_12 : decode cX0_hangsOnOther 12 = .ok (.iaload, 1) := by decide +kernel
theorem dX0_hangsOnOther_13 : decode cX0_hangsOnOther 13 = .ok (.istore 4, 2) := by decide +kernel
theorem dX0_hangsOnOther_15 : decode cX0_hangsOnOther 15 = .ok (.iconst 0, 1) := by decide +kernel
theorem dX0_hangsOnOther_16 : decode cX0_hangsOnOther 16 = .ok (.istore 5, 2) := by decide +kernel
theorem dX0_hangsOnOther_18 : decode cX0_hangsOnOther 18 = .ok (.iload 5, 2) := by decide +kernel
theorem dX0_hangsOnOther_20 : decode cX0_hangsOnOther 20 = .ok (.bipush 32, 2) := by decide +kernel
theorem dX0_hangsOnOther_22 : decode cX0_hangsOnOther 22 = .ok (.if_icmp .ge 36, 3) := by decide +kernel
theorem dX0_hangsOnOther_25 : decode cX0_hangsOnOther 25 = .ok (.iload 4, 2) := by decide +kernel
theorem dX0_hangsOnOther_27 : decode cX0_hangsOnOther 27 = .ok (.iload 5, 2) := by decide +kernel
theorem dX0_hangsOnOther_29 : decode cX0_hangsOnOther 29 = .ok (.iushr, 1) := by decide +kernel
theorem dX0_hangsOnOther_30 : decode cX0_hangsOnOther 30 = .ok (.iconst 1, 1) := by decide +kernel
theorem dX0_hangsOnOther_31 : decode cX0_hangsOnOther 31 = .ok (.iand, 1) := by decide +kernel
theorem dX0_hangsOnOther_32 : decode cX0_hangsOnOther 32 = .ok (.ifCond .eq 20, 3) := by decide +kernel
theorem dX0_hangsOnOther_35 : decode cX0_hangsOnOther 35 = .ok (.aload_n 0, 1) := by decide +kernel
theorem dX0_hangsOnOther_36 : decode cX0_hangsOnOther 36 = .ok (.getfield 15, 3) := by decide +kernel
theorem dX0_hangsOnOther_39 : decode cX0_hangsOnOther 39 = .ok (.aload_n 1, 1) := by decide +kernel
theorem dX0_hangsOnOther_40 : decode cX0_hangsOnOther 40 = .ok (.iload_n 3, 1) := by decide +kernel
theorem dX0_hangsOnOther_41 : decode cX0_hangsOnOther 41 = .ok (.iload 5, 2) := by decide +kernel
theorem dX0_hangsOnOther_43 : decode cX0_hangsOnOther 43 = .ok (.invokevirtual 50, 3) := by decide +kernel
theorem dX0_hangsOnOther_46 : decode cX0_hangsOnOther 46 = .ok (.baload, 1) := by decide +kernel
theorem dX0_hangsOnOther_47 : decode cX0_hangsOnOther 47 = .ok (.ifCond .eq 5, 3) := by decide +kernel
theorem dX0_hangsOnOther_50 : decode cX0_hangsOnOther 50 = .ok (.iconst 1, 1) := by decide +kernel
theorem dX0_hangsOnOther_51 : decode cX0_hangsOnOther 51 = .ok (.ireturn, 1) := by decide +kernel
theorem dX0_hangsOnOther_52 : decode cX0_hangsOnOther 52 = .ok (.iinc 5 1, 3) := by decide +kernel
theorem dX0_hangsOnOther_55 : decode cX0_hangsOnOther 55 = .ok (.goto (-37), 3) := by decide +kernel
theorem dX0_hangsOnOther_58 : decode cX0_hangsOnOther 58 = .ok (.iconst 0, 1) := by decide +kernel
theorem dX0_hangsOnOther_59 : decode cX0_hangsOnOther 59 = .ok (.ireturn, 1) := by decide +kernel
theorem dX0_count_0 : decode cX0_count 0 = .ok (.iconst 0, 1) := by decide +kernel
theorem dX0_count_1 : decode cX0_count 1 = .ok (.istore 4, 2) := by decide +kernel
theorem dX0_count_3 : decode cX0_count 3 = .ok (.iload 4, 2) := by decide +kernel
theorem dX0_count_5 : decode cX0_count 5 = .ok (.aload_n 2, 1) := by decide +kernel
theorem dX0_count_6 : decode cX0_count 6 = .ok (.getfield 89, 3) := by decide +kernel
theorem dX0_count_9 : decode cX0_count 9 = .ok (.iload_n 1, 1) := by decide +kernel
theorem dX0_count_10 : decode cX0_count 10 = .ok (.invokevirtual 111, 3) := by decide +kernel
theorem dX0_count_13 : decode cX0_count 13 = .ok (.if_icmp .ge 100, 3) := by decide +kernel
theorem dX0_count_16 : decode cX0_count 16 = .ok (.aload_n 2, 1) := by decide +kernel
theorem dX0_count_17 : decode cX0_count 17 = .ok (.getfield 89, 3) := by decide +kernel
theorem dX0_count_20 : decode cX0_count 20 = .ok (.iload_n 1, 1) := by decide +kernel
theorem dX0_count_21 : decode cX0_count 21 = .ok (.iload 4, 2) := by decide +kernel
theorem dX0_count_23 : decode cX0_count 23 = .ok (.invokevirtual 115, 3) := by decide +kernel
theorem dX0_count_26 : decode cX0_count 26 = .ok (.istore 5, 2) := by decide +kernel
theorem dX0_count_28 : decode cX0_count 28 = .ok (.aload_n 0, 1) := by decide +kernel
theorem dX0_count_29 : decode cX0_count 29 = .ok (.dup, 1) := by decide +kernel
theorem dX0_count_30 : decode cX0_count 30 = .ok (.getfield 83, 3) := by decide +kernel
theorem dX0_count_33 : decode cX0_count 33 = .ok (.iconst 1, 1) := by decide +kernel
theorem dX0_count_34 : decode cX0_count 34 = .ok (.iadd, 1) := by decide +kernel
theorem dX0_count_35 : decode cX0_count 35 = .ok (.putfield 83, 3) := by decide +kernel
theorem dX0_count_38 : decode cX0_count 38 = .ok (.aload_n 0, 1) := by decide +kernel
theorem dX0_count_39 : decode cX0_count 39 = .ok (.getfield 15, 3) := by decide +kernel
theorem dX0_count_42 : decode cX0_count 42 = .ok (.iload 5, 2) := by decide +kernel
theorem dX0_count_44 : decode cX0_count 44 = .ok (.aload_n 0, 1) := by decide +kernel
theorem dX0_count_45 : decode cX0_count 45 = .ok (.iload 5, 2) := by decide +kernel
theorem dX0_count_47 : decode cX0_count 47 = .ok (.bipush 8, 2) := by decide +kernel
theorem dX0_count_49 : decode cX0_count 49 = .ok (.idiv, 1) := by decide +kernel
theorem dX0_count_50 : decode cX0_count 50 = .ok (.invokevirtual 68, 3) := by decide +kernel
theorem dX0_count_53 : decode cX0_count 53 = .ok (.ifCond .ne 24, 3) := by decide +kernel
theorem dX0_count_56 : decode cX0_count 56 = .ok (.aload_n 2, 1) := by decide +kernel
theorem dX0_count_57 : decode cX0_count 57 = .ok (.getfield 128, 3) := by decide +kernel
theorem dX0_count_60 : decode cX0_count 60 = .ok (.iload 5, 2) := by decide +kernel
theorem dX0_count_62 : decode cX0_count 62 = .ok (.iaload, 1) := by decide +kernel
theorem dX0_count_63 : decode cX0_count 63 = .ok (.aload_n 3, 1) := by decide +kernel
theorem dX0_count_64 : decode cX0_count 64 = .ok (.getfield 128, 3) := by decide +kernel
theorem dX0_count_67 : decode cX0_count 67 = .ok (.aload_n 0, 1) := by decide +kernel
theorem dX0_count_68 : decode cX0_count 68 = .ok (.iload 5, 2) := by decide +kernel
theorem dX0_count_70 : decode cX0_count 70 = .ok (.invokevirtual 131, 3) := by decide +kernel
theorem dX0_count_73 : decode cX0_count 73 = .ok (.iaload, 1) := by decide +kernel
theorem dX0_count_74 : decode cX0_count 74 = .ok (.if_icmp .eq 7, 3) := by decide +kernel
theorem dX0_count_77 : decode cX0_count 77 = .ok (.iconst 1, 1) := by decide +kernel
theorem dX0_count_78 : decode cX0_count 78 = .ok (.goto 4, 3) := by decide +kernel
theorem dX0_count_81 : decode cX0_count 81 = .ok (.iconst 0, 1) := by decide +kernel
theorem dX0_count_82 : decode cX0_count 82 = .ok (.bastore, 1) := by decide +kernel
theorem dX0_count_83 : decode cX0_count 83 = .ok (.aload_n 0, 1) := by decide +kernel
theorem dX0_count_84 : decode cX0_count 84 = .ok (.dup, 1) := by decide +kernel
theorem dX0_count_85 : decode cX0_count 85 = .ok (.getfield 86, 3) := by decide +kernel
theorem dX0_count_88 : decode cX0_count 88 = .ok (.aload_n 0, 1) := by decide +kernel
theorem dX0_count_89 : decode cX0_count 89 = .ok (.getfield 15, 3) := by decide +kernel
theorem dX0_count_92 : decode cX0_count 92 = .ok (.iload 5, 2) := by decide +kernel
theorem dX0_count_94 : decode cX0_count 94 = .ok (.baload, 1) := by decide +kernel
theorem dX0_count_95 : decode cX0_count 95 = .ok (.ifCond .eq 7, 3) := by decide +kernel
theorem dX0_count_98 : decode cX0_count 98 = .ok (.iconst 1, 1) := by decide +kernel
theorem dX0_count_99 : decode cX0_count 99 = .ok (.goto 4, 3) := by decide +kernel
theorem dX0_count_102 : decode cX0_count 102 = .ok (.iconst 0, 1) := by decide +kernel
theorem dX0_count_103 : decode cX0_count 103 = .ok (.iadd, 1) := by decide +kernel
theorem dX0_count_104 : decode cX0_count 104 = .ok (.putfield 86, 3) := by decide +kernel
theorem dX0_count_107 : decode cX0_count 107 = .ok (.iinc 4 1, 3) := by decide +kernel
theorem dX0_count_110 : decode cX0_count 110 = .ok (.goto (-107), 3) := by decide +kernel
theorem dX0_count_113 : decode cX0_count 113 = .ok (.return_, 1) := by decide +kernel
theorem dX0_keep_0 : decode cX0_keep 0 = .ok (.iconst 0, 1) := by decide +kernel
theorem dX0_keep_1 : decode cX0_keep 1 = .ok (.istore 4, 2) := by decide +kernel
theorem dX0_keep_3 : decode cX0_keep 3 = .ok (.iload 4, 2) := by decide +kernel
theorem dX0_keep_5 : decode cX0_keep 5 = .ok (.aload_n 2, 1) := by decide +kernel
theorem dX0_keep_6 : decode cX0_keep 6 = .ok (.getfield 89, 3) := by decide +kernel
theorem dX0_keep_9 : decode cX0_keep 9 = .ok (.iload_n 1, 1) := by decide +kernel
theorem dX0_keep_10 : decode cX0_keep 10 = .ok (.invokevirtual 111, 3) := by decide +kernel
theorem dX0_keep_13 : decode cX0_keep 13 = .ok (.if_icmp .ge 39, 3) := by decide +kernel
theorem dX0_keep_16 : decode cX0_keep 16 = .ok (.aload_n 2, 1) := by decide +kernel
theorem dX0_keep_17 : decode cX0_keep 17 = .ok (.getfield 89, 3) := by decide +kernel
theorem dX0_keep_20 : decode cX0_keep 20 = .ok (.iload_n 1, 1) := by decide +kernel
theorem dX0_keep_21 : decode cX0_keep 21 = .ok (.iload 4, 2) := by decide +kernel
theorem dX0_keep_23 : decode cX0_keep 23 = .ok (.invokevirtual 115, 3) := by decide +kernel
theorem dX0_keep_26 : decode cX0_keep 26 = .ok (.istore 5, 2) := by decide +kernel
theorem dX0_keep_28 : decode cX0_keep 28 = .ok (.aload_n 2, 1) := by decide +kernel
theorem dX0_keep_29 : decode cX0_keep 29 = .ok (.getfield 128, 3) := by decide +kernel
theorem dX0_keep_32 : decode cX0_keep 32 = .ok (.iload 5, 2) := by decide +kernel
theorem dX0_keep_34 : decode cX0_keep 34 = .ok (.aload_n 3, 1) := by decide +kernel
theorem dX0_keep_35 : decode cX0_keep 35 = .ok (.getfield 128, 3) := by decide +kernel
theorem dX0_keep_38 : decode cX0_keep 38 = .ok (.aload_n 0, 1) := by decide +kernel
theorem dX0_keep_39 : decode cX0_keep 39 = .ok (.iload 5, 2) := by decide +kernel
theorem dX0_keep_41 : decode cX0_keep 41 = .ok (.invokevirtual 131, 3) := by decide +kernel
theorem dX0_keep_44 : decode cX0_keep 44 = .ok (.iaload, 1) := by decide +kernel
theorem dX0_keep_45 : decode cX0_keep 45 = .ok (.iastore, 1) := by decide +kernel
theorem dX0_keep_46 : decode cX0_keep 46 = .ok (.iinc 4 1, 3) := by decide +kernel
theorem dX0_keep_49 : decode cX0_keep 49 = .ok (.goto (-46), 3) := by decide +kernel
theorem dX0_keep_52 : decode cX0_keep 52 = .ok (.aload_n 3, 1) := by decide +kernel
theorem dX0_keep_53 : decode cX0_keep 53 = .ok (.getfield 89, 3) := by decide +kernel
theorem dX0_keep_56 : decode cX0_keep 56 = .ok (.getfield 75, 3) := by decide +kernel
theorem dX0_keep_59 : decode cX0_keep 59 = .ok (.aload_n 0, 1) := by decide +kernel
theorem dX0_keep_60 : decode cX0_keep 60 = .ok (.aload_n 2, 1) := by decide +kernel
theorem dX0_keep_61 : decode cX0_keep 61 = .ok (.getfield 89, 3) := by decide +kernel
theorem dX0_keep_64 : decode cX0_keep 64 = .ok (.iload_n 1, 1) := by decide +kernel
theorem dX0_keep_65 : decode cX0_keep 65 = .ok (.invokevirtual 134, 3) := by decide +kernel
theorem dX0_keep_68 : decode cX0_keep 68 = .ok (.invokevirtual 131, 3) := by decide +kernel
theorem dX0_keep_71 : decode cX0_keep 71 = .ok (.iaload, 1) := by decide +kernel
theorem dX0_keep_72 : decode cX0_keep 72 = .ok (.istore 4, 2) := by decide +kernel
theorem dX0_keep_74 : decode cX0_keep 74 = .ok (.aload_n 2, 1) := by decide +kernel
theorem dX0_keep_75 : decode cX0_keep 75 = .ok (.getfield 136, 3) := by decide +kernel
theorem dX0_keep_78 : decode cX0_keep 78 = .ok (.iload_n 1, 1) := by decide +kernel
theorem dX0_keep_79 : decode cX0_keep 79 = .ok (.aload_n 3, 1) := by decide +kernel
theorem dX0_keep_80 : decode cX0_keep 80 = .ok (.getfield 136, 3) := by decide +kernel
theorem dX0_keep_83 : decode cX0_keep 83 = .ok (.iload 4, 2) := by decide +kernel
theorem dX0_keep_85 : decode cX0_keep 85 = .ok (.iaload, 1) := by decide +kernel
theorem dX0_keep_86 : decode cX0_keep 86 = .ok (.iastore, 1) := by decide +kernel
theorem dX0_keep_87 : decode cX0_keep 87 = .ok (.aload_n 2, 1) := by decide +kernel
theorem dX0_keep_88 : decode cX0_keep 88 = .ok (.getfield 139, 3) := by decide +kernel
theorem dX0_keep_91 : decode cX0_keep 91 = .ok (.iload_n 1, 1) := by decide +kernel
theorem dX0_keep_92 : decode cX0_keep 92 = .ok (.aload_n 3, 1) := by decide +kernel
theorem dX0_keep_93 : decode cX0_keep 93 = .ok (.getfield 139, 3) := by decide +kernel
theorem dX0_keep_96 : decode cX0_keep 96 = .ok (.iload 4, 2) := by decide +kernel
theorem dX0_keep_98 : decode cX0_keep 98 = .ok (.baload, 1) := by decide +kernel
theorem dX0_keep_99 : decode cX0_keep 99 = .ok (.bastore, 1) := by decide +kernel
theorem dX0_keep_100 : decode cX0_keep 100 = .ok (.return_, 1) := by decide +kernel
theorem dX0_stoodFor_0 : decode cX0_stoodFor 0 = .ok (.bipush 8, 2) := by decide +kernel
theorem dX0_stoodFor_2 : decode cX0_stoodFor 2 = .ok (.aload_n 0, 1) := by decide +kernel
theorem dX0_stoodFor_3 : decode cX0_stoodFor 3 = .ok (.getfield 21, 3) := by decide +kernel
theorem dX0_stoodFor_6 : decode cX0_stoodFor 6 = .ok (.iload_n 1, 1) := by decide +kernel
theorem dX0_stoodFor_7 : decode cX0_stoodFor 7 = .ok (.bipush 8, 2) := by decide +kernel
theorem dX0_stoodFor_9 : decode cX0_stoodFor 9 = .ok (.idiv, 1) := by decide +kernel
theorem dX0_stoodFor_10 : decode cX0_stoodFor 10 = .ok (.iaload, 1) := by decide +kernel
theorem dX0_stoodFor_11 : decode cX0_stoodFor 11 = .ok (.imul, 1) := by decide +kernel
theorem dX0_stoodFor_12 : decode cX0_stoodFor 12 = .ok (.iload_n 1, 1) := by decide +kernel
theorem dX0_stoodFor_13 : decode cX0_stoodFor 13 = .ok (.bipush 8, 2) := by decide +kernel
theorem dX0_stoodFor_15 : decode cX0_stoodFor 15 = .ok (.irem, 1) := by decide +kernel
theorem dX0_stoodFor_16 : decode cX0_stoodFor 16 = .ok (.iadd, 1) := by decide +kernel
theorem dX0_stoodFor_17 : decode cX0_stoodFor 17 = .ok (.ireturn, 1) := by decide +kernel
theorem dX7_init_0 : decode cX7_init 0 = .ok (.aload_n 0, 1) := by decide +kernel
theorem dX7_init_1 : decode cX7_init 1 = .ok (.invokespecial 3, 3) := by decide +kernel
theorem dX7_init_4 : decode cX7_init 4 = .ok (.aload_n 0, 1) := by decide +kernel
theorem dX7_init_5 : decode cX7_init 5 = .ok (.sipush 1000, 3) := by decide +kernel
theorem dX7_init_8 : decode cX7_init 8 = .ok (.newarray .byte, 2) := by decide +kernel
theorem dX7_init_10 : decode cX7_init 10 = .ok (.putfield 9, 3) := by decide +kernel
theorem dX7_init_13 : decode cX7_init 13 = .ok (.aload_n 0, 1) := by decide +kernel
theorem dX7_init_14 : decode cX7_init 14 = .ok (.sipush 1001, 3) := by decide +kernel
theorem dX7_init_17 : decode cX7_init 17 = .ok (.newarray .int, 2) := by decide +kernel
theorem dX7_init_19 : decode cX7_init 19 = .ok (.putfield 15, 3) := by decide +kernel
theorem dX7_init_22 : decode cX7_init 22 = .ok (.aload_n 0, 1) := by decide +kernel
theorem dX7_init_23 : decode cX7_init 23 = .ok (.sipush 1001, 3) := by decide +kernel
theorem dX7_init_26 : decode cX7_init 26 = .ok (.newarray .int, 2) := by decide +kernel
theorem dX7_init_28 : decode cX7_init 28 = .ok (.putfield 19, 3) := by decide +kernel
theorem dX7_init_31 : decode cX7_init 31 = .ok (.aload_n 0, 1) := by decide +kernel
theorem dX7_init_32 : decode cX7_init 32 = .ok (.sipush 1001, 3) := by decide +kernel
theorem dX7_init_35 : decode cX7_init 35 = .ok (.newarray .long, 2) := by decide +kernel
theorem dX7_init_37 : decode cX7_init 37 = .ok (.putfield 22, 3) := by decide +kernel
theorem dX7_init_40 : decode cX7_init 40 = .ok (.return_, 1) := by decide +kernel
theorem dX7_append_0 : decode cX7_append 0 = .ok (.bipush 24, 2) := by decide +kernel
theorem dX7_append_2 : decode cX7_append 2 = .ok (.istore_n 2, 1) := by decide +kernel
theorem dX7_append_3 : decode cX7_append 3 = .ok (.iload_n 2, 1) := by decide +kernel
theorem dX7_append_4 : decode cX7_append 4 = .ok (.ifCond .lt 44, 3) := by decide +kernel
theorem dX7_append_7 : decode cX7_append 7 = .ok (.aload_n 0, 1) := by decide +kernel
theorem dX7_append_8 : decode cX7_append 8 = .ok (.getfield 26, 3) := by decide +kernel
theorem dX7_append_11 : decode cX7_append 11 = .ok (.aload_n 0, 1) := by decide +kernel
theorem dX7_append_12 : decode cX7_append 12 = .ok (.getfield 9, 3) := by decide +kernel
theorem dX7_append_15 : decode cX7_append 15 = .ok (.arraylength, 1) := by decide +kernel
theorem dX7_append_16 : decode cX7_append 16 = .ok (.if_icmp .ge 26, 3) := by decide +kernel
theorem dX7_append_19 : decode cX7_append 19 = .ok (.aload_n 0, 1) := by decide +kernel
theorem dX7_append_20 : decode cX7_append 20 = .ok (.getfield 9, 3) := by decide +kernel
theorem dX7_append_23 : decode cX7_append 23 = .ok (.aload_n 0, 1) := by decide +kernel
theorem dX7_append_24 : decode cX7_append 24 = .ok (.getfield 26, 3) := by decide +kernel
theorem dX7_append_27 : decode cX7_append 27 = .ok (.iload_n 1, 1) := by decide +kernel
theorem dX7_append_28 : decode cX7_append 28 = .ok (.iload_n 2, 1) := by decide +kernel
theorem dX7_append_29 : decode cX7_append 29 = .ok (.iushr, 1) := by decide +kernel
theorem dX7_append_30 : decode cX7_append 30 = .ok (.i2b, 1) := by decide +kernel
theorem dX7_append_31 : decode cX7_append 31 = .ok (.bastore, 1) := by decide +kernel
theorem dX7_append_32 : decode cX7_append 32 = .ok (.aload_n 0, 1) := by decide +kernel
theorem dX7_append_33 : decode cX7_append 33 = .ok (.dup, 1) := by decide +kernel
theorem dX7_append_34 : decode cX7_append 34 = .ok (.getfield 26, 3) := by decide +kernel
theorem dX7_append_37 : decode cX7_append 37 = .ok (.iconst 1, 1) := by decide +kernel
theorem dX7_append_38 : decode cX7_append 38 = .ok (.iadd, 1) := by decide +kernel
theorem dX7_append_39 : decode cX7_append 39 = .ok (.putfield 26, 3) := by decide +kernel
theorem dX7_append_42 : decode cX7_append 42 = .ok (.iinc 2 (-8), 3) := by decide +kernel
theorem dX7_append_45 : decode cX7_append 45 = .ok (.goto (-42), 3) := by decide +kernel
theorem dX7_append_48 : decode cX7_append 48 = .ok (.return_, 1) := by decide +kernel
theorem dX7_holds_0 : decode cX7_holds 0 = .ok (.iload_n 1, 1) := by decide +kernel
theorem dX7_holds_1 : decode cX7_holds 1 = .ok (.ifCond .lt 15, 3) := by decide +kernel
theorem dX7_holds_4 : decode cX7_holds 4 = .ok (.iload_n 1, 1) := by decide +kernel
theorem dX7_holds_5 : decode cX7_holds 5 = .ok (.aload_n 0, 1) := by decide +kernel
theorem dX7_holds_6 : decode cX7_holds 6 = .ok (.getfield 26, 3) := by decide +kernel
theorem dX7_holds_9 : decode cX7_holds 9 = .ok (.if_icmp .gt 7, 3) := by decide +kernel
theorem dX7_holds_12 : decode cX7_holds 12 = .ok (.iconst 1, 1) := by decide +kernel
theorem dX7_holds_13 : decode cX7_holds 13 = .ok (.goto 4, 3) := by decide +kernel
theorem dX7_holds_16 : decode cX7_holds 16 = .ok (.iconst 0, 1) := by decide +kernel
theorem dX7_holds_17 : decode cX7_holds 17 = .ok (.ireturn, 1) := by decide +kernel
theorem dX7_begin_0 : decode cX7_begin 0 = .ok (.aload_n 0, 1) := by decide +kernel
theorem dX7_begin_1 : decode cX7_begin 1 = .ok (.iconst 0, 1) := by decide +kernel
theorem dX7_begin_2 : decode cX7_begin 2 = .ok (.putfield 26, 3) := by decide +kernel
theorem dX7_begin_5 : decode cX7_begin 5 = .ok (.aload_n 0, 1) := by decide +kernel
theorem dX7_begin_6 : decode cX7_begin 6 = .ok (.iconst 0, 1) := by decide +kernel
theorem dX7_begin_7 : decode cX7_begin 7 = .ok (.putfield 30, 3) := by decide +kernel
theorem dX7_begin_10 : decode cX7_begin 10 = .ok (.aload_n 0, 1) := by decide +kernel
theorem dX7_begin_11 : decode cX7_begin 11 = .ok (.iconst 0, 1) := by decide +kernel
theorem dX7_begin_12 : decode cX7_begin 12 = .ok (.putfield 33, 3) := by decide +kernel
theorem dX7_begin_15 : decode cX7_begin 15 = .ok (.aload_n 0, 1) := by decide +kernel
theorem dX7_begin_16 : decode cX7_begin 16 = .ok (.iconst (-1), 1) := by decide +kernel
theorem dX7_begin_17 : decode cX7_begin 17 = .ok (.putfield 36, 3) := by decide +kernel
theorem dX7_begin_20 : decode cX7_begin 20 = .ok (.iconst 0, 1) := by decide +kernel
theorem dX7_begin_21 : decode cX7_begin 21 = .ok (.istore_n 2, 1) := by decide +kernel
theorem dX7_begin_22 : decode cX7_begin 22 = .ok (.iconst 0, 1) := by decide +kernel
theorem dX7_begin_23 : decode cX7_begin 23 = .ok (.istore_n 3, 1) := by decide +kernel
theorem dX7_begin_24 : decode cX7_begin 24 = .ok (.iload_n 3, 1) := by decide +kernel
theorem dX7_begin_25 : decode cX7_begin 25 = .ok (.iload_n 1, 1) := by decide +kernel
theorem dX7_begin_26 : decode cX7_begin 26 = .ok (.if_icmp .ge 32, 3) := by decide +kernel
theorem dX7_begin_29 : decode cX7_begin 29 = .ok (.iload_n 3, 1) := by decide +kernel
theorem dX7_begin_30 : decode cX7_begin 30 = .ok (.iload_n 2, 1) := by decide +kernel
theorem dX7_begin_31 : decode cX7_begin 31 = .ok (.if_icmp .lt 21, 3) := by decide +kernel
theorem dX7_begin_34 : decode cX7_begin 34 = .ok (.aload_n 0, 1) := by decide +kernel
theorem dX7_begin_35 : decode cX7_begin 35 = .ok (.iload_n 3, 1) := by decide +kernel
theorem dX7_begin_36 : decode cX7_begin 36 = .ok (.invokevirtual 39, 3) := by decide +kernel
theorem dX7_begin_39 : decode cX7_begin 39 = .ok (.invokestatic 43, 3) := by decide +kernel
theorem dX7_begin_42 : decode cX7_begin 42 = .ok (.ifCond .ne 10, 3) := by decide +kernel
theorem dX7_begin_45 : decode cX7_begin 45 = .ok (.aload_n 0, 1) := by decide +kernel
theorem dX7_begin_46 : decode cX7_begin 46 = .ok (.iload_n 3, 1) := by decide +kernel
theorem dX7_begin_47 : decode cX7_begin 47 = .ok (.iload_n 1, 1) := by decide +kernel
theorem dX7_begin_48 : decode cX7_begin 48 = .ok (.invokevirtual 47, 3) := by decide +kernel
theorem dX7_begin_51 : decode cX7_begin 51 = .ok (.istore_n 2, 1) := by decide +kernel
theorem dX7_begin_52 : decode cX7_begin 52 = .ok (.iinc 3 1, 3) := by decide +kernel
theorem dX7_begin_55 : decode cX7_begin 55 = .ok (.goto (-31), 3) := by decide +kernel
theorem dX7_begin_58 : decode cX7_begin 58 = .ok (.aload_n 0, 1) := by decide +kernel
theorem dX7_begin_59 : decode cX7_begin 59 = .ok (.iconst 0, 1) := by decide +kernel
theorem dX7_begin_60 : decode cX7_begin 60 = .ok (.iload_n 1, 1) := by decide +kernel
theorem dX7_begin_61 : decode cX7_begin 61 = .ok (.lconst 0, 1) := by decide +kernel
theorem dX7_begin_62 : decode cX7_begin 62 = .ok (.invokevirtual 51, 3) := by decide +kernel
theorem dX7_begin_65 : decode cX7_begin 65 = .ok (.aload_n 0, 1) := by decide +kernel
theorem dX7_begin_66 : decode cX7_begin 66 = .ok (.iconst (-1), 1) := by decide +kernel
theorem dX7_begin_67 : decode cX7_begin 67 = .ok (.putfield 55, 3) := by decide +kernel
theorem dX7_begin_70 : decode cX7_begin 70 = .ok (.aload_n 0, 1) := by decide +kernel
theorem dX7_begin_71 : decode cX7_begin 71 = .ok (.invokevirtual 58, 3) := by decide +kernel
theorem dX7_begin_74 : decode cX7_begin 74 = .ok (.return_, 1) := by decide +kernel
theorem dX7_advance_0 : decode cX7_advance 0 = .ok (.aload_n 0, 1) := by decide +kernel
theorem dX7_advance_1 : decode cX7_advance 1 = .ok (.getfield 55, 3) := by decide +kernel
theorem dX7_advance_4 : decode cX7_advance 4 = .ok (.iconst 1, 1) := by decide +kernel
theorem dX7_advance_5 : decode cX7_advance 5 = .ok (.iadd, 1) := by decide +kernel
theorem dX7_advance_6 : decode cX7_advance 6 = .ok (.aload_n 0, 1) := by decide +kernel
theorem dX7_advance_7 : decode cX7_advance 7 = .ok (.getfield 30, 3) := by decide +kernel
theorem dX7_advance_10 : decode cX7_advance 10 = .ok (.if_icmp .ge 13, 3) := by decide +kernel
theorem dX7_advance_13 : decode cX7_advance 13 = .ok (.aload_n 0, 1) := by decide +kernel
theorem dX7_advance_14 : decode cX7_advance 14 = .ok (.dup, 1) := by decide +kernel
theorem dX7_advance_15 : decode cX7_advance 15 = .ok (.getfield 55, 3) := by decide +kernel
theorem dX7_advance_18 : decode cX7_advance 18 = .ok (.iconst 1, 1) := by decide +kernel
theorem dX7_advance_19 : decode cX7_advance 19 = .ok (.iadd, 1) := by decide +kernel
theorem dX7_advance_20 : decode cX7_advance 20 = .ok (.putfield 55, 3) := by decide +kernel
theorem dX7_advance_23 : decode cX7_advance 23 = .ok (.aload_n 0, 1) := by decide +kernel
theorem dX7_advance_24 : decode cX7_advance 24 = .ok (.aload_n 0, 1) := by decide +kernel
theorem dX7_advance_25 : decode cX7_advance 25 = .ok (.getfield 15, 3) := by decide +kernel
theorem dX7_advance_28 : decode cX7_advance 28 = .ok (.aload_n 0, 1) := by decide +kernel
theorem dX7_advance_29 : decode cX7_advance 29 = .ok (.getfield 55, 3) := by decide +kernel
theorem dX7_advance_32 : decode cX7_advance 32 = .ok (.iaload, 1) := by decide +kernel
theorem dX7_advance_33 : decode cX7_advance 33 = .ok (.putfield 61, 3) := by decide +kernel
theorem dX7_advance_36 : decode cX7_advance 36 = .ok (.aload_n 0, 1) := by decide +kernel
theorem dX7_advance_37 : decode cX7_advance 37 = .ok (.aload_n 0, 1) := by decide +kernel
theorem dX7_advance_38 : decode cX7_advance 38 = .ok (.getfield 22, 3) := by decide +kernel
theorem dX7_advance_41 : decode cX7_advance 41 = .ok (.aload_n 0, 1) := by decide +kernel
theorem dX7_advance_42 : decode cX7_advance 42 = .ok (.getfield 55, 3) := by decide +kernel
theorem dX7_advance_45 : decode cX7_advance 45 = .ok (.laload, 1) := by decide +kernel
theorem dX7_advance_46 : decode cX7_advance 46 = .ok (.putfield 64, 3) := by decide +kernel
theorem dX7_advance_49 : decode cX7_advance 49 = .ok (.return_, 1) := by decide +kernel
theorem dX7_isSignOf_0 : decode cX7_isSignOf 0 = .ok (.aload_n 0, 1) := by decide +kernel
theorem dX7_isSignOf_1 : decode cX7_isSignOf 1 = .ok (.getfield 61, 3) := by decide +kernel
theorem dX7_isSignOf_4 : decode cX7_isSignOf 4 = .ok (.iconst 3, 1) := by decide +kernel
theorem dX7_isSignOf_5 : decode cX7_isSignOf 5 = .ok (.if_icmp .ne 17, 3) := by decide +kernel
theorem dX7_isSignOf_8 : decode cX7_isSignOf 8 = .ok (.aload_n 0, 1) := by decide +kernel
theorem dX7_isSignOf_9 : decode cX7_isSignOf 9 = .ok (.getfield 64, 3) := by decide +kernel
theorem dX7_isSignOf_12 : decode cX7_isSignOf 12 = .ok (.iload_n 1, 1) := by decide +kernel
theorem dX7_isSignOf_13 : decode cX7_isSignOf 13 = .ok (.i2l, 1) := by decide +kernel
theorem dX7_isSignOf_14 : decode cX7_isSignOf 14 = .ok (.lcmp, 1) := by decide +kernel
theorem dX7_isSignOf_15 : decode cX7_isSignOf 15 = .ok (.ifCond .ne 7, 3) := by decide +kernel
theorem dX7_isSignOf_18 : decode cX7_isSignOf 18 = .ok (.iconst 1, 1) := by decide +kernel
theorem dX7_isSignOf_19 : decode cX7_isSignOf 19 = .ok (.goto 4, 3) := by decide +kernel
theorem dX7_isSignOf_22 : decode cX7_isSignOf 22 = .ok (.iconst 0, 1) := by decide +kernel
theorem dX7_isSignOf_23 : decode cX7_isSignOf 23 = .ok (.ireturn, 1) := by decide +kernel
theorem dX7_isWordOf_0 : decode cX7_isWordOf 0 = .ok (.aload_n 0, 1) := by decide +kernel
theorem dX7_isWordOf_1 : decode cX7_isWordOf 1 = .ok (.getfield 61, 3) := by decide +kernel
theorem dX7_isWordOf_4 : decode cX7_isWordOf 4 = .ok (.iconst 1, 1) := by decide +kernel
theorem dX7_isWordOf_5 : decode cX7_isWordOf 5 = .ok (.if_icmp .ne 16, 3) := by decide +kernel
theorem dX7_isWordOf_8 : decode cX7_isWordOf 8 = .ok (.aload_n 0, 1) := by decide +kernel
theorem dX7_isWordOf_9 : decode cX7_isWordOf 9 = .ok (.getfield 64, 3) := by decide +kernel
theorem dX7_isWordOf_12 : decode cX7_isWordOf 12 = .ok (.lload_n 1, 1) := by decide +kernel
theorem dX7_isWordOf_13 : decode cX7_isWordOf 13 = .ok (.lcmp, 1) := by decide +kernel
theorem dX7_isWordOf_14 : decode cX7_isWordOf 14 = .ok (.ifCond .ne 7, 3) := by decide +kernel
theorem dX7_isWordOf_17 : decode cX7_isWordOf 17 = .ok (.iconst 1, 1) := by decide +kernel
theorem dX7_isWordOf_18 : decode cX7_isWordOf 18 = .ok (.goto 4, 3) := by decide +kernel
theorem dX7_isWordOf_21 : decode cX7_isWordOf 21 = .ok (.iconst 0, 1) := by decide +kernel
theorem dX7_isWordOf_22 : decode cX7_isWordOf 22 = .ok (.ireturn, 1) := by decide +kernel
theorem dX7_isName_0 : decode cX7_isName 0 = .ok (.aload_n 0, 1) := by decide +kernel
theorem dX7_isName_1 : decode cX7_isName 1 = .ok (.getfield 61, 3) := by decide +kernel
theorem dX7_isName_4 : decode cX7_isName 4 = .ok (.iconst 1, 1) := by decide +kernel
theorem dX7_isName_5 : decode cX7_isName 5 = .ok (.if_icmp .ne 106, 3) := by decide +kernel
theorem dX7_isName_8 : decode cX7_isName 8 = .ok (.aload_n 0, 1) := by decide +kernel
theorem dX7_isName_9 : decode cX7_isName 9 = .ok (.getfield 64, 3) := by decide +kernel
theorem dX7_isName_12 : decode cX7_isName 12 = .ok (.ldc2_w 68, 3) := by decide +kernel
theorem dX7_isName_15 : decode cX7_isName 15 = .ok (.lcmp, 1) := by decide +kernel
theorem dX7_isName_16 : decode cX7_isName 16 = .ok (.ifCond .eq 95, 3) := by decide +kernel
theorem dX7_isName_19 : decode cX7_isName 19 = .ok (.aload_n 0, 1) := by decide +kernel
theorem dX7_isName_20 : decode cX7_isName 20 = .ok (.getfield 64, 3) := by decide +kernel
theorem dX7_isName_23 : decode cX7_isName 23 = .ok (.ldc2_w 70, 3) := by decide +kernel
theorem dX7_isName_26 : decode cX7_isName 26 = .ok (.lcmp, 1) := by decide +kernel
theorem dX7_isName_27 : decode cX7_isName 27 = .ok (.ifCond .eq 84, 3) := by decide +kernel
theorem dX7_isName_30 : decode cX7_isName 30 = .ok (.aload_n 0, 1) := by decide +kernel
theorem dX7_isName_31 : decode cX7_isName 31 = .ok (.getfield 64, 3) := by decide +kernel
theorem dX7_isName_34 : decode cX7_isName 34 = .ok (.ldc2_w 72, 3) := by decide +kernel
theorem dX7_isName_37 : decode cX7_isName 37 = .ok (.lcmp, 1) := by decide +kernel
theorem dX7_isName_38 : decode cX7_isName 38 = .ok (.ifCond .eq 73, 3) := by decide +kernel
theorem dX7_isName_41 : decode cX7_isName 41 = .ok (.aload_n 0, 1) := by decide +kernel
theorem dX7_isName_42 : decode cX7_isName 42 = .ok (.getfield 64, 3) := by decide +kernel
theorem dX7_isName_45 : decode cX7_isName 45 = .ok (.ldc2_w 74, 3) := by decide +kernel
theorem dX7_isName_48 : decode cX7_isName 48 = .ok (.lcmp, 1) := by decide +kernel
theorem dX7_isName_49 : decode cX7_isName 49 = .ok (.ifCond .eq 62, 3) := by decide +kernel
theorem dX7_isName_52 : decode cX7_isName 52 = .ok (.aload_n 0, 1) := by decide +kernel
theorem dX7_isName_53 : decode cX7_isName 53 = .ok (.getfield 64, 3) := by decide +kernel
theorem dX7_isName_56 : decode cX7_isName 56 = .ok (.ldc2_w 76, 3) := by decide +kernel
theorem dX7_isName_59 : decode cX7_isName 59 = .ok (.lcmp, 1) := by decide +kernel
theorem dX7_isName_60 : decode cX7_isName 60 = .ok (.ifCond .eq 51, 3) := by decide +kernel
theorem dX7_isName_63 : decode cX7_isName 63 = .ok (.aload_n 0, 1) := by decide +kernel
theorem dX7_isName_64 : decode cX7_isName 64 = .ok (.getfield 64, 3) := by decide +kernel
theorem dX7_isName_67 : decode cX7_isName 67 = .ok (.ldc2_w 78, 3) := by decide +kernel
theorem dX7_isName_70 : decode cX7_isName 70 = .ok (.lcmp, 1) := by decide +kernel
theorem dX7_isName_71 : decode cX7_isName 71 = .ok (.ifCond .eq 40, 3) := by decide +kernel
theorem dX7_isName_74 : decode cX7_isName 74 = .ok (.aload_n 0, 1) := by decide +kernel
theorem dX7_isName_75 : decode cX7_isName 75 = .ok (.getfield 64, 3) := by decide +kernel
theorem dX7_isName_78 : decode cX7_isName 78 = .ok (.ldc2_w 80, 3) := by decide +kernel
theorem dX7_isName_81 : decode cX7_isName 81 = .ok (.lcmp, 1) := by decide +kernel
theorem dX7_isName_82 : decode cX7_isName 82 = .ok (.ifCond .eq 29, 3) := by decide +kernel
theorem dX7_isName_85 : decode cX7_isName 85 = .ok (.aload_n 0, 1) := by decide +kernel
theorem dX7_isName_86 : decode cX7_isName 86 = .ok (.getfield 64, 3) := by decide +kernel
theorem dX7_isName_89 : decode cX7_isName 89 = .ok (.ldc2_w 82, 3) := by decide +kernel
theorem dX7_isName_92 : decode cX7_isName 92 = .ok (.lcmp, 1) := by decide +kernel
theorem dX7_isName_93 : decode cX7_isName 93 = .ok (.ifCond .eq 18, 3) := by decide +kernel
theorem dX7_isName_96 : decode cX7_isName 96 = .ok (.aload_n 0, 1) := by decide +kernel
theorem dX7_isName_97 : decode cX7_isName 97 = .ok (.getfield 64, 3) := by decide +kernel
theorem dX7_isName_100 : decode cX7_isName 100 = .ok (.ldc2_w 84, 3) := by decide +kernel
theorem dX7_isName_103 : decode cX7_isName 103 = .ok (.lcmp, 1) := by decide +kernel
theorem dX7_isName_104 : decode cX7_isName 104 = .ok (.ifCond .eq 7, 3) := by decide +kernel
theorem dX7_isName_107 : decode cX7_isName 107 = .ok (.iconst 1, 1) := by decide +kernel
theorem dX7_isName_108 : decode cX7_isName 108 = .ok (.goto 4, 3) := by decide +kernel
theorem dX7_isName_111 : decode cX7_isName 111 = .ok (.iconst 0, 1) := by decide +kernel
theorem dX7_isName_112 : decode cX7_isName 112 = .ok (.ireturn, 1) := by decide +kernel
theorem dX7_pointFollows_0 : decode cX7_pointFollows 0 = .ok (.aload_n 0, 1) := by decide +kernel
theorem dX7_pointFollows_1 : decode cX7_pointFollows 1 = .ok (.getfield 55, 3) := by decide +kernel
theorem dX7_pointFollows_4 : decode cX7_pointFollows 4 = .ok (.iconst 1, 1) := by decide +kernel
theorem dX7_pointFollows_5 : decode cX7_pointFollows 5 = .ok (.iadd, 1) := by decide +kernel
theorem dX7_pointFollows_6 : decode cX7_pointFollows 6 = .ok (.aload_n 0, 1) := by decide +kernel
theorem dX7_pointFollows_7 : decode cX7_pointFollows 7 = .ok (.getfield 30, 3) := by decide +kernel
theorem dX7_pointFollows_10 : decode cX7_pointFollows 10 = .ok (.if_icmp .ge 40, 3) := by decide +kernel
theorem dX7_pointFollows_13 : decode cX7_pointFollows 13 = .ok (.aload_n 0, 1) := by decide +kernel
theorem dX7_pointFollows_14 : decode cX7_pointFollows 14 = .ok (.getfield 15, 3) := by decide +kernel
theorem dX7_pointFollows_17 : decode cX7_pointFollows 17 = .ok (.aload_n 0, 1) := by decide +kernel
theorem dX7_pointFollows_18 : decode cX7_pointFollows 18 = .ok (.getfield 55, 3) := by decide +kernel
theorem dX7_pointFollows_21 : decode cX7_pointFollows 21 = .ok (.iconst 1, 1) := by decide +kernel
theorem dX7_pointFollows_22 : decode cX7_pointFollows 22 = .ok (.iadd, 1) := by decide +kernel
theorem dX7_pointFollows_23 : decode cX7_pointFollows 23 = .ok (.iaload, 1) := by decide +kernel
theorem dX7_pointFollows_24 : decode cX7_pointFollows 24 = .ok (.iconst 3, 1) := by decide +kernel
theorem dX7_pointFollows_25 : decode cX7_pointFollows 25 = .ok (.if_icmp .ne 25, 3) := by decide +kernel
theorem dX7_pointFollows_28 : decode cX7_pointFollows 28 = .ok (.aload_n 0, 1) := by decide +kernel
theorem dX7_pointFollows_29 : decode cX7_pointFollows 29 = .ok (.getfield 22, 3) := by decide +kernel
theorem dX7_pointFollows_32 : decode cX7_pointFollows 32 = .ok (.aload_n 0, 1) := by decide +kernel
theorem dX7_pointFollows_33 : decode cX7_pointFollows 33 = .ok (.getfield 55, 3) := by decide +kernel
theorem dX7_pointFollows_36 : decode cX7_pointFollows 36 = .ok (.iconst 1, 1) := by decide +kernel
theorem dX7_pointFollows_37 : decode cX7_pointFollows 37 = .ok (.iadd, 1) := by decide +kernel
theorem dX7_pointFollows_38 : decode cX7_pointFollows 38 = .ok (.laload, 1) := by decide +kernel
theorem dX7_pointFollows_39 : decode cX7_pointFollows 39 = .ok (.ldc2_w 86, 3) := by decide +kernel
theorem dX7_pointFollows_42 : decode cX7_pointFollows 42 = .ok (.lcmp, 1) := by decide +kernel
theorem dX7_pointFollows_43 : decode cX7_pointFollows 43 = .ok (.ifCond .ne 7, 3) := by decide +kernel
theorem dX7_pointFollows_46 : decode cX7_pointFollows 46 = .ok (.iconst 1, 1) := by decide +kernel
theorem dX7_pointFollows_47 : decode cX7_pointFollows 47 = .ok (.goto 4, 3) := by decide +kernel
theorem dX7_pointFollows_50 : decode cX7_pointFollows 50 = .ok (.iconst 0, 1) := by decide +kernel
theorem dX7_pointFollows_51 : decode cX7_pointFollows 51 = .ok (.ireturn, 1) := by decide +kernel
theorem dX7_takeSign_0 : decode cX7_takeSign 0 = .ok (.aload_n 0, 1) := by decide +kernel
theorem dX7_takeSign_1 : decode cX7_takeSign 1 = .ok (.getfield 61, 3) := by decide +kernel
theorem dX7_takeSign_4 : decode cX7_takeSign 4 = .ok (.iconst 3, 1) := by decide +kernel
theorem dX7_takeSign_5 : decode cX7_takeSign 5 = .ok (.if_icmp .ne 13, 3) := by decide +kernel
theorem dX7_takeSign_8 : decode cX7_takeSign 8 = .ok (.aload_n 0, 1) := by decide +kernel
theorem dX7_takeSign_9 : decode cX7_takeSign 9 = .ok (.getfield 64, 3) := by decide +kernel
theorem dX7_takeSign_12 : decode cX7_takeSign 12 = .ok (.iload_n 1, 1) := by decide +kernel
theorem dX7_takeSign_13 : decode cX7_takeSign 13 = .ok (.i2l, 1) := by decide +kernel
theorem dX7_takeSign_14 : decode cX7_takeSign 14 = .ok (.lcmp, 1) := by decide +kernel
theorem dX7_takeSign_15 : decode cX7_takeSign 15 = .ok (.ifCond .eq 9, 3) := by decide +kernel
theorem dX7_takeSign_18 : decode cX7_takeSign 18 = .ok (.aload_n 0, 1) := by decide +kernel
theorem dX7_takeSign_19 : decode cX7_takeSign 19 = .ok (.iconst 2, 1) := by decide +kernel
theorem dX7_takeSign_20 : decode cX7_takeSign 20 = .ok (.invokevirtual 88, 3) := by decide +kernel
theorem dX7_takeSign_23 : decode cX7_takeSign 23 = .ok (.ireturn, 1) := by decide +kernel
theorem dX7_takeSign_24 : decode cX7_takeSign 24 = .ok (.aload_n 0, 1) := by decide +kernel
theorem dX7_takeSign_25 : decode cX7_takeSign 25 = .ok (.invokevirtual 58, 3) := by decide +kernel
theorem dX7_takeSign_28 : decode cX7_takeSign 28 = .ok (.iconst 1, 1) := by decide +kernel
theorem dX7_takeSign_29 : decode cX7_takeSign 29 = .ok (.ireturn, 1) := by decide +kernel
theorem dX7_fail_0 : decode cX7_fail 0 = .ok (.aload_n 0, 1) := by decide +kernel
theorem dX7_fail_1 : decode cX7_fail 1 = .ok (.aload_n 0, 1) := by decide +kernel
theorem dX7_fail_2 : decode cX7_fail 2 = .ok (.getfield 61, 3) := by decide +kernel
theorem dX7_fail_5 : decode cX7_fail 5 = .ok (.iconst 4, 1) := by decide +kernel
theorem dX7_fail_6 : decode cX7_fail 6 = .ok (.if_icmp .ne 7, 3) := by decide +kernel
theorem dX7_fail_9 : decode cX7_fail 9 = .ok (.iconst 1, 1) := by decide +kernel
theorem dX7_fail_10 : decode cX7_fail 10 = .ok (.goto 4, 3) := by decide +kernel
theorem dX7_fail_13 : decode cX7_fail 13 = .ok (.iload_n 1, 1) := by decide +kernel
theorem dX7_fail_14 : decode cX7_fail 14 = .ok (.putfield 33, 3) := by decide +kernel
theorem dX7_fail_17 : decode cX7_fail 17 = .ok (.aload_n 0, 1) := by decide +kernel
theorem dX7_fail_18 : decode cX7_fail 18 = .ok (.aload_n 0, 1) := by decide +kernel
theorem dX7_fail_19 : decode cX7_fail 19 = .ok (.getfield 19, 3) := by decide +kernel
theorem dX7_fail_22 : decode cX7_fail 22 = .ok (.aload_n 0, 1) := by decide +kernel
theorem dX7_fail_23 : decode cX7_fail 23 = .ok (.getfield 55, 3) := by decide +kernel
theorem dX7_fail_26 : decode cX7_fail 26 = .ok (.iaload, 1) := by decide +kernel
theorem dX7_fail_27 : decode cX7_fail 27 = .ok (.putfield 36, 3) := by decide +kernel
theorem dX7_fail_30 : decode cX7_fail 30 = .ok (.iconst 0, 1) := by decide +kernel
theorem dX7_fail_31 : decode cX7_fail 31 = .ok (.ireturn, 1) := by decide +kernel
theorem dX7_byteAt_0 : decode cX7_byteAt 0 = .ok (.aload_n 0, 1) := by decide +kernel
theorem dX7_byteAt_1 : decode cX7_byteAt 1 = .ok (.getfield 9, 3) := by decide +kernel
theorem dX7_byteAt_4 : decode cX7_byteAt 4 = .ok (.iload_n 1, 1) := by decide +kernel
theorem dX7_byteAt_5 : decode cX7_byteAt 5 = .ok (.baload, 1) := by decide +kernel
theorem dX7_byteAt_6 : decode cX7_byteAt 6 = .ok (.sipush 255, 3) := by decide +kernel
theorem dX7_byteAt_9 : decode cX7_byteAt 9 = .ok (.iand, 1) := by decide +kernel
theorem dX7_byteAt_10 : decode cX7_byteAt 10 = .ok (.ireturn, 1) := by decide +kernel
theorem dX7_add_0 : decode cX7_add 0 = .ok (.aload_n 0, 1) := by decide +kernel
theorem dX7_add_1 : decode cX7_add 1 = .ok (.getfield 30, 3) := by decide +kernel
theorem dX7_add_4 : decode cX7_add 4 = .ok (.aload_n 0, 1) := by decide +kernel
theorem dX7_add_5 : decode cX7_add 5 = .ok (.getfield 15, 3) := by decide +kernel
theorem dX7_add_8 : decode cX7_add 8 = .ok (.arraylength, 1) := by decide +kernel
theorem dX7_add_9 : decode cX7_add 9 = .ok (.if_icmp .ge 43, 3) := by decide +kernel
theorem dX7_add_12 : decode cX7_add 12 = .ok (.aload_n 0, 1) := by decide +kernel
theorem dX7_add_13 : decode cX7_add 13 = .ok (.getfield 15, 3) := by decide +kernel
theorem dX7_add_16 : decode cX7_add 16 = .ok (.aload_n 0, 1) := by decide +kernel
theorem dX7_add_17 : decode cX7_add 17 = .ok (.getfield 30, 3) := by decide +kernel
theorem dX7_add_20 : decode cX7_add 20 = .ok (.iload_n 1, 1) := by decide +kernel
theorem dX7_add_21 : decode cX7_add 21 = .ok (.iastore, 1) := by decide +kernel
theorem dX7_add_22 : decode cX7_add 22 = .ok (.aload_n 0, 1) := by decide +kernel
theorem dX7_add_23 : decode cX7_add 23 = .ok (.getfield 19, 3) := by decide +kernel
theorem dX7_add_26 : decode cX7_add 26 = .ok (.aload_n 0, 1) := by decide +kernel
theorem dX7_add_27 : decode cX7_add 27 = .ok (.getfield 30, 3) := by decide +kernel
theorem dX7_add_30 : decode cX7_add 30 = .ok (.iload_n 2, 1) := by decide +kernel
theorem dX7_add_31 : decode cX7_add 31 = .ok (.iastore, 1) := by decide +kernel
theorem dX7_add_32 : decode cX7_add 32 = .ok (.aload_n 0, 1) := by decide +kernel
theorem dX7_add_33 : decode cX7_add 33 = .ok (.getfield 22, 3) := by decide +kernel
theorem dX7_add_36 : decode cX7_add 36 = .ok (.aload_n 0, 1) := by decide +kernel
theorem dX7_add_37 : decode cX7_add 37 = .ok (.getfield 30, 3) := by decide +kernel
theorem dX7_add_40 : decode cX7_add 40 = .ok (.lload_n 3, 1) := by decide +kernel
theorem dX7_add_41 : decode cX7_add 41 = .ok (.lastore, 1) := by decide +kernel
theorem dX7_add_42 : decode cX7_add 42 = .ok (.aload_n 0, 1) := by decide +kernel
theorem dX7_add_43 : decode cX7_add 43 = .ok (.dup, 1) := by decide +kernel
theorem dX7_add_44 : decode cX7_add 44 = .ok (.getfield 30, 3) := by decide +kernel
theorem dX7_add_47 : decode cX7_add 47 = .ok (.iconst 1, 1) := by decide +kernel
theorem dX7_add_48 : decode cX7_add 48 = .ok (.iadd, 1) := by decide +kernel
theorem dX7_add_49 : decode cX7_add 49 = .ok (.putfield 30, 3) := by decide +kernel
theorem dX7_add_52 : decode cX7_add 52 = .ok (.return_, 1) := by decide +kernel
theorem dX7_cut_0 : decode cX7_cut 0 = .ok (.aload_n 0, 1) := by decide +kernel
theorem dX7_cut_1 : decode cX7_cut 1 = .ok (.iload_n 1, 1) := by decide +kernel
theorem dX7_cut_2 : decode cX7_cut 2 = .ok (.invokevirtual 39, 3) := by decide +kernel
theorem dX7_cut_5 : decode cX7_cut 5 = .ok (.istore_n 3, 1) := by decide +kernel
theorem dX7_cut_6 : decode cX7_cut 6 = .ok (.iload_n 3, 1) := by decide +kernel
theorem dX7_cut_7 : decode cX7_cut 7 = .ok (.invokestatic 91, 3) := by decide +kernel
theorem dX7_cut_10 : decode cX7_cut 10 = .ok (.ifCond .eq 10, 3) := by decide +kernel
theorem dX7_cut_13 : decode cX7_cut 13 = .ok (.aload_n 0, 1) := by decide +kernel
theorem dX7_cut_14 : decode cX7_cut 14 = .ok (.iload_n 1, 1) := by decide +kernel
theorem dX7_cut_15 : decode cX7_cut 15 = .ok (.iload_n 2, 1) := by decide +kernel
theorem dX7_cut_16 : decode cX7_cut 16 = .ok (.invokevirtual 94, 3) := by decide +kernel
theorem dX7_cut_19 : decode cX7_cut 19 = .ok (.ireturn, 1) := by decide +kernel
theorem dX7_cut_20 : decode cX7_cut 20 = .ok (.iload_n 3, 1) := by decide +kernel
theorem dX7_cut_21 : decode cX7_cut 21 = .ok (.invokestatic 97, 3) := by decide +kernel
theorem dX7_cut_24 : decode cX7_cut 24 = .ok (.ifCond .eq 10, 3) := by decide +kernel
theorem dX7_cut_27 : decode cX7_cut 27 = .ok (.aload_n 0, 1) := by decide +kernel
theorem dX7_cut_28 : decode cX7_cut 28 = .ok (.iload_n 1, 1) := by decide +kernel
theorem dX7_cut_29 : decode cX7_cut 29 = .ok (.iload_n 2, 1) := by decide +kernel
theorem dX7_cut_30 : decode cX7_cut 30 = .ok (.invokevirtual 100, 3) := by decide +kernel
theorem dX7_cut_33 : decode cX7_cut 33 = .ok (.ireturn, 1) := by decide +kernel
theorem dX7_cut_34 : decode cX7_cut 34 = .ok (.aload_n 0, 1) := by decide +kernel
theorem dX7_cut_35 : decode cX7_cut 35 = .ok (.iload_n 3, 1) := by decide +kernel
theorem dX7_cut_36 : decode cX7_cut 36 = .ok (.invokestatic 103, 3) := by decide +kernel
theorem dX7_cut_39 : decode cX7_cut 39 = .ok (.ifCond .eq 7, 3) := by decide +kernel
theorem dX7_cut_42 : decode cX7_cut 42 = .ok (.iconst 3, 1) := by decide +kernel
theorem dX7_cut_43 : decode cX7_cut 43 = .ok (.goto 4, 3) := by decide +kernel
theorem dX7_cut_46 : decode cX7_cut 46 = .ok (.iconst 4, 1) := by decide +kernel
theorem dX7_cut_47 : decode cX7_cut 47 = .ok (.iload_n 1, 1) := by decide +kernel
theorem dX7_cut_48 : decode cX7_cut 48 = .ok (.iload_n 3, 1) := by decide +kernel
theorem dX7_cut_49 : decode cX7_cut 49 = .ok (.i2l, 1) := by decide +kernel
theorem dX7_cut_50 : decode cX7_cut 50 = .ok (.invokevirtual 51, 3) := by decide +kernel
theorem dX7_cut_53 : decode cX7_cut 53 = .ok (.iload_n 1, 1) := by decide +kernel
theorem dX7_cut_54 : decode cX7_cut 54 = .ok (.iconst 1, 1) := by decide +kernel
theorem dX7_cut_55 : decode cX7_cut 55 = .ok (.iadd, 1) := by decide +kernel
theorem dX7_cut_56 : decode cX7_cut 56 = .ok (.ireturn, 1) := by decide +kernel
theorem dX7_cutWord_0 : decode cX7_cutWord 0 = .ok (.iload_n 1, 1) := by decide +kernel
theorem dX7_cutWord_1 : decode cX7_cutWord 1 = .ok (.istore_n 3, 1) := by decide +kernel
theorem dX7_cutWord_2 : decode cX7_cutWord 2 = .ok (.lconst 0, 1) := by decide +kernel
theorem dX7_cutWord_3 : decode cX7_cutWord 3 = .ok (.lstore 4, 2) := by decide +kernel
theorem dX7_cutWord_5 : decode cX7_cutWord 5 = .ok (.iload_n 3, 1) := by decide +kernel
theorem dX7_cutWord_6 : decode cX7_cutWord 6 = .ok (.iload_n 2, 1) := by decide +kernel
theorem dX7_cutWord_7 : decode cX7_cutWord 7 = .ok (.if_icmp .ge 41, 3) := by decide +kernel
theorem dX7_cutWord_10 : decode cX7_cutWord 10 = .ok (.aload_n 0, 1) := by decide +kernel
theorem dX7_cutWord_11 : decode cX7_cutWord 11 = .ok (.iload_n 3, 1) := by decide +kernel
theorem dX7_cutWord_12 : decode cX7_cutWord 12 = .ok (.invokevirtual 39, 3) := by decide +kernel
theorem dX7_cutWord_15 : decode cX7_cutWord 15 = .ok (.invokestatic 91, 3) := by decide +kernel
theorem dX7_cutWord_18 : decode cX7_cutWord 18 = .ok (.ifCond .eq 30, 3) := by decide +kernel
theorem dX7_cutWord_21 : decode cX7_cutWord 21 = .ok (.ldc2_w 106, 3) := by decide +kernel
theorem dX7_cutWord_24 : decode cX7_cutWord 24 = .ok (.lload 4, 2) := by decide +kernel
theorem dX7_cutWord_26 : decode cX7_cutWord 26 = .ok (.lmul, 1) := by decide +kernel
theorem dX7_cutWord_27 : decode cX7_cutWord 27 = .ok (.aload_n 0, 1) := by decide +kernel
theorem dX7_cutWord_28 : decode cX7_cutWord 28 = .ok (.iload_n 3, 1) := by decide +kernel
theorem dX7_cutWord_29 : decode cX7_cutWord 29 = .ok (.invokevirtual 39, 3) := by decide +kernel
theorem dX7_cutWord_32 : decode cX7_cutWord 32 = .ok (.i2l, 1) := by decide +kernel
theorem dX7_cutWord_33 : decode cX7_cutWord 33 = .ok (.ladd, 1) := by decide +kernel
theorem dX7_cutWord_34 : decode cX7_cutWord 34 = .ok (.ldc2_w 108, 3) := by decide +kernel
theorem dX7_cutWord_37 : decode cX7_cutWord 37 = .ok (.lsub, 1) := by decide +kernel
theorem dX7_cutWord_38 : decode cX7_cutWord 38 = .ok (.lconst 1, 1) := by decide +kernel
theorem dX7_cutWord_39 : decode cX7_cutWord 39 = .ok (.ladd, 1) := by decide +kernel
theorem dX7_cutWord_40 : decode cX7_cutWord 40 = .ok (.lstore 4, 2) := by decide +kernel
theorem dX7_cutWord_42 : decode cX7_cutWord 42 = .ok (.iinc 3 1, 3) := by decide +kernel
theorem dX7_cutWord_45 : decode cX7_cutWord 45 = .ok (.goto (-40), 3) := by decide +kernel
theorem dX7_cutWord_48 : decode cX7_cutWord 48 = .ok (.aload_n 0, 1) := by decide +kernel
theorem dX7_cutWord_49 : decode cX7_cutWord 49 = .ok (.iload_n 3, 1) := by decide +kernel
theorem dX7_cutWord_50 : decode cX7_cutWord 50 = .ok (.iload_n 1, 1) := by decide +kernel
theorem dX7_cutWord_51 : decode cX7_cutWord 51 = .ok (.isub, 1) := by decide +kernel
theorem dX7_cutWord_52 : decode cX7_cutWord 52 = .ok (.bipush 8, 2) := by decide +kernel
theorem dX7_cutWord_54 : decode cX7_cutWord 54 = .ok (.if_icmp .le 7, 3) := by decide +kernel
theorem dX7_cutWord_57 : decode cX7_cutWord 57 = .ok (.iconst 4, 1) := by decide +kernel
theorem dX7_cutWord_58 : decode cX7_cutWord 58 = .ok (.goto 4, 3) := by decide +kernel
theorem dX7_cutWord_61 : decode cX7_cutWord 61 = .ok (.iconst 1, 1) := by decide +kernel
theorem dX7_cutWord_62 : decode cX7_cutWord 62 = .ok (.iload_n 1, 1) := by decide +kernel
theorem dX7_cutWord_63 : decode cX7_cutWord 63 = .ok (.lload 4, 2) := by decide +kernel
theorem dX7_cutWord_65 : decode cX7_cutWord 65 = .ok (.invokevirtual 51, 3) := by decide +kernel
theorem dX7_cutWord_68 : decode cX7_cutWord 68 = .ok (.iload_n 3, 1) := by decide +kernel
theorem dX7_cutWord_69 : decode cX7_cutWord 69 = .ok (.ireturn, 1) := by decide +kernel
theorem dX7_cutNumber_0 : decode cX7_cutNumber 0 = .ok (.iload_n 1, 1) := by decide +kernel
theorem dX7_cutNumber_1 : decode cX7_cutNumber 1 = .ok (.istore_n 3, 1) := by decide +kernel
theorem dX7_cutNumber_2 : decode cX7_cutNumber 2 = .ok (.lconst 0, 1) := by decide +kernel
theorem dX7_cutNumber_3 : decode cX7_cutNumber 3 = .ok (.lstore 4, 2) := by decide +kernel
theorem dX7_cutNumber_5 : decode cX7_cutNumber 5 = .ok (.iload_n 3, 1) := by decide +kernel
theorem dX7_cutNumber_6 : decode cX7_cutNumber 6 = .ok (.iload_n 2, 1) := by decide +kernel
theorem dX7_cutNumber_7 : decode cX7_cutNumber 7 = .ok (.if_icmp .ge 39, 3) := by decide +kernel
theorem dX7_cutNumber_10 : decode cX7_cutNumber 10 = .ok (.aload_n 0, 1) := by decide +kernel
theorem dX7_cutNumber_11 : decode cX7_cutNumber 11 = .ok (.iload_n 3, 1) := by decide +kernel
theorem dX7_cutNumber_12 : decode cX7_cutNumber 12 = .ok (.invokevirtual 39, 3) := by decide +kernel
theorem dX7_cutNumber_15 : decode cX7_cutNumber 15 = .ok (.invokestatic 97, 3) := by decide +kernel
theorem dX7_cutNumber_18 : decode cX7_cutNumber 18 = .ok (.ifCond .eq 28, 3) := by decide +kernel
theorem dX7_cutNumber_21 : decode cX7_cutNumber 21 = .ok (.ldc2_w 110, 3) := by decide +kernel
theorem dX7_cutNumber_24 : decode cX7_cutNumber 24 = .ok (.lload 4, 2) := by decide +kernel
theorem dX7_cutNumber_26 : decode cX7_cutNumber 26 = .ok (.lmul, 1) := by decide +kernel
theorem dX7_cutNumber_27 : decode cX7_cutNumber 27 = .ok (.aload_n 0, 1) := by decide +kernel
theorem dX7_cutNumber_28 : decode cX7_cutNumber 28 = .ok (.iload_n 3, 1) := by decide +kernel
theorem dX7_cutNumber_29 : decode cX7_cutNumber 29 = .ok (.invokevirtual 39, 3) := by decide +kernel
theorem dX7_cutNumber_32 : decode cX7_cutNumber 32 = .ok (.i2l, 1) := by decide +kernel
theorem dX7_cutNumber_33 : decode cX7_cutNumber 33 = .ok (.ladd, 1) := by decide +kernel
theorem dX7_cutNumber_34 : decode cX7_cutNumber 34 = .ok (.ldc2_w 112, 3) := by decide +kernel
theorem dX7_cutNumber_37 : decode cX7_cutNumber 37 = .ok (.lsub, 1) := by decide +kernel
theorem dX7_cutNumber_38 : decode cX7_cutNumber 38 = .ok (.lstore 4, 2) := by decide +kernel
theorem dX7_cutNumber_40 : decode cX7_cutNumber 40 = .ok (.iinc 3 1, 3) := by decide +kernel
theorem dX7_cutNumber_43 : decode cX7_cutNumber 43 = .ok (.goto (-38), 3) := by decide +kernel
theorem dX7_cutNumber_46 : decode cX7_cutNumber 46 = .ok (.aload_n 0, 1) := by decide +kernel
theorem dX7_cutNumber_47 : decode cX7_cutNumber 47 = .ok (.iload_n 3, 1) := by decide +kernel
theorem dX7_cutNumber_48 : decode cX7_cutNumber 48 = .ok (.iload_n 1, 1) := by decide +kernel
theorem dX7_cutNumber_49 : decode cX7_cutNumber 49 = .ok (.isub, 1) := by decide +kernel
theorem dX7_cutNumber_50 : decode cX7_cutNumber 50 = .ok (.iconst 4, 1) := by decide +kernel
theorem dX7_cutNumber_51 : decode cX7_cutNumber 51 = .ok (.if_icmp .le 7, 3) := by decide +kernel
theorem dX7_cutNumber_54 : decode cX7_cutNumber 54 = .ok (.iconst 4, 1) := by decide +kernel
theorem dX7_cutNumber_55 : decode cX7_cutNumber 55 = .ok (.goto 4, 3) := by decide +kernel
theorem dX7_cutNumber_58 : decode cX7_cutNumber 58 = .ok (.iconst 2, 1) := by decide +kernel
theorem dX7_cutNumber_59 : decode cX7_cutNumber 59 = .ok (.iload_n 1, 1) := by decide +kernel
theorem dX7_cutNumber_60 : decode cX7_cutNumber 60 = .ok (.lload 4, 2) := by decide +kernel
theorem dX7_cutNumber_62 : decode cX7_cutNumber 62 = .ok (.invokevirtual 51, 3) := by decide +kernel
theorem dX7_cutNumber_65 : decode cX7_cutNumber 65 = .ok (.iload_n 3, 1) := by decide +kernel
theorem dX7_cutNumber_66 : decode cX7_cutNumber 66 = .ok (.ireturn, 1) := by decide +kernel
theorem dX7_isBlank_0 : decode cX7_isBlank 0 = .ok (.iload_n 0, 1) := by decide +kernel
theorem dX7_isBlank_1 : decode cX7_isBlank 1 = .ok (.bipush 10, 2) := by decide +kernel
theorem dX7_isBlank_3 : decode cX7_isBlank 3 = .ok (.if_icmp .eq 9, 3) := by decide +kernel
theorem dX7_isBlank_6 : decode cX7_isBlank 6 = .ok (.iload_n 0, 1) := by decide +kernel
theorem dX7_isBlank_7 : decode cX7_isBlank 7 = .ok (.bipush 32, 2) := by decide +kernel
theorem dX7_isBlank_9 : decode cX7_isBlank 9 = .ok (.if_icmp .ne 7, 3) := by decide +kernel
theorem dX7_isBlank_12 : decode cX7_isBlank 12 = .ok (.iconst 1, 1) := by decide +kernel
theorem dX7_isBlank_13 : decode cX7_isBlank 13 = .ok (.goto 4, 3) := by decide +kernel
theorem dX7_isBlank_16 : decode cX7_isBlank 16 = .ok (.iconst 0, 1) := by decide +kernel
theorem dX7_isBlank_17 : decode cX7_isBlank 17 = .ok (.ireturn, 1) := by decide +kernel
theorem dX7_isLetter_0 : decode cX7_isLetter 0 = .ok (.iload_n 0, 1) := by decide +kernel
theorem dX7_isLetter_1 : decode cX7_isLetter 1 = .ok (.bipush 97, 2) := by decide +kernel
theorem dX7_isLetter_3 : decode cX7_isLetter 3 = .ok (.if_icmp .lt 13, 3) := by decide +kernel
theorem dX7_isLetter_6 : decode cX7_isLetter 6 = .ok (.iload_n 0, 1) := by decide +kernel
theorem dX7_isLetter_7 : decode cX7_isLetter 7 = .ok (.bipush 122, 2) := by decide +kernel
theorem dX7_isLetter_9 : decode cX7_isLetter 9 = .ok (.if_icmp .gt 7, 3) := by decide +kernel
theorem dX7_isLetter_12 : decode cX7_isLetter 12 = .ok (.iconst 1, 1) := by decide +kernel
theorem dX7_isLetter_13 : decode cX7_isLetter 13 = .ok (.goto 4, 3) := by decide +kernel
theorem dX7_isLetter_16 : decode cX7_isLetter 16 = .ok (.iconst 0, 1) := by decide +kernel
theorem dX7_isLetter_17 : decode cX7_isLetter 17 = .ok (.ireturn, 1) := by decide +kernel
theorem dX7_isDigit_0 : decode cX7_isDigit 0 = .ok (.iload_n 0, 1) := by decide +kernel
theorem dX7_isDigit_1 : decode cX7_isDigit 1 = .ok (.bipush 48, 2) := by decide +kernel
theorem dX7_isDigit_3 : decode cX7_isDigit 3 = .ok (.if_icmp .lt 13, 3) := by decide +kernel
theorem dX7_isDigit_6 : decode cX7_isDigit 6 = .ok (.iload_n 0, 1) := by decide +kernel
theorem dX7_isDigit_7 : decode cX7_isDigit 7 = .ok (.bipush 57, 2) := by decide +kernel
theorem dX7_isDigit_9 : decode cX7_isDigit 9 = .ok (.if_icmp .gt 7, 3) := by decide +kernel
theorem dX7_isDigit_12 : decode cX7_isDigit 12 = .ok (.iconst 1, 1) := by decide +kernel
theorem dX7_isDigit_13 : decode cX7_isDigit 13 = .ok (.goto 4, 3) := by decide +kernel
theorem dX7_isDigit_16 : decode cX7_isDigit 16 = .ok (.iconst 0, 1) := by decide +kernel
theorem dX7_isDigit_17 : decode cX7_isDigit 17 = .ok (.ireturn, 1) := by decide +kernel
theorem dX7_isSign_0 : decode cX7_isSign 0 = .ok (.iload_n 0, 1) := by decide +kernel
theorem dX7_isSign_1 : decode cX7_isSign 1 = .ok (.lookupswitch 117 #[(38, 115), (40, 115), (41, 115), (42, 115), (43, 115), (44, 115), (45, 115), (46, 115), (58, 115), (59, 115), (60, 115), (61, 115), (124, 115)], 115) := by decide +kernel
theorem dX7_isSign_116 : decode cX7_isSign 116 = .ok (.iconst 1, 1) := by decide +kernel
theorem dX7_isSign_117 : decode cX7_isSign 117 = .ok (.ireturn, 1) := by decide +kernel
theorem dX7_isSign_118 : decode cX7_isSign 118 = .ok (.iconst 0, 1) := by decide +kernel
theorem dX7_isSign_119 : decode cX7_isSign 119 = .ok (.ireturn, 1) := by decide +kernel
theorem dJ6_numberOfTrailingZeros_0f7a4_0 : decode cJ6_numberOfTrailingZeros_0f7a4 0 = .ok (.iload_n 0, 1) := by decide +kernel
theorem dJ6_numberOfTrailingZeros_0f7a4_1 : decode cJ6_numberOfTrailingZeros_0f7a4 1 = .ok (.iconst (-1), 1) := by decide +kernel
theorem dJ6_numberOfTrailingZeros_0f7a4_2 : decode cJ6_numberOfTrailingZeros_0f7a4 2 = .ok (.ixor, 1) := by decide +kernel
theorem dJ6_numberOfTrailingZeros_0f7a4_3 : decode cJ6_numberOfTrailingZeros_0f7a4 3 = .ok (.iload_n 0, 1) := by decide +kernel
theorem dJ6_numberOfTrailingZeros_0f7a4_4 : decode cJ6_numberOfTrailingZeros_0f7a4 4 = .ok (.iconst 1, 1) := by decide +kernel
theorem dJ6_numberOfTrailingZeros_0f7a4_5 : decode cJ6_numberOfTrailingZeros_0f7a4 5 = .ok (.isub, 1) := by decide +kernel
theorem dJ6_numberOfTrailingZeros_0f7a4_6 : decode cJ6_numberOfTrailingZeros_0f7a4 6 = .ok (.iand, 1) := by decide +kernel
theorem dJ6_numberOfTrailingZeros_0f7a4_7 : decode cJ6_numberOfTrailingZeros_0f7a4 7 = .ok (.istore_n 0, 1) := by decide +kernel
theorem dJ6_numberOfTrailingZeros_0f7a4_8 : decode cJ6_numberOfTrailingZeros_0f7a4 8 = .ok (.iload_n 0, 1) := by decide +kernel
theorem dJ6_numberOfTrailingZeros_0f7a4_9 : decode cJ6_numberOfTrailingZeros_0f7a4 9 = .ok (.ifCond .gt 8, 3) := by decide +kernel
theorem dJ6_numberOfTrailingZeros_0f7a4_12 : decode cJ6_numberOfTrailingZeros_0f7a4 12 = .ok (.iload_n 0, 1) := by decide +kernel
theorem dJ6_numberOfTrailingZeros_0f7a4_13 : decode cJ6_numberOfTrailingZeros_0f7a4 13 = .ok (.bipush 32, 2) := by decide +kernel
theorem dJ6_numberOfTrailingZeros_0f7a4_15 : decode cJ6_numberOfTrailingZeros_0f7a4 15 = .ok (.iand, 1) := by decide +kernel
theorem dJ6_numberOfTrailingZeros_0f7a4_16 : decode cJ6_numberOfTrailingZeros_0f7a4 16 = .ok (.ireturn, 1) := by decide +kernel
theorem dJ6_numberOfTrailingZeros_0f7a4_17 : decode cJ6_numberOfTrailingZeros_0f7a4 17 = .ok (.iconst 1, 1) := by decide +kernel
theorem dJ6_numberOfTrailingZeros_0f7a4_18 : decode cJ6_numberOfTrailingZeros_0f7a4 18 = .ok (.istore_n 1, 1) := by decide +kernel
theorem dJ6_numberOfTrailingZeros_0f7a4_19 : decode cJ6_numberOfTrailingZeros_0f7a4 19 = .ok (.iload_n 0, 1) := by decide +kernel
theorem dJ6_numberOfTrailingZeros_0f7a4_20 : decode cJ6_numberOfTrailingZeros_0f7a4 20 = .ok (.ldc_w 264, 3) := by decide +kernel
theorem dJ6_numberOfTrailingZeros_0f7a4_23 : decode cJ6_numberOfTrailingZeros_0f7a4 23 = .ok (.if_icmp .le 11, 3) := by decide +kernel
theorem dJ6_numberOfTrailingZeros_0f7a4_26 : decode cJ6_numberOfTrailingZeros_0f7a4 26 = .ok (.iinc 1 16, 3) := by decide +kernel
theorem dJ6_numberOfTrailingZeros_0f7a4_29 : decode cJ6_numberOfTrailingZeros_0f7a4 29 = .ok (.iload_n 0, 1) := by decide +kernel
theorem dJ6_numberOfTrailingZeros_0f7a4_30 : decode cJ6_numberOfTrailingZeros_0f7a4 30 = .ok (.bipush 16, 2) := by decide +kernel
theorem dJ6_numberOfTrailingZeros_0f7a4_32 : decode cJ6_numberOfTrailingZeros_0f7a4 32 = .ok (.iushr, 1) := by decide +kernel
theorem dJ6_numberOfTrailingZeros_0f7a4_33 : decode cJ6_numberOfTrailingZeros_0f7a4 33 = .ok (.istore_n 0, 1) := by decide +kernel
theorem dJ6_numberOfTrailingZeros_0f7a4_34 : decode cJ6_numberOfTrailingZeros_0f7a4 34 = .ok (.iload_n 0, 1) := by decide +kernel
theorem dJ6_numberOfTrailingZeros_0f7a4_35 : decode cJ6_numberOfTrailingZeros_0f7a4 35 = .ok (.sipush 256, 3) := by decide +kernel
theorem dJ6_numberOfTrailingZeros_0f7a4_38 : decode cJ6_numberOfTrailingZeros_0f7a4 38 = .ok (.if_icmp .le 11, 3) := by decide +kernel
theorem dJ6_numberOfTrailingZeros_0f7a4_41 : decode cJ6_numberOfTrailingZeros_0f7a4 41 = .ok (.iinc 1 8, 3) := by decide +kernel
theorem dJ6_numberOfTrailingZeros_0f7a4_44 : decode cJ6_numberOfTrailingZeros_0f7a4 44 = .ok (.iload_n 0, 1) := by decide +kernel
theorem dJ6_numberOfTrailingZeros_0f7a4_45 : decode cJ6_numberOfTrailingZeros_0f7a4 45 = .ok (.bipush 8, 2) := by decide +kernel
theorem dJ6_numberOfTrailingZeros_0f7a4_47 : decode cJ6_numberOfTrailingZeros_0f7a4 47 = .ok (.iushr, 1) := by decide +kernel
theorem dJ6_numberOfTrailingZeros_0f7a4_48 : decode cJ6_numberOfTrailingZeros_0f7a4 48 = .ok (.istore_n 0, 1) := by decide +kernel
theorem dJ6_numberOfTrailingZeros_0f7a4_49 : decode cJ6_numberOfTrailingZeros_0f7a4 49 = .ok (.iload_n 0, 1) := by decide +kernel
theorem dJ6_numberOfTrailingZeros_0f7a4_50 : decode cJ6_numberOfTrailingZeros_0f7a4 50 = .ok (.bipush 16, 2) := by decide +kernel
theorem dJ6_numberOfTrailingZeros_0f7a4_52 : decode cJ6_numberOfTrailingZeros_0f7a4 52 = .ok (.if_icmp .le 10, 3) := by decide +kernel
theorem dJ6_numberOfTrailingZeros_0f7a4_55 : decode cJ6_numberOfTrailingZeros_0f7a4 55 = .ok (.iinc 1 4, 3) := by decide +kernel
theorem dJ6_numberOfTrailingZeros_0f7a4_58 : decode cJ6_numberOfTrailingZeros_0f7a4 58 = .ok (.iload_n 0, 1) := by decide +kernel
theorem dJ6_numberOfTrailingZeros_0f7a4_59 : decode cJ6_numberOfTrailingZeros_0f7a4 59 = .ok (.iconst 4, 1) := by decide +kernel
theorem dJ6_numberOfTrailingZeros_0f7a4_60 : decode cJ6_numberOfTrailingZeros_0f7a4 60 = .ok (.iushr, 1) := by decide +kernel
theorem dJ6_numberOfTrailingZeros_0f7a4_61 : decode cJ6_numberOfTrailingZeros_0f7a4 61 = .ok (.istore_n 0, 1) := by decide +kernel
theorem dJ6_numberOfTrailingZeros_0f7a4_62 : decode cJ6_numberOfTrailingZeros_0f7a4 62 = .ok (.iload_n 0, 1) := by decide +kernel
theorem dJ6_numberOfTrailingZeros_0f7a4_63 : decode cJ6_numberOfTrailingZeros_0f7a4 63 = .ok (.iconst 4, 1) := by decide +kernel
theorem dJ6_numberOfTrailingZeros_0f7a4_64 : decode cJ6_numberOfTrailingZeros_0f7a4 64 = .ok (.if_icmp .le 10, 3) := by decide +kernel
theorem dJ6_numberOfTrailingZeros_0f7a4_67 : decode cJ6_numberOfTrailingZeros_0f7a4 67 = .ok (.iinc 1 2, 3) := by decide +kernel
theorem dJ6_numberOfTrailingZeros_0f7a4_70 : decode cJ6_numberOfTrailingZeros_0f7a4 70 = .ok (.iload_n 0, 1) := by decide +kernel
theorem dJ6_numberOfTrailingZeros_0f7a4_71 : decode cJ6_numberOfTrailingZeros_0f7a4 71 = .ok (.iconst 2, 1) := by decide +kernel
theorem dJ6_numberOfTrailingZeros_0f7a4_72 : decode cJ6_numberOfTrailingZeros_0f7a4 72 = .ok (.iushr, 1) := by decide +kernel
theorem dJ6_numberOfTrailingZeros_0f7a4_73 : decode cJ6_numberOfTrailingZeros_0f7a4 73 = .ok (.istore_n 0, 1) := by decide +kernel
theorem dJ6_numberOfTrailingZeros_0f7a4_74 : decode cJ6_numberOfTrailingZeros_0f7a4 74 = .ok (.iload_n 1, 1) := by decide +kernel
theorem dJ6_numberOfTrailingZeros_0f7a4_75 : decode cJ6_numberOfTrailingZeros_0f7a4 75 = .ok (.iload_n 0, 1) := by decide +kernel
theorem dJ6_numberOfTrailingZeros_0f7a4_76 : decode cJ6_numberOfTrailingZeros_0f7a4 76 = .ok (.iconst 1, 1) := by decide +kernel
theorem dJ6_numberOfTrailingZeros_0f7a4_77 : decode cJ6_numberOfTrailingZeros_0f7a4 77 = .ok (.iushr, 1) := by decide +kernel
theorem dJ6_numberOfTrailingZeros_0f7a4_78 : decode cJ6_numberOfTrailingZeros_0f7a4 78 = .ok (.iadd, 1) := by decide +kernel
theorem dJ6_numberOfTrailingZeros_0f7a4_79 : decode cJ6_numberOfTrailingZeros_0f7a4 79 = .ok (.ireturn, 1) := by decide +kernel
theorem dJ6_bitCount_0f7a4_0 : decode cJ6_bitCount_0f7a4 0 = .ok (.iload_n 0, 1) := by decide +kernel
theorem dJ6_bitCount_0f7a4_1 : decode cJ6_bitCount_0f7a4 1 = .ok (.iload_n 0, 1) := by decide +kernel
theorem dJ6_bitCount_0f7a4_2 : decode cJ6_bitCount_0f7a4 2 = .ok (.iconst 1, 1) := by decide +kernel
theorem dJ6_bitCount_0f7a4_3 : decode cJ6_bitCount_0f7a4 3 = .ok (.iushr, 1) := by decide +kernel
theorem dJ6_bitCount_0f7a4_4 : decode cJ6_bitCount_0f7a4 4 = .ok (.ldc_w 265, 3) := by decide +kernel
theorem dJ6_bitCount_0f7a4_7 : decode cJ6_bitCount_0f7a4 7 = .ok (.iand, 1) := by decide +kernel
theorem dJ6_bitCount_0f7a4_8 : decode cJ6_bitCount_0f7a4 8 = .ok (.isub, 1) := by decide +kernel
theorem dJ6_bitCount_0f7a4_9 : decode cJ6_bitCount_0f7a4 9 = .ok (.istore_n 0, 1) := by decide +kernel
theorem dJ6_bitCount_0f7a4_10 : decode cJ6_bitCount_0f7a4 10 = .ok (.iload_n 0, 1) := by decide +kernel
theorem dJ6_bitCount_0f7a4_11 : decode cJ6_bitCount_0f7a4 11 = .ok (.ldc_w 266, 3) := by decide +kernel
theorem dJ6_bitCount_0f7a4_14 : decode cJ6_bitCount_0f7a4 14 = .ok (.iand, 1) := by decide +kernel
theorem dJ6_bitCount_0f7a4_15 : decode cJ6_bitCount_0f7a4 15 = .ok (.iload_n 0, 1) := by decide +kernel
theorem dJ6_bitCount_0f7a4_16 : decode cJ6_bitCount_0f7a4 16 = .ok (.iconst 2, 1) := by decide +kernel
theorem dJ6_bitCount_0f7a4_17 : decode cJ6_bitCount_0f7a4 17 = .ok (.iushr, 1) := by decide +kernel
theorem dJ6_bitCount_0f7a4_18 : decode cJ6_bitCount_0f7a4 18 = .ok (.ldc_w 266, 3) := by decide +kernel
theorem dJ6_bitCount_0f7a4_21 : decode cJ6_bitCount_0f7a4 21 = .ok (.iand, 1) := by decide +kernel
theorem dJ6_bitCount_0f7a4_22 : decode cJ6_bitCount_0f7a4 22 = .ok (.iadd, 1) := by decide +kernel
theorem dJ6_bitCount_0f7a4_23 : decode cJ6_bitCount_0f7a4 23 = .ok (.istore_n 0, 1) := by decide +kernel
theorem dJ6_bitCount_0f7a4_24 : decode cJ6_bitCount_0f7a4 24 = .ok (.iload_n 0, 1) := by decide +kernel
theorem dJ6_bitCount_0f7a4_25 : decode cJ6_bitCount_0f7a4 25 = .ok (.iload_n 0, 1) := by decide +kernel
theorem dJ6_bitCount_0f7a4_26 : decode cJ6_bitCount_0f7a4 26 = .ok (.iconst 4, 1) := by decide +kernel
theorem dJ6_bitCount_0f7a4_27 : decode cJ6_bitCount_0f7a4 27 = .ok (.iushr, 1) := by decide +kernel
theorem dJ6_bitCount_0f7a4_28 : decode cJ6_bitCount_0f7a4 28 = .ok (.iadd, 1) := by decide +kernel
theorem dJ6_bitCount_0f7a4_29 : decode cJ6_bitCount_0f7a4 29 = .ok (.ldc_w 267, 3) := by decide +kernel
theorem dJ6_bitCount_0f7a4_32 : decode cJ6_bitCount_0f7a4 32 = .ok (.iand, 1) := by decide +kernel
theorem dJ6_bitCount_0f7a4_33 : decode cJ6_bitCount_0f7a4 33 = .ok (.istore_n 0, 1) := by decide +kernel
theorem dJ6_bitCount_0f7a4_34 : decode cJ6_bitCount_0f7a4 34 = .ok (.iload_n 0, 1) := by decide +kernel
theorem dJ6_bitCount_0f7a4_35 : decode cJ6_bitCount_0f7a4 35 = .ok (.iload_n 0, 1) := by decide +kernel
theorem dJ6_bitCount_0f7a4_36 : decode cJ6_bitCount_0f7a4 36 = .ok (.bipush 8, 2) := by decide +kernel
theorem dJ6_bitCount_0f7a4_38 : decode cJ6_bitCount_0f7a4 38 = .ok (.iushr, 1) := by decide +kernel
theorem dJ6_bitCount_0f7a4_39 : decode cJ6_bitCount_0f7a4 39 = .ok (.iadd, 1) := by decide +kernel
theorem dJ6_bitCount_0f7a4_40 : decode cJ6_bitCount_0f7a4 40 = .ok (.istore_n 0, 1) := by decide +kernel
theorem dJ6_bitCount_0f7a4_41 : decode cJ6_bitCount_0f7a4 41 = .ok (.iload_n 0, 1) := by decide +kernel
theorem dJ6_bitCount_0f7a4_42 : decode cJ6_bitCount_0f7a4 42 = .ok (.iload_n 0, 1) := by decide +kernel
theorem dJ6_bitCount_0f7a4_43 : decode cJ6_bitCount_0f7a4 43 = .ok (.bipush 16, 2) := by decide +kernel
theorem dJ6_bitCount_0f7a4_45 : decode cJ6_bitCount_0f7a4 45 = .ok (.iushr, 1) := by decide +kernel
theorem dJ6_bitCount_0f7a4_46 : decode cJ6_bitCount_0f7a4 46 = .ok (.iadd, 1) := by decide +kernel
theorem dJ6_bitCount_0f7a4_47 : decode cJ6_bitCount_0f7a4 47 = .ok (.istore_n 0, 1) := by decide +kernel
theorem dJ6_bitCount_0f7a4_48 : decode cJ6_bitCount_0f7a4 48 = .ok (.iload_n 0, 1) := by decide +kernel
theorem dJ6_bitCount_0f7a4_49 : decode cJ6_bitCount_0f7a4 49 = .ok (.bipush 63, 2) := by decide +kernel
theorem dJ6_bitCount_0f7a4_51 : decode cJ6_bitCount_0f7a4 51 = .ok (.iand, 1) := by decide +kernel
theorem dJ6_bitCount_0f7a4_52 : decode cJ6_bitCount_0f7a4 52 = .ok (.ireturn, 1) := by decide +kernel
theorem dJ7_fill_53178_0 : decode cJ7_fill_53178 0 = .ok (.iconst 0, 1) := by decide +kernel
theorem dJ7_fill_53178_1 : decode cJ7_fill_53178 1 = .ok (.istore_n 2, 1) := by decide +kernel
theorem dJ7_fill_53178_2 : decode cJ7_fill_53178 2 = .ok (.aload_n 0, 1) := by decide +kernel
theorem dJ7_fill_53178_3 : decode cJ7_fill_53178 3 = .ok (.arraylength, 1) := by decide +kernel
theorem dJ7_fill_53178_4 : decode cJ7_fill_53178 4 = .ok (.istore_n 3, 1) := by decide +kernel
theorem dJ7_fill_53178_5 : decode cJ7_fill_53178 5 = .ok (.iload_n 2, 1) := by decide +kernel
theorem dJ7_fill_53178_6 : decode cJ7_fill_53178 6 = .ok (.iload_n 3, 1) := by decide +kernel
theorem dJ7_fill_53178_7 : decode cJ7_fill_53178 7 = .ok (.if_icmp .ge 13, 3) := by decide +kernel
theorem dJ7_fill_53178_10 : decode cJ7_fill_53178 10 = .ok (.aload_n 0, 1) := by decide +kernel
theorem dJ7_fill_53178_11 : decode cJ7_fill_53178 11 = .ok (.iload_n 2, 1) := by decide +kernel
theorem dJ7_fill_53178_12 : decode cJ7_fill_53178 12 = .ok (.iload_n 1, 1) := by decide +kernel
theorem dJ7_fill_53178_13 : decode cJ7_fill_53178 13 = .ok (.iastore, 1) := by decide +kernel
theorem dJ7_fill_53178_14 : decode cJ7_fill_53178 14 = .ok (.iinc 2 1, 3) := by decide +kernel
theorem dJ7_fill_53178_17 : decode cJ7_fill_53178 17 = .ok (.goto (-12), 3) := by decide +kernel
theorem dJ7_fill_53178_20 : decode cJ7_fill_53178 20 = .ok (.return_, 1) := by decide +kernel
theorem dJ9_max_7cf53_0 : decode cJ9_max_7cf53 0 = .ok (.iload_n 0, 1) := by decide +kernel
theorem dJ9_max_7cf53_1 : decode cJ9_max_7cf53 1 = .ok (.iload_n 1, 1) := by decide +kernel
theorem dJ9_max_7cf53_2 : decode cJ9_max_7cf53 2 = .ok (.if_icmp .lt 7, 3) := by decide +kernel
theorem dJ9_max_7cf53_5 : decode cJ9_max_7cf53 5 = .ok (.iload_n 0, 1) := by decide +kernel
theorem dJ9_max_7cf53_6 : decode cJ9_max_7cf53 6 = .ok (.goto 4, 3) := by decide +kernel
theorem dJ9_max_7cf53_9 : decode cJ9_max_7cf53 9 = .ok (.iload_n 1, 1) := by decide +kernel
theorem dJ9_max_7cf53_10 : decode cJ9_max_7cf53 10 = .ok (.ireturn, 1) := by decide +kernel
theorem dJ9_min_7cf53_0 : decode cJ9_min_7cf53 0 = .ok (.iload_n 0, 1) := by decide +kernel
theorem dJ9_min_7cf53_1 : decode cJ9_min_7cf53 1 = .ok (.iload_n 1, 1) := by decide +kernel
theorem dJ9_min_7cf53_2 : decode cJ9_min_7cf53 2 = .ok (.if_icmp .gt 7, 3) := by decide +kernel
theorem dJ9_min_7cf53_5 : decode cJ9_min_7cf53 5 = .ok (.iload_n 0, 1) := by decide +kernel
theorem dJ9_min_7cf53_6 : decode cJ9_min_7cf53 6 = .ok (.goto 4, 3) := by decide +kernel
theorem dJ9_min_7cf53_9 : decode cJ9_min_7cf53 9 = .ok (.iload_n 1, 1) := by decide +kernel
theorem dJ9_min_7cf53_10 : decode cJ9_min_7cf53 10 = .ok (.ireturn, 1) := by decide +kernel
theorem dX1_init_0 : decode cX1_init 0 = .ok (.aload_n 0, 1) := by decide +kernel
theorem dX1_init_1 : decode cX1_init 1 = .ok (.invokespecial 3, 3) := by decide +kernel
theorem dX1_init_4 : decode cX1_init 4 = .ok (.aload_n 0, 1) := by decide +kernel
theorem dX1_init_5 : decode cX1_init 5 = .ok (.bipush 8, 2) := by decide +kernel
theorem dX1_init_7 : decode cX1_init 7 = .ok (.newarray .long, 2) := by decide +kernel
theorem dX1_init_9 : decode cX1_init 9 = .ok (.putfield 9, 3) := by decide +kernel
theorem dX1_init_12 : decode cX1_init 12 = .ok (.aload_n 0, 1) := by decide +kernel
theorem dX1_init_13 : decode cX1_init 13 = .ok (.bipush 64, 2) := by decide +kernel
theorem dX1_init_15 : decode cX1_init 15 = .ok (.newarray .long, 2) := by decide +kernel
theorem dX1_init_17 : decode cX1_init 17 = .ok (.putfield 15, 3) := by decide +kernel
theorem dX1_init_20 : decode cX1_init 20 = .ok (.aload_n 0, 1) := by decide +kernel
theorem dX1_init_21 : decode cX1_init 21 = .ok (.bipush 12, 2) := by decide +kernel
theorem dX1_init_23 : decode cX1_init 23 = .ok (.newarray .long, 2) := by decide +kernel
theorem dX1_init_25 : decode cX1_init 25 = .ok (.putfield 18, 3) := by decide +kernel
theorem dX1_init_28 : decode cX1_init 28 = .ok (.aload_n 0, 1) := by decide +kernel
theorem dX1_init_29 : decode cX1_init 29 = .ok (.bipush 8, 2) := by decide +kernel
theorem dX1_init_31 : decode cX1_init 31 = .ok (.newarray .int, 2) := by decide +kernel
theorem dX1_init_33 : decode cX1_init 33 = .ok (.putfield 21, 3) := by decide +kernel
theorem dX1_init_36 : decode cX1_init 36 = .ok (.aload_n 0, 1) := by decide +kernel
theorem dX1_init_37 : decode cX1_init 37 = .ok (.bipush 8, 2) := by decide +kernel
theorem dX1_init_39 : decode cX1_init 39 = .ok (.newarray .int, 2) := by decide +kernel
theorem dX1_init_41 : decode cX1_init 41 = .ok (.putfield 25, 3) := by decide +kernel
theorem dX1_init_44 : decode cX1_init 44 = .ok (.aload_n 0, 1) := by decide +kernel
theorem dX1_init_45 : decode cX1_init 45 = .ok (.bipush 12, 2) := by decide +kernel
theorem dX1_init_47 : decode cX1_init 47 = .ok (.newarray .int, 2) := by decide +kernel
theorem dX1_init_49 : decode cX1_init 49 = .ok (.putfield 28, 3) := by decide +kernel
theorem dX1_init_52 : decode cX1_init 52 = .ok (.aload_n 0, 1) := by decide +kernel
theorem dX1_init_53 : decode cX1_init 53 = .ok (.bipush 48, 2) := by decide +kernel
theorem dX1_init_55 : decode cX1_init 55 = .ok (.newarray .int, 2) := by decide +kernel
theorem dX1_init_57 : decode cX1_init 57 = .ok (.putfield 31, 3) := by decide +kernel
theorem dX1_init_60 : decode cX1_init 60 = .ok (.aload_n 0, 1) := by decide +kernel
theorem dX1_init_61 : decode cX1_init 61 = .ok (.bipush 12, 2) := by decide +kernel
theorem dX1_init_63 : decode cX1_init 63 = .ok (.newarray .int, 2) := by decide +kernel
theorem dX1_init_65 : decode cX1_init 65 = .ok (.putfield 34, 3) := by decide +kernel
theorem dX1_init_68 : decode cX1_init 68 = .ok (.aload_n 0, 1) := by decide +kernel
theorem dX1_init_69 : decode cX1_init 69 = .ok (.bipush 12, 2) := by decide +kernel
theorem dX1_init_71 : decode cX1_init 71 = .ok (.newarray .int, 2) := by decide +kernel
theorem dX1_init_73 : decode cX1_init 73 = .ok (.putfield 37, 3) := by decide +kernel
theorem dX1_init_76 : decode cX1_init 76 = .ok (.aload_n 0, 1) := by decide +kernel
theorem dX1_init_77 : decode cX1_init 77 = .ok (.bipush 12, 2) := by decide +kernel
theorem dX1_init_79 : decode cX1_init 79 = .ok (.newarray .int, 2) := by decide +kernel
theorem dX1_init_81 : decode cX1_init 81 = .ok (.putfield 40, 3) := by decide +kernel
theorem dX1_init_84 : decode cX1_init 84 = .ok (.aload_n 0, 1) := by decide +kernel
theorem dX1_init_85 : decode cX1_init 85 = .ok (.bipush 12, 2) := by decide +kernel
theorem dX1_init_87 : decode cX1_init 87 = .ok (.newarray .int, 2) := by decide +kernel
theorem dX1_init_89 : decode cX1_init 89 = .ok (.putfield 43, 3) := by decide +kernel
theorem dX1_init_92 : decode cX1_init 92 = .ok (.aload_n 0, 1) := by decide +kernel
theorem dX1_init_93 : decode cX1_init 93 = .ok (.sipush 384, 3) := by decide +kernel
theorem dX1_init_96 : decode cX1_init 96 = .ok (.newarray .int, 2) := by decide +kernel
theorem dX1_init_98 : decode cX1_init 98 = .ok (.putfield 46, 3) := by decide +kernel
theorem dX1_init_101 : decode cX1_init 101 = .ok (.aload_n 0, 1) := by decide +kernel
theorem dX1_init_102 : decode cX1_init 102 = .ok (.sipush 384, 3) := by decide +kernel
theorem dX1_init_105 : decode cX1_init 105 = .ok (.newarray .int, 2) := by decide +kernel
theorem dX1_init_107 : decode cX1_init 107 = .ok (.putfield 49, 3) := by decide +kernel
theorem dX1_init_110 : decode cX1_init 110 = .ok (.aload_n 0, 1) := by decide +kernel
theorem dX1_init_111 : decode cX1_init 111 = .ok (.sipush 384, 3) := by decide +kernel
theorem dX1_init_114 : decode cX1_init 114 = .ok (.newarray .int, 2) := by decide +kernel
theorem dX1_init_116 : decode cX1_init 116 = .ok (.putfield 52, 3) := by decide +kernel
theorem dX1_init_119 : decode cX1_init 119 = .ok (.aload_n 0, 1) := by decide +kernel
theorem dX1_init_120 : decode cX1_init 120 = .ok (.sipush 384, 3) := by decide +kernel
theorem dX1_init_123 : decode cX1_init 123 = .ok (.newarray .int, 2) := by decide +kernel
theorem dX1_init_125 : decode cX1_init 125 = .ok (.putfield 55, 3) := by decide +kernel
theorem dX1_init_128 : decode cX1_init 128 = .ok (.aload_n 0, 1) := by decide +kernel
theorem dX1_init_129 : decode cX1_init 129 = .ok (.sipush 1000, 3) := by decide +kernel
theorem dX1_init_132 : decode cX1_init 132 = .ok (.newarray .int, 2) := by decide +kernel
theorem dX1_init_134 : decode cX1_init 134 = .ok (.putfield 58, 3) := by decide +kernel
theorem dX1_init_137 : decode cX1_init 137 = .ok (.return_, 1) := by decide +kernel
theorem dX1_clear_0 : decode cX1_clear 0 = .ok (.aload_n 0, 1) := by decide +kernel
theorem dX1_clear_1 : decode cX1_clear 1 = .ok (.iconst 0, 1) := by decide +kernel
theorem dX1_clear_2 : decode cX1_clear 2 = .ok (.putfield 61, 3) := by decide +kernel
theorem dX1_clear_5 : decode cX1_clear 5 = .ok (.aload_n 0, 1) := by decide +kernel
theorem dX1_clear_6 : decode cX1_clear 6 = .ok (.iconst 0, 1) := by decide +kernel
theorem dX1_clear_7 : decode cX1_clear 7 = .ok (.putfield 65, 3) := by decide +kernel
theorem dX1_clear_10 : decode cX1_clear 10 = .ok (.aload_n 0, 1) := by decide +kernel
theorem dX1_clear_11 : decode cX1_clear 11 = .ok (.iconst 0, 1) := by decide +kernel
theorem dX1_clear_12 : decode cX1_clear 12 = .ok (.putfield 68, 3) := by decide +kernel
theorem dX1_clear_15 : decode cX1_clear 15 = .ok (.aload_n 0, 1) := by decide +kernel
theorem dX1_clear_16 : decode cX1_clear 16 = .ok (.getfield 46, 3) := by decide +kernel
theorem dX1_clear_19 : decode cX1_clear 19 = .ok (.iconst 0, 1) := by decide +kernel
theorem dX1_clear_20 : decode cX1_clear 20 = .ok (.invokestatic 71, 3) := by decide +kernel
theorem dX1_clear_23 : decode cX1_clear 23 = .ok (.aload_n 0, 1) := by decide +kernel
theorem dX1_clear_24 : decode cX1_clear 24 = .ok (.getfield 49, 3) := by decide +kernel
theorem dX1_clear_27 : decode cX1_clear 27 = .ok (.iconst 0, 1) := by decide +kernel
theorem dX1_clear_28 : decode cX1_clear 28 = .ok (.invokestatic 71, 3) := by decide +kernel
theorem dX1_clear_31 : decode cX1_clear 31 = .ok (.aload_n 0, 1) := by decide +kernel
theorem dX1_clear_32 : decode cX1_clear 32 = .ok (.getfield 52, 3) := by decide +kernel
theorem dX1_clear_35 : decode cX1_clear 35 = .ok (.iconst 0, 1) := by decide +kernel
theorem dX1_clear_36 : decode cX1_clear 36 = .ok (.invokestatic 71, 3) := by decide +kernel
theorem dX1_clear_39 : decode cX1_clear 39 = .ok (.aload_n 0, 1) := by decide +kernel
theorem dX1_clear_40 : decode cX1_clear 40 = .ok (.getfield 55, 3) := by decide +kernel
theorem dX1_clear_43 : decode cX1_clear 43 = .ok (.iconst 0, 1) := by decide +kernel
theorem dX1_clear_44 : decode cX1_clear 44 = .ok (.invokestatic 71, 3) := by decide +kernel
theorem dX1_clear_47 : decode cX1_clear 47 = .ok (.return_, 1) := by decide +kernel
theorem dX1_hasSymbol_0 : decode cX1_hasSymbol 0 = .ok (.iload_n 1, 1) := by decide +kernel
theorem dX1_hasSymbol_1 : decode cX1_hasSymbol 1 = .ok (.ifCond .lt 15, 3) := by decide +kernel
theorem dX1_hasSymbol_4 : decode cX1_hasSymbol 4 = .ok (.iload_n 1, 1) := by decide +kernel
theorem dX1_hasSymbol_5 : decode cX1_hasSymbol 5 = .ok (.aload_n 0, 1) := by decide +kernel
theorem dX1_hasSymbol_6 : decode cX1_hasSymbol 6 = .ok (.getfield 61, 3) := by decide +kernel
theorem dX1_hasSymbol_9 : decode cX1_hasSymbol 9 = .ok (.if_icmp .ge 7, 3) := by decide +kernel
theorem dX1_hasSymbol_12 : decode cX1_hasSymbol 12 = .ok (.iconst 1, 1) := by decide +kernel
theorem dX1_hasSymbol_13 : decode cX1_hasSymbol 13 = .ok (.goto 4, 3) := by decide +kernel
theorem dX1_hasSymbol_16 : decode cX1_hasSymbol 16 = .ok (.iconst 0, 1) := by decide +kernel
theorem dX1_hasSymbol_17 : decode cX1_hasSymbol 17 = .ok (.ireturn, 1) := by decide +kernel
theorem dX1_hasAttribute_0 : decode cX1_hasAttribute 0 = .ok (.aload_n 0, 1) := by decide +kernel
theorem dX1_hasAttribute_1 : decode cX1_hasAttribute 1 = .ok (.iload_n 1, 1) := by decide +kernel
theorem dX1_hasAttribute_2 : decode cX1_hasAttribute 2 = .ok (.invokevirtual 77, 3) := by decide +kernel
theorem dX1_hasAttribute_5 : decode cX1_hasAttribute 5 = .ok (.ifCond .eq 28, 3) := by decide +kernel
theorem dX1_hasAttribute_8 : decode cX1_hasAttribute 8 = .ok (.iload_n 2, 1) := by decide +kernel
theorem dX1_hasAttribute_9 : decode cX1_hasAttribute 9 = .ok (.ifCond .lt 24, 3) := by decide +kernel
theorem dX1_hasAttribute_12 : decode cX1_hasAttribute 12 = .ok (.iload_n 2, 1) := by decide +kernel
theorem dX1_hasAttribute_13 : decode cX1_hasAttribute 13 = .ok (.aload_n 0, 1) := by decide +kernel
theorem dX1_hasAttribute_14 : decode cX1_hasAttribute 14 = .ok (.getfield 21, 3) := by decide +kernel
theorem dX1_hasAttribute_17 : decode cX1_hasAttribute 17 = .ok (.iload_n 1, 1) := by decide +kernel
theorem dX1_hasAttribute_18 : decode cX1_hasAttribute 18 = .ok (.iaload, 1) := by decide +kernel
theorem dX1_hasAttribute_19 : decode cX1_hasAttribute 19 = .ok (.aload_n 0, 1) := by decide +kernel
theorem dX1_hasAttribute_20 : decode cX1_hasAttribute 20 = .ok (.getfield 25, 3) := by decide +kernel
theorem dX1_hasAttribute_23 : decode cX1_hasAttribute 23 = .ok (.iload_n 1, 1) := by decide +kernel
theorem dX1_hasAttribute_24 : decode cX1_hasAttribute 24 = .ok (.iaload, 1) := by decide +kernel
theorem dX1_hasAttribute_25 : decode cX1_hasAttribute 25 = .ok (.iadd, 1) := by decide +kernel
theorem dX1_hasAttribute_26 : decode cX1_hasAttribute 26 = .ok (.if_icmp .ge 7, 3) := by decide +kernel
theorem dX1_hasAttribute_29 : decode cX1_hasAttribute 29 = .ok (.iconst 1, 1) := by decide +kernel
theorem dX1_hasAttribute_30 : decode cX1_hasAttribute 30 = .ok (.goto 4, 3) := by decide +kernel
theorem dX1_hasAttribute_33 : decode cX1_hasAttribute 33 = .ok (.iconst 0, 1) := by decide +kernel
theorem dX1_hasAttribute_34 : decode cX1_hasAttribute 34 = .ok (.ireturn, 1) := by decide +kernel
theorem dX1_hasProduction_0 : decode cX1_hasProduction 0 = .ok (.iload_n 1, 1) := by decide +kernel
theorem dX1_hasProduction_1 : decode cX1_hasProduction 1 = .ok (.ifCond .lt 15, 3) := by decide +kernel
theorem dX1_hasProduction_4 : decode cX1_hasProduction 4 = .ok (.iload_n 1, 1) := by decide +kernel
theorem dX1_hasProduction_5 : decode cX1_hasProduction 5 = .ok (.aload_n 0, 1) := by decide +kernel
theorem dX1_hasProduction_6 : decode cX1_hasProduction 6 = .ok (.getfield 65, 3) := by decide +kernel
theorem dX1_hasProduction_9 : decode cX1_hasProduction 9 = .ok (.if_icmp .ge 7, 3) := by decide +kernel
theorem dX1_hasProduction_12 : decode cX1_hasProduction 12 = .ok (.iconst 1, 1) := by decide +kernel
theorem dX1_hasProduction_13 : decode cX1_hasProduction 13 = .ok (.goto 4, 3) := by decide +kernel
theorem dX1_hasProduction_16 : decode cX1_hasProduction 16 = .ok (.iconst 0, 1) := by decide +kernel
theorem dX1_hasProduction_17 : decode cX1_hasProduction 17 = .ok (.ireturn, 1) := by decide +kernel
theorem dX1_hasOcc_0 : decode cX1_hasOcc 0 = .ok (.iload_n 2, 1) := by decide +kernel
theorem dX1_hasOcc_1 : decode cX1_hasOcc 1 = .ok (.ifCond .lt 26, 3) := by decide +kernel
theorem dX1_hasOcc_4 : decode cX1_hasOcc 4 = .ok (.iload_n 2, 1) := by decide +kernel
theorem dX1_hasOcc_5 : decode cX1_hasOcc 5 = .ok (.bipush 32, 2) := by decide +kernel
theorem dX1_hasOcc_7 : decode cX1_hasOcc 7 = .ok (.if_icmp .ge 20, 3) := by decide +kernel
theorem dX1_hasOcc_10 : decode cX1_hasOcc 10 = .ok (.aload_n 0, 1) := by decide +kernel
theorem dX1_hasOcc_11 : decode cX1_hasOcc 11 = .ok (.getfield 34, 3) := by decide +kernel
theorem dX1_hasOcc_14 : decode cX1_hasOcc 14 = .ok (.iload_n 1, 1) := by decide +kernel
theorem dX1_hasOcc_15 : decode cX1_hasOcc 15 = .ok (.iaload, 1) := by decide +kernel
theorem dX1_hasOcc_16 : decode cX1_hasOcc 16 = .ok (.iload_n 2, 1) := by decide +kernel
theorem dX1_hasOcc_17 : decode cX1_hasOcc 17 = .ok (.iushr, 1) := by decide +kernel
theorem dX1_hasOcc_18 : decode cX1_hasOcc 18 = .ok (.iconst 1, 1) := by decide +kernel
theorem dX1_hasOcc_19 : decode cX1_hasOcc 19 = .ok (.iand, 1) := by decide +kernel
theorem dX1_hasOcc_20 : decode cX1_hasOcc 20 = .ok (.ifCond .eq 7, 3) := by decide +kernel
theorem dX1_hasOcc_23 : decode cX1_hasOcc 23 = .ok (.iconst 1, 1) := by decide +kernel
theorem dX1_hasOcc_24 : decode cX1_hasOcc 24 = .ok (.goto 4, 3) := by decide +kernel
theorem dX1_hasOcc_27 : decode cX1_hasOcc 27 = .ok (.iconst 0, 1) := by decide +kernel
theorem dX1_hasOcc_28 : decode cX1_hasOcc 28 = .ok (.ireturn, 1) := by decide +kernel
theorem dX1_side_0 : decode cX1_side 0 = .ok (.aload_n 0, 1) := by decide +kernel
theorem dX1_side_1 : decode cX1_side 1 = .ok (.getfield 31, 3) := by decide +kernel
theorem dX1_side_4 : decode cX1_side 4 = .ok (.iconst 4, 1) := by decide +kernel
theorem dX1_side_5 : decode cX1_side 5 = .ok (.iload_n 1, 1) := by decide +kernel
theorem dX1_side_6 : decode cX1_side 6 = .ok (.imul, 1) := by decide +kernel
theorem dX1_side_7 : decode cX1_side 7 = .ok (.iload_n 2, 1) := by decide +kernel
theorem dX1_side_8 : decode cX1_side 8 = .ok (.iadd, 1) := by decide +kernel
theorem dX1_side_9 : decode cX1_side 9 = .ok (.iaload, 1) := by decide +kernel
theorem dX1_side_10 : decode cX1_side 10 = .ok (.ireturn, 1) := by decide +kernel
theorem dX1_children_0 : decode cX1_children 0 = .ok (.aload_n 0, 1) := by decide +kernel
theorem dX1_children_1 : decode cX1_children 1 = .ok (.getfield 28, 3) := by decide +kernel
theorem dX1_children_4 : decode cX1_children 4 = .ok (.iload_n 1, 1) := by decide +kernel
theorem dX1_children_5 : decode cX1_children 5 = .ok (.iaload, 1) := by decide +kernel
theorem dX1_children_6 : decode cX1_children 6 = .ok (.iconst 1, 1) := by decide +kernel
theorem dX1_children_7 : decode cX1_children 7 = .ok (.isub, 1) := by decide +kernel
theorem dX1_children_8 : decode cX1_children 8 = .ok (.ireturn, 1) := by decide +kernel
theorem dX1_insOf_0 : decode cX1_insOf 0 = .ok (.iconst 1, 1) := by decide +kernel
theorem dX1_insOf_1 : decode cX1_insOf 1 = .ok (.aload_n 0, 1) := by decide +kernel
theorem dX1_insOf_2 : decode cX1_insOf 2 = .ok (.getfield 21, 3) := by decide +kernel
theorem dX1_insOf_5 : decode cX1_insOf 5 = .ok (.iload_n 1, 1) := by decide +kernel
theorem dX1_insOf_6 : decode cX1_insOf 6 = .ok (.iaload, 1) := by decide +kernel
theorem dX1_insOf_7 : decode cX1_insOf 7 = .ok (.ishl, 1) := by decide +kernel
theorem dX1_insOf_8 : decode cX1_insOf 8 = .ok (.iconst 1, 1) := by decide +kernel
theorem dX1_insOf_9 : decode cX1_insOf 9 = .ok (.isub, 1) := by decide +kernel
theorem dX1_insOf_10 : decode cX1_insOf 10 = .ok (.ireturn, 1) := by decide +kernel
theorem dX1_outsOf_0 : decode cX1_outsOf 0 = .ok (.iconst 1, 1) := by decide +kernel
theorem dX1_outsOf_1 : decode cX1_outsOf 1 = .ok (.aload_n 0, 1) := by decide +kernel
theorem dX1_outsOf_2 : decode cX1_outsOf 2 = .ok (.getfield 25, 3) := by decide +kernel
theorem dX1_outsOf_5 : decode cX1_outsOf 5 = .ok (.iload_n 1, 1) := by decide +kernel
theorem dX1_outsOf_6 : decode cX1_outsOf 6 = .ok (.iaload, 1) := by decide +kernel
theorem dX1_outsOf_7 : decode cX1_outsOf 7 = .ok (.ishl, 1) := by decide +kernel
theorem dX1_outsOf_8 : decode cX1_outsOf 8 = .ok (.iconst 1, 1) := by decide +kernel
theorem dX1_outsOf_9 : decode cX1_outsOf 9 = .ok (.isub, 1) := by decide +kernel
theorem dX1_outsOf_10 : decode cX1_outsOf 10 = .ok (.aload_n 0, 1) := by decide +kernel
theorem dX1_outsOf_11 : decode cX1_outsOf 11 = .ok (.getfield 21, 3) := by decide +kernel
theorem dX1_outsOf_14 : decode cX1_outsOf 14 = .ok (.iload_n 1, 1) := by decide +kernel
theorem dX1_outsOf_15 : decode cX1_outsOf 15 = .ok (.iaload, 1) := by decide +kernel
theorem dX1_outsOf_16 : decode cX1_outsOf 16 = .ok (.ishl, 1) := by decide +kernel
theorem dX1_outsOf_17 : decode cX1_outsOf 17 = .ok (.ireturn, 1) := by decide +kernel
theorem dX1_leftSides_0 : decode cX1_leftSides 0 = .ok (.iconst 0, 1) := by decide +kernel
theorem dX1_leftSides_1 : decode cX1_leftSides 1 = .ok (.istore_n 2, 1) := by decide +kernel
theorem dX1_leftSides_2 : decode cX1_leftSides 2 = .ok (.iconst 0, 1) := by decide +kernel
theorem dX1_leftSides_3 : decode cX1_leftSides 3 = .ok (.istore_n 3, 1) := by decide +kernel
theorem dX1_leftSides_4 : decode cX1_leftSides 4 = .ok (.iload_n 3, 1) := by decide +kernel
theorem dX1_leftSides_5 : decode cX1_leftSides 5 = .ok (.aload_n 0, 1) := by decide +kernel
theorem dX1_leftSides_6 : decode cX1_leftSides 6 = .ok (.getfield 65, 3) := by decide +kernel
theorem dX1_leftSides_9 : decode cX1_leftSides 9 = .ok (.if_icmp .ge 22, 3) := by decide +kernel
theorem dX1_leftSides_12 : decode cX1_leftSides 12 = .ok (.aload_n 0, 1) := by decide +kernel
theorem dX1_leftSides_13 : decode cX1_leftSides 13 = .ok (.iload_n 3, 1) := by decide +kernel
theorem dX1_leftSides_14 : decode cX1_leftSides 14 = .ok (.iconst 0, 1) := by decide +kernel
theorem dX1_leftSides_15 : decode cX1_leftSides 15 = .ok (.invokevirtual 81, 3) := by decide +kernel
theorem dX1_leftSides_18 : decode cX1_leftSides 18 = .ok (.iload_n 1, 1) := by decide +kernel
theorem dX1_leftSides_19 : decode cX1_leftSides 19 = .ok (.if_icmp .ne 6, 3) := by decide +kernel
theorem dX1_leftSides_22 : decode cX1_leftSides 22 = .ok (.iinc 2 1, 3) := by decide +kernel
theorem dX1_leftSides_25 : decode cX1_leftSides 25 = .ok (.iinc 3 1, 3) := by decide +kernel
theorem dX1_leftSides_28 : decode cX1_leftSides 28 = .ok (.goto (-24), 3) := by decide +kernel
theorem dX1_leftSides_31 : decode cX1_leftSides 31 = .ok (.iload_n 2, 1) := by decide +kernel
theorem dX1_leftSides_32 : decode cX1_leftSides 32 = .ok (.ireturn, 1) := by decide +kernel
theorem dX1_allTold_0 : decode cX1_allTold 0 = .ok (.iconst 0, 1) := by decide +kernel
theorem dX1_allTold_1 : decode cX1_allTold 1 = .ok (.istore_n 1, 1) := by decide +kernel
theorem dX1_allTold_2 : decode cX1_allTold 2 = .ok (.iconst 0, 1) := by decide +kernel
theorem dX1_allTold_3 : decode cX1_allTold 3 = .ok (.istore_n 2, 1) := by decide +kernel
theorem dX1_allTold_4 : decode cX1_allTold 4 = .ok (.iload_n 2, 1) := by decide +kernel
theorem dX1_allTold_5 : decode cX1_allTold 5 = .ok (.aload_n 0, 1) := by decide +kernel
theorem dX1_allTold_6 : decode cX1_allTold 6 = .ok (.getfield 65, 3) := by decide +kernel
theorem dX1_allTold_9 : decode cX1_allTold 9 = .ok (.if_icmp .ge 21, 3) := by decide +kernel
theorem dX1_allTold_12 : decode cX1_allTold 12 = .ok (.iload_n 1, 1) := by decide +kernel
theorem dX1_allTold_13 : decode cX1_allTold 13 = .ok (.aload_n 0, 1) := by decide +kernel
theorem dX1_allTold_14 : decode cX1_allTold 14 = .ok (.getfield 40, 3) := by decide +kernel
theorem dX1_allTold_17 : decode cX1_allTold 17 = .ok (.iload_n 2, 1) := by decide +kernel
theorem dX1_allTold_18 : decode cX1_allTold 18 = .ok (.iaload, 1) := by decide +kernel
theorem dX1_allTold_19 : decode cX1_allTold 19 = .ok (.invokestatic 85, 3) := by decide +kernel
theorem dX1_allTold_22 : decode cX1_allTold 22 = .ok (.iadd, 1) := by decide +kernel
theorem dX1_allTold_23 : decode cX1_allTold 23 = .ok (.istore_n 1, 1) := by decide +kernel
theorem dX1_allTold_24 : decode cX1_allTold 24 = .ok (.iinc 2 1, 3) := by decide +kernel
theorem dX1_allTold_27 : decode cX1_allTold 27 = .ok (.goto (-23), 3) := by decide +kernel
theorem dX1_allTold_30 : decode cX1_allTold 30 = .ok (.iload_n 1, 1) := by decide +kernel
theorem dX1_allTold_31 : decode cX1_allTold 31 = .ok (.ireturn, 1) := by decide +kernel
theorem dX1_findSymbol_0 : decode cX1_findSymbol 0 = .ok (.iconst 0, 1) := by decide +kernel
theorem dX1_findSymbol_1 : decode cX1_findSymbol 1 = .ok (.istore_n 3, 1) := by decide +kernel
theorem dX1_findSymbol_2 : decode cX1_findSymbol 2 = .ok (.iload_n 3, 1) := by decide +kernel
theorem dX1_findSymbol_3 : decode cX1_findSymbol 3 = .ok (.aload_n 0, 1) := by decide +kernel
theorem dX1_findSymbol_4 : decode cX1_findSymbol 4 = .ok (.getfield 61, 3) := by decide +kernel
theorem dX1_findSymbol_7 : decode cX1_findSymbol 7 = .ok (.if_icmp .ge 22, 3) := by decide +kernel
theorem dX1_findSymbol_10 : decode cX1_findSymbol 10 = .ok (.aload_n 0, 1) := by decide +kernel
theorem dX1_findSymbol_11 : decode cX1_findSymbol 11 = .ok (.getfield 9, 3) := by decide +kernel
theorem dX1_findSymbol_14 : decode cX1_findSymbol 14 = .ok (.iload_n 3, 1) := by decide +kernel
theorem dX1_findSymbol_15 : decode cX1_findSymbol 15 = .ok (.laload, 1) := by decide +kernel
theorem dX1_findSymbol_16 : decode cX1_findSymbol 16 = .ok (.lload_n 1, 1) := by decide +kernel
theorem dX1_findSymbol_17 : decode cX1_findSymbol 17 = .ok (.lcmp, 1) := by decide +kernel
theorem dX1_findSymbol_18 : decode cX1_findSymbol 18 = .ok (.ifCond .ne 5, 3) := by decide +kernel
theorem dX1_findSymbol_21 : decode cX1_findSymbol 21 = .ok (.iload_n 3, 1) := by decide +kernel
theorem dX1_findSymbol_22 : decode cX1_findSymbol 22 = .ok (.ireturn, 1) := by decide +kernel
theorem dX1_findSymbol_23 : decode cX1_findSymbol 23 = .ok (.iinc 3 1, 3) := by decide +kernel
theorem dX1_findSymbol_26 : decode cX1_findSymbol 26 = .ok (.goto (-24), 3) := by decide +kernel
theorem dX1_findSymbol_29 : decode cX1_findSymbol 29 = .ok (.iconst (-1), 1) := by decide +kernel
theorem dX1_findSymbol_30 : decode cX1_findSymbol 30 = .ok (.ireturn, 1) := by decide +kernel
theorem dX1_findAttribute_0 : decode cX1_findAttribute 0 = .ok (.iconst 0, 1) := by decide +kernel
theorem dX1_findAttribute_1 : decode cX1_findAttribute 1 = .ok (.istore 4, 2) := by decide +kernel
theorem dX1_findAttribute_3 : decode cX1_findAttribute 3 = .ok (.iload 4, 2) := by decide +kernel
theorem dX1_findAttribute_5 : decode cX1_findAttribute 5 = .ok (.aload_n 0, 1) := by decide +kernel
theorem dX1_findAttribute_6 : decode cX1_findAttribute 6 = .ok (.getfield 21, 3) := by decide +kernel
theorem dX1_findAttribute_9 : decode cX1_findAttribute 9 = .ok (.iload_n 1, 1) := by decide +kernel
theorem dX1_findAttribute_10 : decode cX1_findAttribute 10 = .ok (.iaload, 1) := by decide +kernel
theorem dX1_findAttribute_11 : decode cX1_findAttribute 11 = .ok (.aload_n 0, 1) := by decide +kernel
theorem dX1_findAttribute_12 : decode cX1_findAttribute 12 = .ok (.getfield 25, 3) := by decide +kernel
theorem dX1_findAttribute_15 : decode cX1_findAttribute 15 = .ok (.iload_n 1, 1) := by decide +kernel
theorem dX1_findAttribute_16 : decode cX1_findAttribute 16 = .ok (.iaload, 1) := by decide +kernel
theorem dX1_findAttribute_17 : decode cX1_findAttribute 17 = .ok (.iadd, 1) := by decide +kernel
theorem dX1_findAttribute_18 : decode cX1_findAttribute 18 = .ok (.if_icmp .ge 29, 3) := by decide +kernel
theorem dX1_findAttribute_21 : decode cX1_findAttribute 21 = .ok (.aload_n 0, 1) := by decide +kernel
theorem dX1_findAttribute_22 : decode cX1_findAttribute 22 = .ok (.getfield 15, 3) := by decide +kernel
theorem dX1_findAttribute_25 : decode cX1_findAttribute 25 = .ok (.bipush 8, 2) := by decide +kernel
theorem dX1_findAttribute_27 : decode cX1_findAttribute 27 = .ok (.iload_n 1, 1) := by decide +kernel
theorem dX1_findAttribute_28 : decode cX1_findAttribute 28 = .ok (.imul, 1) := by decide +kernel
theorem dX1_findAttribute_29 : decode cX1_findAttribute 29 = .ok (.iload 4, 2) := by decide +kernel
theorem dX1_findAttribute_31 : decode cX1_findAttribute 31 = .ok (.iadd, 1) := by decide +kernel
theorem dX1_findAttribute_32 : decode cX1_findAttribute 32 = .ok (.laload, 1) := by decide +kernel
theorem dX1_findAttribute_33 : decode cX1_findAttribute 33 = .ok (.lload_n 2, 1) := by decide +kernel
theorem dX1_findAttribute_34 : decode cX1_findAttribute 34 = .ok (.lcmp, 1) := by decide +kernel
theorem dX1_findAttribute_35 : decode cX1_findAttribute 35 = .ok (.ifCond .ne 6, 3) := by decide +kernel
theorem dX1_findAttribute_38 : decode cX1_findAttribute 38 = .ok (.iload 4, 2) := by decide +kernel
theorem dX1_findAttribute_40 : decode cX1_findAttribute 40 = .ok (.ireturn, 1) := by decide +kernel
theorem dX1_findAttribute_41 : decode cX1_findAttribute 41 = .ok (.iinc 4 1, 3) := by decide +kernel
theorem dX1_findAttribute_44 : decode cX1_findAttribute 44 = .ok (.goto (-41), 3) := by decide +kernel
theorem dX1_findAttribute_47 : decode cX1_findAttribute 47 = .ok (.iconst (-1), 1) := by decide +kernel
theorem dX1_findAttribute_48 : decode cX1_findAttribute 48 = .ok (.ireturn, 1) := by decide +kernel
theorem dX1_findProduction_0 : decode cX1_findProduction 0 = .ok (.iconst 0, 1) := by decide +kernel
theorem dX1_findProduction_1 : decode cX1_findProduction 1 = .ok (.istore_n 3, 1) := by decide +kernel
theorem dX1_findProduction_2 : decode cX1_findProduction 2 = .ok (.iload_n 3, 1) := by decide +kernel
theorem dX1_findProduction_3 : decode cX1_findProduction 3 = .ok (.aload_n 0, 1) := by decide +kernel
theorem dX1_findProduction_4 : decode cX1_findProduction 4 = .ok (.getfield 65, 3) := by decide +kernel
theorem dX1_findProduction_7 : decode cX1_findProduction 7 = .ok (.if_icmp .ge 22, 3) := by decide +kernel
theorem dX1_findProduction_10 : decode cX1_findProduction 10 = .ok (.aload_n 0, 1) := by decide +kernel
theorem dX1_findProduction_11 : decode cX1_findProduction 11 = .ok (.getfield 18, 3) := by decide +kernel
theorem dX1_findProduction_14 : decode cX1_findProduction 14 = .ok (.iload_n 3, 1) := by decide +kernel
theorem dX1_findProduction_15 : decode cX1_findProduction 15 = .ok (.laload, 1) := by decide +kernel
theorem dX1_findProduction_16 : decode cX1_findProduction 16 = .ok (.lload_n 1, 1) := by decide +kernel
theorem dX1_findProduction_17 : decode cX1_findProduction 17 = .ok (.lcmp, 1) := by decide +kernel
theorem dX1_findProduction_18 : decode cX1_findProduction 18 = .ok (.ifCond .ne 5, 3) := by decide +kernel
theorem dX1_findProduction_21 : decode cX1_findProduction 21 = .ok (.iload_n 3, 1) := by decide +kernel
theorem dX1_findProduction_22 : decode cX1_findProduction 22 = .ok (.ireturn, 1) := by decide +kernel
theorem dX1_findProduction_23 : decode cX1_findProduction 23 = .ok (.iinc 3 1, 3) := by decide +kernel
theorem dX1_findProduction_26 : decode cX1_findProduction 26 = .ok (.goto (-24), 3) := by decide +kernel
theorem dX1_findProduction_29 : decode cX1_findProduction 29 = .ok (.iconst (-1), 1) := by decide +kernel
theorem dX1_findProduction_30 : decode cX1_findProduction 30 = .ok (.ireturn, 1) := by decide +kernel
theorem dX1_addSymbol_0 : decode cX1_addSymbol 0 = .ok (.aload_n 0, 1) := by decide +kernel
theorem dX1_addSymbol_1 : decode cX1_addSymbol 1 = .ok (.getfield 9, 3) := by decide +kernel
theorem dX1_addSymbol_4 : decode cX1_addSymbol 4 = .ok (.aload_n 0, 1) := by decide +kernel
theorem dX1_addSymbol_5 : decode cX1_addSymbol 5 = .ok (.getfield 61, 3) := by decide +kernel
theorem dX1_addSymbol_8 : decode cX1_addSymbol 8 = .ok (.lload_n 1, 1) := by decide +kernel
theorem dX1_addSymbol_9 : decode cX1_addSymbol 9 = .ok (.lastore, 1) := by decide +kernel
theorem dX1_addSymbol_10 : decode cX1_addSymbol 10 = .ok (.aload_n 0, 1) := by decide +kernel
theorem dX1_addSymbol_11 : decode cX1_addSymbol 11 = .ok (.getfield 21, 3) := by decide +kernel
theorem dX1_addSymbol_14 : decode cX1_addSymbol 14 = .ok (.aload_n 0, 1) := by decide +kernel
theorem dX1_addSymbol_15 : decode cX1_addSymbol 15 = .ok (.getfield 61, 3) := by decide +kernel
theorem dX1_addSymbol_18 : decode cX1_addSymbol 18 = .ok (.iconst 0, 1) := by decide +kernel
theorem dX1_addSymbol_19 : decode cX1_addSymbol 19 = .ok (.iastore, 1) := by decide +kernel
theorem dX1_addSymbol_20 : decode cX1_addSymbol 20 = .ok (.aload_n 0, 1) := by decide +kernel
theorem dX1_addSymbol_21 : decode cX1_addSymbol 21 = .ok (.getfield 25, 3) := by decide +kernel
theorem dX1_addSymbol_24 : decode cX1_addSymbol 24 = .ok (.aload_n 0, 1) := by decide +kernel
theorem dX1_addSymbol_25 : decode cX1_addSymbol 25 = .ok (.getfield 61, 3) := by decide +kernel
theorem dX1_addSymbol_28 : decode cX1_addSymbol 28 = .ok (.iconst 0, 1) := by decide +kernel
theorem dX1_addSymbol_29 : decode cX1_addSymbol 29 = .ok (.iastore, 1) := by decide +kernel
theorem dX1_addSymbol_30 : decode cX1_addSymbol 30 = .ok (.aload_n 0, 1) := by decide +kernel
theorem dX1_addSymbol_31 : decode cX1_addSymbol 31 = .ok (.dup, 1) := by decide +kernel
theorem dX1_addSymbol_32 : decode cX1_addSymbol 32 = .ok (.getfield 61, 3) := by decide +kernel
theorem dX1_addSymbol_35 : decode cX1_addSymbol 35 = .ok (.iconst 1, 1) := by decide +kernel
theorem dX1_addSymbol_36 : decode cX1_addSymbol 36 = .ok (.iadd, 1) := by decide +kernel
theorem dX1_addSymbol_37 : decode cX1_addSymbol 37 = .ok (.putfield 61, 3) := by decide +kernel
theorem dX1_addSymbol_40 : decode cX1_addSymbol 40 = .ok (.return_, 1) := by decide +kernel
theorem dX1_addAttribute_0 : decode cX1_addAttribute 0 = .ok (.aload_n 0, 1) := by decide +kernel
theorem dX1_addAttribute_1 : decode cX1_addAttribute 1 = .ok (.getfield 15, 3) := by decide +kernel
theorem dX1_addAttribute_4 : decode cX1_addAttribute 4 = .ok (.bipush 8, 2) := by decide +kernel
theorem dX1_addAttribute_6 : decode cX1_addAttribute 6 = .ok (.iload_n 1, 1) := by decide +kernel
theorem dX1_addAttribute_7 : decode cX1_addAttribute 7 = .ok (.imul, 1) := by decide +kernel
theorem dX1_addAttribute_8 : decode cX1_addAttribute 8 = .ok (.aload_n 0, 1) := by decide +kernel
theorem dX1_addAttribute_9 : decode cX1_addAttribute 9 = .ok (.getfield 21, 3) := by decide +kernel
theorem dX1_addAttribute_12 : decode cX1_addAttribute 12 = .ok (.iload_n 1, 1) := by decide +kernel
theorem dX1_addAttribute_13 : decode cX1_addAttribute 13 = .ok (.iaload, 1) := by decide +kernel
theorem dX1_addAttribute_14 : decode cX1_addAttribute 14 = .ok (.iadd, 1) := by decide +kernel
theorem dX1_addAttribute_15 : decode cX1_addAttribute 15 = .ok (.aload_n 0, 1) := by decide +kernel
theorem dX1_addAttribute_16 : decode cX1_addAttribute 16 = .ok (.getfield 25, 3) := by decide +kernel
theorem dX1_addAttribute_19 : decode cX1_addAttribute 19 = .ok (.iload_n 1, 1) := by decide +kernel
theorem dX1_addAttribute_20 : decode cX1_addAttribute 20 = .ok (.iaload, 1) := by decide +kernel
theorem dX1_addAttribute_21 : decode cX1_addAttribute 21 = .ok (.iadd, 1) := by decide +kernel
theorem dX1_addAttribute_22 : decode cX1_addAttribute 22 = .ok (.lload_n 2, 1) := by decide +kernel
theorem dX1_addAttribute_23 : decode cX1_addAttribute 23 = .ok (.lastore, 1) := by decide +kernel
theorem dX1_addAttribute_24 : decode cX1_addAttribute 24 = .ok (.iload 4, 2) := by decide +kernel
theorem dX1_addAttribute_26 : decode cX1_addAttribute 26 = .ok (.ifCond .eq 16, 3) := by decide +kernel
theorem dX1_addAttribute_29 : decode cX1_addAttribute 29 = .ok (.aload_n 0, 1) := by decide +kernel
theorem dX1_addAttribute_30 : decode cX1_addAttribute 30 = .ok (.getfield 21, 3) := by decide +kernel
theorem dX1_addAttribute_33 : decode cX1_addAttribute 33 = .ok (.iload_n 1, 1) := by decide +kernel
theorem dX1_addAttribute_34 : decode cX1_addAttribute 34 = .ok (.dup2, 1) := by decide +kernel
theorem dX1_addAttribute_35 : decode cX1_addAttribute 35 = .ok (.iaload, 1) := by decide +kernel
theorem dX1_addAttribute_36 : decode cX1_addAttribute 36 = .ok (.iconst 1, 1) := by decide +kernel
theorem dX1_addAttribute_37 : decode cX1_addAttribute 37 = .ok (.iadd, 1) := by decide +kernel
theorem dX1_addAttribute_38 : decode cX1_addAttribute 38 = .ok (.iastore, 1) := by decide +kernel
theorem dX1_addAttribute_39 : decode cX1_addAttribute 39 = .ok (.goto 13, 3) := by decide +kernel
theorem dX1_addAttribute_42 : decode cX1_addAttribute 42 = .ok (.aload_n 0, 1) := by decide +kernel
theorem dX1_addAttribute_43 : decode cX1_addAttribute 43 = .ok (.getfield 25, 3) := by decide +kernel
theorem dX1_addAttribute_46 : decode cX1_addAttribute 46 = .ok (.iload_n 1, 1) := by decide +kernel
theorem dX1_addAttribute_47 : decode cX1_addAttribute 47 = .ok (.dup2, 1) := by decide +kernel
theorem dX1_addAttribute_48 : decode cX1_addAttribute 48 = .ok (.iaload, 1) := by decide +kernel
theorem dX1_addAttribute_49 : decode cX1_addAttribute 49 = .ok (.iconst 1, 1) := by decide +kernel
theorem dX1_addAttribute_50 : decode cX1_addAttribute 50 = .ok (.iadd, 1) := by decide +kernel
theorem dX1_addAttribute_51 : decode cX1_addAttribute 51 = .ok (.iastore, 1) := by decide +kernel
theorem dX1_addAttribute_52 : decode cX1_addAttribute 52 = .ok (.return_, 1) := by decide +kernel
theorem dX1_addProduction_0 : decode cX1_addProduction 0 = .ok (.aload_n 0, 1) := by decide +kernel
theorem dX1_addProduction_1 : decode cX1_addProduction 1 = .ok (.getfield 18, 3) := by decide +kernel
theorem dX1_addProduction_4 : decode cX1_addProduction 4 = .ok (.aload_n 0, 1) := by decide +kernel
theorem dX1_addProduction_5 : decode cX1_addProduction 5 = .ok (.getfield 65, 3) := by decide +kernel
theorem dX1_addProduction_8 : decode cX1_addProduction 8 = .ok (.lload_n 1, 1) := by decide +kernel
theorem dX1_addProduction_9 : decode cX1_addProduction 9 = .ok (.lastore, 1) := by decide +kernel
theorem dX1_addProduction_10 : decode cX1_addProduction 10 = .ok (.aload_n 0, 1) := by decide +kernel
theorem dX1_addProduction_11 : decode cX1_addProduction 11 = .ok (.getfield 28, 3) := by decide +kernel
theorem dX1_addProduction_14 : decode cX1_addProduction 14 = .ok (.aload_n 0, 1) := by decide +kernel
theorem dX1_addProduction_15 : decode cX1_addProduction 15 = .ok (.getfield 65, 3) := by decide +kernel
theorem dX1_addProduction_18 : decode cX1_addProduction 18 = .ok (.iconst 0, 1) := by decide +kernel
theorem dX1_addProduction_19 : decode cX1_addProduction 19 = .ok (.iastore, 1) := by decide +kernel
theorem dX1_addProduction_20 : decode cX1_addProduction 20 = .ok (.aload_n 0, 1) := by decide +kernel
theorem dX1_addProduction_21 : decode cX1_addProduction 21 = .ok (.getfield 34, 3) := by decide +kernel
theorem dX1_addProduction_24 : decode cX1_addProduction 24 = .ok (.aload_n 0, 1) := by decide +kernel
theorem dX1_addProduction_25 : decode cX1_addProduction 25 = .ok (.getfield 65, 3) := by decide +kernel
theorem dX1_addProduction_28 : decode cX1_addProduction 28 = .ok (.iconst 0, 1) := by decide +kernel
theorem dX1_addProduction_29 : decode cX1_addProduction 29 = .ok (.iastore, 1) := by decide +kernel
theorem dX1_addProduction_30 : decode cX1_addProduction 30 = .ok (.aload_n 0, 1) := by decide +kernel
theorem dX1_addProduction_31 : decode cX1_addProduction 31 = .ok (.getfield 37, 3) := by decide +kernel
theorem dX1_addProduction_34 : decode cX1_addProduction 34 = .ok (.aload_n 0, 1) := by decide +kernel
theorem dX1_addProduction_35 : decode cX1_addProduction 35 = .ok (.getfield 65, 3) := by decide +kernel
theorem dX1_addProduction_38 : decode cX1_addProduction 38 = .ok (.iconst 0, 1) := by decide +kernel
theorem dX1_addProduction_39 : decode cX1_addProduction 39 = .ok (.iastore, 1) := by decide +kernel
theorem dX1_addProduction_40 : decode cX1_addProduction 40 = .ok (.aload_n 0, 1) := by decide +kernel
theorem dX1_addProduction_41 : decode cX1_addProduction 41 = .ok (.getfield 40, 3) := by decide +kernel
theorem dX1_addProduction_44 : decode cX1_addProduction 44 = .ok (.aload_n 0, 1) := by decide +kernel
theorem dX1_addProduction_45 : decode cX1_addProduction 45 = .ok (.getfield 65, 3) := by decide +kernel
theorem dX1_addProduction_48 : decode cX1_addProduction 48 = .ok (.iconst 0, 1) := by decide +kernel
theorem dX1_addProduction_49 : decode cX1_addProduction 49 = .ok (.iastore, 1) := by decide +kernel
theorem dX1_addProduction_50 : decode cX1_addProduction 50 = .ok (.aload_n 0, 1) := by decide +kernel
theorem dX1_addProduction_51 : decode cX1_addProduction 51 = .ok (.getfield 43, 3) := by decide +kernel
theorem dX1_addProduction_54 : decode cX1_addProduction 54 = .ok (.aload_n 0, 1) := by decide +kernel
theorem dX1_addProduction_55 : decode cX1_addProduction 55 = .ok (.getfield 65, 3) := by decide +kernel
theorem dX1_addProduction_58 : decode cX1_addProduction 58 = .ok (.iconst 0, 1) := by decide +kernel
theorem dX1_addProduction_59 : decode cX1_addProduction 59 = .ok (.iastore, 1) := by decide +kernel
theorem dX1_addProduction_60 : decode cX1_addProduction 60 = .ok (.aload_n 0, 1) := by decide +kernel
theorem dX1_addProduction_61 : decode cX1_addProduction 61 = .ok (.dup, 1) := by decide +kernel
theorem dX1_addProduction_62 : decode cX1_addProduction 62 = .ok (.getfield 65, 3) := by decide +kernel
theorem dX1_addProduction_65 : decode cX1_addProduction 65 = .ok (.iconst 1, 1) := by decide +kernel
theorem dX1_addProduction_66 : decode cX1_addProduction 66 = .ok (.iadd, 1) := by decide +kernel
theorem dX1_addProduction_67 : decode cX1_addProduction 67 = .ok (.putfield 65, 3) := by decide +kernel
theorem dX1_addProduction_70 : decode cX1_addProduction 70 = .ok (.return_, 1) := by decide +kernel
theorem dX1_addSide_0 : decode cX1_addSide 0 = .ok (.aload_n 0, 1) := by decide +kernel
theorem dX1_addSide_1 : decode cX1_addSide 1 = .ok (.getfield 28, 3) := by decide +kernel
theorem dX1_addSide_4 : decode cX1_addSide 4 = .ok (.iload_n 1, 1) := by decide +kernel
theorem dX1_addSide_5 : decode cX1_addSide 5 = .ok (.iaload, 1) := by decide +kernel
theorem dX1_addSide_6 : decode cX1_addSide 6 = .ok (.istore_n 3, 1) := by decide +kernel
theorem dX1_addSide_7 : decode cX1_addSide 7 = .ok (.aload_n 0, 1) := by decide +kernel
theorem dX1_addSide_8 : decode cX1_addSide 8 = .ok (.getfield 31, 3) := by decide +kernel
theorem dX1_addSide_11 : decode cX1_addSide 11 = .ok (.iconst 4, 1) := by decide +kernel
theorem dX1_addSide_12 : decode cX1_addSide 12 = .ok (.iload_n 1, 1) := by decide +kernel
theorem dX1_addSide_13 : decode cX1_addSide 13 = .ok (.imul, 1) := by decide +kernel
theorem dX1_addSide_14 : decode cX1_addSide 14 = .ok (.iload_n 3, 1) := by decide +kernel
theorem dX1_addSide_15 : decode cX1_addSide 15 = .ok (.iadd, 1) := by decide +kernel
theorem dX1_addSide_16 : decode cX1_addSide 16 = .ok (.iload_n 2, 1) := by decide +kernel
theorem dX1_addSide_17 : decode cX1_addSide 17 = .ok (.iastore, 1) := by decide +kernel
theorem dX1_addSide_18 : decode cX1_addSide 18 = .ok (.aload_n 0, 1) := by decide +kernel
theorem dX1_addSide_19 : decode cX1_addSide 19 = .ok (.getfield 34, 3) := by decide +kernel
theorem dX1_addSide_22 : decode cX1_addSide 22 = .ok (.iload_n 1, 1) := by decide +kernel
theorem dX1_addSide_23 : decode cX1_addSide 23 = .ok (.dup2, 1) := by decide +kernel
theorem dX1_addSide_24 : decode cX1_addSide 24 = .ok (.iaload, 1) := by decide +kernel
theorem dX1_addSide_25 : decode cX1_addSide 25 = .ok (.aload_n 0, 1) := by decide +kernel
theorem dX1_addSide_26 : decode cX1_addSide 26 = .ok (.iload_n 2, 1) := by decide +kernel
theorem dX1_addSide_27 : decode cX1_addSide 27 = .ok (.invokevirtual 91, 3) := by decide +kernel
theorem dX1_addSide_30 : decode cX1_addSide 30 = .ok (.aload_n 0, 1) := by decide +kernel
theorem dX1_addSide_31 : decode cX1_addSide 31 = .ok (.iload_n 2, 1) := by decide +kernel
theorem dX1_addSide_32 : decode cX1_addSide 32 = .ok (.invokevirtual 94, 3) := by decide +kernel
theorem dX1_addSide_35 : decode cX1_addSide 35 = .ok (.ior, 1) := by decide +kernel
theorem dX1_addSide_36 : decode cX1_addSide 36 = .ok (.bipush 8, 2) := by decide +kernel
theorem dX1_addSide_38 : decode cX1_addSide 38 = .ok (.iload_n 3, 1) := by decide +kernel
theorem dX1_addSide_39 : decode cX1_addSide 39 = .ok (.imul, 1) := by decide +kernel
theorem dX1_addSide_40 : decode cX1_addSide 40 = .ok (.ishl, 1) := by decide +kernel
theorem dX1_addSide_41 : decode cX1_addSide 41 = .ok (.ior, 1) := by decide +kernel
theorem dX1_addSide_42 : decode cX1_addSide 42 = .ok (.iastore, 1) := by decide +kernel
theorem dX1_addSide_43 : decode cX1_addSide 43 = .ok (.aload_n 0, 1) := by decide +kernel
theorem dX1_addSide_44 : decode cX1_addSide 44 = .ok (.getfield 37, 3) := by decide +kernel
theorem dX1_addSide_47 : decode cX1_addSide 47 = .ok (.iload_n 1, 1) := by decide +kernel
theorem dX1_addSide_48 : decode cX1_addSide 48 = .ok (.dup2, 1) := by decide +kernel
theorem dX1_addSide_49 : decode cX1_addSide 49 = .ok (.iaload, 1) := by decide +kernel
theorem dX1_addSide_50 : decode cX1_addSide 50 = .ok (.iload_n 3, 1) := by decide +kernel
theorem dX1_addSide_51 : decode cX1_addSide 51 = .ok (.ifCond .ne 11, 3) := by decide +kernel
theorem dX1_addSide_54 : decode cX1_addSide 54 = .ok (.aload_n 0, 1) := by decide +kernel
theorem dX1_addSide_55 : decode cX1_addSide 55 = .ok (.iload_n 2, 1) := by decide +kernel
theorem dX1_addSide_56 : decode cX1_addSide 56 = .ok (.invokevirtual 94, 3) := by decide +kernel
theorem dX1_addSide_59 : decode cX1_addSide 59 = .ok (.goto 8, 3) := by decide +kernel
theorem dX1_addSide_62 : decode cX1_addSide 62 = .ok (.aload_n 0, 1) := by decide +kernel
theorem dX1_addSide_63 : decode cX1_addSide 63 = .ok (.iload_n 2, 1) := by decide +kernel
theorem dX1_addSide_64 : decode cX1_addSide 64 = .ok (.invokevirtual 91, 3) := by decide +kernel
theorem dX1_addSide_67 : decode cX1_addSide 67 = .ok (.bipush 8, 2) := by decide +kernel
theorem dX1_addSide_69 : decode cX1_addSide 69 = .ok (.iload_n 3, 1) := by decide +kernel
theorem dX1_addSide_70 : decode cX1_addSide 70 = .ok (.imul, 1) := by decide +kernel
theorem dX1_addSide_71 : decode cX1_addSide 71 = .ok (.ishl, 1) := by decide +kernel
theorem dX1_addSide_72 : decode cX1_addSide 72 = .ok (.ior, 1) := by decide +kernel
theorem dX1_addSide_73 : decode cX1_addSide 73 = .ok (.iastore, 1) := by decide +kernel
theorem dX1_addSide_74 : decode cX1_addSide 74 = .ok (.aload_n 0, 1) := by decide +kernel
theorem dX1_addSide_75 : decode cX1_addSide 75 = .ok (.getfield 28, 3) := by decide +kernel
theorem dX1_addSide_78 : decode cX1_addSide 78 = .ok (.iload_n 1, 1) := by decide +kernel
theorem dX1_addSide_79 : decode cX1_addSide 79 = .ok (.dup2, 1) := by decide +kernel
theorem dX1_addSide_80 : decode cX1_addSide 80 = .ok (.iaload, 1) := by decide +kernel
theorem dX1_addSide_81 : decode cX1_addSide 81 = .ok (.iconst 1, 1) := by decide +kernel
theorem dX1_addSide_82 : decode cX1_addSide 82 = .ok (.iadd, 1) := by decide +kernel
theorem dX1_addSide_83 : decode cX1_addSide 83 = .ok (.iastore, 1) := by decide +kernel
theorem dX1_addSide_84 : decode cX1_addSide 84 = .ok (.return_, 1) := by decide +kernel
theorem dX1_addAsk_0 : decode cX1_addAsk 0 = .ok (.aload_n 0, 1) := by decide +kernel
theorem dX1_addAsk_1 : decode cX1_addAsk 1 = .ok (.getfield 46, 3) := by decide +kernel
theorem dX1_addAsk_4 : decode cX1_addAsk 4 = .ok (.bipush 32, 2) := by decide +kernel
theorem dX1_addAsk_6 : decode cX1_addAsk 6 = .ok (.iload_n 1, 1) := by decide +kernel
theorem dX1_addAsk_7 : decode cX1_addAsk 7 = .ok (.imul, 1) := by decide +kernel
theorem dX1_addAsk_8 : decode cX1_addAsk 8 = .ok (.iload_n 2, 1) := by decide +kernel
theorem dX1_addAsk_9 : decode cX1_addAsk 9 = .ok (.iadd, 1) := by decide +kernel
theorem dX1_addAsk_10 : decode cX1_addAsk 10 = .ok (.dup2, 1) := by decide +kernel
theorem dX1_addAsk_11 : decode cX1_addAsk 11 = .ok (.iaload, 1) := by decide +kernel
theorem dX1_addAsk_12 : decode cX1_addAsk 12 = .ok (.iconst 1, 1) := by decide +kernel
theorem dX1_addAsk_13 : decode cX1_addAsk 13 = .ok (.iload_n 3, 1) := by decide +kernel
theorem dX1_addAsk_14 : decode cX1_addAsk 14 = .ok (.ishl, 1) := by decide +kernel
theorem dX1_addAsk_15 : decode cX1_addAsk 15 = .ok (.ior, 1) := by decide +kernel
theorem dX1_addAsk_16 : decode cX1_addAsk 16 = .ok (.iastore, 1) := by decide +kernel
theorem dX1_addAsk_17 : decode cX1_addAsk 17 = .ok (.aload_n 0, 1) := by decide +kernel
theorem dX1_addAsk_18 : decode cX1_addAsk 18 = .ok (.getfield 49, 3) := by decide +kernel
theorem dX1_addAsk_21 : decode cX1_addAsk 21 = .ok (.bipush 32, 2) := by decide +kernel
theorem dX1_addAsk_23 : decode cX1_addAsk 23 = .ok (.iload_n 1, 1) := by decide +kernel
theorem dX1_addAsk_24 : decode cX1_addAsk 24 = .ok (.imul, 1) := by decide +kernel
theorem dX1_addAsk_25 : decode cX1_addAsk 25 = .ok (.iload_n 3, 1) := by decide +kernel
theorem dX1_addAsk_26 : decode cX1_addAsk 26 = .ok (.iadd, 1) := by decide +kernel
theorem dX1_addAsk_27 : decode cX1_addAsk 27 = .ok (.dup2, 1) := by decide +kernel
theorem dX1_addAsk_28 : decode cX1_addAsk 28 = .ok (.iaload, 1) := by decide +kernel
theorem dX1_addAsk_29 : decode cX1_addAsk 29 = .ok (.iconst 1, 1) := by decide +kernel
theorem dX1_addAsk_30 : decode cX1_addAsk 30 = .ok (.iload_n 2, 1) := by decide +kernel
theorem dX1_addAsk_31 : decode cX1_addAsk 31 = .ok (.ishl, 1) := by decide +kernel
theorem dX1_addAsk_32 : decode cX1_addAsk 32 = .ok (.ior, 1) := by decide +kernel
theorem dX1_addAsk_33 : decode cX1_addAsk 33 = .ok (.iastore, 1) := by decide +kernel
theorem dX1_addAsk_34 : decode cX1_addAsk 34 = .ok (.return_, 1) := by decide +kernel
theorem dX1_beginCode_0 : decode cX1_beginCode 0 = .ok (.aload_n 0, 1) := by decide +kernel
theorem dX1_beginCode_1 : decode cX1_beginCode 1 = .ok (.getfield 40, 3) := by decide +kernel
theorem dX1_beginCode_4 : decode cX1_beginCode 4 = .ok (.iload_n 1, 1) := by decide +kernel
theorem dX1_beginCode_5 : decode cX1_beginCode 5 = .ok (.dup2, 1) := by decide +kernel
theorem dX1_beginCode_6 : decode cX1_beginCode 6 = .ok (.iaload, 1) := by decide +kernel
theorem dX1_beginCode_7 : decode cX1_beginCode 7 = .ok (.iconst 1, 1) := by decide +kernel
theorem dX1_beginCode_8 : decode cX1_beginCode 8 = .ok (.iload_n 2, 1) := by decide +kernel
theorem dX1_beginCode_9 : decode cX1_beginCode 9 = .ok (.ishl, 1) := by decide +kernel
theorem dX1_beginCode_10 : decode cX1_beginCode 10 = .ok (.ior, 1) := by decide +kernel
theorem dX1_beginCode_11 : decode cX1_beginCode 11 = .ok (.iastore, 1) := by decide +kernel
theorem dX1_beginCode_12 : decode cX1_beginCode 12 = .ok (.aload_n 0, 1) := by decide +kernel
theorem dX1_beginCode_13 : decode cX1_beginCode 13 = .ok (.getfield 52, 3) := by decide +kernel
theorem dX1_beginCode_16 : decode cX1_beginCode 16 = .ok (.bipush 32, 2) := by decide +kernel
theorem dX1_beginCode_18 : decode cX1_beginCode 18 = .ok (.iload_n 1, 1) := by decide +kernel
theorem dX1_beginCode_19 : decode cX1_beginCode 19 = .ok (.imul, 1) := by decide +kernel
theorem dX1_beginCode_20 : decode cX1_beginCode 20 = .ok (.iload_n 2, 1) := by decide +kernel
theorem dX1_beginCode_21 : decode cX1_beginCode 21 = .ok (.iadd, 1) := by decide +kernel
theorem dX1_beginCode_22 : decode cX1_beginCode 22 = .ok (.aload_n 0, 1) := by decide +kernel
theorem dX1_beginCode_23 : decode cX1_beginCode 23 = .ok (.getfield 68, 3) := by decide +kernel
theorem dX1_beginCode_26 : decode cX1_beginCode 26 = .ok (.iastore, 1) := by decide +kernel
theorem dX1_beginCode_27 : decode cX1_beginCode 27 = .ok (.return_, 1) := by decide +kernel
theorem dX1_addCode_0 : decode cX1_addCode 0 = .ok (.aload_n 0, 1) := by decide +kernel
theorem dX1_addCode_1 : decode cX1_addCode 1 = .ok (.getfield 68, 3) := by decide +kernel
theorem dX1_addCode_4 : decode cX1_addCode 4 = .ok (.aload_n 0, 1) := by decide +kernel
theorem dX1_addCode_5 : decode cX1_addCode 5 = .ok (.getfield 58, 3) := by decide +kernel
theorem dX1_addCode_8 : decode cX1_addCode 8 = .ok (.arraylength, 1) := by decide +kernel
theorem dX1_addCode_9 : decode cX1_addCode 9 = .ok (.if_icmp .ge 23, 3) := by decide +kernel
theorem dX1_addCode_12 : decode cX1_addCode 12 = .ok (.aload_n 0, 1) := by decide +kernel
theorem dX1_addCode_13 : decode cX1_addCode 13 = .ok (.getfield 58, 3) := by decide +kernel
theorem dX1_addCode_16 : decode cX1_addCode 16 = .ok (.aload_n 0, 1) := by decide +kernel
theorem dX1_addCode_17 : decode cX1_addCode 17 = .ok (.getfield 68, 3) := by decide +kernel
theorem dX1_addCode_20 : decode cX1_addCode 20 = .ok (.iload_n 1, 1) := by decide +kernel
theorem dX1_addCode_21 : decode cX1_addCode 21 = .ok (.iastore, 1) := by decide +kernel
theorem dX1_addCode_22 : decode cX1_addCode 22 = .ok (.aload_n 0, 1) := by decide +kernel
theorem dX1_addCode_23 : decode cX1_addCode 23 = .ok (.dup, 1) := by decide +kernel
theorem dX1_addCode_24 : decode cX1_addCode 24 = .ok (.getfield 68, 3) := by decide +kernel
theorem dX1_addCode_27 : decode cX1_addCode 27 = .ok (.iconst 1, 1) := by decide +kernel
theorem dX1_addCode_28 : decode cX1_addCode 28 = .ok (.iadd, 1) := by decide +kernel
theorem dX1_addCode_29 : decode cX1_addCode 29 = .ok (.putfield 68, 3) := by decide +kernel
theorem dX1_addCode_32 : decode cX1_addCode 32 = .ok (.return_, 1) := by decide +kernel
theorem dX1_endCode_0 : decode cX1_endCode 0 = .ok (.aload_n 0, 1) := by decide +kernel
theorem dX1_endCode_1 : decode cX1_endCode 1 = .ok (.getfield 55, 3) := by decide +kernel
theorem dX1_endCode_4 : decode cX1_endCode 4 = .ok (.bipush 32, 2) := by decide +kernel
theorem dX1_endCode_6 : decode cX1_endCode 6 = .ok (.iload_n 1, 1) := by decide +kernel
theorem dX1_endCode_7 : decode cX1_endCode 7 = .ok (.imul, 1) := by decide +kernel
theorem dX1_endCode_8 : decode cX1_endCode 8 = .ok (.iload_n 2, 1) := by decide +kernel
theorem dX1_endCode_9 : decode cX1_endCode 9 = .ok (.iadd, 1) := by decide +kernel
theorem dX1_endCode_10 : decode cX1_endCode 10 = .ok (.aload_n 0, 1) := by decide +kernel
theorem dX1_endCode_11 : decode cX1_endCode 11 = .ok (.getfield 68, 3) := by decide +kernel
theorem dX1_endCode_14 : decode cX1_endCode 14 = .ok (.iastore, 1) := by decide +kernel
theorem dX1_endCode_15 : decode cX1_endCode 15 = .ok (.return_, 1) := by decide +kernel
theorem dX2_init_0 : decode cX2_init 0 = .ok (.aload_n 0, 1) := by decide +kernel
theorem dX2_init_1 : decode cX2_init 1 = .ok (.invokespecial 3, 3) := by decide +kernel
theorem dX2_init_4 : decode cX2_init 4 = .ok (.return_, 1) := by decide +kernel
theorem dX2_read_0 : decode cX2_read 0 = .ok (.aload_n 0, 1) := by decide +kernel
theorem dX2_read_1 : decode cX2_read 1 = .ok (.aload_n 1, 1) := by decide +kernel
theorem dX2_read_2 : decode cX2_read 2 = .ok (.putfield 9, 3) := by decide +kernel
theorem dX2_read_5 : decode cX2_read 5 = .ok (.aload_n 0, 1) := by decide +kernel
theorem dX2_read_6 : decode cX2_read 6 = .ok (.aload_n 2, 1) := by decide +kernel
theorem dX2_read_7 : decode cX2_read 7 = .ok (.putfield 15, 3) := by decide +kernel
theorem dX2_read_10 : decode cX2_read 10 = .ok (.aload_n 0, 1) := by decide +kernel
theorem dX2_read_11 : decode cX2_read 11 = .ok (.getfield 15, 3) := by decide +kernel
theorem dX2_read_14 : decode cX2_read 14 = .ok (.invokevirtual 19, 3) := by decide +kernel
theorem dX2_read_17 : decode cX2_read 17 = .ok (.iconst 1, 1) := by decide +kernel
theorem dX2_read_18 : decode cX2_read 18 = .ok (.istore_n 3, 1) := by decide +kernel
theorem dX2_read_19 : decode cX2_read 19 = .ok (.iconst 0, 1) := by decide +kernel
theorem dX2_read_20 : decode cX2_read 20 = .ok (.istore 4, 2) := by decide +kernel
theorem dX2_read_22 : decode cX2_read 22 = .ok (.iload 4, 2) := by decide +kernel
theorem dX2_read_24 : decode cX2_read 24 = .ok (.sipush 1000, 3) := by decide +kernel
theorem dX2_read_27 : decode cX2_read 27 = .ok (.if_icmp .ge 160, 3) := by decide +kernel
theorem dX2_read_30 : decode cX2_read 30 = .ok (.iload_n 3, 1) := by decide +kernel
theorem dX2_read_31 : decode cX2_read 31 = .ok (.ifCond .eq 156, 3) := by decide +kernel
theorem dX2_read_34 : decode cX2_read 34 = .ok (.iload 4, 2) := by decide +kernel
theorem dX2_read_36 : decode cX2_read 36 = .ok (.ifCond .eq 13, 3) := by decide +kernel
theorem dX2_read_39 : decode cX2_read 39 = .ok (.aload_n 0, 1) := by decide +kernel
theorem dX2_read_40 : decode cX2_read 40 = .ok (.getfield 9, 3) := by decide +kernel
theorem dX2_read_43 : decode cX2_read 43 = .ok (.getfield 24, 3) := by decide +kernel
theorem dX2_read_46 : decode cX2_read 46 = .ok (.ifCond .eq 141, 3) := by decide +kernel
theorem dX2_read_49 : decode cX2_read 49 = .ok (.aload_n 0, 1) := by decide +kernel
theorem dX2_read_50 : decode cX2_read 50 = .ok (.getfield 9, 3) := by decide +kernel
theorem dX2_read_53 : decode cX2_read 53 = .ok (.ldc2_w 30, 3) := by decide +kernel
theorem dX2_read_56 : decode cX2_read 56 = .ok (.invokevirtual 32, 3) := by decide +kernel
theorem dX2_read_59 : decode cX2_read 59 = .ok (.ifCond .eq 31, 3) := by decide +kernel
theorem dX2_read_62 : decode cX2_read 62 = .ok (.aload_n 0, 1) := by decide +kernel
theorem dX2_read_63 : decode cX2_read 63 = .ok (.invokevirtual 36, 3) := by decide +kernel
theorem dX2_read_66 : decode cX2_read 66 = .ok (.ifCond .eq 19, 3) := by decide +kernel
theorem dX2_read_69 : decode cX2_read 69 = .ok (.aload_n 0, 1) := by decide +kernel
theorem dX2_read_70 : decode cX2_read 70 = .ok (.getfield 9, 3) := by decide +kernel
theorem dX2_read_73 : decode cX2_read 73 = .ok (.bipush 59, 2) := by decide +kernel
theorem dX2_read_75 : decode cX2_read 75 = .ok (.invokevirtual 40, 3) := by decide +kernel
theorem dX2_read_78 : decode cX2_read 78 = .ok (.ifCond .eq 7, 3) := by decide +kernel
theorem dX2_read_81 : decode cX2_read 81 = .ok (.iconst 1, 1) := by decide +kernel
theorem dX2_read_82 : decode cX2_read 82 = .ok (.goto 4, 3) := by decide +kernel
theorem dX2_read_85 : decode cX2_read 85 = .ok (.iconst 0, 1) := by decide +kernel
theorem dX2_read_86 : decode cX2_read 86 = .ok (.istore_n 3, 1) := by decide +kernel
theorem dX2_read_87 : decode cX2_read 87 = .ok (.goto 94, 3) := by decide +kernel
theorem dX2_read_90 : decode cX2_read 90 = .ok (.aload_n 0, 1) := by decide +kernel
theorem dX2_read_91 : decode cX2_read 91 = .ok (.getfield 9, 3) := by decide +kernel
theorem dX2_read_94 : decode cX2_read 94 = .ok (.ldc2_w 44, 3) := by decide +kernel
theorem dX2_read_97 : decode cX2_read 97 = .ok (.invokevirtual 32, 3) := by decide +kernel
theorem dX2_read_100 : decode cX2_read 100 = .ok (.ifCond .eq 31, 3) := by decide +kernel
theorem dX2_read_103 : decode cX2_read 103 = .ok (.aload_n 0, 1) := by decide +kernel
theorem dX2_read_104 : decode cX2_read 104 = .ok (.invokevirtual 46, 3) := by decide +kernel
theorem dX2_read_107 : decode cX2_read 107 = .ok (.ifCond .eq 19, 3) := by decide +kernel
theorem dX2_read_110 : decode cX2_read 110 = .ok (.aload_n 0, 1) := by decide +kernel
theorem dX2_read_111 : decode cX2_read 111 = .ok (.getfield 9, 3) := by decide +kernel
theorem dX2_read_114 : decode cX2_read 114 = .ok (.bipush 59, 2) := by decide +kernel
theorem dX2_read_116 : decode cX2_read 116 = .ok (.invokevirtual 40, 3) := by decide +kernel
theorem dX2_read_119 : decode cX2_read 119 = .ok (.ifCond .eq 7, 3) := by decide +kernel
theorem dX2_read_122 : decode cX2_read 122 = .ok (.iconst 1, 1) := by decide +kernel
theorem dX2_read_123 : decode cX2_read 123 = .ok (.goto 4, 3) := by decide +kernel
theorem dX2_read_126 : decode cX2_read 126 = .ok (.iconst 0, 1) := by decide +kernel
theorem dX2_read_127 : decode cX2_read 127 = .ok (.istore_n 3, 1) := by decide +kernel
theorem dX2_read_128 : decode cX2_read 128 = .ok (.goto 53, 3) := by decide +kernel
theorem dX2_read_131 : decode cX2_read 131 = .ok (.aload_n 0, 1) := by decide +kernel
theorem dX2_read_132 : decode cX2_read 132 = .ok (.getfield 9, 3) := by decide +kernel
theorem dX2_read_135 : decode cX2_read 135 = .ok (.ldc2_w 49, 3) := by decide +kernel
theorem dX2_read_138 : decode cX2_read 138 = .ok (.invokevirtual 32, 3) := by decide +kernel
theorem dX2_read_141 : decode cX2_read 141 = .ok (.ifCond .eq 31, 3) := by decide +kernel
theorem dX2_read_144 : decode cX2_read 144 = .ok (.aload_n 0, 1) := by decide +kernel
theorem dX2_read_145 : decode cX2_read 145 = .ok (.invokevirtual 51, 3) := by decide +kernel
theorem dX2_read_148 : decode cX2_read 148 = .ok (.ifCond .eq 19, 3) := by decide +kernel
theorem dX2_read_151 : decode cX2_read 151 = .ok (.aload_n 0, 1) := by decide +kernel
theorem dX2_read_152 : decode cX2_read 152 = .ok (.getfield 9, 3) := by decide +kernel
theorem dX2_read_155 : decode cX2_read 155 = .ok (.bipush 59, 2) := by decide +kernel
theorem dX2_read_157 : decode cX2_read 157 = .ok (.invokevirtual 40, 3) := by decide +kernel
theorem dX2_read_160 : decode cX2_read 160 = .ok (.ifCond .eq 7, 3) := by decide +kernel
theorem dX2_read_163 : decode cX2_read 163 = .ok (.iconst 1, 1) := by decide +kernel
theorem dX2_read_164 : decode cX2_read 164 = .ok (.goto 4, 3) := by decide +kernel
theorem dX2_read_167 : decode cX2_read 167 = .ok (.iconst 0, 1) := by decide +kernel
theorem dX2_read_168 : decode cX2_read 168 = .ok (.istore_n 3, 1) := by decide +kernel
theorem dX2_read_169 : decode cX2_read 169 = .ok (.goto 12, 3) := by decide +kernel
theorem dX2_read_172 : decode cX2_read 172 = .ok (.aload_n 0, 1) := by decide +kernel
theorem dX2_read_173 : decode cX2_read 173 = .ok (.getfield 9, 3) := by decide +kernel
theorem dX2_read_176 : decode cX2_read 176 = .ok (.iconst 2, 1) := by decide +kernel
theorem dX2_read_177 : decode cX2_read 177 = .ok (.invokevirtual 54, 3) := by decide +kernel
theorem dX2_read_180 : decode cX2_read 180 = .ok (.istore_n 3, 1) := by decide +kernel
theorem dX2_read_181 : decode cX2_read 181 = .ok (.iinc 4 1, 3) := by decide +kernel
theorem dX2_read_184 : decode cX2_read 184 = .ok (.goto (-162), 3) := by decide +kernel
theorem dX2_read_187 : decode cX2_read 187 = .ok (.iload_n 3, 1) := by decide +kernel
theorem dX2_read_188 : decode cX2_read 188 = .ok (.ireturn, 1) := by decide +kernel
theorem dX2_readSymbol_0 : decode cX2_readSymbol 0 = .ok (.aload_n 0, 1) := by decide +kernel
theorem dX2_readSymbol_1 : decode cX2_readSymbol 1 = .ok (.getfield 15, 3) := by decide +kernel
theorem dX2_readSymbol_4 : decode cX2_readSymbol 4 = .ok (.getfield 57, 3) := by decide +kernel
theorem dX2_readSymbol_7 : decode cX2_readSymbol 7 = .ok (.bipush 8, 2) := by decide +kernel
theorem dX2_readSymbol_9 : decode cX2_readSymbol 9 = .ok (.if_icmp .lt 13, 3) := by decide +kernel
theorem dX2_readSymbol_12 : decode cX2_readSymbol 12 = .ok (.aload_n 0, 1) := by decide +kernel
theorem dX2_readSymbol_13 : decode cX2_readSymbol 13 = .ok (.getfield 9, 3) := by decide +kernel
theorem dX2_readSymbol_16 : decode cX2_readSymbol 16 = .ok (.bipush 6, 2) := by decide +kernel
theorem dX2_readSymbol_18 : decode cX2_readSymbol 18 = .ok (.invokevirtual 54, 3) := by decide +kernel
theorem dX2_readSymbol_21 : decode cX2_readSymbol 21 = .ok (.ireturn, 1) := by decide +kernel
theorem dX2_readSymbol_22 : decode cX2_readSymbol 22 = .ok (.aload_n 0, 1) := by decide +kernel
theorem dX2_readSymbol_23 : decode cX2_readSymbol 23 = .ok (.getfield 9, 3) := by decide +kernel
theorem dX2_readSymbol_26 : decode cX2_readSymbol 26 = .ok (.invokevirtual 60, 3) := by decide +kernel
theorem dX2_readSymbol_29 : decode cX2_readSymbol 29 = .ok (.aload_n 0, 1) := by decide +kernel
theorem dX2_readSymbol_30 : decode cX2_readSymbol 30 = .ok (.getfield 9, 3) := by decide +kernel
theorem dX2_readSymbol_33 : decode cX2_readSymbol 33 = .ok (.invokevirtual 63, 3) := by decide +kernel
theorem dX2_readSymbol_36 : decode cX2_readSymbol 36 = .ok (.ifCond .ne 12, 3) := by decide +kernel
theorem dX2_readSymbol_39 : decode cX2_readSymbol 39 = .ok (.aload_n 0, 1) := by decide +kernel
theorem dX2_readSymbol_40 : decode cX2_readSymbol 40 = .ok (.getfield 9, 3) := by decide +kernel
theorem dX2_readSymbol_43 : decode cX2_readSymbol 43 = .ok (.iconst 2, 1) := by decide +kernel
theorem dX2_readSymbol_44 : decode cX2_readSymbol 44 = .ok (.invokevirtual 54, 3) := by decide +kernel
theorem dX2_readSymbol_47 : decode cX2_readSymbol 47 = .ok (.ireturn, 1) := by decide +kernel
theorem dX2_readSymbol_48 : decode cX2_readSymbol 48 = .ok (.aload_n 0, 1) := by decide +kernel
theorem dX2_readSymbol_49 : decode cX2_readSymbol 49 = .ok (.getfield 15, 3) := by decide +kernel
theorem dX2_readSymbol_52 : decode cX2_readSymbol 52 = .ok (.aload_n 0, 1) := by decide +kernel
theorem dX2_readSymbol_53 : decode cX2_readSymbol 53 = .ok (.getfield 9, 3) := by decide +kernel
theorem dX2_readSymbol_56 : decode cX2_readSymbol 56 = .ok (.getfield 66, 3) := by decide +kernel
theorem dX2_readSymbol_59 : decode cX2_readSymbol 59 = .ok (.invokevirtual 70, 3) := by decide +kernel
theorem dX2_readSymbol_62 : decode cX2_readSymbol 62 = .ok (.iconst (-1), 1) := by decide +kernel
theorem dX2_readSymbol_63 : decode cX2_readSymbol 63 = .ok (.if_icmp .eq 12, 3) := by decide +kernel
theorem dX2_readSymbol_66 : decode cX2_readSymbol 66 = .ok (.aload_n 0, 1) := by decide +kernel
theorem dX2_readSymbol_67 : decode cX2_readSymbol 67 = .ok (.getfield 9, 3) := by decide +kernel
theorem dX2_readSymbol_70 : decode cX2_readSymbol 70 = .ok (.iconst 4, 1) := by decide +kernel
theorem dX2_readSymbol_71 : decode cX2_readSymbol 71 = .ok (.invokevirtual 54, 3) := by decide +kernel
theorem dX2_readSymbol_74 : decode cX2_readSymbol 74 = .ok (.ireturn, 1) := by decide +kernel
theorem dX2_readSymbol_75 : decode cX2_readSymbol 75 = .ok (.aload_n 0, 1) := by decide +kernel
theorem dX2_readSymbol_76 : decode cX2_readSymbol 76 = .ok (.getfield 15, 3) := by decide +kernel
theorem dX2_readSymbol_79 : decode cX2_readSymbol 79 = .ok (.aload_n 0, 1) := by decide +kernel
theorem dX2_readSymbol_80 : decode cX2_readSymbol 80 = .ok (.getfield 9, 3) := by decide +kernel
theorem dX2_readSymbol_83 : decode cX2_readSymbol 83 = .ok (.getfield 66, 3) := by decide +kernel
theorem dX2_readSymbol_86 : decode cX2_readSymbol 86 = .ok (.invokevirtual 74, 3) := by decide +kernel
theorem dX2_readSymbol_89 : decode cX2_readSymbol 89 = .ok (.aload_n 0, 1) := by decide +kernel
theorem dX2_readSymbol_90 : decode cX2_readSymbol 90 = .ok (.getfield 9, 3) := by decide +kernel
theorem dX2_readSymbol_93 : decode cX2_readSymbol 93 = .ok (.invokevirtual 60, 3) := by decide +kernel
theorem dX2_readSymbol_96 : decode cX2_readSymbol 96 = .ok (.aload_n 0, 1) := by decide +kernel
theorem dX2_readSymbol_97 : decode cX2_readSymbol 97 = .ok (.getfield 9, 3) := by decide +kernel
theorem dX2_readSymbol_100 : decode cX2_readSymbol 100 = .ok (.ldc2_w 78, 3) := by decide +kernel
theorem dX2_readSymbol_103 : decode cX2_readSymbol 103 = .ok (.invokevirtual 32, 3) := by decide +kernel
theorem dX2_readSymbol_106 : decode cX2_readSymbol 106 = .ok (.ifCond .eq 13, 3) := by decide +kernel
theorem dX2_readSymbol_109 : decode cX2_readSymbol 109 = .ok (.aload_n 0, 1) := by decide +kernel
theorem dX2_readSymbol_110 : decode cX2_readSymbol 110 = .ok (.iconst 1, 1) := by decide +kernel
theorem dX2_readSymbol_111 : decode cX2_readSymbol 111 = .ok (.invokevirtual 80, 3) := by decide +kernel
theorem dX2_readSymbol_114 : decode cX2_readSymbol 114 = .ok (.ifCond .ne 5, 3) := by decide +kernel
theorem dX2_readSymbol_117 : decode cX2_readSymbol 117 = .ok (.iconst 0, 1) := by decide +kernel
theorem dX2_readSymbol_118 : decode cX2_readSymbol 118 = .ok (.ireturn, 1) := by decide +kernel
theorem dX2_readSymbol_119 : decode cX2_readSymbol 119 = .ok (.aload_n 0, 1) := by decide +kernel
theorem dX2_readSymbol_120 : decode cX2_readSymbol 120 = .ok (.getfield 9, 3) := by decide +kernel
theorem dX2_readSymbol_123 : decode cX2_readSymbol 123 = .ok (.ldc2_w 84, 3) := by decide +kernel
theorem dX2_readSymbol_126 : decode cX2_readSymbol 126 = .ok (.invokevirtual 32, 3) := by decide +kernel
theorem dX2_readSymbol_129 : decode cX2_readSymbol 129 = .ok (.ifCond .eq 11, 3) := by decide +kernel
theorem dX2_readSymbol_132 : decode cX2_readSymbol 132 = .ok (.aload_n 0, 1) := by decide +kernel
theorem dX2_readSymbol_133 : decode cX2_readSymbol 133 = .ok (.iconst 0, 1) := by decide +kernel
theorem dX2_readSymbol_134 : decode cX2_readSymbol 134 = .ok (.invokevirtual 80, 3) := by decide +kernel
theorem dX2_readSymbol_137 : decode cX2_readSymbol 137 = .ok (.ifCond .eq 7, 3) := by decide +kernel
theorem dX2_readSymbol_140 : decode cX2_readSymbol 140 = .ok (.iconst 1, 1) := by decide +kernel
theorem dX2_readSymbol_141 : decode cX2_readSymbol 141 = .ok (.goto 4, 3) := by decide +kernel
theorem dX2_readSymbol_144 : decode cX2_readSymbol 144 = .ok (.iconst 0, 1) := by decide +kernel
theorem dX2_readSymbol_145 : decode cX2_readSymbol 145 = .ok (.ireturn, 1) := by decide +kernel
theorem dX2_readAttributes_0 : decode cX2_readAttributes 0 = .ok (.aload_n 0, 1) := by decide +kernel
theorem dX2_readAttributes_1 : decode cX2_readAttributes 1 = .ok (.getfield 9, 3) := by decide +kernel
theorem dX2_readAttributes_4 : decode cX2_readAttributes 4 = .ok (.invokevirtual 60, 3) := by decide +kernel
theorem dX2_readAttributes_7 : decode cX2_readAttributes 7 = .ok (.aload_n 0, 1) := by decide +kernel
theorem dX2_readAttributes_8 : decode cX2_readAttributes 8 = .ok (.iload_n 1, 1) := by decide +kernel
theorem dX2_readAttributes_9 : decode cX2_readAttributes 9 = .ok (.invokevirtual 86, 3) := by decide +kernel
theorem dX2_readAttributes_12 : decode cX2_readAttributes 12 = .ok (.istore_n 2, 1) := by decide +kernel
theorem dX2_readAttributes_13 : decode cX2_readAttributes 13 = .ok (.iconst 0, 1) := by decide +kernel
theorem dX2_readAttributes_14 : decode cX2_readAttributes 14 = .ok (.istore_n 3, 1) := by decide +kernel
theorem dX2_readAttributes_15 : decode cX2_readAttributes 15 = .ok (.iload_n 3, 1) := by decide +kernel
theorem dX2_readAttributes_16 : decode cX2_readAttributes 16 = .ok (.bipush 8, 2) := by decide +kernel
theorem dX2_readAttributes_18 : decode cX2_readAttributes 18 = .ok (.if_icmp .ge 29, 3) := by decide +kernel
theorem dX2_readAttributes_21 : decode cX2_readAttributes 21 = .ok (.iload_n 2, 1) := by decide +kernel
theorem dX2_readAttributes_22 : decode cX2_readAttributes 22 = .ok (.ifCond .eq 25, 3) := by decide +kernel
theorem dX2_readAttributes_25 : decode cX2_readAttributes 25 = .ok (.aload_n 0, 1) := by decide +kernel
theorem dX2_readAttributes_26 : decode cX2_readAttributes 26 = .ok (.getfield 9, 3) := by decide +kernel
theorem dX2_readAttributes_29 : decode cX2_readAttributes 29 = .ok (.invokevirtual 63, 3) := by decide +kernel
theorem dX2_readAttributes_32 : decode cX2_readAttributes 32 = .ok (.ifCond .eq 15, 3) := by decide +kernel
theorem dX2_readAttributes_35 : decode cX2_readAttributes 35 = .ok (.aload_n 0, 1) := by decide +kernel
theorem dX2_readAttributes_36 : decode cX2_readAttributes 36 = .ok (.iload_n 1, 1) := by decide +kernel
theorem dX2_readAttributes_37 : decode cX2_readAttributes 37 = .ok (.invokevirtual 86, 3) := by decide +kernel
theorem dX2_readAttributes_40 : decode cX2_readAttributes 40 = .ok (.istore_n 2, 1) := by decide +kernel
theorem dX2_readAttributes_41 : decode cX2_readAttributes 41 = .ok (.iinc 3 1, 3) := by decide +kernel
theorem dX2_readAttributes_44 : decode cX2_readAttributes 44 = .ok (.goto (-29), 3) := by decide +kernel
theorem dX2_readAttributes_47 : decode cX2_readAttributes 47 = .ok (.iload_n 2, 1) := by decide +kernel
theorem dX2_readAttributes_48 : decode cX2_readAttributes 48 = .ok (.ireturn, 1) := by decide +kernel
theorem dX2_readAttribute_0 : decode cX2_readAttribute 0 = .ok (.aload_n 0, 1) := by decide +kernel
theorem dX2_readAttribute_1 : decode cX2_readAttribute 1 = .ok (.getfield 15, 3) := by decide +kernel
theorem dX2_readAttribute_4 : decode cX2_readAttribute 4 = .ok (.getfield 57, 3) := by decide +kernel
theorem dX2_readAttribute_7 : decode cX2_readAttribute 7 = .ok (.iconst 1, 1) := by decide +kernel
theorem dX2_readAttribute_8 : decode cX2_readAttribute 8 = .ok (.isub, 1) := by decide +kernel
theorem dX2_readAttribute_9 : decode cX2_readAttribute 9 = .ok (.istore_n 2, 1) := by decide +kernel
theorem dX2_readAttribute_10 : decode cX2_readAttribute 10 = .ok (.aload_n 0, 1) := by decide +kernel
theorem dX2_readAttribute_11 : decode cX2_readAttribute 11 = .ok (.getfield 9, 3) := by decide +kernel
theorem dX2_readAttribute_14 : decode cX2_readAttribute 14 = .ok (.invokevirtual 63, 3) := by decide +kernel
theorem dX2_readAttribute_17 : decode cX2_readAttribute 17 = .ok (.ifCond .ne 12, 3) := by decide +kernel
theorem dX2_readAttribute_20 : decode cX2_readAttribute 20 = .ok (.aload_n 0, 1) := by decide +kernel
theorem dX2_readAttribute_21 : decode cX2_readAttribute 21 = .ok (.getfield 9, 3) := by decide +kernel
theorem dX2_readAttribute_24 : decode cX2_readAttribute 24 = .ok (.iconst 2, 1) := by decide +kernel
theorem dX2_readAttribute_25 : decode cX2_readAttribute 25 = .ok (.invokevirtual 54, 3) := by decide +kernel
theorem dX2_readAttribute_28 : decode cX2_readAttribute 28 = .ok (.ireturn, 1) := by decide +kernel
theorem dX2_readAttribute_29 : decode cX2_readAttribute 29 = .ok (.aload_n 0, 1) := by decide +kernel
theorem dX2_readAttribute_30 : decode cX2_readAttribute 30 = .ok (.getfield 15, 3) := by decide +kernel
theorem dX2_readAttribute_33 : decode cX2_readAttribute 33 = .ok (.iload_n 2, 1) := by decide +kernel
theorem dX2_readAttribute_34 : decode cX2_readAttribute 34 = .ok (.aload_n 0, 1) := by decide +kernel
theorem dX2_readAttribute_35 : decode cX2_readAttribute 35 = .ok (.getfield 9, 3) := by decide +kernel
theorem dX2_readAttribute_38 : decode cX2_readAttribute 38 = .ok (.getfield 66, 3) := by decide +kernel
theorem dX2_readAttribute_41 : decode cX2_readAttribute 41 = .ok (.invokevirtual 89, 3) := by decide +kernel
theorem dX2_readAttribute_44 : decode cX2_readAttribute 44 = .ok (.iconst (-1), 1) := by decide +kernel
theorem dX2_readAttribute_45 : decode cX2_readAttribute 45 = .ok (.if_icmp .eq 12, 3) := by decide +kernel
theorem dX2_readAttribute_48 : decode cX2_readAttribute 48 = .ok (.aload_n 0, 1) := by decide +kernel
theorem dX2_readAttribute_49 : decode cX2_readAttribute 49 = .ok (.getfield 9, 3) := by decide +kernel
theorem dX2_readAttribute_52 : decode cX2_readAttribute 52 = .ok (.iconst 4, 1) := by decide +kernel
theorem dX2_readAttribute_53 : decode cX2_readAttribute 53 = .ok (.invokevirtual 54, 3) := by decide +kernel
theorem dX2_readAttribute_56 : decode cX2_readAttribute 56 = .ok (.ireturn, 1) := by decide +kernel
theorem dX2_readAttribute_57 : decode cX2_readAttribute 57 = .ok (.iload_n 1, 1) := by decide +kernel
theorem dX2_readAttribute_58 : decode cX2_readAttribute 58 = .ok (.ifCond .eq 15, 3) := by decide +kernel
theorem dX2_readAttribute_61 : decode cX2_readAttribute 61 = .ok (.aload_n 0, 1) := by decide +kernel
theorem dX2_readAttribute_62 : decode cX2_readAttribute 62 = .ok (.getfield 15, 3) := by decide +kernel
theorem dX2_readAttribute_65 : decode cX2_readAttribute 65 = .ok (.getfield 93, 3) := by decide +kernel
theorem dX2_readAttribute_68 : decode cX2_readAttribute 68 = .ok (.iload_n 2, 1) := by decide +kernel
theorem dX2_readAttribute_69 : decode cX2_readAttribute 69 = .ok (.iaload, 1) := by decide +kernel
theorem dX2_readAttribute_70 : decode cX2_readAttribute 70 = .ok (.goto 12, 3) := by decide +kernel
theorem dX2_readAttribute_73 : decode cX2_readAttribute 73 = .ok (.aload_n 0, 1) := by decide +kernel
theorem dX2_readAttribute_74 : decode cX2_readAttribute 74 = .ok (.getfield 15, 3) := by decide +kernel
theorem dX2_readAttribute_77 : decode cX2_readAttribute 77 = .ok (.getfield 97, 3) := by decide +kernel
theorem dX2_readAttribute_80 : decode cX2_readAttribute 80 = .ok (.iload_n 2, 1) := by decide +kernel
theorem dX2_readAttribute_81 : decode cX2_readAttribute 81 = .ok (.iaload, 1) := by decide +kernel
theorem dX2_readAttribute_82 : decode cX2_readAttribute 82 = .ok (.iconst 4, 1) := by decide +kernel
theorem dX2_readAttribute_83 : decode cX2_readAttribute 83 = .ok (.if_icmp .lt 13, 3) := by decide +kernel
theorem dX2_readAttribute_86 : decode cX2_readAttribute 86 = .ok (.aload_n 0, 1) := by decide +kernel
theorem dX2_readAttribute_87 : decode cX2_readAttribute 87 = .ok (.getfield 9, 3) := by decide +kernel
theorem dX2_readAttribute_90 : decode cX2_readAttribute 90 = .ok (.bipush 6, 2) := by decide +kernel
theorem dX2_readAttribute_92 : decode cX2_readAttribute 92 = .ok (.invokevirtual 54, 3) := by decide +kernel
theorem dX2_readAttribute_95 : decode cX2_readAttribute 95 = .ok (.ireturn, 1) := by decide +kernel
theorem dX2_readAttribute_96 : decode cX2_readAttribute 96 = .ok (.aload_n 0, 1) := by decide +kernel
theorem dX2_readAttribute_97 : decode cX2_readAttribute 97 = .ok (.getfield 15, 3) := by decide +kernel
theorem dX2_readAttribute_100 : decode cX2_readAttribute 100 = .ok (.iload_n 2, 1) := by decide +kernel
theorem dX2_readAttribute_101 : decode cX2_readAttribute 101 = .ok (.aload_n 0, 1) := by decide +kernel
theorem dX2_readAttribute_102 : decode cX2_readAttribute 102 = .ok (.getfield 9, 3) := by decide +kernel
theorem dX2_readAttribute_105 : decode cX2_readAttribute 105 = .ok (.getfield 66, 3) := by decide +kernel
theorem dX2_readAttribute_108 : decode cX2_readAttribute 108 = .ok (.iload_n 1, 1) := by decide +kernel
theorem dX2_readAttribute_109 : decode cX2_readAttribute 109 = .ok (.invokevirtual 100, 3) := by decide +kernel
theorem dX2_readAttribute_112 : decode cX2_readAttribute 112 = .ok (.aload_n 0, 1) := by decide +kernel
theorem dX2_readAttribute_113 : decode cX2_readAttribute 113 = .ok (.getfield 9, 3) := by decide +kernel
theorem dX2_readAttribute_116 : decode cX2_readAttribute 116 = .ok (.invokevirtual 60, 3) := by decide +kernel
theorem dX2_readAttribute_119 : decode cX2_readAttribute 119 = .ok (.iconst 1, 1) := by decide +kernel
theorem dX2_readAttribute_120 : decode cX2_readAttribute 120 = .ok (.ireturn, 1) := by decide +kernel
theorem dX2_readProduction_0 : decode cX2_readProduction 0 = .ok (.aload_n 0, 1) := by decide +kernel
theorem dX2_readProduction_1 : decode cX2_readProduction 1 = .ok (.getfield 15, 3) := by decide +kernel
theorem dX2_readProduction_4 : decode cX2_readProduction 4 = .ok (.getfield 104, 3) := by decide +kernel
theorem dX2_readProduction_7 : decode cX2_readProduction 7 = .ok (.bipush 12, 2) := by decide +kernel
theorem dX2_readProduction_9 : decode cX2_readProduction 9 = .ok (.if_icmp .lt 13, 3) := by decide +kernel
theorem dX2_readProduction_12 : decode cX2_readProduction 12 = .ok (.aload_n 0, 1) := by decide +kernel
theorem dX2_readProduction_13 : decode cX2_readProduction 13 = .ok (.getfield 9, 3) := by decide +kernel
theorem dX2_readProduction_16 : decode cX2_readProduction 16 = .ok (.bipush 6, 2) := by decide +kernel
theorem dX2_readProduction_18 : decode cX2_readProduction 18 = .ok (.invokevirtual 54, 3) := by decide +kernel
theorem dX2_readProduction_21 : decode cX2_readProduction 21 = .ok (.ireturn, 1) := by decide +kernel
theorem dX2_readProduction_22 : decode cX2_readProduction 22 = .ok (.aload_n 0, 1) := by decide +kernel
theorem dX2_readProduction_23 : decode cX2_readProduction 23 = .ok (.getfield 9, 3) := by decide +kernel
theorem dX2_readProduction_26 : decode cX2_readProduction 26 = .ok (.invokevirtual 60, 3) := by decide +kernel
theorem dX2_readProduction_29 : decode cX2_readProduction 29 = .ok (.aload_n 0, 1) := by decide +kernel
theorem dX2_readProduction_30 : decode cX2_readProduction 30 = .ok (.getfield 9, 3) := by decide +kernel
theorem dX2_readProduction_33 : decode cX2_readProduction 33 = .ok (.invokevirtual 63, 3) := by decide +kernel
theorem dX2_readProduction_36 : decode cX2_readProduction 36 = .ok (.ifCond .ne 12, 3) := by decide +kernel
theorem dX2_readProduction_39 : decode cX2_readProduction 39 = .ok (.aload_n 0, 1) := by decide +kernel
theorem dX2_readProduction_40 : decode cX2_readProduction 40 = .ok (.getfield 9, 3) := by decide +kernel
theorem dX2_readProduction_43 : decode cX2_readProduction 43 = .ok (.iconst 2, 1) := by decide +kernel
theorem dX2_readProduction_44 : decode cX2_readProduction 44 = .ok (.invokevirtual 54, 3) := by decide +kernel
theorem dX2_readProduction_47 : decode cX2_readProduction 47 = .ok (.ireturn, 1) := by decide +kernel
theorem dX2_readProduction_48 : decode cX2_readProduction 48 = .ok (.aload_n 0, 1) := by decide +kernel
theorem dX2_readProduction_49 : decode cX2_readProduction 49 = .ok (.getfield 15, 3) := by decide +kernel
theorem dX2_readProduction_52 : decode cX2_readProduction 52 = .ok (.aload_n 0, 1) := by decide +kernel
theorem dX2_readProduction_53 : decode cX2_readProduction 53 = .ok (.getfield 9, 3) := by decide +kernel
theorem dX2_readProduction_56 : decode cX2_readProduction 56 = .ok (.getfield 66, 3) := by decide +kernel
theorem dX2_readProduction_59 : decode cX2_readProduction 59 = .ok (.invokevirtual 107, 3) := by decide +kernel
theorem dX2_readProduction_62 : decode cX2_readProduction 62 = .ok (.iconst (-1), 1) := by decide +kernel
theorem dX2_readProduction_63 : decode cX2_readProduction 63 = .ok (.if_icmp .eq 12, 3) := by decide +kernel
theorem dX2_readProduction_66 : decode cX2_readProduction 66 = .ok (.aload_n 0, 1) := by decide +kernel
theorem dX2_readProduction_67 : decode cX2_readProduction 67 = .ok (.getfield 9, 3) := by decide +kernel
theorem dX2_readProduction_70 : decode cX2_readProduction 70 = .ok (.iconst 4, 1) := by decide +kernel
theorem dX2_readProduction_71 : decode cX2_readProduction 71 = .ok (.invokevirtual 54, 3) := by decide +kernel
theorem dX2_readProduction_74 : decode cX2_readProduction 74 = .ok (.ireturn, 1) := by decide +kernel
theorem dX2_readProduction_75 : decode cX2_readProduction 75 = .ok (.aload_n 0, 1) := by decide +kernel
theorem dX2_readProduction_76 : decode cX2_readProduction 76 = .ok (.getfield 15, 3) := by decide +kernel
theorem dX2_readProduction_79 : decode cX2_readProduction 79 = .ok (.aload_n 0, 1) := by decide +kernel
theorem dX2_readProduction_80 : decode cX2_readProduction 80 = .ok (.getfield 9, 3) := by decide +kernel
theorem dX2_readProduction_83 : decode cX2_readProduction 83 = .ok (.getfield 66, 3) := by decide +kernel
theorem dX2_readProduction_86 : decode cX2_readProduction 86 = .ok (.invokevirtual 110, 3) := by decide +kernel
theorem dX2_readProduction_89 : decode cX2_readProduction 89 = .ok (.aload_n 0, 1) := by decide +kernel
theorem dX2_readProduction_90 : decode cX2_readProduction 90 = .ok (.getfield 9, 3) := by decide +kernel
theorem dX2_readProduction_93 : decode cX2_readProduction 93 = .ok (.invokevirtual 60, 3) := by decide +kernel
theorem dX2_readProduction_96 : decode cX2_readProduction 96 = .ok (.aload_n 0, 1) := by decide +kernel
theorem dX2_readProduction_97 : decode cX2_readProduction 97 = .ok (.getfield 9, 3) := by decide +kernel
theorem dX2_readProduction_100 : decode cX2_readProduction 100 = .ok (.bipush 58, 2) := by decide +kernel
theorem dX2_readProduction_102 : decode cX2_readProduction 102 = .ok (.invokevirtual 40, 3) := by decide +kernel
theorem dX2_readProduction_105 : decode cX2_readProduction 105 = .ok (.ifCond .eq 14, 3) := by decide +kernel
theorem dX2_readProduction_108 : decode cX2_readProduction 108 = .ok (.aload_n 0, 1) := by decide +kernel
theorem dX2_readProduction_109 : decode cX2_readProduction 109 = .ok (.invokevirtual 113, 3) := by decide +kernel
theorem dX2_readProduction_112 : decode cX2_readProduction 112 = .ok (.ifCond .eq 7, 3) := by decide +kernel
theorem dX2_readProduction_115 : decode cX2_readProduction 115 = .ok (.iconst 1, 1) := by decide +kernel
theorem dX2_readProduction_116 : decode cX2_readProduction 116 = .ok (.goto 4, 3) := by decide +kernel
theorem dX2_readProduction_119 : decode cX2_readProduction 119 = .ok (.iconst 0, 1) := by decide +kernel
theorem dX2_readProduction_120 : decode cX2_readProduction 120 = .ok (.istore_n 1, 1) := by decide +kernel
theorem dX2_readProduction_121 : decode cX2_readProduction 121 = .ok (.iconst 0, 1) := by decide +kernel
theorem dX2_readProduction_122 : decode cX2_readProduction 122 = .ok (.istore_n 2, 1) := by decide +kernel
theorem dX2_readProduction_123 : decode cX2_readProduction 123 = .ok (.iload_n 2, 1) := by decide +kernel
theorem dX2_readProduction_124 : decode cX2_readProduction 124 = .ok (.bipush 8, 2) := by decide +kernel
theorem dX2_readProduction_126 : decode cX2_readProduction 126 = .ok (.if_icmp .ge 28, 3) := by decide +kernel
theorem dX2_readProduction_129 : decode cX2_readProduction 129 = .ok (.iload_n 1, 1) := by decide +kernel
theorem dX2_readProduction_130 : decode cX2_readProduction 130 = .ok (.ifCond .eq 24, 3) := by decide +kernel
theorem dX2_readProduction_133 : decode cX2_readProduction 133 = .ok (.aload_n 0, 1) := by decide +kernel
theorem dX2_readProduction_134 : decode cX2_readProduction 134 = .ok (.getfield 9, 3) := by decide +kernel
theorem dX2_readProduction_137 : decode cX2_readProduction 137 = .ok (.invokevirtual 63, 3) := by decide +kernel
theorem dX2_readProduction_140 : decode cX2_readProduction 140 = .ok (.ifCond .eq 14, 3) := by decide +kernel
theorem dX2_readProduction_143 : decode cX2_readProduction 143 = .ok (.aload_n 0, 1) := by decide +kernel
theorem dX2_readProduction_144 : decode cX2_readProduction 144 = .ok (.invokevirtual 113, 3) := by decide +kernel
theorem dX2_readProduction_147 : decode cX2_readProduction 147 = .ok (.istore_n 1, 1) := by decide +kernel
theorem dX2_readProduction_148 : decode cX2_readProduction 148 = .ok (.iinc 2 1, 3) := by decide +kernel
theorem dX2_readProduction_151 : decode cX2_readProduction 151 = .ok (.goto (-28), 3) := by decide +kernel
theorem dX2_readProduction_154 : decode cX2_readProduction 154 = .ok (.iload_n 1, 1) := by decide +kernel
theorem dX2_readProduction_155 : decode cX2_readProduction 155 = .ok (.ireturn, 1) := by decide +kernel
theorem dX2_readSide_0 : decode cX2_readSide 0 = .ok (.aload_n 0, 1) := by decide +kernel
theorem dX2_readSide_1 : decode cX2_readSide 1 = .ok (.getfield 9, 3) := by decide +kernel
theorem dX2_readSide_4 : decode cX2_readSide 4 = .ok (.invokevirtual 63, 3) := by decide +kernel
theorem dX2_readSide_7 : decode cX2_readSide 7 = .ok (.ifCond .ne 12, 3) := by decide +kernel
theorem dX2_readSide_10 : decode cX2_readSide 10 = .ok (.aload_n 0, 1) := by decide +kernel
theorem dX2_readSide_11 : decode cX2_readSide 11 = .ok (.getfield 9, 3) := by decide +kernel
theorem dX2_readSide_14 : decode cX2_readSide 14 = .ok (.iconst 2, 1) := by decide +kernel
theorem dX2_readSide_15 : decode cX2_readSide 15 = .ok (.invokevirtual 54, 3) := by decide +kernel
theorem dX2_readSide_18 : decode cX2_readSide 18 = .ok (.ireturn, 1) := by decide +kernel
theorem dX2_readSide_19 : decode cX2_readSide 19 = .ok (.aload_n 0, 1) := by decide +kernel
theorem dX2_readSide_20 : decode cX2_readSide 20 = .ok (.getfield 15, 3) := by decide +kernel
theorem dX2_readSide_23 : decode cX2_readSide 23 = .ok (.aload_n 0, 1) := by decide +kernel
theorem dX2_readSide_24 : decode cX2_readSide 24 = .ok (.getfield 9, 3) := by decide +kernel
theorem dX2_readSide_27 : decode cX2_readSide 27 = .ok (.getfield 66, 3) := by decide +kernel
theorem dX2_readSide_30 : decode cX2_readSide 30 = .ok (.invokevirtual 70, 3) := by decide +kernel
theorem dX2_readSide_33 : decode cX2_readSide 33 = .ok (.istore_n 1, 1) := by decide +kernel
theorem dX2_readSide_34 : decode cX2_readSide 34 = .ok (.iload_n 1, 1) := by decide +kernel
theorem dX2_readSide_35 : decode cX2_readSide 35 = .ok (.iconst (-1), 1) := by decide +kernel
theorem dX2_readSide_36 : decode cX2_readSide 36 = .ok (.if_icmp .ne 12, 3) := by decide +kernel
theorem dX2_readSide_39 : decode cX2_readSide 39 = .ok (.aload_n 0, 1) := by decide +kernel
theorem dX2_readSide_40 : decode cX2_readSide 40 = .ok (.getfield 9, 3) := by decide +kernel
theorem dX2_readSide_43 : decode cX2_readSide 43 = .ok (.iconst 3, 1) := by decide +kernel
theorem dX2_readSide_44 : decode cX2_readSide 44 = .ok (.invokevirtual 54, 3) := by decide +kernel
theorem dX2_readSide_47 : decode cX2_readSide 47 = .ok (.ireturn, 1) := by decide +kernel
theorem dX2_readSide_48 : decode cX2_readSide 48 = .ok (.aload_n 0, 1) := by decide +kernel
theorem dX2_readSide_49 : decode cX2_readSide 49 = .ok (.getfield 15, 3) := by decide +kernel
theorem dX2_readSide_52 : decode cX2_readSide 52 = .ok (.getfield 116, 3) := by decide +kernel
theorem dX2_readSide_55 : decode cX2_readSide 55 = .ok (.aload_n 0, 1) := by decide +kernel
theorem dX2_readSide_56 : decode cX2_readSide 56 = .ok (.getfield 15, 3) := by decide +kernel
theorem dX2_readSide_59 : decode cX2_readSide 59 = .ok (.getfield 104, 3) := by decide +kernel
theorem dX2_readSide_62 : decode cX2_readSide 62 = .ok (.iconst 1, 1) := by decide +kernel
theorem dX2_readSide_63 : decode cX2_readSide 63 = .ok (.isub, 1) := by decide +kernel
theorem dX2_readSide_64 : decode cX2_readSide 64 = .ok (.iaload, 1) := by decide +kernel
theorem dX2_readSide_65 : decode cX2_readSide 65 = .ok (.iconst 4, 1) := by decide +kernel
theorem dX2_readSide_66 : decode cX2_readSide 66 = .ok (.if_icmp .lt 13, 3) := by decide +kernel
theorem dX2_readSide_69 : decode cX2_readSide 69 = .ok (.aload_n 0, 1) := by decide +kernel
theorem dX2_readSide_70 : decode cX2_readSide 70 = .ok (.getfield 9, 3) := by decide +kernel
theorem dX2_readSide_73 : decode cX2_readSide 73 = .ok (.bipush 6, 2) := by decide +kernel
theorem dX2_readSide_75 : decode cX2_readSide 75 = .ok (.invokevirtual 54, 3) := by decide +kernel
theorem dX2_readSide_78 : decode cX2_readSide 78 = .ok (.ireturn, 1) := by decide +kernel
theorem dX2_readSide_79 : decode cX2_readSide 79 = .ok (.aload_n 0, 1) := by decide +kernel
theorem dX2_readSide_80 : decode cX2_readSide 80 = .ok (.getfield 15, 3) := by decide +kernel
theorem dX2_readSide_83 : decode cX2_readSide 83 = .ok (.aload_n 0, 1) := by decide +kernel
theorem dX2_readSide_84 : decode cX2_readSide 84 = .ok (.getfield 15, 3) := by decide +kernel
theorem dX2_readSide_87 : decode cX2_readSide 87 = .ok (.getfield 104, 3) := by decide +kernel
theorem dX2_readSide_90 : decode cX2_readSide 90 = .ok (.iconst 1, 1) := by decide +kernel
theorem dX2_readSide_91 : decode cX2_readSide 91 = .ok (.isub, 1) := by decide +kernel
theorem dX2_readSide_92 : decode cX2_readSide 92 = .ok (.iload_n 1, 1) := by decide +kernel
theorem dX2_readSide_93 : decode cX2_readSide 93 = .ok (.invokevirtual 119, 3) := by decide +kernel
theorem dX2_readSide_96 : decode cX2_readSide 96 = .ok (.aload_n 0, 1) := by decide +kernel
theorem dX2_readSide_97 : decode cX2_readSide 97 = .ok (.getfield 9, 3) := by decide +kernel
theorem dX2_readSide_100 : decode cX2_readSide 100 = .ok (.invokevirtual 60, 3) := by decide +kernel
theorem dX2_readSide_103 : decode cX2_readSide 103 = .ok (.iconst 1, 1) := by decide +kernel
theorem dX2_readSide_104 : decode cX2_readSide 104 = .ok (.ireturn, 1) := by decide +kernel
theorem dX2_readRule_0 : decode cX2_readRule 0 = .ok (.aload_n 0, 1) := by decide +kernel
theorem dX2_readRule_1 : decode cX2_readRule 1 = .ok (.getfield 9, 3) := by decide +kernel
theorem dX2_readRule_4 : decode cX2_readRule 4 = .ok (.invokevirtual 60, 3) := by decide +kernel
theorem dX2_readRule_7 : decode cX2_readRule 7 = .ok (.aload_n 0, 1) := by decide +kernel
theorem dX2_readRule_8 : decode cX2_readRule 8 = .ok (.getfield 9, 3) := by decide +kernel
theorem dX2_readRule_11 : decode cX2_readRule 11 = .ok (.invokevirtual 63, 3) := by decide +kernel
theorem dX2_readRule_14 : decode cX2_readRule 14 = .ok (.ifCond .ne 12, 3) := by decide +kernel
theorem dX2_readRule_17 : decode cX2_readRule 17 = .ok (.aload_n 0, 1) := by decide +kernel
theorem dX2_readRule_18 : decode cX2_readRule 18 = .ok (.getfield 9, 3) := by decide +kernel
theorem dX2_readRule_21 : decode cX2_readRule 21 = .ok (.iconst 2, 1) := by decide +kernel
theorem dX2_readRule_22 : decode cX2_readRule 22 = .ok (.invokevirtual 54, 3) := by decide +kernel
theorem dX2_readRule_25 : decode cX2_readRule 25 = .ok (.ireturn, 1) := by decide +kernel
theorem dX2_readRule_26 : decode cX2_readRule 26 = .ok (.aload_n 0, 1) := by decide +kernel
theorem dX2_readRule_27 : decode cX2_readRule 27 = .ok (.aload_n 0, 1) := by decide +kernel
theorem dX2_readRule_28 : decode cX2_readRule 28 = .ok (.getfield 15, 3) := by decide +kernel
theorem dX2_readRule_31 : decode cX2_readRule 31 = .ok (.aload_n 0, 1) := by decide +kernel
theorem dX2_readRule_32 : decode cX2_readRule 32 = .ok (.getfield 9, 3) := by decide +kernel
theorem dX2_readRule_35 : decode cX2_readRule 35 = .ok (.getfield 66, 3) := by decide +kernel
theorem dX2_readRule_38 : decode cX2_readRule 38 = .ok (.invokevirtual 107, 3) := by decide +kernel
theorem dX2_readRule_41 : decode cX2_readRule 41 = .ok (.putfield 123, 3) := by decide +kernel
theorem dX2_readRule_44 : decode cX2_readRule 44 = .ok (.aload_n 0, 1) := by decide +kernel
theorem dX2_readRule_45 : decode cX2_readRule 45 = .ok (.getfield 123, 3) := by decide +kernel
theorem dX2_readRule_48 : decode cX2_readRule 48 = .ok (.iconst (-1), 1) := by decide +kernel
theorem dX2_readRule_49 : decode cX2_readRule 49 = .ok (.if_icmp .ne 12, 3) := by decide +kernel
theorem dX2_readRule_52 : decode cX2_readRule 52 = .ok (.aload_n 0, 1) := by decide +kernel
theorem dX2_readRule_53 : decode cX2_readRule 53 = .ok (.getfield 9, 3) := by decide +kernel
theorem dX2_readRule_56 : decode cX2_readRule 56 = .ok (.iconst 3, 1) := by decide +kernel
theorem dX2_readRule_57 : decode cX2_readRule 57 = .ok (.invokevirtual 54, 3) := by decide +kernel
theorem dX2_readRule_60 : decode cX2_readRule 60 = .ok (.ireturn, 1) := by decide +kernel
theorem dX2_readRule_61 : decode cX2_readRule 61 = .ok (.aload_n 0, 1) := by decide +kernel
theorem dX2_readRule_62 : decode cX2_readRule 62 = .ok (.getfield 9, 3) := by decide +kernel
theorem dX2_readRule_65 : decode cX2_readRule 65 = .ok (.invokevirtual 60, 3) := by decide +kernel
theorem dX2_readRule_68 : decode cX2_readRule 68 = .ok (.aload_n 0, 1) := by decide +kernel
theorem dX2_readRule_69 : decode cX2_readRule 69 = .ok (.invokevirtual 126, 3) := by decide +kernel
theorem dX2_readRule_72 : decode cX2_readRule 72 = .ok (.ifCond .ne 5, 3) := by decide +kernel
theorem dX2_readRule_75 : decode cX2_readRule 75 = .ok (.iconst 0, 1) := by decide +kernel
theorem dX2_readRule_76 : decode cX2_readRule 76 = .ok (.ireturn, 1) := by decide +kernel
theorem dX2_readRule_77 : decode cX2_readRule 77 = .ok (.aload_n 0, 1) := by decide +kernel
theorem dX2_readRule_78 : decode cX2_readRule 78 = .ok (.aload_n 0, 1) := by decide +kernel
theorem dX2_readRule_79 : decode cX2_readRule 79 = .ok (.invokevirtual 129, 3) := by decide +kernel
theorem dX2_readRule_82 : decode cX2_readRule 82 = .ok (.putfield 133, 3) := by decide +kernel
theorem dX2_readRule_85 : decode cX2_readRule 85 = .ok (.aload_n 0, 1) := by decide +kernel
theorem dX2_readRule_86 : decode cX2_readRule 86 = .ok (.getfield 133, 3) := by decide +kernel
theorem dX2_readRule_89 : decode cX2_readRule 89 = .ok (.iconst (-1), 1) := by decide +kernel
theorem dX2_readRule_90 : decode cX2_readRule 90 = .ok (.if_icmp .ne 5, 3) := by decide +kernel
theorem dX2_readRule_93 : decode cX2_readRule 93 = .ok (.iconst 0, 1) := by decide +kernel
theorem dX2_readRule_94 : decode cX2_readRule 94 = .ok (.ireturn, 1) := by decide +kernel
theorem dX2_readRule_95 : decode cX2_readRule 95 = .ok (.aload_n 0, 1) := by decide +kernel
theorem dX2_readRule_96 : decode cX2_readRule 96 = .ok (.getfield 15, 3) := by decide +kernel
theorem dX2_readRule_99 : decode cX2_readRule 99 = .ok (.getfield 136, 3) := by decide +kernel
theorem dX2_readRule_102 : decode cX2_readRule 102 = .ok (.aload_n 0, 1) := by decide +kernel
theorem dX2_readRule_103 : decode cX2_readRule 103 = .ok (.getfield 123, 3) := by decide +kernel
theorem dX2_readRule_106 : decode cX2_readRule 106 = .ok (.iaload, 1) := by decide +kernel
theorem dX2_readRule_107 : decode cX2_readRule 107 = .ok (.aload_n 0, 1) := by decide +kernel
theorem dX2_readRule_108 : decode cX2_readRule 108 = .ok (.getfield 15, 3) := by decide +kernel
theorem dX2_readRule_111 : decode cX2_readRule 111 = .ok (.getfield 139, 3) := by decide +kernel
theorem dX2_readRule_114 : decode cX2_readRule 114 = .ok (.aload_n 0, 1) := by decide +kernel
theorem dX2_readRule_115 : decode cX2_readRule 115 = .ok (.getfield 123, 3) := by decide +kernel
theorem dX2_readRule_118 : decode cX2_readRule 118 = .ok (.iaload, 1) := by decide +kernel
theorem dX2_readRule_119 : decode cX2_readRule 119 = .ok (.iconst (-1), 1) := by decide +kernel
theorem dX2_readRule_120 : decode cX2_readRule 120 = .ok (.ixor, 1) := by decide +kernel
theorem dX2_readRule_121 : decode cX2_readRule 121 = .ok (.iand, 1) := by decide +kernel
theorem dX2_readRule_122 : decode cX2_readRule 122 = .ok (.aload_n 0, 1) := by decide +kernel
theorem dX2_readRule_123 : decode cX2_readRule 123 = .ok (.getfield 133, 3) := by decide +kernel
theorem dX2_readRule_126 : decode cX2_readRule 126 = .ok (.iushr, 1) := by decide +kernel
theorem dX2_readRule_127 : decode cX2_readRule 127 = .ok (.iconst 1, 1) := by decide +kernel
theorem dX2_readRule_128 : decode cX2_readRule 128 = .ok (.iand, 1) := by decide +kernel
theorem dX2_readRule_129 : decode cX2_readRule 129 = .ok (.ifCond .ne 12, 3) := by decide +kernel
theorem dX2_readRule_132 : decode cX2_readRule 132 = .ok (.aload_n 0, 1) := by decide +kernel
theorem dX2_readRule_133 : decode cX2_readRule 133 = .ok (.getfield 9, 3) := by decide +kernel
theorem dX2_readRule_136 : decode cX2_readRule 136 = .ok (.iconst 5, 1) := by decide +kernel
theorem dX2_readRule_137 : decode cX2_readRule 137 = .ok (.invokevirtual 54, 3) := by decide +kernel
theorem dX2_readRule_140 : decode cX2_readRule 140 = .ok (.ireturn, 1) := by decide +kernel
theorem dX2_readRule_141 : decode cX2_readRule 141 = .ok (.aload_n 0, 1) := by decide +kernel
theorem dX2_readRule_142 : decode cX2_readRule 142 = .ok (.getfield 15, 3) := by decide +kernel
theorem dX2_readRule_145 : decode cX2_readRule 145 = .ok (.aload_n 0, 1) := by decide +kernel
theorem dX2_readRule_146 : decode cX2_readRule 146 = .ok (.getfield 123, 3) := by decide +kernel
theorem dX2_readRule_149 : decode cX2_readRule 149 = .ok (.aload_n 0, 1) := by decide +kernel
theorem dX2_readRule_150 : decode cX2_readRule 150 = .ok (.getfield 133, 3) := by decide +kernel
theorem dX2_readRule_153 : decode cX2_readRule 153 = .ok (.invokevirtual 142, 3) := by decide +kernel
theorem dX2_readRule_156 : decode cX2_readRule 156 = .ok (.aload_n 0, 1) := by decide +kernel
theorem dX2_readRule_157 : decode cX2_readRule 157 = .ok (.iconst 0, 1) := by decide +kernel
theorem dX2_readRule_158 : decode cX2_readRule 158 = .ok (.putfield 145, 3) := by decide +kernel
theorem dX2_readRule_161 : decode cX2_readRule 161 = .ok (.aload_n 0, 1) := by decide +kernel
theorem dX2_readRule_162 : decode cX2_readRule 162 = .ok (.getfield 9, 3) := by decide +kernel
theorem dX2_readRule_165 : decode cX2_readRule 165 = .ok (.invokevirtual 60, 3) := by decide +kernel
theorem dX2_readRule_168 : decode cX2_readRule 168 = .ok (.aload_n 0, 1) := by decide +kernel
theorem dX2_readRule_169 : decode cX2_readRule 169 = .ok (.getfield 9, 3) := by decide +kernel
theorem dX2_readRule_172 : decode cX2_readRule 172 = .ok (.bipush 61, 2) := by decide +kernel
theorem dX2_readRule_174 : decode cX2_readRule 174 = .ok (.invokevirtual 40, 3) := by decide +kernel
theorem dX2_readRule_177 : decode cX2_readRule 177 = .ok (.ifCond .eq 15, 3) := by decide +kernel
theorem dX2_readRule_180 : decode cX2_readRule 180 = .ok (.aload_n 0, 1) := by decide +kernel
theorem dX2_readRule_181 : decode cX2_readRule 181 = .ok (.iconst 0, 1) := by decide +kernel
theorem dX2_readRule_182 : decode cX2_readRule 182 = .ok (.invokevirtual 148, 3) := by decide +kernel
theorem dX2_readRule_185 : decode cX2_readRule 185 = .ok (.ifCond .eq 7, 3) := by decide +kernel
theorem dX2_readRule_188 : decode cX2_readRule 188 = .ok (.iconst 1, 1) := by decide +kernel
theorem dX2_readRule_189 : decode cX2_readRule 189 = .ok (.goto 4, 3) := by decide +kernel
theorem dX2_readRule_192 : decode cX2_readRule 192 = .ok (.iconst 0, 1) := by decide +kernel
theorem dX2_readRule_193 : decode cX2_readRule 193 = .ok (.istore_n 1, 1) := by decide +kernel
theorem dX2_readRule_194 : decode cX2_readRule 194 = .ok (.aload_n 0, 1) := by decide +kernel
theorem dX2_readRule_195 : decode cX2_readRule 195 = .ok (.getfield 15, 3) := by decide +kernel
theorem dX2_readRule_198 : decode cX2_readRule 198 = .ok (.aload_n 0, 1) := by decide +kernel
theorem dX2_readRule_199 : decode cX2_readRule 199 = .ok (.getfield 123, 3) := by decide +kernel
theorem dX2_readRule_202 : decode cX2_readRule 202 = .ok (.aload_n 0, 1) := by decide +kernel
theorem dX2_readRule_203 : decode cX2_readRule 203 = .ok (.getfield 133, 3) := by decide +kernel
theorem dX2_readRule_206 : decode cX2_readRule 206 = .ok (.invokevirtual 151, 3) := by decide +kernel
theorem dX2_readRule_209 : decode cX2_readRule 209 = .ok (.iload_n 1, 1) := by decide +kernel
theorem dX2_readRule_210 : decode cX2_readRule 210 = .ok (.ireturn, 1) := by decide +kernel
theorem dX2_seekOcc_0 : decode cX2_seekOcc 0 = .ok (.aload_n 0, 1) := by decide +kernel
theorem dX2_seekOcc_1 : decode cX2_seekOcc 1 = .ok (.getfield 9, 3) := by decide +kernel
theorem dX2_seekOcc_4 : decode cX2_seekOcc 4 = .ok (.getfield 66, 3) := by decide +kernel
theorem dX2_seekOcc_7 : decode cX2_seekOcc 7 = .ok (.l2i, 1) := by decide +kernel
theorem dX2_seekOcc_8 : decode cX2_seekOcc 8 = .ok (.istore_n 1, 1) := by decide +kernel
theorem dX2_seekOcc_9 : decode cX2_seekOcc 9 = .ok (.aload_n 0, 1) := by decide +kernel
theorem dX2_seekOcc_10 : decode cX2_seekOcc 10 = .ok (.getfield 9, 3) := by decide +kernel
theorem dX2_seekOcc_13 : decode cX2_seekOcc 13 = .ok (.invokevirtual 60, 3) := by decide +kernel
theorem dX2_seekOcc_16 : decode cX2_seekOcc 16 = .ok (.aload_n 0, 1) := by decide +kernel
theorem dX2_seekOcc_17 : decode cX2_seekOcc 17 = .ok (.getfield 9, 3) := by decide +kernel
theorem dX2_seekOcc_20 : decode cX2_seekOcc 20 = .ok (.bipush 46, 2) := by decide +kernel
theorem dX2_seekOcc_22 : decode cX2_seekOcc 22 = .ok (.invokevirtual 154, 3) := by decide +kernel
theorem dX2_seekOcc_25 : decode cX2_seekOcc 25 = .ok (.ifCond .ne 14, 3) := by decide +kernel
theorem dX2_seekOcc_28 : decode cX2_seekOcc 28 = .ok (.aload_n 0, 1) := by decide +kernel
theorem dX2_seekOcc_29 : decode cX2_seekOcc 29 = .ok (.getfield 9, 3) := by decide +kernel
theorem dX2_seekOcc_32 : decode cX2_seekOcc 32 = .ok (.iconst 2, 1) := by decide +kernel
theorem dX2_seekOcc_33 : decode cX2_seekOcc 33 = .ok (.invokevirtual 54, 3) := by decide +kernel
theorem dX2_seekOcc_36 : decode cX2_seekOcc 36 = .ok (.pop, 1) := by decide +kernel
theorem dX2_seekOcc_37 : decode cX2_seekOcc 37 = .ok (.iconst (-1), 1) := by decide +kernel
theorem dX2_seekOcc_38 : decode cX2_seekOcc 38 = .ok (.ireturn, 1) := by decide +kernel
theorem dX2_seekOcc_39 : decode cX2_seekOcc 39 = .ok (.aload_n 0, 1) := by decide +kernel
theorem dX2_seekOcc_40 : decode cX2_seekOcc 40 = .ok (.getfield 9, 3) := by decide +kernel
theorem dX2_seekOcc_43 : decode cX2_seekOcc 43 = .ok (.invokevirtual 60, 3) := by decide +kernel
theorem dX2_seekOcc_46 : decode cX2_seekOcc 46 = .ok (.aload_n 0, 1) := by decide +kernel
theorem dX2_seekOcc_47 : decode cX2_seekOcc 47 = .ok (.getfield 9, 3) := by decide +kernel
theorem dX2_seekOcc_50 : decode cX2_seekOcc 50 = .ok (.invokevirtual 63, 3) := by decide +kernel
theorem dX2_seekOcc_53 : decode cX2_seekOcc 53 = .ok (.ifCond .ne 14, 3) := by decide +kernel
theorem dX2_seekOcc_56 : decode cX2_seekOcc 56 = .ok (.aload_n 0, 1) := by decide +kernel
theorem dX2_seekOcc_57 : decode cX2_seekOcc 57 = .ok (.getfield 9, 3) := by decide +kernel
theorem dX2_seekOcc_60 : decode cX2_seekOcc 60 = .ok (.iconst 2, 1) := by decide +kernel
theorem dX2_seekOcc_61 : decode cX2_seekOcc 61 = .ok (.invokevirtual 54, 3) := by decide +kernel
theorem dX2_seekOcc_64 : decode cX2_seekOcc 64 = .ok (.pop, 1) := by decide +kernel
theorem dX2_seekOcc_65 : decode cX2_seekOcc 65 = .ok (.iconst (-1), 1) := by decide +kernel
theorem dX2_seekOcc_66 : decode cX2_seekOcc 66 = .ok (.ireturn, 1) := by decide +kernel
theorem dX2_seekOcc_67 : decode cX2_seekOcc 67 = .ok (.aload_n 0, 1) := by decide +kernel
theorem dX2_seekOcc_68 : decode cX2_seekOcc 68 = .ok (.getfield 15, 3) := by decide +kernel
theorem dX2_seekOcc_71 : decode cX2_seekOcc 71 = .ok (.aload_n 0, 1) := by decide +kernel
theorem dX2_seekOcc_72 : decode cX2_seekOcc 72 = .ok (.getfield 15, 3) := by decide +kernel
theorem dX2_seekOcc_75 : decode cX2_seekOcc 75 = .ok (.aload_n 0, 1) := by decide +kernel
theorem dX2_seekOcc_76 : decode cX2_seekOcc 76 = .ok (.getfield 123, 3) := by decide +kernel
theorem dX2_seekOcc_79 : decode cX2_seekOcc 79 = .ok (.iload_n 1, 1) := by decide +kernel
theorem dX2_seekOcc_80 : decode cX2_seekOcc 80 = .ok (.invokevirtual 157, 3) := by decide +kernel
theorem dX2_seekOcc_83 : decode cX2_seekOcc 83 = .ok (.aload_n 0, 1) := by decide +kernel
theorem dX2_seekOcc_84 : decode cX2_seekOcc 84 = .ok (.getfield 9, 3) := by decide +kernel
theorem dX2_seekOcc_87 : decode cX2_seekOcc 87 = .ok (.getfield 66, 3) := by decide +kernel
theorem dX2_seekOcc_90 : decode cX2_seekOcc 90 = .ok (.invokevirtual 89, 3) := by decide +kernel
theorem dX2_seekOcc_93 : decode cX2_seekOcc 93 = .ok (.istore_n 2, 1) := by decide +kernel
theorem dX2_seekOcc_94 : decode cX2_seekOcc 94 = .ok (.iload_n 2, 1) := by decide +kernel
theorem dX2_seekOcc_95 : decode cX2_seekOcc 95 = .ok (.iconst (-1), 1) := by decide +kernel
theorem dX2_seekOcc_96 : decode cX2_seekOcc 96 = .ok (.if_icmp .ne 14, 3) := by decide +kernel
theorem dX2_seekOcc_99 : decode cX2_seekOcc 99 = .ok (.aload_n 0, 1) := by decide +kernel
theorem dX2_seekOcc_100 : decode cX2_seekOcc 100 = .ok (.getfield 9, 3) := by decide +kernel
theorem dX2_seekOcc_103 : decode cX2_seekOcc 103 = .ok (.iconst 3, 1) := by decide +kernel
theorem dX2_seekOcc_104 : decode cX2_seekOcc 104 = .ok (.invokevirtual 54, 3) := by decide +kernel
theorem dX2_seekOcc_107 : decode cX2_seekOcc 107 = .ok (.pop, 1) := by decide +kernel
theorem dX2_seekOcc_108 : decode cX2_seekOcc 108 = .ok (.iconst (-1), 1) := by decide +kernel
theorem dX2_seekOcc_109 : decode cX2_seekOcc 109 = .ok (.ireturn, 1) := by decide +kernel
theorem dX2_seekOcc_110 : decode cX2_seekOcc 110 = .ok (.bipush 8, 2) := by decide +kernel
theorem dX2_seekOcc_112 : decode cX2_seekOcc 112 = .ok (.iload_n 1, 1) := by decide +kernel
theorem dX2_seekOcc_113 : decode cX2_seekOcc 113 = .ok (.imul, 1) := by decide +kernel
theorem dX2_seekOcc_114 : decode cX2_seekOcc 114 = .ok (.iload_n 2, 1) := by decide +kernel
theorem dX2_seekOcc_115 : decode cX2_seekOcc 115 = .ok (.iadd, 1) := by decide +kernel
theorem dX2_seekOcc_116 : decode cX2_seekOcc 116 = .ok (.ireturn, 1) := by decide +kernel
theorem dX2_positionStands_0 : decode cX2_positionStands 0 = .ok (.aload_n 0, 1) := by decide +kernel
theorem dX2_positionStands_1 : decode cX2_positionStands 1 = .ok (.getfield 9, 3) := by decide +kernel
theorem dX2_positionStands_4 : decode cX2_positionStands 4 = .ok (.getfield 24, 3) := by decide +kernel
theorem dX2_positionStands_7 : decode cX2_positionStands 7 = .ok (.iconst 2, 1) := by decide +kernel
theorem dX2_positionStands_8 : decode cX2_positionStands 8 = .ok (.if_icmp .eq 12, 3) := by decide +kernel
theorem dX2_positionStands_11 : decode cX2_positionStands 11 = .ok (.aload_n 0, 1) := by decide +kernel
theorem dX2_positionStands_12 : decode cX2_positionStands 12 = .ok (.getfield 9, 3) := by decide +kernel
theorem dX2_positionStands_15 : decode cX2_positionStands 15 = .ok (.iconst 2, 1) := by decide +kernel
theorem dX2_positionStands_16 : decode cX2_positionStands 16 = .ok (.invokevirtual 54, 3) := by decide +kernel
theorem dX2_positionStands_19 : decode cX2_positionStands 19 = .ok (.ireturn, 1) := by decide +kernel
theorem dX2_positionStands_20 : decode cX2_positionStands 20 = .ok (.aload_n 0, 1) := by decide +kernel
theorem dX2_positionStands_21 : decode cX2_positionStands 21 = .ok (.getfield 9, 3) := by decide +kernel
theorem dX2_positionStands_24 : decode cX2_positionStands 24 = .ok (.getfield 66, 3) := by decide +kernel
theorem dX2_positionStands_27 : decode cX2_positionStands 27 = .ok (.aload_n 0, 1) := by decide +kernel
theorem dX2_positionStands_28 : decode cX2_positionStands 28 = .ok (.getfield 15, 3) := by decide +kernel
theorem dX2_positionStands_31 : decode cX2_positionStands 31 = .ok (.getfield 116, 3) := by decide +kernel
theorem dX2_positionStands_34 : decode cX2_positionStands 34 = .ok (.aload_n 0, 1) := by decide +kernel
theorem dX2_positionStands_35 : decode cX2_positionStands 35 = .ok (.getfield 123, 3) := by decide +kernel
theorem dX2_positionStands_38 : decode cX2_positionStands 38 = .ok (.iaload, 1) := by decide +kernel
theorem dX2_positionStands_39 : decode cX2_positionStands 39 = .ok (.i2l, 1) := by decide +kernel
theorem dX2_positionStands_40 : decode cX2_positionStands 40 = .ok (.lcmp, 1) := by decide +kernel
theorem dX2_positionStands_41 : decode cX2_positionStands 41 = .ok (.ifCond .lt 14, 3) := by decide +kernel
theorem dX2_positionStands_44 : decode cX2_positionStands 44 = .ok (.aload_n 0, 1) := by decide +kernel
theorem dX2_positionStands_45 : decode cX2_positionStands 45 = .ok (.getfield 9, 3) := by decide +kernel
theorem dX2_positionStands_48 : decode cX2_positionStands 48 = .ok (.iconst 3, 1) := by decide +kernel
theorem dX2_positionStands_49 : decode cX2_positionStands 49 = .ok (.invokevirtual 54, 3) := by decide +kernel
theorem dX2_positionStands_52 : decode cX2_positionStands 52 = .ok (.ifCond .eq 7, 3) := by decide +kernel
theorem dX2_positionStands_55 : decode cX2_positionStands 55 = .ok (.iconst 1, 1) := by decide +kernel
theorem dX2_positionStands_56 : decode cX2_positionStands 56 = .ok (.goto 4, 3) := by decide +kernel
theorem dX2_positionStands_59 : decode cX2_positionStands 59 = .ok (.iconst 0, 1) := by decide +kernel
theorem dX2_positionStands_60 : decode cX2_positionStands 60 = .ok (.ireturn, 1) := by decide +kernel
theorem dX2_readE_0 : decode cX2_readE 0 = .ok (.aload_n 0, 1) := by decide +kernel
theorem dX2_readE_1 : decode cX2_readE 1 = .ok (.iload_n 1, 1) := by decide +kernel
theorem dX2_readE_2 : decode cX2_readE 2 = .ok (.invokevirtual 161, 3) := by decide +kernel
theorem dX2_readE_5 : decode cX2_readE 5 = .ok (.istore_n 2, 1) := by decide +kernel
theorem dX2_readE_6 : decode cX2_readE 6 = .ok (.iconst 0, 1) := by decide +kernel
theorem dX2_readE_7 : decode cX2_readE 7 = .ok (.istore_n 3, 1) := by decide +kernel
theorem dX2_readE_8 : decode cX2_readE 8 = .ok (.iload_n 3, 1) := by decide +kernel
theorem dX2_readE_9 : decode cX2_readE 9 = .ok (.sipush 1000, 3) := by decide +kernel
theorem dX2_readE_12 : decode cX2_readE 12 = .ok (.if_icmp .ge 53, 3) := by decide +kernel
theorem dX2_readE_15 : decode cX2_readE 15 = .ok (.iload_n 2, 1) := by decide +kernel
theorem dX2_readE_16 : decode cX2_readE 16 = .ok (.ifCond .eq 49, 3) := by decide +kernel
theorem dX2_readE_19 : decode cX2_readE 19 = .ok (.aload_n 0, 1) := by decide +kernel
theorem dX2_readE_20 : decode cX2_readE 20 = .ok (.invokevirtual 164, 3) := by decide +kernel
theorem dX2_readE_23 : decode cX2_readE 23 = .ok (.istore 4, 2) := by decide +kernel
theorem dX2_readE_25 : decode cX2_readE 25 = .ok (.iload 4, 2) := by decide +kernel
theorem dX2_readE_27 : decode cX2_readE 27 = .ok (.iconst (-1), 1) := by decide +kernel
theorem dX2_readE_28 : decode cX2_readE 28 = .ok (.if_icmp .ne 5, 3) := by decide +kernel
theorem dX2_readE_31 : decode cX2_readE 31 = .ok (.iconst 1, 1) := by decide +kernel
theorem dX2_readE_32 : decode cX2_readE 32 = .ok (.ireturn, 1) := by decide +kernel
theorem dX2_readE_33 : decode cX2_readE 33 = .ok (.aload_n 0, 1) := by decide +kernel
theorem dX2_readE_34 : decode cX2_readE 34 = .ok (.getfield 9, 3) := by decide +kernel
theorem dX2_readE_37 : decode cX2_readE 37 = .ok (.invokevirtual 60, 3) := by decide +kernel
theorem dX2_readE_40 : decode cX2_readE 40 = .ok (.aload_n 0, 1) := by decide +kernel
theorem dX2_readE_41 : decode cX2_readE 41 = .ok (.iload_n 1, 1) := by decide +kernel
theorem dX2_readE_42 : decode cX2_readE 42 = .ok (.invokevirtual 161, 3) := by decide +kernel
theorem dX2_readE_45 : decode cX2_readE 45 = .ok (.istore_n 2, 1) := by decide +kernel
theorem dX2_readE_46 : decode cX2_readE 46 = .ok (.aload_n 0, 1) := by decide +kernel
theorem dX2_readE_47 : decode cX2_readE 47 = .ok (.getfield 15, 3) := by decide +kernel
theorem dX2_readE_50 : decode cX2_readE 50 = .ok (.sipush 30000, 3) := by decide +kernel
theorem dX2_readE_53 : decode cX2_readE 53 = .ok (.iload 4, 2) := by decide +kernel
theorem dX2_readE_55 : decode cX2_readE 55 = .ok (.iadd, 1) := by decide +kernel
theorem dX2_readE_56 : decode cX2_readE 56 = .ok (.invokevirtual 167, 3) := by decide +kernel
theorem dX2_readE_59 : decode cX2_readE 59 = .ok (.iinc 3 1, 3) := by decide +kernel
theorem dX2_readE_62 : decode cX2_readE 62 = .ok (.goto (-54), 3) := by decide +kernel
theorem dX2_readE_65 : decode cX2_readE 65 = .ok (.iload_n 2, 1) := by decide +kernel
theorem dX2_readE_66 : decode cX2_readE 66 = .ok (.ireturn, 1) := by decide +kernel
theorem dX2_readPart_0 : decode cX2_readPart 0 = .ok (.aload_n 0, 1) := by decide +kernel
theorem dX2_readPart_1 : decode cX2_readPart 1 = .ok (.getfield 9, 3) := by decide +kernel
theorem dX2_readPart_4 : decode cX2_readPart 4 = .ok (.bipush 40, 2) := by decide +kernel
theorem dX2_readPart_6 : decode cX2_readPart 6 = .ok (.invokevirtual 154, 3) := by decide +kernel
theorem dX2_readPart_9 : decode cX2_readPart 9 = .ok (.ifCond .eq 10, 3) := by decide +kernel
theorem dX2_readPart_12 : decode cX2_readPart 12 = .ok (.aload_n 0, 1) := by decide +kernel
theorem dX2_readPart_13 : decode cX2_readPart 13 = .ok (.iload_n 1, 1) := by decide +kernel
theorem dX2_readPart_14 : decode cX2_readPart 14 = .ok (.iconst 1, 1) := by decide +kernel
theorem dX2_readPart_15 : decode cX2_readPart 15 = .ok (.invokevirtual 171, 3) := by decide +kernel
theorem dX2_readPart_18 : decode cX2_readPart 18 = .ok (.ireturn, 1) := by decide +kernel
theorem dX2_readPart_19 : decode cX2_readPart 19 = .ok (.aload_n 0, 1) := by decide +kernel
theorem dX2_readPart_20 : decode cX2_readPart 20 = .ok (.getfield 9, 3) := by decide +kernel
theorem dX2_readPart_23 : decode cX2_readPart 23 = .ok (.ldc2_w 175, 3) := by decide +kernel
theorem dX2_readPart_26 : decode cX2_readPart 26 = .ok (.invokevirtual 32, 3) := by decide +kernel
theorem dX2_readPart_29 : decode cX2_readPart 29 = .ok (.ifCond .eq 28, 3) := by decide +kernel
theorem dX2_readPart_32 : decode cX2_readPart 32 = .ok (.aload_n 0, 1) := by decide +kernel
theorem dX2_readPart_33 : decode cX2_readPart 33 = .ok (.getfield 9, 3) := by decide +kernel
theorem dX2_readPart_36 : decode cX2_readPart 36 = .ok (.invokevirtual 60, 3) := by decide +kernel
theorem dX2_readPart_39 : decode cX2_readPart 39 = .ok (.aload_n 0, 1) := by decide +kernel
theorem dX2_readPart_40 : decode cX2_readPart 40 = .ok (.iload_n 1, 1) := by decide +kernel
theorem dX2_readPart_41 : decode cX2_readPart 41 = .ok (.iconst 3, 1) := by decide +kernel
theorem dX2_readPart_42 : decode cX2_readPart 42 = .ok (.invokevirtual 171, 3) := by decide +kernel
theorem dX2_readPart_45 : decode cX2_readPart 45 = .ok (.istore_n 2, 1) := by decide +kernel
theorem dX2_readPart_46 : decode cX2_readPart 46 = .ok (.aload_n 0, 1) := by decide +kernel
theorem dX2_readPart_47 : decode cX2_readPart 47 = .ok (.getfield 15, 3) := by decide +kernel
theorem dX2_readPart_50 : decode cX2_readPart 50 = .ok (.ldc 177, 2) := by decide +kernel
theorem dX2_readPart_52 : decode cX2_readPart 52 = .ok (.invokevirtual 167, 3) := by decide +kernel
theorem dX2_readPart_55 : decode cX2_readPart 55 = .ok (.iload_n 2, 1) := by decide +kernel
theorem dX2_readPart_56 : decode cX2_readPart 56 = .ok (.ireturn, 1) := by decide +kernel
theorem dX2_readPart_57 : decode cX2_readPart 57 = .ok (.aload_n 0, 1) := by decide +kernel
theorem dX2_readPart_58 : decode cX2_readPart 58 = .ok (.invokevirtual 178, 3) := by decide +kernel
theorem dX2_readPart_61 : decode cX2_readPart 61 = .ok (.ireturn, 1) := by decide +kernel
theorem dX2_readBracket_0 : decode cX2_readBracket 0 = .ok (.aload_n 0, 1) := by decide +kernel
theorem dX2_readBracket_1 : decode cX2_readBracket 1 = .ok (.getfield 9, 3) := by decide +kernel
theorem dX2_readBracket_4 : decode cX2_readBracket 4 = .ok (.bipush 40, 2) := by decide +kernel
theorem dX2_readBracket_6 : decode cX2_readBracket 6 = .ok (.invokevirtual 154, 3) := by decide +kernel
theorem dX2_readBracket_9 : decode cX2_readBracket 9 = .ok (.ifCond .ne 12, 3) := by decide +kernel
theorem dX2_readBracket_12 : decode cX2_readBracket 12 = .ok (.aload_n 0, 1) := by decide +kernel
theorem dX2_readBracket_13 : decode cX2_readBracket 13 = .ok (.getfield 9, 3) := by decide +kernel
theorem dX2_readBracket_16 : decode cX2_readBracket 16 = .ok (.iconst 2, 1) := by decide +kernel
theorem dX2_readBracket_17 : decode cX2_readBracket 17 = .ok (.invokevirtual 54, 3) := by decide +kernel
theorem dX2_readBracket_20 : decode cX2_readBracket 20 = .ok (.ireturn, 1) := by decide +kernel
theorem dX2_readBracket_21 : decode cX2_readBracket 21 = .ok (.iload_n 1, 1) := by decide +kernel
theorem dX2_readBracket_22 : decode cX2_readBracket 22 = .ok (.bipush 6, 2) := by decide +kernel
theorem dX2_readBracket_24 : decode cX2_readBracket 24 = .ok (.if_icmp .lt 13, 3) := by decide +kernel
theorem dX2_readBracket_27 : decode cX2_readBracket 27 = .ok (.aload_n 0, 1) := by decide +kernel
theorem dX2_readBracket_28 : decode cX2_readBracket 28 = .ok (.getfield 9, 3) := by decide +kernel
theorem dX2_readBracket_31 : decode cX2_readBracket 31 = .ok (.bipush 6, 2) := by decide +kernel
theorem dX2_readBracket_33 : decode cX2_readBracket 33 = .ok (.invokevirtual 54, 3) := by decide +kernel
theorem dX2_readBracket_36 : decode cX2_readBracket 36 = .ok (.ireturn, 1) := by decide +kernel
theorem dX2_readBracket_37 : decode cX2_readBracket 37 = .ok (.aload_n 0, 1) := by decide +kernel
theorem dX2_readBracket_38 : decode cX2_readBracket 38 = .ok (.getfield 9, 3) := by decide +kernel
theorem dX2_readBracket_41 : decode cX2_readBracket 41 = .ok (.invokevirtual 60, 3) := by decide +kernel
theorem dX2_readBracket_44 : decode cX2_readBracket 44 = .ok (.aload_n 0, 1) := by decide +kernel
theorem dX2_readBracket_45 : decode cX2_readBracket 45 = .ok (.iload_n 1, 1) := by decide +kernel
theorem dX2_readBracket_46 : decode cX2_readBracket 46 = .ok (.iconst 1, 1) := by decide +kernel
theorem dX2_readBracket_47 : decode cX2_readBracket 47 = .ok (.iadd, 1) := by decide +kernel
theorem dX2_readBracket_48 : decode cX2_readBracket 48 = .ok (.invokevirtual 148, 3) := by decide +kernel
theorem dX2_readBracket_51 : decode cX2_readBracket 51 = .ok (.istore_n 3, 1) := by decide +kernel
theorem dX2_readBracket_52 : decode cX2_readBracket 52 = .ok (.iconst 1, 1) := by decide +kernel
theorem dX2_readBracket_53 : decode cX2_readBracket 53 = .ok (.istore 4, 2) := by decide +kernel
theorem dX2_readBracket_55 : decode cX2_readBracket 55 = .ok (.iload 4, 2) := by decide +kernel
theorem dX2_readBracket_57 : decode cX2_readBracket 57 = .ok (.iload_n 2, 1) := by decide +kernel
theorem dX2_readBracket_58 : decode cX2_readBracket 58 = .ok (.if_icmp .ge 41, 3) := by decide +kernel
theorem dX2_readBracket_61 : decode cX2_readBracket 61 = .ok (.iload_n 3, 1) := by decide +kernel
theorem dX2_readBracket_62 : decode cX2_readBracket 62 = .ok (.ifCond .eq 37, 3) := by decide +kernel
theorem dX2_readBracket_65 : decode cX2_readBracket 65 = .ok (.aload_n 0, 1) := by decide +kernel
theorem dX2_readBracket_66 : decode cX2_readBracket 66 = .ok (.getfield 9, 3) := by decide +kernel
theorem dX2_readBracket_69 : decode cX2_readBracket 69 = .ok (.bipush 44, 2) := by decide +kernel
theorem dX2_readBracket_71 : decode cX2_readBracket 71 = .ok (.invokevirtual 40, 3) := by decide +kernel
theorem dX2_readBracket_74 : decode cX2_readBracket 74 = .ok (.ifCond .eq 17, 3) := by decide +kernel
theorem dX2_readBracket_77 : decode cX2_readBracket 77 = .ok (.aload_n 0, 1) := by decide +kernel
theorem dX2_readBracket_78 : decode cX2_readBracket 78 = .ok (.iload_n 1, 1) := by decide +kernel
theorem dX2_readBracket_79 : decode cX2_readBracket 79 = .ok (.iconst 1, 1) := by decide +kernel
theorem dX2_readBracket_80 : decode cX2_readBracket 80 = .ok (.iadd, 1) := by decide +kernel
theorem dX2_readBracket_81 : decode cX2_readBracket 81 = .ok (.invokevirtual 148, 3) := by decide +kernel
theorem dX2_readBracket_84 : decode cX2_readBracket 84 = .ok (.ifCond .eq 7, 3) := by decide +kernel
theorem dX2_readBracket_87 : decode cX2_readBracket 87 = .ok (.iconst 1, 1) := by decide +kernel
theorem dX2_readBracket_88 : decode cX2_readBracket 88 = .ok (.goto 4, 3) := by decide +kernel
theorem dX2_readBracket_91 : decode cX2_readBracket 91 = .ok (.iconst 0, 1) := by decide +kernel
theorem dX2_readBracket_92 : decode cX2_readBracket 92 = .ok (.istore_n 3, 1) := by decide +kernel
theorem dX2_readBracket_93 : decode cX2_readBracket 93 = .ok (.iinc 4 1, 3) := by decide +kernel
theorem dX2_readBracket_96 : decode cX2_readBracket 96 = .ok (.goto (-41), 3) := by decide +kernel
theorem dX2_readBracket_99 : decode cX2_readBracket 99 = .ok (.iload_n 3, 1) := by decide +kernel
theorem dX2_readBracket_100 : decode cX2_readBracket 100 = .ok (.ifCond .eq 19, 3) := by decide +kernel
theorem dX2_readBracket_103 : decode cX2_readBracket 103 = .ok (.aload_n 0, 1) := by decide +kernel
theorem dX2_readBracket_104 : decode cX2_readBracket 104 = .ok (.getfield 9, 3) := by decide +kernel
theorem dX2_readBracket_107 : decode cX2_readBracket 107 = .ok (.bipush 41, 2) := by decide +kernel
theorem dX2_readBracket_109 : decode cX2_readBracket 109 = .ok (.invokevirtual 40, 3) := by decide +kernel
theorem dX2_readBracket_112 : decode cX2_readBracket 112 = .ok (.ifCond .eq 7, 3) := by decide +kernel
theorem dX2_readBracket_115 : decode cX2_readBracket 115 = .ok (.iconst 1, 1) := by decide +kernel
theorem dX2_readBracket_116 : decode cX2_readBracket 116 = .ok (.goto 4, 3) := by decide +kernel
theorem dX2_readBracket_119 : decode cX2_readBracket 119 = .ok (.iconst 0, 1) := by decide +kernel
theorem dX2_readBracket_120 : decode cX2_readBracket 120 = .ok (.ireturn, 1) := by decide +kernel
theorem dX2_readLeaf_0 : decode cX2_readLeaf 0 = .ok (.aload_n 0, 1) := by decide +kernel
theorem dX2_readLeaf_1 : decode cX2_readLeaf 1 = .ok (.getfield 9, 3) := by decide +kernel
theorem dX2_readLeaf_4 : decode cX2_readLeaf 4 = .ok (.ldc2_w 181, 3) := by decide +kernel
theorem dX2_readLeaf_7 : decode cX2_readLeaf 7 = .ok (.invokevirtual 32, 3) := by decide +kernel
theorem dX2_readLeaf_10 : decode cX2_readLeaf 10 = .ok (.istore_n 1, 1) := by decide +kernel
theorem dX2_readLeaf_11 : decode cX2_readLeaf 11 = .ok (.iload_n 1, 1) := by decide +kernel
theorem dX2_readLeaf_12 : decode cX2_readLeaf 12 = .ok (.ifCond .ne 23, 3) := by decide +kernel
theorem dX2_readLeaf_15 : decode cX2_readLeaf 15 = .ok (.aload_n 0, 1) := by decide +kernel
theorem dX2_readLeaf_16 : decode cX2_readLeaf 16 = .ok (.getfield 9, 3) := by decide +kernel
theorem dX2_readLeaf_19 : decode cX2_readLeaf 19 = .ok (.getfield 24, 3) := by decide +kernel
theorem dX2_readLeaf_22 : decode cX2_readLeaf 22 = .ok (.iconst 2, 1) := by decide +kernel
theorem dX2_readLeaf_23 : decode cX2_readLeaf 23 = .ok (.if_icmp .eq 12, 3) := by decide +kernel
theorem dX2_readLeaf_26 : decode cX2_readLeaf 26 = .ok (.aload_n 0, 1) := by decide +kernel
theorem dX2_readLeaf_27 : decode cX2_readLeaf 27 = .ok (.getfield 9, 3) := by decide +kernel
theorem dX2_readLeaf_30 : decode cX2_readLeaf 30 = .ok (.iconst 2, 1) := by decide +kernel
theorem dX2_readLeaf_31 : decode cX2_readLeaf 31 = .ok (.invokevirtual 54, 3) := by decide +kernel
theorem dX2_readLeaf_34 : decode cX2_readLeaf 34 = .ok (.ireturn, 1) := by decide +kernel
theorem dX2_readLeaf_35 : decode cX2_readLeaf 35 = .ok (.iload_n 1, 1) := by decide +kernel
theorem dX2_readLeaf_36 : decode cX2_readLeaf 36 = .ok (.ifCond .ne 17, 3) := by decide +kernel
theorem dX2_readLeaf_39 : decode cX2_readLeaf 39 = .ok (.aload_n 0, 1) := by decide +kernel
theorem dX2_readLeaf_40 : decode cX2_readLeaf 40 = .ok (.getfield 9, 3) := by decide +kernel
theorem dX2_readLeaf_43 : decode cX2_readLeaf 43 = .ok (.invokevirtual 183, 3) := by decide +kernel
theorem dX2_readLeaf_46 : decode cX2_readLeaf 46 = .ok (.ifCond .eq 7, 3) := by decide +kernel
theorem dX2_readLeaf_49 : decode cX2_readLeaf 49 = .ok (.iconst 1, 1) := by decide +kernel
theorem dX2_readLeaf_50 : decode cX2_readLeaf 50 = .ok (.goto 4, 3) := by decide +kernel
theorem dX2_readLeaf_53 : decode cX2_readLeaf 53 = .ok (.iconst 0, 1) := by decide +kernel
theorem dX2_readLeaf_54 : decode cX2_readLeaf 54 = .ok (.istore_n 2, 1) := by decide +kernel
theorem dX2_readLeaf_55 : decode cX2_readLeaf 55 = .ok (.iload_n 2, 1) := by decide +kernel
theorem dX2_readLeaf_56 : decode cX2_readLeaf 56 = .ok (.ifCond .eq 12, 3) := by decide +kernel
theorem dX2_readLeaf_59 : decode cX2_readLeaf 59 = .ok (.aload_n 0, 1) := by decide +kernel
theorem dX2_readLeaf_60 : decode cX2_readLeaf 60 = .ok (.invokevirtual 126, 3) := by decide +kernel
theorem dX2_readLeaf_63 : decode cX2_readLeaf 63 = .ok (.ifCond .ne 5, 3) := by decide +kernel
theorem dX2_readLeaf_66 : decode cX2_readLeaf 66 = .ok (.iconst 0, 1) := by decide +kernel
theorem dX2_readLeaf_67 : decode cX2_readLeaf 67 = .ok (.ireturn, 1) := by decide +kernel
theorem dX2_readLeaf_68 : decode cX2_readLeaf 68 = .ok (.aload_n 0, 1) := by decide +kernel
theorem dX2_readLeaf_69 : decode cX2_readLeaf 69 = .ok (.getfield 145, 3) := by decide +kernel
theorem dX2_readLeaf_72 : decode cX2_readLeaf 72 = .ok (.bipush 24, 2) := by decide +kernel
theorem dX2_readLeaf_74 : decode cX2_readLeaf 74 = .ok (.if_icmp .lt 13, 3) := by decide +kernel
theorem dX2_readLeaf_77 : decode cX2_readLeaf 77 = .ok (.aload_n 0, 1) := by decide +kernel
theorem dX2_readLeaf_78 : decode cX2_readLeaf 78 = .ok (.getfield 9, 3) := by decide +kernel
theorem dX2_readLeaf_81 : decode cX2_readLeaf 81 = .ok (.bipush 6, 2) := by decide +kernel
theorem dX2_readLeaf_83 : decode cX2_readLeaf 83 = .ok (.invokevirtual 54, 3) := by decide +kernel
theorem dX2_readLeaf_86 : decode cX2_readLeaf 86 = .ok (.ireturn, 1) := by decide +kernel
theorem dX2_readLeaf_87 : decode cX2_readLeaf 87 = .ok (.aload_n 0, 1) := by decide +kernel
theorem dX2_readLeaf_88 : decode cX2_readLeaf 88 = .ok (.dup, 1) := by decide +kernel
theorem dX2_readLeaf_89 : decode cX2_readLeaf 89 = .ok (.getfield 145, 3) := by decide +kernel
theorem dX2_readLeaf_92 : decode cX2_readLeaf 92 = .ok (.iconst 1, 1) := by decide +kernel
theorem dX2_readLeaf_93 : decode cX2_readLeaf 93 = .ok (.iadd, 1) := by decide +kernel
theorem dX2_readLeaf_94 : decode cX2_readLeaf 94 = .ok (.putfield 145, 3) := by decide +kernel
theorem dX2_readLeaf_97 : decode cX2_readLeaf 97 = .ok (.iload_n 1, 1) := by decide +kernel
theorem dX2_readLeaf_98 : decode cX2_readLeaf 98 = .ok (.ifCond .eq 9, 3) := by decide +kernel
theorem dX2_readLeaf_101 : decode cX2_readLeaf 101 = .ok (.sipush 20000, 3) := by decide +kernel
theorem dX2_readLeaf_104 : decode cX2_readLeaf 104 = .ok (.goto 11, 3) := by decide +kernel
theorem dX2_readLeaf_107 : decode cX2_readLeaf 107 = .ok (.aload_n 0, 1) := by decide +kernel
theorem dX2_readLeaf_108 : decode cX2_readLeaf 108 = .ok (.getfield 9, 3) := by decide +kernel
theorem dX2_readLeaf_111 : decode cX2_readLeaf 111 = .ok (.getfield 66, 3) := by decide +kernel
theorem dX2_readLeaf_114 : decode cX2_readLeaf 114 = .ok (.l2i, 1) := by decide +kernel
theorem dX2_readLeaf_115 : decode cX2_readLeaf 115 = .ok (.istore_n 3, 1) := by decide +kernel
theorem dX2_readLeaf_116 : decode cX2_readLeaf 116 = .ok (.iload_n 2, 1) := by decide +kernel
theorem dX2_readLeaf_117 : decode cX2_readLeaf 117 = .ok (.ifCond .eq 41, 3) := by decide +kernel
theorem dX2_readLeaf_120 : decode cX2_readLeaf 120 = .ok (.aload_n 0, 1) := by decide +kernel
theorem dX2_readLeaf_121 : decode cX2_readLeaf 121 = .ok (.invokevirtual 129, 3) := by decide +kernel
theorem dX2_readLeaf_124 : decode cX2_readLeaf 124 = .ok (.istore 4, 2) := by decide +kernel
theorem dX2_readLeaf_126 : decode cX2_readLeaf 126 = .ok (.iload 4, 2) := by decide +kernel
theorem dX2_readLeaf_128 : decode cX2_readLeaf 128 = .ok (.iconst (-1), 1) := by decide +kernel
theorem dX2_readLeaf_129 : decode cX2_readLeaf 129 = .ok (.if_icmp .ne 5, 3) := by decide +kernel
theorem dX2_readLeaf_132 : decode cX2_readLeaf 132 = .ok (.iconst 0, 1) := by decide +kernel
theorem dX2_readLeaf_133 : decode cX2_readLeaf 133 = .ok (.ireturn, 1) := by decide +kernel
theorem dX2_readLeaf_134 : decode cX2_readLeaf 134 = .ok (.aload_n 0, 1) := by decide +kernel
theorem dX2_readLeaf_135 : decode cX2_readLeaf 135 = .ok (.getfield 15, 3) := by decide +kernel
theorem dX2_readLeaf_138 : decode cX2_readLeaf 138 = .ok (.aload_n 0, 1) := by decide +kernel
theorem dX2_readLeaf_139 : decode cX2_readLeaf 139 = .ok (.getfield 123, 3) := by decide +kernel
theorem dX2_readLeaf_142 : decode cX2_readLeaf 142 = .ok (.aload_n 0, 1) := by decide +kernel
theorem dX2_readLeaf_143 : decode cX2_readLeaf 143 = .ok (.getfield 133, 3) := by decide +kernel
theorem dX2_readLeaf_146 : decode cX2_readLeaf 146 = .ok (.iload 4, 2) := by decide +kernel
theorem dX2_readLeaf_148 : decode cX2_readLeaf 148 = .ok (.invokevirtual 186, 3) := by decide +kernel
theorem dX2_readLeaf_151 : decode cX2_readLeaf 151 = .ok (.sipush 10000, 3) := by decide +kernel
theorem dX2_readLeaf_154 : decode cX2_readLeaf 154 = .ok (.iload 4, 2) := by decide +kernel
theorem dX2_readLeaf_156 : decode cX2_readLeaf 156 = .ok (.iadd, 1) := by decide +kernel
theorem dX2_readLeaf_157 : decode cX2_readLeaf 157 = .ok (.istore_n 3, 1) := by decide +kernel
theorem dX2_readLeaf_158 : decode cX2_readLeaf 158 = .ok (.iload_n 1, 1) := by decide +kernel
theorem dX2_readLeaf_159 : decode cX2_readLeaf 159 = .ok (.ifCond .eq 24, 3) := by decide +kernel
theorem dX2_readLeaf_162 : decode cX2_readLeaf 162 = .ok (.aload_n 0, 1) := by decide +kernel
theorem dX2_readLeaf_163 : decode cX2_readLeaf 163 = .ok (.getfield 15, 3) := by decide +kernel
theorem dX2_readLeaf_166 : decode cX2_readLeaf 166 = .ok (.getfield 190, 3) := by decide +kernel
theorem dX2_readLeaf_169 : decode cX2_readLeaf 169 = .ok (.aload_n 0, 1) := by decide +kernel
theorem dX2_readLeaf_170 : decode cX2_readLeaf 170 = .ok (.getfield 123, 3) := by decide +kernel
theorem dX2_readLeaf_173 : decode cX2_readLeaf 173 = .ok (.dup2, 1) := by decide +kernel
theorem dX2_readLeaf_174 : decode cX2_readLeaf 174 = .ok (.iaload, 1) := by decide +kernel
theorem dX2_readLeaf_175 : decode cX2_readLeaf 175 = .ok (.iconst 1, 1) := by decide +kernel
theorem dX2_readLeaf_176 : decode cX2_readLeaf 176 = .ok (.aload_n 0, 1) := by decide +kernel
theorem dX2_readLeaf_177 : decode cX2_readLeaf 177 = .ok (.getfield 133, 3) := by decide +kernel
theorem dX2_readLeaf_180 : decode cX2_readLeaf 180 = .ok (.ishl, 1) := by decide +kernel
theorem dX2_readLeaf_181 : decode cX2_readLeaf 181 = .ok (.ior, 1) := by decide +kernel
theorem dX2_readLeaf_182 : decode cX2_readLeaf 182 = .ok (.iastore, 1) := by decide +kernel
theorem dX2_readLeaf_183 : decode cX2_readLeaf 183 = .ok (.aload_n 0, 1) := by decide +kernel
theorem dX2_readLeaf_184 : decode cX2_readLeaf 184 = .ok (.getfield 15, 3) := by decide +kernel
theorem dX2_readLeaf_187 : decode cX2_readLeaf 187 = .ok (.iload_n 3, 1) := by decide +kernel
theorem dX2_readLeaf_188 : decode cX2_readLeaf 188 = .ok (.invokevirtual 167, 3) := by decide +kernel
theorem dX2_readLeaf_191 : decode cX2_readLeaf 191 = .ok (.aload_n 0, 1) := by decide +kernel
theorem dX2_readLeaf_192 : decode cX2_readLeaf 192 = .ok (.getfield 9, 3) := by decide +kernel
theorem dX2_readLeaf_195 : decode cX2_readLeaf 195 = .ok (.invokevirtual 60, 3) := by decide +kernel
theorem dX2_readLeaf_198 : decode cX2_readLeaf 198 = .ok (.iconst 1, 1) := by decide +kernel
theorem dX2_readLeaf_199 : decode cX2_readLeaf 199 = .ok (.ireturn, 1) := by decide +kernel
theorem dX2_operatorHere_0 : decode cX2_operatorHere 0 = .ok (.aload_n 0, 1) := by decide +kernel
theorem dX2_operatorHere_1 : decode cX2_operatorHere 1 = .ok (.getfield 9, 3) := by decide +kernel
theorem dX2_operatorHere_4 : decode cX2_operatorHere 4 = .ok (.getfield 24, 3) := by decide +kernel
theorem dX2_operatorHere_7 : decode cX2_operatorHere 7 = .ok (.iconst 1, 1) := by decide +kernel
theorem dX2_operatorHere_8 : decode cX2_operatorHere 8 = .ok (.if_icmp .ne 43, 3) := by decide +kernel
theorem dX2_operatorHere_11 : decode cX2_operatorHere 11 = .ok (.aload_n 0, 1) := by decide +kernel
theorem dX2_operatorHere_12 : decode cX2_operatorHere 12 = .ok (.getfield 9, 3) := by decide +kernel
theorem dX2_operatorHere_15 : decode cX2_operatorHere 15 = .ok (.getfield 66, 3) := by decide +kernel
theorem dX2_operatorHere_18 : decode cX2_operatorHere 18 = .ok (.ldc2_w 193, 3) := by decide +kernel
theorem dX2_operatorHere_21 : decode cX2_operatorHere 21 = .ok (.lcmp, 1) := by decide +kernel
theorem dX2_operatorHere_22 : decode cX2_operatorHere 22 = .ok (.ifCond .ne 8, 3) := by decide +kernel
theorem dX2_operatorHere_25 : decode cX2_operatorHere 25 = .ok (.bipush 6, 2) := by decide +kernel
theorem dX2_operatorHere_27 : decode cX2_operatorHere 27 = .ok (.goto 23, 3) := by decide +kernel
theorem dX2_operatorHere_30 : decode cX2_operatorHere 30 = .ok (.aload_n 0, 1) := by decide +kernel
theorem dX2_operatorHere_31 : decode cX2_operatorHere 31 = .ok (.getfield 9, 3) := by decide +kernel
theorem dX2_operatorHere_34 : decode cX2_operatorHere 34 = .ok (.getfield 66, 3) := by decide +kernel
theorem dX2_operatorHere_37 : decode cX2_operatorHere 37 = .ok (.ldc2_w 195, 3) := by decide +kernel
theorem dX2_operatorHere_40 : decode cX2_operatorHere 40 = .ok (.lcmp, 1) := by decide +kernel
theorem dX2_operatorHere_41 : decode cX2_operatorHere 41 = .ok (.ifCond .ne 8, 3) := by decide +kernel
theorem dX2_operatorHere_44 : decode cX2_operatorHere 44 = .ok (.bipush 7, 2) := by decide +kernel
theorem dX2_operatorHere_46 : decode cX2_operatorHere 46 = .ok (.goto 4, 3) := by decide +kernel
theorem dX2_operatorHere_49 : decode cX2_operatorHere 49 = .ok (.iconst (-1), 1) := by decide +kernel
theorem dX2_operatorHere_50 : decode cX2_operatorHere 50 = .ok (.ireturn, 1) := by decide +kernel
theorem dX2_operatorHere_51 : decode cX2_operatorHere 51 = .ok (.aload_n 0, 1) := by decide +kernel
theorem dX2_operatorHere_52 : decode cX2_operatorHere 52 = .ok (.getfield 9, 3) := by decide +kernel
theorem dX2_operatorHere_55 : decode cX2_operatorHere 55 = .ok (.getfield 24, 3) := by decide +kernel
theorem dX2_operatorHere_58 : decode cX2_operatorHere 58 = .ok (.iconst 3, 1) := by decide +kernel
theorem dX2_operatorHere_59 : decode cX2_operatorHere 59 = .ok (.if_icmp .eq 5, 3) := by decide +kernel
theorem dX2_operatorHere_62 : decode cX2_operatorHere 62 = .ok (.iconst (-1), 1) := by decide +kernel
theorem dX2_operatorHere_63 : decode cX2_operatorHere 63 = .ok (.ireturn, 1) := by decide +kernel
theorem dX2_operatorHere_64 : decode cX2_operatorHere 64 = .ok (.aload_n 0, 1) := by decide +kernel
theorem dX2_operatorHere_65 : decode cX2_operatorHere 65 = .ok (.getfield 9, 3) := by decide +kernel
theorem dX2_operatorHere_68 : decode cX2_operatorHere 68 = .ok (.getfield 66, 3) := by decide +kernel
theorem dX2_operatorHere_71 : decode cX2_operatorHere 71 = .ok (.l2i, 1) := by decide +kernel
theorem dX2_operatorHere_72 : decode cX2_operatorHere 72 = .ok (.lookupswitch 72 #[(38, 68), (42, 64), (43, 60), (45, 62), (60, 70), (124, 66)], 60) := by decide +kernel
theorem dX2_operatorHere_132 : decode cX2_operatorHere 132 = .ok (.iconst 0, 1) := by decide +kernel
theorem dX2_operatorHere_133 : decode cX2_operatorHere 133 = .ok (.ireturn, 1) := by decide +kernel
theorem dX2_operatorHere_134 : decode cX2_operatorHere 134 = .ok (.iconst 1, 1) := by decide +kernel
theorem dX2_operatorHere_135 : decode cX2_operatorHere 135 = .ok (.ireturn, 1) := by decide +kernel
theorem dX2_operatorHere_136 : decode cX2_operatorHere 136 = .ok (.iconst 2, 1) := by decide +kernel
theorem dX2_operatorHere_137 : decode cX2_operatorHere 137 = .ok (.ireturn, 1) := by decide +kernel
theorem dX2_operatorHere_138 : decode cX2_operatorHere 138 = .ok (.iconst 3, 1) := by decide +kernel
theorem dX2_operatorHere_139 : decode cX2_operatorHere 139 = .ok (.ireturn, 1) := by decide +kernel
theorem dX2_operatorHere_140 : decode cX2_operatorHere 140 = .ok (.iconst 4, 1) := by decide +kernel
theorem dX2_operatorHere_141 : decode cX2_operatorHere 141 = .ok (.ireturn, 1) := by decide +kernel
theorem dX2_operatorHere_142 : decode cX2_operatorHere 142 = .ok (.iconst 5, 1) := by decide +kernel
theorem dX2_operatorHere_143 : decode cX2_operatorHere 143 = .ok (.ireturn, 1) := by decide +kernel
theorem dX2_operatorHere_144 : decode cX2_operatorHere 144 = .ok (.iconst (-1), 1) := by decide +kernel
theorem dX2_operatorHere_145 : decode cX2_operatorHere 145 = .ok (.ireturn, 1) := by decide +kernel
