theorem dX12_positionOf_13 : decode cX12_positionOf 13 = .ok (.if_icmp .ge 32, 3) := by decide +kernel
theorem dX12_positionOf_16 : decode cX12_positionOf 16 = .ok (.iload_n 2, 1) := by decide +kernel
theorem dX12_positionOf_17 : decode cX12_positionOf 17 = .ok (.aload_n 0, 1) := by decide +kernel
theorem dX12_positionOf_18 : decode cX12_positionOf 18 = .ok (.getfield 81, 3) := by decide +kernel
theorem dX12_positionOf_21 : decode cX12_positionOf 21 = .ok (.iload_n 3, 1) := by decide +kernel
theorem dX12_positionOf_22 : decode cX12_positionOf 22 = .ok (.iaload, 1) := by decide +kernel
theorem dX12_positionOf_23 : decode cX12_positionOf 23 = .ok (.aload_n 0, 1) := by decide +kernel
theorem dX12_positionOf_24 : decode cX12_positionOf 24 = .ok (.getfield 81, 3) := by decide +kernel
theorem dX12_positionOf_27 : decode cX12_positionOf 27 = .ok (.iload_n 1, 1) := by decide +kernel
theorem dX12_positionOf_28 : decode cX12_positionOf 28 = .ok (.iaload, 1) := by decide +kernel
theorem dX12_positionOf_29 : decode cX12_positionOf 29 = .ok (.if_icmp .ne 7, 3) := by decide +kernel
theorem dX12_positionOf_32 : decode cX12_positionOf 32 = .ok (.iconst 1, 1) := by decide +kernel
theorem dX12_positionOf_33 : decode cX12_positionOf 33 = .ok (.goto 4, 3) := by decide +kernel
theorem dX12_positionOf_36 : decode cX12_positionOf 36 = .ok (.iconst 0, 1) := by decide +kernel
theorem dX12_positionOf_37 : decode cX12_positionOf 37 = .ok (.iadd, 1) := by decide +kernel
theorem dX12_positionOf_38 : decode cX12_positionOf 38 = .ok (.istore_n 2, 1) := by decide +kernel
theorem dX12_positionOf_39 : decode cX12_positionOf 39 = .ok (.iinc 3 1, 3) := by decide +kernel
theorem dX12_positionOf_42 : decode cX12_positionOf 42 = .ok (.goto (-31), 3) := by decide +kernel
theorem dX12_positionOf_45 : decode cX12_positionOf 45 = .ok (.iload_n 2, 1) := by decide +kernel
theorem dX12_positionOf_46 : decode cX12_positionOf 46 = .ok (.ireturn, 1) := by decide +kernel
theorem dX12_node_0 : decode cX12_node 0 = .ok (.iload_n 2, 1) := by decide +kernel
theorem dX12_node_1 : decode cX12_node 1 = .ok (.iconst 0, 1) := by decide +kernel
theorem dX12_node_2 : decode cX12_node 2 = .ok (.bipush 8, 2) := by decide +kernel
theorem dX12_node_4 : decode cX12_node 4 = .ok (.invokestatic 246, 3) := by decide +kernel
theorem dX12_node_7 : decode cX12_node 7 = .ok (.ifCond .ne 9, 3) := by decide +kernel
theorem dX12_node_10 : decode cX12_node 10 = .ok (.aload_n 0, 1) := by decide +kernel
theorem dX12_node_11 : decode cX12_node 11 = .ok (.iconst 1, 1) := by decide +kernel
theorem dX12_node_12 : decode cX12_node 12 = .ok (.invokevirtual 305, 3) := by decide +kernel
theorem dX12_node_15 : decode cX12_node 15 = .ok (.ireturn, 1) := by decide +kernel
theorem dX12_node_16 : decode cX12_node 16 = .ok (.aload_n 0, 1) := by decide +kernel
theorem dX12_node_17 : decode cX12_node 17 = .ok (.getfield 322, 3) := by decide +kernel
theorem dX12_node_20 : decode cX12_node 20 = .ok (.ifCond .ne 9, 3) := by decide +kernel
theorem dX12_node_23 : decode cX12_node 23 = .ok (.aload_n 0, 1) := by decide +kernel
theorem dX12_node_24 : decode cX12_node 24 = .ok (.iconst 3, 1) := by decide +kernel
theorem dX12_node_25 : decode cX12_node 25 = .ok (.invokevirtual 305, 3) := by decide +kernel
theorem dX12_node_28 : decode cX12_node 28 = .ok (.ireturn, 1) := by decide +kernel
theorem dX12_node_29 : decode cX12_node 29 = .ok (.aload_n 0, 1) := by decide +kernel
theorem dX12_node_30 : decode cX12_node 30 = .ok (.iload_n 1, 1) := by decide +kernel
theorem dX12_node_31 : decode cX12_node 31 = .ok (.invokevirtual 484, 3) := by decide +kernel
theorem dX12_node_34 : decode cX12_node 34 = .ok (.ifCond .ne 9, 3) := by decide +kernel
theorem dX12_node_37 : decode cX12_node 37 = .ok (.aload_n 0, 1) := by decide +kernel
theorem dX12_node_38 : decode cX12_node 38 = .ok (.iconst 4, 1) := by decide +kernel
theorem dX12_node_39 : decode cX12_node 39 = .ok (.invokevirtual 305, 3) := by decide +kernel
theorem dX12_node_42 : decode cX12_node 42 = .ok (.ireturn, 1) := by decide +kernel
theorem dX12_node_43 : decode cX12_node 43 = .ok (.iload_n 2, 1) := by decide +kernel
theorem dX12_node_44 : decode cX12_node 44 = .ok (.tableswitch 152 0 7 #[48, 59, 70, 81, 100, 100, 100, 142], 48) := by decide +kernel
theorem dX12_node_92 : decode cX12_node 92 = .ok (.aload_n 0, 1) := by decide +kernel
theorem dX12_node_93 : decode cX12_node 93 = .ok (.aload_n 0, 1) := by decide +kernel
theorem dX12_node_94 : decode cX12_node 94 = .ok (.getfield 75, 3) := by decide +kernel
theorem dX12_node_97 : decode cX12_node 97 = .ok (.iload_n 1, 1) := by decide +kernel
theorem dX12_node_98 : decode cX12_node 98 = .ok (.iaload, 1) := by decide +kernel
theorem dX12_node_99 : decode cX12_node 99 = .ok (.invokevirtual 328, 3) := by decide +kernel
theorem dX12_node_102 : decode cX12_node 102 = .ok (.ireturn, 1) := by decide +kernel
theorem dX12_node_103 : decode cX12_node 103 = .ok (.aload_n 0, 1) := by decide +kernel
theorem dX12_node_104 : decode cX12_node 104 = .ok (.aload_n 0, 1) := by decide +kernel
theorem dX12_node_105 : decode cX12_node 105 = .ok (.getfield 78, 3) := by decide +kernel
theorem dX12_node_108 : decode cX12_node 108 = .ok (.iload_n 1, 1) := by decide +kernel
theorem dX12_node_109 : decode cX12_node 109 = .ok (.iaload, 1) := by decide +kernel
theorem dX12_node_110 : decode cX12_node 110 = .ok (.invokevirtual 328, 3) := by decide +kernel
theorem dX12_node_113 : decode cX12_node 113 = .ok (.ireturn, 1) := by decide +kernel
theorem dX12_node_114 : decode cX12_node 114 = .ok (.aload_n 0, 1) := by decide +kernel
theorem dX12_node_115 : decode cX12_node 115 = .ok (.aload_n 0, 1) := by decide +kernel
theorem dX12_node_116 : decode cX12_node 116 = .ok (.getfield 81, 3) := by decide +kernel
theorem dX12_node_119 : decode cX12_node 119 = .ok (.iload_n 1, 1) := by decide +kernel
theorem dX12_node_120 : decode cX12_node 120 = .ok (.iaload, 1) := by decide +kernel
theorem dX12_node_121 : decode cX12_node 121 = .ok (.invokevirtual 328, 3) := by decide +kernel
theorem dX12_node_124 : decode cX12_node 124 = .ok (.ireturn, 1) := by decide +kernel
theorem dX12_node_125 : decode cX12_node 125 = .ok (.aload_n 0, 1) := by decide +kernel
theorem dX12_node_126 : decode cX12_node 126 = .ok (.aload_n 0, 1) := by decide +kernel
theorem dX12_node_127 : decode cX12_node 127 = .ok (.getfield 13, 3) := by decide +kernel
theorem dX12_node_130 : decode cX12_node 130 = .ok (.bipush 32, 2) := by decide +kernel
theorem dX12_node_132 : decode cX12_node 132 = .ok (.aload_n 0, 1) := by decide +kernel
theorem dX12_node_133 : decode cX12_node 133 = .ok (.getfield 75, 3) := by decide +kernel
theorem dX12_node_136 : decode cX12_node 136 = .ok (.iload_n 1, 1) := by decide +kernel
theorem dX12_node_137 : decode cX12_node 137 = .ok (.iaload, 1) := by decide +kernel
theorem dX12_node_138 : decode cX12_node 138 = .ok (.iadd, 1) := by decide +kernel
theorem dX12_node_139 : decode cX12_node 139 = .ok (.iaload, 1) := by decide +kernel
theorem dX12_node_140 : decode cX12_node 140 = .ok (.invokevirtual 328, 3) := by decide +kernel
theorem dX12_node_143 : decode cX12_node 143 = .ok (.ireturn, 1) := by decide +kernel
theorem dX12_node_144 : decode cX12_node 144 = .ok (.iload_n 2, 1) := by decide +kernel
theorem dX12_node_145 : decode cX12_node 145 = .ok (.iconst 4, 1) := by decide +kernel
theorem dX12_node_146 : decode cX12_node 146 = .ok (.isub, 1) := by decide +kernel
theorem dX12_node_147 : decode cX12_node 147 = .ok (.aload_n 0, 1) := by decide +kernel
theorem dX12_node_148 : decode cX12_node 148 = .ok (.getfield 13, 3) := by decide +kernel
theorem dX12_node_151 : decode cX12_node 151 = .ok (.bipush 32, 2) := by decide +kernel
theorem dX12_node_153 : decode cX12_node 153 = .ok (.aload_n 0, 1) := by decide +kernel
theorem dX12_node_154 : decode cX12_node 154 = .ok (.getfield 75, 3) := by decide +kernel
theorem dX12_node_157 : decode cX12_node 157 = .ok (.iload_n 1, 1) := by decide +kernel
theorem dX12_node_158 : decode cX12_node 158 = .ok (.iaload, 1) := by decide +kernel
theorem dX12_node_159 : decode cX12_node 159 = .ok (.iadd, 1) := by decide +kernel
theorem dX12_node_160 : decode cX12_node 160 = .ok (.iaload, 1) := by decide +kernel
theorem dX12_node_161 : decode cX12_node 161 = .ok (.if_icmp .ge 18, 3) := by decide +kernel
theorem dX12_node_164 : decode cX12_node 164 = .ok (.aload_n 0, 1) := by decide +kernel
theorem dX12_node_165 : decode cX12_node 165 = .ok (.aload_n 0, 1) := by decide +kernel
theorem dX12_node_166 : decode cX12_node 166 = .ok (.iload_n 1, 1) := by decide +kernel
theorem dX12_node_167 : decode cX12_node 167 = .ok (.iload_n 2, 1) := by decide +kernel
theorem dX12_node_168 : decode cX12_node 168 = .ok (.iconst 4, 1) := by decide +kernel
theorem dX12_node_169 : decode cX12_node 169 = .ok (.isub, 1) := by decide +kernel
theorem dX12_node_170 : decode cX12_node 170 = .ok (.invokevirtual 493, 3) := by decide +kernel
theorem dX12_node_173 : decode cX12_node 173 = .ok (.invokevirtual 328, 3) := by decide +kernel
theorem dX12_node_176 : decode cX12_node 176 = .ok (.goto 9, 3) := by decide +kernel
theorem dX12_node_179 : decode cX12_node 179 = .ok (.aload_n 0, 1) := by decide +kernel
theorem dX12_node_180 : decode cX12_node 180 = .ok (.bipush 7, 2) := by decide +kernel
theorem dX12_node_182 : decode cX12_node 182 = .ok (.invokevirtual 305, 3) := by decide +kernel
theorem dX12_node_185 : decode cX12_node 185 = .ok (.ireturn, 1) := by decide +kernel
theorem dX12_node_186 : decode cX12_node 186 = .ok (.aload_n 0, 1) := by decide +kernel
theorem dX12_node_187 : decode cX12_node 187 = .ok (.aload_n 0, 1) := by decide +kernel
theorem dX12_node_188 : decode cX12_node 188 = .ok (.iload_n 1, 1) := by decide +kernel
theorem dX12_node_189 : decode cX12_node 189 = .ok (.invokevirtual 496, 3) := by decide +kernel
theorem dX12_node_192 : decode cX12_node 192 = .ok (.invokevirtual 328, 3) := by decide +kernel
theorem dX12_node_195 : decode cX12_node 195 = .ok (.ireturn, 1) := by decide +kernel
theorem dX12_node_196 : decode cX12_node 196 = .ok (.aload_n 0, 1) := by decide +kernel
theorem dX12_node_197 : decode cX12_node 197 = .ok (.aload_n 0, 1) := by decide +kernel
theorem dX12_node_198 : decode cX12_node 198 = .ok (.iload_n 1, 1) := by decide +kernel
theorem dX12_node_199 : decode cX12_node 199 = .ok (.invokevirtual 490, 3) := by decide +kernel
theorem dX12_node_202 : decode cX12_node 202 = .ok (.invokevirtual 328, 3) := by decide +kernel
theorem dX12_node_205 : decode cX12_node 205 = .ok (.ireturn, 1) := by decide +kernel
theorem dX12_bit_0 : decode cX12_bit 0 = .ok (.aload_n 0, 1) := by decide +kernel
theorem dX12_bit_1 : decode cX12_bit 1 = .ok (.bipush 10, 2) := by decide +kernel
theorem dX12_bit_3 : decode cX12_bit 3 = .ok (.iload_n 1, 1) := by decide +kernel
theorem dX12_bit_4 : decode cX12_bit 4 = .ok (.imul, 1) := by decide +kernel
theorem dX12_bit_5 : decode cX12_bit 5 = .ok (.iload_n 2, 1) := by decide +kernel
theorem dX12_bit_6 : decode cX12_bit 6 = .ok (.bipush 32, 2) := by decide +kernel
theorem dX12_bit_8 : decode cX12_bit 8 = .ok (.idiv, 1) := by decide +kernel
theorem dX12_bit_9 : decode cX12_bit 9 = .ok (.iadd, 1) := by decide +kernel
theorem dX12_bit_10 : decode cX12_bit 10 = .ok (.iaload, 1) := by decide +kernel
theorem dX12_bit_11 : decode cX12_bit 11 = .ok (.iload_n 2, 1) := by decide +kernel
theorem dX12_bit_12 : decode cX12_bit 12 = .ok (.bipush 32, 2) := by decide +kernel
theorem dX12_bit_14 : decode cX12_bit 14 = .ok (.irem, 1) := by decide +kernel
theorem dX12_bit_15 : decode cX12_bit 15 = .ok (.iushr, 1) := by decide +kernel
theorem dX12_bit_16 : decode cX12_bit 16 = .ok (.iconst 1, 1) := by decide +kernel
theorem dX12_bit_17 : decode cX12_bit 17 = .ok (.iand, 1) := by decide +kernel
theorem dX12_bit_18 : decode cX12_bit 18 = .ok (.iconst 1, 1) := by decide +kernel
theorem dX12_bit_19 : decode cX12_bit 19 = .ok (.if_icmp .ne 7, 3) := by decide +kernel
theorem dX12_bit_22 : decode cX12_bit 22 = .ok (.iconst 1, 1) := by decide +kernel
theorem dX12_bit_23 : decode cX12_bit 23 = .ok (.goto 4, 3) := by decide +kernel
theorem dX12_bit_26 : decode cX12_bit 26 = .ok (.iconst 0, 1) := by decide +kernel
theorem dX12_bit_27 : decode cX12_bit 27 = .ok (.ireturn, 1) := by decide +kernel
theorem dX12_instanceOf_0 : decode cX12_instanceOf 0 = .ok (.iload_n 2, 1) := by decide +kernel
theorem dX12_instanceOf_1 : decode cX12_instanceOf 1 = .ok (.bipush 8, 2) := by decide +kernel
theorem dX12_instanceOf_3 : decode cX12_instanceOf 3 = .ok (.if_icmp .ge 12, 3) := by decide +kernel
theorem dX12_instanceOf_6 : decode cX12_instanceOf 6 = .ok (.bipush 8, 2) := by decide +kernel
theorem dX12_instanceOf_8 : decode cX12_instanceOf 8 = .ok (.iload_n 1, 1) := by decide +kernel
theorem dX12_instanceOf_9 : decode cX12_instanceOf 9 = .ok (.imul, 1) := by decide +kernel
theorem dX12_instanceOf_10 : decode cX12_instanceOf 10 = .ok (.iload_n 2, 1) := by decide +kernel
theorem dX12_instanceOf_11 : decode cX12_instanceOf 11 = .ok (.iadd, 1) := by decide +kernel
theorem dX12_instanceOf_12 : decode cX12_instanceOf 12 = .ok (.goto 22, 3) := by decide +kernel
theorem dX12_instanceOf_15 : decode cX12_instanceOf 15 = .ok (.bipush 8, 2) := by decide +kernel
theorem dX12_instanceOf_17 : decode cX12_instanceOf 17 = .ok (.aload_n 0, 1) := by decide +kernel
theorem dX12_instanceOf_18 : decode cX12_instanceOf 18 = .ok (.iload_n 1, 1) := by decide +kernel
theorem dX12_instanceOf_19 : decode cX12_instanceOf 19 = .ok (.iload_n 2, 1) := by decide +kernel
theorem dX12_instanceOf_20 : decode cX12_instanceOf 20 = .ok (.bipush 8, 2) := by decide +kernel
theorem dX12_instanceOf_22 : decode cX12_instanceOf 22 = .ok (.idiv, 1) := by decide +kernel
theorem dX12_instanceOf_23 : decode cX12_instanceOf 23 = .ok (.iconst 1, 1) := by decide +kernel
theorem dX12_instanceOf_24 : decode cX12_instanceOf 24 = .ok (.isub, 1) := by decide +kernel
theorem dX12_instanceOf_25 : decode cX12_instanceOf 25 = .ok (.invokevirtual 493, 3) := by decide +kernel
theorem dX12_instanceOf_28 : decode cX12_instanceOf 28 = .ok (.imul, 1) := by decide +kernel
theorem dX12_instanceOf_29 : decode cX12_instanceOf 29 = .ok (.iload_n 2, 1) := by decide +kernel
theorem dX12_instanceOf_30 : decode cX12_instanceOf 30 = .ok (.bipush 8, 2) := by decide +kernel
theorem dX12_instanceOf_32 : decode cX12_instanceOf 32 = .ok (.irem, 1) := by decide +kernel
theorem dX12_instanceOf_33 : decode cX12_instanceOf 33 = .ok (.iadd, 1) := by decide +kernel
theorem dX12_instanceOf_34 : decode cX12_instanceOf 34 = .ok (.ireturn, 1) := by decide +kernel
theorem dX12_laysBases_0 : decode cX12_laysBases 0 = .ok (.iconst 0, 1) := by decide +kernel
theorem dX12_laysBases_1 : decode cX12_laysBases 1 = .ok (.istore_n 1, 1) := by decide +kernel
theorem dX12_laysBases_2 : decode cX12_laysBases 2 = .ok (.iload_n 1, 1) := by decide +kernel
theorem dX12_laysBases_3 : decode cX12_laysBases 3 = .ok (.sipush 320, 3) := by decide +kernel
theorem dX12_laysBases_6 : decode cX12_laysBases 6 = .ok (.if_icmp .ge 122, 3) := by decide +kernel
theorem dX12_laysBases_9 : decode cX12_laysBases 9 = .ok (.iload_n 1, 1) := by decide +kernel
theorem dX12_laysBases_10 : decode cX12_laysBases 10 = .ok (.bipush 8, 2) := by decide +kernel
theorem dX12_laysBases_12 : decode cX12_laysBases 12 = .ok (.idiv, 1) := by decide +kernel
theorem dX12_laysBases_13 : decode cX12_laysBases 13 = .ok (.istore_n 2, 1) := by decide +kernel
theorem dX12_laysBases_14 : decode cX12_laysBases 14 = .ok (.iload_n 1, 1) := by decide +kernel
theorem dX12_laysBases_15 : decode cX12_laysBases 15 = .ok (.bipush 8, 2) := by decide +kernel
theorem dX12_laysBases_17 : decode cX12_laysBases 17 = .ok (.irem, 1) := by decide +kernel
theorem dX12_laysBases_18 : decode cX12_laysBases 18 = .ok (.istore_n 3, 1) := by decide +kernel
theorem dX12_laysBases_19 : decode cX12_laysBases 19 = .ok (.aload_n 0, 1) := by decide +kernel
theorem dX12_laysBases_20 : decode cX12_laysBases 20 = .ok (.getfield 126, 3) := by decide +kernel
theorem dX12_laysBases_23 : decode cX12_laysBases 23 = .ok (.iload_n 1, 1) := by decide +kernel
theorem dX12_laysBases_24 : decode cX12_laysBases 24 = .ok (.aload_n 0, 1) := by decide +kernel
theorem dX12_laysBases_25 : decode cX12_laysBases 25 = .ok (.iload_n 2, 1) := by decide +kernel
theorem dX12_laysBases_26 : decode cX12_laysBases 26 = .ok (.iload_n 3, 1) := by decide +kernel
theorem dX12_laysBases_27 : decode cX12_laysBases 27 = .ok (.invokevirtual 499, 3) := by decide +kernel
theorem dX12_laysBases_30 : decode cX12_laysBases 30 = .ok (.bastore, 1) := by decide +kernel
theorem dX12_laysBases_31 : decode cX12_laysBases 31 = .ok (.aload_n 0, 1) := by decide +kernel
theorem dX12_laysBases_32 : decode cX12_laysBases 32 = .ok (.getfield 126, 3) := by decide +kernel
theorem dX12_laysBases_35 : decode cX12_laysBases 35 = .ok (.iload_n 1, 1) := by decide +kernel
theorem dX12_laysBases_36 : decode cX12_laysBases 36 = .ok (.baload, 1) := by decide +kernel
theorem dX12_laysBases_37 : decode cX12_laysBases 37 = .ok (.ifCond .ne 6, 3) := by decide +kernel
theorem dX12_laysBases_40 : decode cX12_laysBases 40 = .ok (.goto 82, 3) := by decide +kernel
theorem dX12_laysBases_43 : decode cX12_laysBases 43 = .ok (.iload_n 3, 1) := by decide +kernel
theorem dX12_laysBases_44 : decode cX12_laysBases 44 = .ok (.aload_n 0, 1) := by decide +kernel
theorem dX12_laysBases_45 : decode cX12_laysBases 45 = .ok (.getfield 13, 3) := by decide +kernel
theorem dX12_laysBases_48 : decode cX12_laysBases 48 = .ok (.iconst 4, 1) := by decide +kernel
theorem dX12_laysBases_49 : decode cX12_laysBases 49 = .ok (.aload_n 0, 1) := by decide +kernel
theorem dX12_laysBases_50 : decode cX12_laysBases 50 = .ok (.iload_n 2, 1) := by decide +kernel
theorem dX12_laysBases_51 : decode cX12_laysBases 51 = .ok (.invokevirtual 487, 3) := by decide +kernel
theorem dX12_laysBases_54 : decode cX12_laysBases 54 = .ok (.iadd, 1) := by decide +kernel
theorem dX12_laysBases_55 : decode cX12_laysBases 55 = .ok (.iaload, 1) := by decide +kernel
theorem dX12_laysBases_56 : decode cX12_laysBases 56 = .ok (.if_icmp .ge 7, 3) := by decide +kernel
theorem dX12_laysBases_59 : decode cX12_laysBases 59 = .ok (.iconst 1, 1) := by decide +kernel
theorem dX12_laysBases_60 : decode cX12_laysBases 60 = .ok (.goto 4, 3) := by decide +kernel
theorem dX12_laysBases_63 : decode cX12_laysBases 63 = .ok (.iconst 0, 1) := by decide +kernel
theorem dX12_laysBases_64 : decode cX12_laysBases 64 = .ok (.istore 4, 2) := by decide +kernel
theorem dX12_laysBases_66 : decode cX12_laysBases 66 = .ok (.aload_n 0, 1) := by decide +kernel
theorem dX12_laysBases_67 : decode cX12_laysBases 67 = .ok (.getfield 96, 3) := by decide +kernel
theorem dX12_laysBases_70 : decode cX12_laysBases 70 = .ok (.iload_n 1, 1) := by decide +kernel
theorem dX12_laysBases_71 : decode cX12_laysBases 71 = .ok (.iload 4, 2) := by decide +kernel
theorem dX12_laysBases_73 : decode cX12_laysBases 73 = .ok (.ifCond .eq 12, 3) := by decide +kernel
theorem dX12_laysBases_76 : decode cX12_laysBases 76 = .ok (.aload_n 0, 1) := by decide +kernel
theorem dX12_laysBases_77 : decode cX12_laysBases 77 = .ok (.getfield 81, 3) := by decide +kernel
theorem dX12_laysBases_80 : decode cX12_laysBases 80 = .ok (.iload_n 2, 1) := by decide +kernel
theorem dX12_laysBases_81 : decode cX12_laysBases 81 = .ok (.iaload, 1) := by decide +kernel
theorem dX12_laysBases_82 : decode cX12_laysBases 82 = .ok (.goto 4, 3) := by decide +kernel
theorem dX12_laysBases_85 : decode cX12_laysBases 85 = .ok (.iload_n 2, 1) := by decide +kernel
theorem dX12_laysBases_86 : decode cX12_laysBases 86 = .ok (.iastore, 1) := by decide +kernel
theorem dX12_laysBases_87 : decode cX12_laysBases 87 = .ok (.aload_n 0, 1) := by decide +kernel
theorem dX12_laysBases_88 : decode cX12_laysBases 88 = .ok (.getfield 99, 3) := by decide +kernel
theorem dX12_laysBases_91 : decode cX12_laysBases 91 = .ok (.iload_n 1, 1) := by decide +kernel
theorem dX12_laysBases_92 : decode cX12_laysBases 92 = .ok (.iload 4, 2) := by decide +kernel
theorem dX12_laysBases_94 : decode cX12_laysBases 94 = .ok (.ifCond .eq 26, 3) := by decide +kernel
theorem dX12_laysBases_97 : decode cX12_laysBases 97 = .ok (.aload_n 0, 1) := by decide +kernel
theorem dX12_laysBases_98 : decode cX12_laysBases 98 = .ok (.getfield 81, 3) := by decide +kernel
theorem dX12_laysBases_101 : decode cX12_laysBases 101 = .ok (.iload_n 2, 1) := by decide +kernel
theorem dX12_laysBases_102 : decode cX12_laysBases 102 = .ok (.iaload, 1) := by decide +kernel
theorem dX12_laysBases_103 : decode cX12_laysBases 103 = .ok (.iconst (-1), 1) := by decide +kernel
theorem dX12_laysBases_104 : decode cX12_laysBases 104 = .ok (.if_icmp .eq 16, 3) := by decide +kernel
theorem dX12_laysBases_107 : decode cX12_laysBases 107 = .ok (.bipush 8, 2) := by decide +kernel
theorem dX12_laysBases_109 : decode cX12_laysBases 109 = .ok (.aload_n 0, 1) := by decide +kernel
theorem dX12_laysBases_110 : decode cX12_laysBases 110 = .ok (.iload_n 2, 1) := by decide +kernel
theorem dX12_laysBases_111 : decode cX12_laysBases 111 = .ok (.invokevirtual 502, 3) := by decide +kernel
theorem dX12_laysBases_114 : decode cX12_laysBases 114 = .ok (.imul, 1) := by decide +kernel
theorem dX12_laysBases_115 : decode cX12_laysBases 115 = .ok (.iload_n 3, 1) := by decide +kernel
theorem dX12_laysBases_116 : decode cX12_laysBases 116 = .ok (.iadd, 1) := by decide +kernel
theorem dX12_laysBases_117 : decode cX12_laysBases 117 = .ok (.goto 4, 3) := by decide +kernel
theorem dX12_laysBases_120 : decode cX12_laysBases 120 = .ok (.iload_n 3, 1) := by decide +kernel
theorem dX12_laysBases_121 : decode cX12_laysBases 121 = .ok (.iastore, 1) := by decide +kernel
theorem dX12_laysBases_122 : decode cX12_laysBases 122 = .ok (.iinc 1 1, 3) := by decide +kernel
theorem dX12_laysBases_125 : decode cX12_laysBases 125 = .ok (.goto (-123), 3) := by decide +kernel
theorem dX12_laysBases_128 : decode cX12_laysBases 128 = .ok (.return_, 1) := by decide +kernel
theorem dX12_asksOf_0 : decode cX12_asksOf 0 = .ok (.aload_n 0, 1) := by decide +kernel
theorem dX12_asksOf_1 : decode cX12_asksOf 1 = .ok (.getfield 96, 3) := by decide +kernel
theorem dX12_asksOf_4 : decode cX12_asksOf 4 = .ok (.iload_n 1, 1) := by decide +kernel
theorem dX12_asksOf_5 : decode cX12_asksOf 5 = .ok (.iaload, 1) := by decide +kernel
theorem dX12_asksOf_6 : decode cX12_asksOf 6 = .ok (.iconst (-1), 1) := by decide +kernel
theorem dX12_asksOf_7 : decode cX12_asksOf 7 = .ok (.if_icmp .ne 7, 3) := by decide +kernel
theorem dX12_asksOf_10 : decode cX12_asksOf 10 = .ok (.iconst 0, 1) := by decide +kernel
theorem dX12_asksOf_11 : decode cX12_asksOf 11 = .ok (.goto 24, 3) := by decide +kernel
theorem dX12_asksOf_14 : decode cX12_asksOf 14 = .ok (.aload_n 0, 1) := by decide +kernel
theorem dX12_asksOf_15 : decode cX12_asksOf 15 = .ok (.aload_n 0, 1) := by decide +kernel
theorem dX12_asksOf_16 : decode cX12_asksOf 16 = .ok (.getfield 75, 3) := by decide +kernel
theorem dX12_asksOf_19 : decode cX12_asksOf 19 = .ok (.aload_n 0, 1) := by decide +kernel
theorem dX12_asksOf_20 : decode cX12_asksOf 20 = .ok (.getfield 96, 3) := by decide +kernel
theorem dX12_asksOf_23 : decode cX12_asksOf 23 = .ok (.iload_n 1, 1) := by decide +kernel
theorem dX12_asksOf_24 : decode cX12_asksOf 24 = .ok (.iaload, 1) := by decide +kernel
theorem dX12_asksOf_25 : decode cX12_asksOf 25 = .ok (.iaload, 1) := by decide +kernel
theorem dX12_asksOf_26 : decode cX12_asksOf 26 = .ok (.aload_n 0, 1) := by decide +kernel
theorem dX12_asksOf_27 : decode cX12_asksOf 27 = .ok (.getfield 99, 3) := by decide +kernel
theorem dX12_asksOf_30 : decode cX12_asksOf 30 = .ok (.iload_n 1, 1) := by decide +kernel
theorem dX12_asksOf_31 : decode cX12_asksOf 31 = .ok (.iaload, 1) := by decide +kernel
theorem dX12_asksOf_32 : decode cX12_asksOf 32 = .ok (.invokevirtual 340, 3) := by decide +kernel
theorem dX12_asksOf_35 : decode cX12_asksOf 35 = .ok (.ireturn, 1) := by decide +kernel
theorem dX12_laysReach_0 : decode cX12_laysReach 0 = .ok (.iconst 0, 1) := by decide +kernel
theorem dX12_laysReach_1 : decode cX12_laysReach 1 = .ok (.istore_n 1, 1) := by decide +kernel
theorem dX12_laysReach_2 : decode cX12_laysReach 2 = .ok (.iload_n 1, 1) := by decide +kernel
theorem dX12_laysReach_3 : decode cX12_laysReach 3 = .ok (.sipush 3200, 3) := by decide +kernel
theorem dX12_laysReach_6 : decode cX12_laysReach 6 = .ok (.if_icmp .ge 16, 3) := by decide +kernel
theorem dX12_laysReach_9 : decode cX12_laysReach 9 = .ok (.aload_n 0, 1) := by decide +kernel
theorem dX12_laysReach_10 : decode cX12_laysReach 10 = .ok (.getfield 120, 3) := by decide +kernel
theorem dX12_laysReach_13 : decode cX12_laysReach 13 = .ok (.iload_n 1, 1) := by decide +kernel
theorem dX12_laysReach_14 : decode cX12_laysReach 14 = .ok (.iconst 0, 1) := by decide +kernel
theorem dX12_laysReach_15 : decode cX12_laysReach 15 = .ok (.iastore, 1) := by decide +kernel
theorem dX12_laysReach_16 : decode cX12_laysReach 16 = .ok (.iinc 1 1, 3) := by decide +kernel
theorem dX12_laysReach_19 : decode cX12_laysReach 19 = .ok (.goto (-17), 3) := by decide +kernel
theorem dX12_laysReach_22 : decode cX12_laysReach 22 = .ok (.iconst 0, 1) := by decide +kernel
theorem dX12_laysReach_23 : decode cX12_laysReach 23 = .ok (.istore_n 1, 1) := by decide +kernel
theorem dX12_laysReach_24 : decode cX12_laysReach 24 = .ok (.iload_n 1, 1) := by decide +kernel
theorem dX12_laysReach_25 : decode cX12_laysReach 25 = .ok (.sipush 320, 3) := by decide +kernel
theorem dX12_laysReach_28 : decode cX12_laysReach 28 = .ok (.if_icmp .ge 90, 3) := by decide +kernel
theorem dX12_laysReach_31 : decode cX12_laysReach 31 = .ok (.aload_n 0, 1) := by decide +kernel
theorem dX12_laysReach_32 : decode cX12_laysReach 32 = .ok (.getfield 126, 3) := by decide +kernel
theorem dX12_laysReach_35 : decode cX12_laysReach 35 = .ok (.iload_n 1, 1) := by decide +kernel
theorem dX12_laysReach_36 : decode cX12_laysReach 36 = .ok (.baload, 1) := by decide +kernel
theorem dX12_laysReach_37 : decode cX12_laysReach 37 = .ok (.ifCond .ne 6, 3) := by decide +kernel
theorem dX12_laysReach_40 : decode cX12_laysReach 40 = .ok (.goto 72, 3) := by decide +kernel
theorem dX12_laysReach_43 : decode cX12_laysReach 43 = .ok (.aload_n 0, 1) := by decide +kernel
theorem dX12_laysReach_44 : decode cX12_laysReach 44 = .ok (.iload_n 1, 1) := by decide +kernel
theorem dX12_laysReach_45 : decode cX12_laysReach 45 = .ok (.invokevirtual 505, 3) := by decide +kernel
theorem dX12_laysReach_48 : decode cX12_laysReach 48 = .ok (.istore_n 2, 1) := by decide +kernel
theorem dX12_laysReach_49 : decode cX12_laysReach 49 = .ok (.iconst 0, 1) := by decide +kernel
theorem dX12_laysReach_50 : decode cX12_laysReach 50 = .ok (.istore_n 3, 1) := by decide +kernel
theorem dX12_laysReach_51 : decode cX12_laysReach 51 = .ok (.iload_n 3, 1) := by decide +kernel
theorem dX12_laysReach_52 : decode cX12_laysReach 52 = .ok (.bipush 32, 2) := by decide +kernel
theorem dX12_laysReach_54 : decode cX12_laysReach 54 = .ok (.if_icmp .ge 58, 3) := by decide +kernel
theorem dX12_laysReach_57 : decode cX12_laysReach 57 = .ok (.iload_n 2, 1) := by decide +kernel
theorem dX12_laysReach_58 : decode cX12_laysReach 58 = .ok (.iload_n 3, 1) := by decide +kernel
theorem dX12_laysReach_59 : decode cX12_laysReach 59 = .ok (.invokestatic 344, 3) := by decide +kernel
theorem dX12_laysReach_62 : decode cX12_laysReach 62 = .ok (.ifCond .ne 6, 3) := by decide +kernel
theorem dX12_laysReach_65 : decode cX12_laysReach 65 = .ok (.goto 41, 3) := by decide +kernel
theorem dX12_laysReach_68 : decode cX12_laysReach 68 = .ok (.aload_n 0, 1) := by decide +kernel
theorem dX12_laysReach_69 : decode cX12_laysReach 69 = .ok (.aload_n 0, 1) := by decide +kernel
theorem dX12_laysReach_70 : decode cX12_laysReach 70 = .ok (.getfield 96, 3) := by decide +kernel
theorem dX12_laysReach_73 : decode cX12_laysReach 73 = .ok (.iload_n 1, 1) := by decide +kernel
theorem dX12_laysReach_74 : decode cX12_laysReach 74 = .ok (.iaload, 1) := by decide +kernel
theorem dX12_laysReach_75 : decode cX12_laysReach 75 = .ok (.iload_n 3, 1) := by decide +kernel
theorem dX12_laysReach_76 : decode cX12_laysReach 76 = .ok (.invokevirtual 508, 3) := by decide +kernel
theorem dX12_laysReach_79 : decode cX12_laysReach 79 = .ok (.istore 4, 2) := by decide +kernel
theorem dX12_laysReach_81 : decode cX12_laysReach 81 = .ok (.aload_n 0, 1) := by decide +kernel
theorem dX12_laysReach_82 : decode cX12_laysReach 82 = .ok (.getfield 120, 3) := by decide +kernel
theorem dX12_laysReach_85 : decode cX12_laysReach 85 = .ok (.bipush 10, 2) := by decide +kernel
theorem dX12_laysReach_87 : decode cX12_laysReach 87 = .ok (.iload_n 1, 1) := by decide +kernel
theorem dX12_laysReach_88 : decode cX12_laysReach 88 = .ok (.imul, 1) := by decide +kernel
theorem dX12_laysReach_89 : decode cX12_laysReach 89 = .ok (.iload 4, 2) := by decide +kernel
theorem dX12_laysReach_91 : decode cX12_laysReach 91 = .ok (.bipush 32, 2) := by decide +kernel
theorem dX12_laysReach_93 : decode cX12_laysReach 93 = .ok (.idiv, 1) := by decide +kernel
theorem dX12_laysReach_94 : decode cX12_laysReach 94 = .ok (.iadd, 1) := by decide +kernel
theorem dX12_laysReach_95 : decode cX12_laysReach 95 = .ok (.dup2, 1) := by decide +kernel
theorem dX12_laysReach_96 : decode cX12_laysReach 96 = .ok (.iaload, 1) := by decide +kernel
theorem dX12_laysReach_97 : decode cX12_laysReach 97 = .ok (.iconst 1, 1) := by decide +kernel
theorem dX12_laysReach_98 : decode cX12_laysReach 98 = .ok (.iload 4, 2) := by decide +kernel
theorem dX12_laysReach_100 : decode cX12_laysReach 100 = .ok (.bipush 32, 2) := by decide +kernel
theorem dX12_laysReach_102 : decode cX12_laysReach 102 = .ok (.irem, 1) := by decide +kernel
theorem dX12_laysReach_103 : decode cX12_laysReach 103 = .ok (.ishl, 1) := by decide +kernel
theorem dX12_laysReach_104 : decode cX12_laysReach 104 = .ok (.ior, 1) := by decide +kernel
theorem dX12_laysReach_105 : decode cX12_laysReach 105 = .ok (.iastore, 1) := by decide +kernel
theorem dX12_laysReach_106 : decode cX12_laysReach 106 = .ok (.iinc 3 1, 3) := by decide +kernel
theorem dX12_laysReach_109 : decode cX12_laysReach 109 = .ok (.goto (-58), 3) := by decide +kernel
theorem dX12_laysReach_112 : decode cX12_laysReach 112 = .ok (.iinc 1 1, 3) := by decide +kernel
theorem dX12_laysReach_115 : decode cX12_laysReach 115 = .ok (.goto (-91), 3) := by decide +kernel
theorem dX12_laysReach_118 : decode cX12_laysReach 118 = .ok (.iconst 0, 1) := by decide +kernel
theorem dX12_laysReach_119 : decode cX12_laysReach 119 = .ok (.istore_n 1, 1) := by decide +kernel
theorem dX12_laysReach_120 : decode cX12_laysReach 120 = .ok (.iload_n 1, 1) := by decide +kernel
theorem dX12_laysReach_121 : decode cX12_laysReach 121 = .ok (.sipush 3200, 3) := by decide +kernel
theorem dX12_laysReach_124 : decode cX12_laysReach 124 = .ok (.if_icmp .ge 21, 3) := by decide +kernel
theorem dX12_laysReach_127 : decode cX12_laysReach 127 = .ok (.aload_n 0, 1) := by decide +kernel
theorem dX12_laysReach_128 : decode cX12_laysReach 128 = .ok (.getfield 123, 3) := by decide +kernel
theorem dX12_laysReach_131 : decode cX12_laysReach 131 = .ok (.iload_n 1, 1) := by decide +kernel
theorem dX12_laysReach_132 : decode cX12_laysReach 132 = .ok (.aload_n 0, 1) := by decide +kernel
theorem dX12_laysReach_133 : decode cX12_laysReach 133 = .ok (.getfield 120, 3) := by decide +kernel
theorem dX12_laysReach_136 : decode cX12_laysReach 136 = .ok (.iload_n 1, 1) := by decide +kernel
theorem dX12_laysReach_137 : decode cX12_laysReach 137 = .ok (.iaload, 1) := by decide +kernel
theorem dX12_laysReach_138 : decode cX12_laysReach 138 = .ok (.iastore, 1) := by decide +kernel
theorem dX12_laysReach_139 : decode cX12_laysReach 139 = .ok (.iinc 1 1, 3) := by decide +kernel
theorem dX12_laysReach_142 : decode cX12_laysReach 142 = .ok (.goto (-22), 3) := by decide +kernel
theorem dX12_laysReach_145 : decode cX12_laysReach 145 = .ok (.iconst 0, 1) := by decide +kernel
theorem dX12_laysReach_146 : decode cX12_laysReach 146 = .ok (.istore_n 1, 1) := by decide +kernel
theorem dX12_laysReach_147 : decode cX12_laysReach 147 = .ok (.iload_n 1, 1) := by decide +kernel
theorem dX12_laysReach_148 : decode cX12_laysReach 148 = .ok (.bipush 8, 2) := by decide +kernel
theorem dX12_laysReach_150 : decode cX12_laysReach 150 = .ok (.aload_n 0, 1) := by decide +kernel
theorem dX12_laysReach_151 : decode cX12_laysReach 151 = .ok (.getfield 322, 3) := by decide +kernel
theorem dX12_laysReach_154 : decode cX12_laysReach 154 = .ok (.imul, 1) := by decide +kernel
theorem dX12_laysReach_155 : decode cX12_laysReach 155 = .ok (.if_icmp .ge 79, 3) := by decide +kernel
theorem dX12_laysReach_158 : decode cX12_laysReach 158 = .ok (.iconst 0, 1) := by decide +kernel
theorem dX12_laysReach_159 : decode cX12_laysReach 159 = .ok (.istore_n 2, 1) := by decide +kernel
theorem dX12_laysReach_160 : decode cX12_laysReach 160 = .ok (.iload_n 2, 1) := by decide +kernel
theorem dX12_laysReach_161 : decode cX12_laysReach 161 = .ok (.bipush 8, 2) := by decide +kernel
theorem dX12_laysReach_163 : decode cX12_laysReach 163 = .ok (.aload_n 0, 1) := by decide +kernel
theorem dX12_laysReach_164 : decode cX12_laysReach 164 = .ok (.getfield 322, 3) := by decide +kernel
theorem dX12_laysReach_167 : decode cX12_laysReach 167 = .ok (.imul, 1) := by decide +kernel
theorem dX12_laysReach_168 : decode cX12_laysReach 168 = .ok (.if_icmp .ge 60, 3) := by decide +kernel
theorem dX12_laysReach_171 : decode cX12_laysReach 171 = .ok (.aload_n 0, 1) := by decide +kernel
theorem dX12_laysReach_172 : decode cX12_laysReach 172 = .ok (.getfield 123, 3) := by decide +kernel
theorem dX12_laysReach_175 : decode cX12_laysReach 175 = .ok (.iload_n 2, 1) := by decide +kernel
theorem dX12_laysReach_176 : decode cX12_laysReach 176 = .ok (.iload_n 1, 1) := by decide +kernel
theorem dX12_laysReach_177 : decode cX12_laysReach 177 = .ok (.invokestatic 511, 3) := by decide +kernel
theorem dX12_laysReach_180 : decode cX12_laysReach 180 = .ok (.ifCond .eq 42, 3) := by decide +kernel
theorem dX12_laysReach_183 : decode cX12_laysReach 183 = .ok (.iconst 0, 1) := by decide +kernel
theorem dX12_laysReach_184 : decode cX12_laysReach 184 = .ok (.istore_n 3, 1) := by decide +kernel
theorem dX12_laysReach_185 : decode cX12_laysReach 185 = .ok (.iload_n 3, 1) := by decide +kernel
theorem dX12_laysReach_186 : decode cX12_laysReach 186 = .ok (.bipush 10, 2) := by decide +kernel
theorem dX12_laysReach_188 : decode cX12_laysReach 188 = .ok (.if_icmp .ge 34, 3) := by decide +kernel
theorem dX12_laysReach_191 : decode cX12_laysReach 191 = .ok (.aload_n 0, 1) := by decide +kernel
theorem dX12_laysReach_192 : decode cX12_laysReach 192 = .ok (.getfield 123, 3) := by decide +kernel
theorem dX12_laysReach_195 : decode cX12_laysReach 195 = .ok (.bipush 10, 2) := by decide +kernel
theorem dX12_laysReach_197 : decode cX12_laysReach 197 = .ok (.iload_n 2, 1) := by decide +kernel
theorem dX12_laysReach_198 : decode cX12_laysReach 198 = .ok (.imul, 1) := by decide +kernel
theorem dX12_laysReach_199 : decode cX12_laysReach 199 = .ok (.iload_n 3, 1) := by decide +kernel
theorem dX12_laysReach_200 : decode cX12_laysReach 200 = .ok (.iadd, 1) := by decide +kernel
theorem dX12_laysReach_201 : decode cX12_laysReach 201 = .ok (.dup2, 1) := by decide +kernel
theorem dX12_laysReach_202 : decode cX12_laysReach 202 = .ok (.iaload, 1) := by decide +kernel
theorem dX12_laysReach_203 : decode cX12_laysReach 203 = .ok (.aload_n 0, 1) := by decide +kernel
theorem dX12_laysReach_204 : decode cX12_laysReach 204 = .ok (.getfield 123, 3) := by decide +kernel
theorem dX12_laysReach_207 : decode cX12_laysReach 207 = .ok (.bipush 10, 2) := by decide +kernel
theorem dX12_laysReach_209 : decode cX12_laysReach 209 = .ok (.iload_n 1, 1) := by decide +kernel
theorem dX12_laysReach_210 : decode cX12_laysReach 210 = .ok (.imul, 1) := by decide +kernel
theorem dX12_laysReach_211 : decode cX12_laysReach 211 = .ok (.iload_n 3, 1) := by decide +kernel
theorem dX12_laysReach_212 : decode cX12_laysReach 212 = .ok (.iadd, 1) := by decide +kernel
theorem dX12_laysReach_213 : decode cX12_laysReach 213 = .ok (.iaload, 1) := by decide +kernel
theorem dX12_laysReach_214 : decode cX12_laysReach 214 = .ok (.ior, 1) := by decide +kernel
theorem dX12_laysReach_215 : decode cX12_laysReach 215 = .ok (.iastore, 1) := by decide +kernel
theorem dX12_laysReach_216 : decode cX12_laysReach 216 = .ok (.iinc 3 1, 3) := by decide +kernel
theorem dX12_laysReach_219 : decode cX12_laysReach 219 = .ok (.goto (-34), 3) := by decide +kernel
theorem dX12_laysReach_222 : decode cX12_laysReach 222 = .ok (.iinc 2 1, 3) := by decide +kernel
theorem dX12_laysReach_225 : decode cX12_laysReach 225 = .ok (.goto (-65), 3) := by decide +kernel
theorem dX12_laysReach_228 : decode cX12_laysReach 228 = .ok (.iinc 1 1, 3) := by decide +kernel
theorem dX12_laysReach_231 : decode cX12_laysReach 231 = .ok (.goto (-84), 3) := by decide +kernel
theorem dX12_laysReach_234 : decode cX12_laysReach 234 = .ok (.return_, 1) := by decide +kernel
theorem dX12_laysKnots_0 : decode cX12_laysKnots 0 = .ok (.iconst 0, 1) := by decide +kernel
theorem dX12_laysKnots_1 : decode cX12_laysKnots 1 = .ok (.istore_n 1, 1) := by decide +kernel
theorem dX12_laysKnots_2 : decode cX12_laysKnots 2 = .ok (.iload_n 1, 1) := by decide +kernel
theorem dX12_laysKnots_3 : decode cX12_laysKnots 3 = .ok (.sipush 320, 3) := by decide +kernel
theorem dX12_laysKnots_6 : decode cX12_laysKnots 6 = .ok (.if_icmp .ge 88, 3) := by decide +kernel
theorem dX12_laysKnots_9 : decode cX12_laysKnots 9 = .ok (.aload_n 0, 1) := by decide +kernel
theorem dX12_laysKnots_10 : decode cX12_laysKnots 10 = .ok (.getfield 105, 3) := by decide +kernel
theorem dX12_laysKnots_13 : decode cX12_laysKnots 13 = .ok (.iload_n 1, 1) := by decide +kernel
theorem dX12_laysKnots_14 : decode cX12_laysKnots 14 = .ok (.iconst (-1), 1) := by decide +kernel
theorem dX12_laysKnots_15 : decode cX12_laysKnots 15 = .ok (.iastore, 1) := by decide +kernel
theorem dX12_laysKnots_16 : decode cX12_laysKnots 16 = .ok (.aload_n 0, 1) := by decide +kernel
theorem dX12_laysKnots_17 : decode cX12_laysKnots 17 = .ok (.getfield 126, 3) := by decide +kernel
theorem dX12_laysKnots_20 : decode cX12_laysKnots 20 = .ok (.iload_n 1, 1) := by decide +kernel
theorem dX12_laysKnots_21 : decode cX12_laysKnots 21 = .ok (.baload, 1) := by decide +kernel
theorem dX12_laysKnots_22 : decode cX12_laysKnots 22 = .ok (.ifCond .eq 66, 3) := by decide +kernel
theorem dX12_laysKnots_25 : decode cX12_laysKnots 25 = .ok (.aload_n 0, 1) := by decide +kernel
theorem dX12_laysKnots_26 : decode cX12_laysKnots 26 = .ok (.getfield 123, 3) := by decide +kernel
theorem dX12_laysKnots_29 : decode cX12_laysKnots 29 = .ok (.iload_n 1, 1) := by decide +kernel
theorem dX12_laysKnots_30 : decode cX12_laysKnots 30 = .ok (.iload_n 1, 1) := by decide +kernel
theorem dX12_laysKnots_31 : decode cX12_laysKnots 31 = .ok (.invokestatic 511, 3) := by decide +kernel
theorem dX12_laysKnots_34 : decode cX12_laysKnots 34 = .ok (.ifCond .ne 6, 3) := by decide +kernel
theorem dX12_laysKnots_37 : decode cX12_laysKnots 37 = .ok (.goto 51, 3) := by decide +kernel
theorem dX12_laysKnots_40 : decode cX12_laysKnots 40 = .ok (.iconst 0, 1) := by decide +kernel
theorem dX12_laysKnots_41 : decode cX12_laysKnots 41 = .ok (.istore_n 2, 1) := by decide +kernel
theorem dX12_laysKnots_42 : decode cX12_laysKnots 42 = .ok (.aload_n 0, 1) := by decide +kernel
theorem dX12_laysKnots_43 : decode cX12_laysKnots 43 = .ok (.getfield 126, 3) := by decide +kernel
theorem dX12_laysKnots_46 : decode cX12_laysKnots 46 = .ok (.iload_n 2, 1) := by decide +kernel
theorem dX12_laysKnots_47 : decode cX12_laysKnots 47 = .ok (.baload, 1) := by decide +kernel
theorem dX12_laysKnots_48 : decode cX12_laysKnots 48 = .ok (.ifCond .eq 27, 3) := by decide +kernel
theorem dX12_laysKnots_51 : decode cX12_laysKnots 51 = .ok (.aload_n 0, 1) := by decide +kernel
theorem dX12_laysKnots_52 : decode cX12_laysKnots 52 = .ok (.getfield 123, 3) := by decide +kernel
theorem dX12_laysKnots_55 : decode cX12_laysKnots 55 = .ok (.iload_n 1, 1) := by decide +kernel
theorem dX12_laysKnots_56 : decode cX12_laysKnots 56 = .ok (.iload_n 2, 1) := by decide +kernel
theorem dX12_laysKnots_57 : decode cX12_laysKnots 57 = .ok (.invokestatic 511, 3) := by decide +kernel
theorem dX12_laysKnots_60 : decode cX12_laysKnots 60 = .ok (.ifCond .eq 15, 3) := by decide +kernel
theorem dX12_laysKnots_63 : decode cX12_laysKnots 63 = .ok (.aload_n 0, 1) := by decide +kernel
theorem dX12_laysKnots_64 : decode cX12_laysKnots 64 = .ok (.getfield 123, 3) := by decide +kernel
theorem dX12_laysKnots_67 : decode cX12_laysKnots 67 = .ok (.iload_n 2, 1) := by decide +kernel
theorem dX12_laysKnots_68 : decode cX12_laysKnots 68 = .ok (.iload_n 1, 1) := by decide +kernel
theorem dX12_laysKnots_69 : decode cX12_laysKnots 69 = .ok (.invokestatic 511, 3) := by decide +kernel
theorem dX12_laysKnots_72 : decode cX12_laysKnots 72 = .ok (.ifCond .ne 9, 3) := by decide +kernel
theorem dX12_laysKnots_75 : decode cX12_laysKnots 75 = .ok (.iinc 2 1, 3) := by decide +kernel
theorem dX12_laysKnots_78 : decode cX12_laysKnots 78 = .ok (.goto (-36), 3) := by decide +kernel
theorem dX12_laysKnots_81 : decode cX12_laysKnots 81 = .ok (.aload_n 0, 1) := by decide +kernel
theorem dX12_laysKnots_82 : decode cX12_laysKnots 82 = .ok (.getfield 105, 3) := by decide +kernel
theorem dX12_laysKnots_85 : decode cX12_laysKnots 85 = .ok (.iload_n 1, 1) := by decide +kernel
theorem dX12_laysKnots_86 : decode cX12_laysKnots 86 = .ok (.iload_n 2, 1) := by decide +kernel
theorem dX12_laysKnots_87 : decode cX12_laysKnots 87 = .ok (.iastore, 1) := by decide +kernel
theorem dX12_laysKnots_88 : decode cX12_laysKnots 88 = .ok (.iinc 1 1, 3) := by decide +kernel
theorem dX12_laysKnots_91 : decode cX12_laysKnots 91 = .ok (.goto (-89), 3) := by decide +kernel
theorem dX12_laysKnots_94 : decode cX12_laysKnots 94 = .ok (.return_, 1) := by decide +kernel
theorem dX12_knots_0 : decode cX12_knots 0 = .ok (.iconst 0, 1) := by decide +kernel
theorem dX12_knots_1 : decode cX12_knots 1 = .ok (.istore_n 1, 1) := by decide +kernel
theorem dX12_knots_2 : decode cX12_knots 2 = .ok (.iconst 0, 1) := by decide +kernel
theorem dX12_knots_3 : decode cX12_knots 3 = .ok (.istore_n 2, 1) := by decide +kernel
theorem dX12_knots_4 : decode cX12_knots 4 = .ok (.iload_n 2, 1) := by decide +kernel
theorem dX12_knots_5 : decode cX12_knots 5 = .ok (.sipush 320, 3) := by decide +kernel
theorem dX12_knots_8 : decode cX12_knots 8 = .ok (.if_icmp .ge 36, 3) := by decide +kernel
theorem dX12_knots_11 : decode cX12_knots 11 = .ok (.iload_n 1, 1) := by decide +kernel
theorem dX12_knots_12 : decode cX12_knots 12 = .ok (.aload_n 0, 1) := by decide +kernel
theorem dX12_knots_13 : decode cX12_knots 13 = .ok (.getfield 126, 3) := by decide +kernel
theorem dX12_knots_16 : decode cX12_knots 16 = .ok (.iload_n 2, 1) := by decide +kernel
theorem dX12_knots_17 : decode cX12_knots 17 = .ok (.baload, 1) := by decide +kernel
theorem dX12_knots_18 : decode cX12_knots 18 = .ok (.ifCond .eq 17, 3) := by decide +kernel
theorem dX12_knots_21 : decode cX12_knots 21 = .ok (.aload_n 0, 1) := by decide +kernel
theorem dX12_knots_22 : decode cX12_knots 22 = .ok (.getfield 105, 3) := by decide +kernel
theorem dX12_knots_25 : decode cX12_knots 25 = .ok (.iload_n 2, 1) := by decide +kernel
theorem dX12_knots_26 : decode cX12_knots 26 = .ok (.iaload, 1) := by decide +kernel
theorem dX12_knots_27 : decode cX12_knots 27 = .ok (.iload_n 2, 1) := by decide +kernel
theorem dX12_knots_28 : decode cX12_knots 28 = .ok (.if_icmp .ne 7, 3) := by decide +kernel
theorem dX12_knots_31 : decode cX12_knots 31 = .ok (.iconst 1, 1) := by decide +kernel
theorem dX12_knots_32 : decode cX12_knots 32 = .ok (.goto 4, 3) := by decide +kernel
theorem dX12_knots_35 : decode cX12_knots 35 = .ok (.iconst 0, 1) := by decide +kernel
theorem dX12_knots_36 : decode cX12_knots 36 = .ok (.iadd, 1) := by decide +kernel
theorem dX12_knots_37 : decode cX12_knots 37 = .ok (.istore_n 1, 1) := by decide +kernel
theorem dX12_knots_38 : decode cX12_knots 38 = .ok (.iinc 2 1, 3) := by decide +kernel
theorem dX12_knots_41 : decode cX12_knots 41 = .ok (.goto (-37), 3) := by decide +kernel
theorem dX12_knots_44 : decode cX12_knots 44 = .ok (.iload_n 1, 1) := by decide +kernel
theorem dX12_knots_45 : decode cX12_knots 45 = .ok (.ireturn, 1) := by decide +kernel
theorem dX12_joined_0 : decode cX12_joined 0 = .ok (.iload_n 0, 1) := by decide +kernel
theorem dX12_joined_1 : decode cX12_joined 1 = .ok (.lookupswitch 104 #[(4, 98), (38, 83), (42, 75), (43, 67), (45, 71), (60, 87), (124, 79)], 67) := by decide +kernel
theorem dX12_joined_68 : decode cX12_joined 68 = .ok (.iload_n 1, 1) := by decide +kernel
theorem dX12_joined_69 : decode cX12_joined 69 = .ok (.iload_n 2, 1) := by decide +kernel
theorem dX12_joined_70 : decode cX12_joined 70 = .ok (.iadd, 1) := by decide +kernel
theorem dX12_joined_71 : decode cX12_joined 71 = .ok (.ireturn, 1) := by decide +kernel
theorem dX12_joined_72 : decode cX12_joined 72 = .ok (.iload_n 1, 1) := by decide +kernel
theorem dX12_joined_73 : decode cX12_joined 73 = .ok (.iload_n 2, 1) := by decide +kernel
theorem dX12_joined_74 : decode cX12_joined 74 = .ok (.isub, 1) := by decide +kernel
theorem dX12_joined_75 : decode cX12_joined 75 = .ok (.ireturn, 1) := by decide +kernel
theorem dX12_joined_76 : decode cX12_joined 76 = .ok (.iload_n 1, 1) := by decide +kernel
theorem dX12_joined_77 : decode cX12_joined 77 = .ok (.iload_n 2, 1) := by decide +kernel
theorem dX12_joined_78 : decode cX12_joined 78 = .ok (.imul, 1) := by decide +kernel
theorem dX12_joined_79 : decode cX12_joined 79 = .ok (.ireturn, 1) := by decide +kernel
theorem dX12_joined_80 : decode cX12_joined 80 = .ok (.iload_n 1, 1) := by decide +kernel
theorem dX12_joined_81 : decode cX12_joined 81 = .ok (.iload_n 2, 1) := by decide +kernel
theorem dX12_joined_82 : decode cX12_joined 82 = .ok (.ior, 1) := by decide +kernel
theorem dX12_joined_83 : decode cX12_joined 83 = .ok (.ireturn, 1) := by decide +kernel
theorem dX12_joined_84 : decode cX12_joined 84 = .ok (.iload_n 1, 1) := by decide +kernel
theorem dX12_joined_85 : decode cX12_joined 85 = .ok (.iload_n 2, 1) := by decide +kernel
theorem dX12_joined_86 : decode cX12_joined 86 = .ok (.iand, 1) := by decide +kernel
theorem dX12_joined_87 : decode cX12_joined 87 = .ok (.ireturn, 1) := by decide +kernel
theorem dX12_joined_88 : decode cX12_joined 88 = .ok (.iload_n 1, 1) := by decide +kernel
theorem dX12_joined_89 : decode cX12_joined 89 = .ok (.iload_n 2, 1) := by decide +kernel
theorem dX12_joined_90 : decode cX12_joined 90 = .ok (.if_icmp .ge 7, 3) := by decide +kernel
theorem dX12_joined_93 : decode cX12_joined 93 = .ok (.iconst 1, 1) := by decide +kernel
theorem dX12_joined_94 : decode cX12_joined 94 = .ok (.goto 4, 3) := by decide +kernel
theorem dX12_joined_97 : decode cX12_joined 97 = .ok (.iconst 0, 1) := by decide +kernel
theorem dX12_joined_98 : decode cX12_joined 98 = .ok (.ireturn, 1) := by decide +kernel
theorem dX12_joined_99 : decode cX12_joined 99 = .ok (.iload_n 1, 1) := by decide +kernel
theorem dX12_joined_100 : decode cX12_joined 100 = .ok (.iload_n 2, 1) := by decide +kernel
theorem dX12_joined_101 : decode cX12_joined 101 = .ok (.invokestatic 514, 3) := by decide +kernel
theorem dX12_joined_104 : decode cX12_joined 104 = .ok (.ireturn, 1) := by decide +kernel
theorem dX12_joined_105 : decode cX12_joined 105 = .ok (.iload_n 1, 1) := by decide +kernel
theorem dX12_joined_106 : decode cX12_joined 106 = .ok (.iload_n 2, 1) := by decide +kernel
theorem dX12_joined_107 : decode cX12_joined 107 = .ok (.invokestatic 368, 3) := by decide +kernel
theorem dX12_joined_110 : decode cX12_joined 110 = .ok (.ireturn, 1) := by decide +kernel
theorem dX12_worked_0 : decode cX12_worked 0 = .ok (.aload_n 0, 1) := by decide +kernel
theorem dX12_worked_1 : decode cX12_worked 1 = .ok (.getfield 96, 3) := by decide +kernel
theorem dX12_worked_4 : decode cX12_worked 4 = .ok (.iload_n 1, 1) := by decide +kernel
theorem dX12_worked_5 : decode cX12_worked 5 = .ok (.iaload, 1) := by decide +kernel
theorem dX12_worked_6 : decode cX12_worked 6 = .ok (.iconst (-1), 1) := by decide +kernel
theorem dX12_worked_7 : decode cX12_worked 7 = .ok (.if_icmp .ne 13, 3) := by decide +kernel
theorem dX12_worked_10 : decode cX12_worked 10 = .ok (.aload_n 0, 1) := by decide +kernel
theorem dX12_worked_11 : decode cX12_worked 11 = .ok (.getfield 93, 3) := by decide +kernel
theorem dX12_worked_14 : decode cX12_worked 14 = .ok (.iload_n 1, 1) := by decide +kernel
theorem dX12_worked_15 : decode cX12_worked 15 = .ok (.bipush 8, 2) := by decide +kernel
theorem dX12_worked_17 : decode cX12_worked 17 = .ok (.irem, 1) := by decide +kernel
theorem dX12_worked_18 : decode cX12_worked 18 = .ok (.iaload, 1) := by decide +kernel
theorem dX12_worked_19 : decode cX12_worked 19 = .ok (.ireturn, 1) := by decide +kernel
theorem dX12_worked_20 : decode cX12_worked 20 = .ok (.aload_n 0, 1) := by decide +kernel
theorem dX12_worked_21 : decode cX12_worked 21 = .ok (.getfield 96, 3) := by decide +kernel
theorem dX12_worked_24 : decode cX12_worked 24 = .ok (.iload_n 1, 1) := by decide +kernel
theorem dX12_worked_25 : decode cX12_worked 25 = .ok (.iaload, 1) := by decide +kernel
theorem dX12_worked_26 : decode cX12_worked 26 = .ok (.istore_n 2, 1) := by decide +kernel
theorem dX12_worked_27 : decode cX12_worked 27 = .ok (.bipush 32, 2) := by decide +kernel
theorem dX12_worked_29 : decode cX12_worked 29 = .ok (.aload_n 0, 1) := by decide +kernel
theorem dX12_worked_30 : decode cX12_worked 30 = .ok (.getfield 75, 3) := by decide +kernel
theorem dX12_worked_33 : decode cX12_worked 33 = .ok (.iload_n 2, 1) := by decide +kernel
theorem dX12_worked_34 : decode cX12_worked 34 = .ok (.iaload, 1) := by decide +kernel
theorem dX12_worked_35 : decode cX12_worked 35 = .ok (.imul, 1) := by decide +kernel
theorem dX12_worked_36 : decode cX12_worked 36 = .ok (.aload_n 0, 1) := by decide +kernel
theorem dX12_worked_37 : decode cX12_worked 37 = .ok (.getfield 99, 3) := by decide +kernel
theorem dX12_worked_40 : decode cX12_worked 40 = .ok (.iload_n 1, 1) := by decide +kernel
theorem dX12_worked_41 : decode cX12_worked 41 = .ok (.iaload, 1) := by decide +kernel
theorem dX12_worked_42 : decode cX12_worked 42 = .ok (.iadd, 1) := by decide +kernel
theorem dX12_worked_43 : decode cX12_worked 43 = .ok (.istore_n 3, 1) := by decide +kernel
theorem dX12_worked_44 : decode cX12_worked 44 = .ok (.iconst 0, 1) := by decide +kernel
theorem dX12_worked_45 : decode cX12_worked 45 = .ok (.istore 4, 2) := by decide +kernel
theorem dX12_worked_47 : decode cX12_worked 47 = .ok (.aload_n 0, 1) := by decide +kernel
theorem dX12_worked_48 : decode cX12_worked 48 = .ok (.getfield 13, 3) := by decide +kernel
theorem dX12_worked_51 : decode cX12_worked 51 = .ok (.bipush 80, 2) := by decide +kernel
theorem dX12_worked_53 : decode cX12_worked 53 = .ok (.iload_n 3, 1) := by decide +kernel
theorem dX12_worked_54 : decode cX12_worked 54 = .ok (.iadd, 1) := by decide +kernel
theorem dX12_worked_55 : decode cX12_worked 55 = .ok (.iaload, 1) := by decide +kernel
theorem dX12_worked_56 : decode cX12_worked 56 = .ok (.istore 5, 2) := by decide +kernel
theorem dX12_worked_58 : decode cX12_worked 58 = .ok (.iload 5, 2) := by decide +kernel
theorem dX12_worked_60 : decode cX12_worked 60 = .ok (.aload_n 0, 1) := by decide +kernel
theorem dX12_worked_61 : decode cX12_worked 61 = .ok (.getfield 13, 3) := by decide +kernel
theorem dX12_worked_64 : decode cX12_worked 64 = .ok (.sipush 464, 3) := by decide +kernel
theorem dX12_worked_67 : decode cX12_worked 67 = .ok (.iload_n 3, 1) := by decide +kernel
theorem dX12_worked_68 : decode cX12_worked 68 = .ok (.iadd, 1) := by decide +kernel
theorem dX12_worked_69 : decode cX12_worked 69 = .ok (.iaload, 1) := by decide +kernel
theorem dX12_worked_70 : decode cX12_worked 70 = .ok (.if_icmp .ge 181, 3) := by decide +kernel
theorem dX12_worked_73 : decode cX12_worked 73 = .ok (.aload_n 0, 1) := by decide +kernel
theorem dX12_worked_74 : decode cX12_worked 74 = .ok (.getfield 13, 3) := by decide +kernel
theorem dX12_worked_77 : decode cX12_worked 77 = .ok (.sipush 1616, 3) := by decide +kernel
theorem dX12_worked_80 : decode cX12_worked 80 = .ok (.iload 5, 2) := by decide +kernel
theorem dX12_worked_82 : decode cX12_worked 82 = .ok (.iadd, 1) := by decide +kernel
theorem dX12_worked_83 : decode cX12_worked 83 = .ok (.iaload, 1) := by decide +kernel
theorem dX12_worked_84 : decode cX12_worked 84 = .ok (.istore 6, 2) := by decide +kernel
theorem dX12_worked_86 : decode cX12_worked 86 = .ok (.iload 6, 2) := by decide +kernel
theorem dX12_worked_88 : decode cX12_worked 88 = .ok (.iconst 2, 1) := by decide +kernel
theorem dX12_worked_89 : decode cX12_worked 89 = .ok (.if_icmp .gt 71, 3) := by decide +kernel
theorem dX12_worked_92 : decode cX12_worked 92 = .ok (.aload_n 0, 1) := by decide +kernel
theorem dX12_worked_93 : decode cX12_worked 93 = .ok (.getfield 145, 3) := by decide +kernel
theorem dX12_worked_96 : decode cX12_worked 96 = .ok (.iload 4, 2) := by decide +kernel
theorem dX12_worked_98 : decode cX12_worked 98 = .ok (.iload 6, 2) := by decide +kernel
theorem dX12_worked_100 : decode cX12_worked 100 = .ok (.ifCond .ne 17, 3) := by decide +kernel
theorem dX12_worked_103 : decode cX12_worked 103 = .ok (.aload_n 0, 1) := by decide +kernel
theorem dX12_worked_104 : decode cX12_worked 104 = .ok (.getfield 13, 3) := by decide +kernel
theorem dX12_worked_107 : decode cX12_worked 107 = .ok (.sipush 2716, 3) := by decide +kernel
theorem dX12_worked_110 : decode cX12_worked 110 = .ok (.iload 5, 2) := by decide +kernel
theorem dX12_worked_112 : decode cX12_worked 112 = .ok (.iadd, 1) := by decide +kernel
theorem dX12_worked_113 : decode cX12_worked 113 = .ok (.iaload, 1) := by decide +kernel
theorem dX12_worked_114 : decode cX12_worked 114 = .ok (.goto 39, 3) := by decide +kernel
theorem dX12_worked_117 : decode cX12_worked 117 = .ok (.iload 6, 2) := by decide +kernel
theorem dX12_worked_119 : decode cX12_worked 119 = .ok (.iconst 1, 1) := by decide +kernel
theorem dX12_worked_120 : decode cX12_worked 120 = .ok (.if_icmp .ne 12, 3) := by decide +kernel
theorem dX12_worked_123 : decode cX12_worked 123 = .ok (.aload_n 0, 1) := by decide +kernel
theorem dX12_worked_124 : decode cX12_worked 124 = .ok (.getfield 78, 3) := by decide +kernel
theorem dX12_worked_127 : decode cX12_worked 127 = .ok (.iload_n 2, 1) := by decide +kernel
theorem dX12_worked_128 : decode cX12_worked 128 = .ok (.iaload, 1) := by decide +kernel
theorem dX12_worked_129 : decode cX12_worked 129 = .ok (.goto 24, 3) := by decide +kernel
theorem dX12_worked_132 : decode cX12_worked 132 = .ok (.aload_n 0, 1) := by decide +kernel
theorem dX12_worked_133 : decode cX12_worked 133 = .ok (.getfield 102, 3) := by decide +kernel
theorem dX12_worked_136 : decode cX12_worked 136 = .ok (.aload_n 0, 1) := by decide +kernel
theorem dX12_worked_137 : decode cX12_worked 137 = .ok (.iload_n 2, 1) := by decide +kernel
theorem dX12_worked_138 : decode cX12_worked 138 = .ok (.aload_n 0, 1) := by decide +kernel
theorem dX12_worked_139 : decode cX12_worked 139 = .ok (.getfield 13, 3) := by decide +kernel
theorem dX12_worked_142 : decode cX12_worked 142 = .ok (.sipush 2716, 3) := by decide +kernel
theorem dX12_worked_145 : decode cX12_worked 145 = .ok (.iload 5, 2) := by decide +kernel
theorem dX12_worked_147 : decode cX12_worked 147 = .ok (.iadd, 1) := by decide +kernel
theorem dX12_worked_148 : decode cX12_worked 148 = .ok (.iaload, 1) := by decide +kernel
theorem dX12_worked_149 : decode cX12_worked 149 = .ok (.invokevirtual 508, 3) := by decide +kernel
theorem dX12_worked_152 : decode cX12_worked 152 = .ok (.iaload, 1) := by decide +kernel
theorem dX12_worked_153 : decode cX12_worked 153 = .ok (.iastore, 1) := by decide +kernel
theorem dX12_worked_154 : decode cX12_worked 154 = .ok (.iinc 4 1, 3) := by decide +kernel
theorem dX12_worked_157 : decode cX12_worked 157 = .ok (.goto 88, 3) := by decide +kernel
theorem dX12_worked_160 : decode cX12_worked 160 = .ok (.iload 6, 2) := by decide +kernel
theorem dX12_worked_162 : decode cX12_worked 162 = .ok (.iconst 3, 1) := by decide +kernel
theorem dX12_worked_163 : decode cX12_worked 163 = .ok (.if_icmp .ne 49, 3) := by decide +kernel
theorem dX12_worked_166 : decode cX12_worked 166 = .ok (.iinc 4 (-2), 3) := by decide +kernel
theorem dX12_worked_169 : decode cX12_worked 169 = .ok (.aload_n 0, 1) := by decide +kernel
theorem dX12_worked_170 : decode cX12_worked 170 = .ok (.getfield 145, 3) := by decide +kernel
theorem dX12_worked_173 : decode cX12_worked 173 = .ok (.iload 4, 2) := by decide +kernel
theorem dX12_worked_175 : decode cX12_worked 175 = .ok (.iconst 1, 1) := by decide +kernel
theorem dX12_worked_176 : decode cX12_worked 176 = .ok (.isub, 1) := by decide +kernel
theorem dX12_worked_177 : decode cX12_worked 177 = .ok (.aload_n 0, 1) := by decide +kernel
theorem dX12_worked_178 : decode cX12_worked 178 = .ok (.getfield 145, 3) := by decide +kernel
theorem dX12_worked_181 : decode cX12_worked 181 = .ok (.iload 4, 2) := by decide +kernel
theorem dX12_worked_183 : decode cX12_worked 183 = .ok (.iconst 1, 1) := by decide +kernel
theorem dX12_worked_184 : decode cX12_worked 184 = .ok (.isub, 1) := by decide +kernel
theorem dX12_worked_185 : decode cX12_worked 185 = .ok (.iaload, 1) := by decide +kernel
theorem dX12_worked_186 : decode cX12_worked 186 = .ok (.ifCond .eq 13, 3) := by decide +kernel
theorem dX12_worked_189 : decode cX12_worked 189 = .ok (.aload_n 0, 1) := by decide +kernel
theorem dX12_worked_190 : decode cX12_worked 190 = .ok (.getfield 145, 3) := by decide +kernel
theorem dX12_worked_193 : decode cX12_worked 193 = .ok (.iload 4, 2) := by decide +kernel
theorem dX12_worked_195 : decode cX12_worked 195 = .ok (.iaload, 1) := by decide +kernel
theorem dX12_worked_196 : decode cX12_worked 196 = .ok (.goto 12, 3) := by decide +kernel
theorem dX12_worked_199 : decode cX12_worked 199 = .ok (.aload_n 0, 1) := by decide +kernel
theorem dX12_worked_200 : decode cX12_worked 200 = .ok (.getfield 145, 3) := by decide +kernel
theorem dX12_worked_203 : decode cX12_worked 203 = .ok (.iload 4, 2) := by decide +kernel
theorem dX12_worked_205 : decode cX12_worked 205 = .ok (.iconst 1, 1) := by decide +kernel
theorem dX12_worked_206 : decode cX12_worked 206 = .ok (.iadd, 1) := by decide +kernel
theorem dX12_worked_207 : decode cX12_worked 207 = .ok (.iaload, 1) := by decide +kernel
theorem dX12_worked_208 : decode cX12_worked 208 = .ok (.iastore, 1) := by decide +kernel
theorem dX12_worked_209 : decode cX12_worked 209 = .ok (.goto 36, 3) := by decide +kernel
theorem dX12_worked_212 : decode cX12_worked 212 = .ok (.iinc 4 (-1), 3) := by decide +kernel
theorem dX12_worked_215 : decode cX12_worked 215 = .ok (.aload_n 0, 1) := by decide +kernel
theorem dX12_worked_216 : decode cX12_worked 216 = .ok (.getfield 145, 3) := by decide +kernel
theorem dX12_worked_219 : decode cX12_worked 219 = .ok (.iload 4, 2) := by decide +kernel
theorem dX12_worked_221 : decode cX12_worked 221 = .ok (.iconst 1, 1) := by decide +kernel
theorem dX12_worked_222 : decode cX12_worked 222 = .ok (.isub, 1) := by decide +kernel
theorem dX12_worked_223 : decode cX12_worked 223 = .ok (.iload 6, 2) := by decide +kernel
theorem dX12_worked_225 : decode cX12_worked 225 = .ok (.aload_n 0, 1) := by decide +kernel
theorem dX12_worked_226 : decode cX12_worked 226 = .ok (.getfield 145, 3) := by decide +kernel
theorem dX12_worked_229 : decode cX12_worked 229 = .ok (.iload 4, 2) := by decide +kernel
theorem dX12_worked_231 : decode cX12_worked 231 = .ok (.iconst 1, 1) := by decide +kernel
theorem dX12_worked_232 : decode cX12_worked 232 = .ok (.isub, 1) := by decide +kernel
theorem dX12_worked_233 : decode cX12_worked 233 = .ok (.iaload, 1) := by decide +kernel
theorem dX12_worked_234 : decode cX12_worked 234 = .ok (.aload_n 0, 1) := by decide +kernel
theorem dX12_worked_235 : decode cX12_worked 235 = .ok (.getfield 145, 3) := by decide +kernel
theorem dX12_worked_238 : decode cX12_worked 238 = .ok (.iload 4, 2) := by decide +kernel
theorem dX12_worked_240 : decode cX12_worked 240 = .ok (.iaload, 1) := by decide +kernel
theorem dX12_worked_241 : decode cX12_worked 241 = .ok (.invokestatic 517, 3) := by decide +kernel
theorem dX12_worked_244 : decode cX12_worked 244 = .ok (.iastore, 1) := by decide +kernel
theorem dX12_worked_245 : decode cX12_worked 245 = .ok (.iinc 5 1, 3) := by decide +kernel
theorem dX12_worked_248 : decode cX12_worked 248 = .ok (.goto (-190), 3) := by decide +kernel
theorem dX12_worked_251 : decode cX12_worked 251 = .ok (.iload 4, 2) := by decide +kernel
theorem dX12_worked_253 : decode cX12_worked 253 = .ok (.ifCond .ne 7, 3) := by decide +kernel
theorem dX12_worked_256 : decode cX12_worked 256 = .ok (.iconst 0, 1) := by decide +kernel
theorem dX12_worked_257 : decode cX12_worked 257 = .ok (.goto 9, 3) := by decide +kernel
theorem dX12_worked_260 : decode cX12_worked 260 = .ok (.aload_n 0, 1) := by decide +kernel
theorem dX12_worked_261 : decode cX12_worked 261 = .ok (.getfield 145, 3) := by decide +kernel
theorem dX12_worked_264 : decode cX12_worked 264 = .ok (.iconst 0, 1) := by decide +kernel
theorem dX12_worked_265 : decode cX12_worked 265 = .ok (.iaload, 1) := by decide +kernel
theorem dX12_worked_266 : decode cX12_worked 266 = .ok (.ireturn, 1) := by decide +kernel
theorem dX12_isReady_0 : decode cX12_isReady 0 = .ok (.iconst 0, 1) := by decide +kernel
theorem dX12_isReady_1 : decode cX12_isReady 1 = .ok (.istore_n 2, 1) := by decide +kernel
theorem dX12_isReady_2 : decode cX12_isReady 2 = .ok (.iload_n 2, 1) := by decide +kernel
theorem dX12_isReady_3 : decode cX12_isReady 3 = .ok (.bipush 8, 2) := by decide +kernel
theorem dX12_isReady_5 : decode cX12_isReady 5 = .ok (.aload_n 0, 1) := by decide +kernel
theorem dX12_isReady_6 : decode cX12_isReady 6 = .ok (.getfield 322, 3) := by decide +kernel
theorem dX12_isReady_9 : decode cX12_isReady 9 = .ok (.imul, 1) := by decide +kernel
theorem dX12_isReady_10 : decode cX12_isReady 10 = .ok (.if_icmp .ge 57, 3) := by decide +kernel
theorem dX12_isReady_13 : decode cX12_isReady 13 = .ok (.aload_n 0, 1) := by decide +kernel
theorem dX12_isReady_14 : decode cX12_isReady 14 = .ok (.getfield 120, 3) := by decide +kernel
theorem dX12_isReady_17 : decode cX12_isReady 17 = .ok (.iload_n 1, 1) := by decide +kernel
theorem dX12_isReady_18 : decode cX12_isReady 18 = .ok (.iload_n 2, 1) := by decide +kernel
theorem dX12_isReady_19 : decode cX12_isReady 19 = .ok (.invokestatic 511, 3) := by decide +kernel
theorem dX12_isReady_22 : decode cX12_isReady 22 = .ok (.ifCond .eq 39, 3) := by decide +kernel
theorem dX12_isReady_25 : decode cX12_isReady 25 = .ok (.aload_n 0, 1) := by decide +kernel
theorem dX12_isReady_26 : decode cX12_isReady 26 = .ok (.getfield 133, 3) := by decide +kernel
theorem dX12_isReady_29 : decode cX12_isReady 29 = .ok (.iload_n 2, 1) := by decide +kernel
theorem dX12_isReady_30 : decode cX12_isReady 30 = .ok (.baload, 1) := by decide +kernel
theorem dX12_isReady_31 : decode cX12_isReady 31 = .ok (.ifCond .ne 30, 3) := by decide +kernel
theorem dX12_isReady_34 : decode cX12_isReady 34 = .ok (.aload_n 0, 1) := by decide +kernel
theorem dX12_isReady_35 : decode cX12_isReady 35 = .ok (.getfield 105, 3) := by decide +kernel
theorem dX12_isReady_38 : decode cX12_isReady 38 = .ok (.iload_n 1, 1) := by decide +kernel
theorem dX12_isReady_39 : decode cX12_isReady 39 = .ok (.iaload, 1) := by decide +kernel
theorem dX12_isReady_40 : decode cX12_isReady 40 = .ok (.iconst (-1), 1) := by decide +kernel
theorem dX12_isReady_41 : decode cX12_isReady 41 = .ok (.if_icmp .eq 18, 3) := by decide +kernel
theorem dX12_isReady_44 : decode cX12_isReady 44 = .ok (.aload_n 0, 1) := by decide +kernel
theorem dX12_isReady_45 : decode cX12_isReady 45 = .ok (.getfield 105, 3) := by decide +kernel
theorem dX12_isReady_48 : decode cX12_isReady 48 = .ok (.iload_n 2, 1) := by decide +kernel
theorem dX12_isReady_49 : decode cX12_isReady 49 = .ok (.iaload, 1) := by decide +kernel
theorem dX12_isReady_50 : decode cX12_isReady 50 = .ok (.aload_n 0, 1) := by decide +kernel
theorem dX12_isReady_51 : decode cX12_isReady 51 = .ok (.getfield 105, 3) := by decide +kernel
theorem dX12_isReady_54 : decode cX12_isReady 54 = .ok (.iload_n 1, 1) := by decide +kernel
theorem dX12_isReady_55 : decode cX12_isReady 55 = .ok (.iaload, 1) := by decide +kernel
theorem dX12_isReady_56 : decode cX12_isReady 56 = .ok (.if_icmp .eq 5, 3) := by decide +kernel
theorem dX12_isReady_59 : decode cX12_isReady 59 = .ok (.iconst 0, 1) := by decide +kernel
theorem dX12_isReady_60 : decode cX12_isReady 60 = .ok (.ireturn, 1) := by decide +kernel
theorem dX12_isReady_61 : decode cX12_isReady 61 = .ok (.iinc 2 1, 3) := by decide +kernel
theorem dX12_isReady_64 : decode cX12_isReady 64 = .ok (.goto (-62), 3) := by decide +kernel
theorem dX12_isReady_67 : decode cX12_isReady 67 = .ok (.iconst 1, 1) := by decide +kernel
theorem dX12_isReady_68 : decode cX12_isReady 68 = .ok (.ireturn, 1) := by decide +kernel
theorem dX12_isKnotReady_0 : decode cX12_isKnotReady 0 = .ok (.iconst 0, 1) := by decide +kernel
theorem dX12_isKnotReady_1 : decode cX12_isKnotReady 1 = .ok (.istore_n 2, 1) := by decide +kernel
theorem dX12_isKnotReady_2 : decode cX12_isKnotReady 2 = .ok (.iload_n 2, 1) := by decide +kernel
theorem dX12_isKnotReady_3 : decode cX12_isKnotReady 3 = .ok (.bipush 8, 2) := by decide +kernel
theorem dX12_isKnotReady_5 : decode cX12_isKnotReady 5 = .ok (.aload_n 0, 1) := by decide +kernel
theorem dX12_isKnotReady_6 : decode cX12_isKnotReady 6 = .ok (.getfield 322, 3) := by decide +kernel
theorem dX12_isKnotReady_9 : decode cX12_isKnotReady 9 = .ok (.imul, 1) := by decide +kernel
theorem dX12_isKnotReady_10 : decode cX12_isKnotReady 10 = .ok (.if_icmp .ge 38, 3) := by decide +kernel
theorem dX12_isKnotReady_13 : decode cX12_isKnotReady 13 = .ok (.aload_n 0, 1) := by decide +kernel
theorem dX12_isKnotReady_14 : decode cX12_isKnotReady 14 = .ok (.getfield 126, 3) := by decide +kernel
theorem dX12_isKnotReady_17 : decode cX12_isKnotReady 17 = .ok (.iload_n 2, 1) := by decide +kernel
theorem dX12_isKnotReady_18 : decode cX12_isKnotReady 18 = .ok (.baload, 1) := by decide +kernel
theorem dX12_isKnotReady_19 : decode cX12_isKnotReady 19 = .ok (.ifCond .eq 23, 3) := by decide +kernel
theorem dX12_isKnotReady_22 : decode cX12_isKnotReady 22 = .ok (.aload_n 0, 1) := by decide +kernel
theorem dX12_isKnotReady_23 : decode cX12_isKnotReady 23 = .ok (.getfield 105, 3) := by decide +kernel
theorem dX12_isKnotReady_26 : decode cX12_isKnotReady 26 = .ok (.iload_n 2, 1) := by decide +kernel
theorem dX12_isKnotReady_27 : decode cX12_isKnotReady 27 = .ok (.iaload, 1) := by decide +kernel
theorem dX12_isKnotReady_28 : decode cX12_isKnotReady 28 = .ok (.iload_n 1, 1) := by decide +kernel
theorem dX12_isKnotReady_29 : decode cX12_isKnotReady 29 = .ok (.if_icmp .ne 13, 3) := by decide +kernel
theorem dX12_isKnotReady_32 : decode cX12_isKnotReady 32 = .ok (.aload_n 0, 1) := by decide +kernel
theorem dX12_isKnotReady_33 : decode cX12_isKnotReady 33 = .ok (.iload_n 2, 1) := by decide +kernel
theorem dX12_isKnotReady_34 : decode cX12_isKnotReady 34 = .ok (.invokevirtual 520, 3) := by decide +kernel
theorem dX12_isKnotReady_37 : decode cX12_isKnotReady 37 = .ok (.ifCond .ne 5, 3) := by decide +kernel
theorem dX12_isKnotReady_40 : decode cX12_isKnotReady 40 = .ok (.iconst 0, 1) := by decide +kernel
theorem dX12_isKnotReady_41 : decode cX12_isKnotReady 41 = .ok (.ireturn, 1) := by decide +kernel
theorem dX12_isKnotReady_42 : decode cX12_isKnotReady 42 = .ok (.iinc 2 1, 3) := by decide +kernel
theorem dX12_isKnotReady_45 : decode cX12_isKnotReady 45 = .ok (.goto (-43), 3) := by decide +kernel
theorem dX12_isKnotReady_48 : decode cX12_isKnotReady 48 = .ok (.iconst 1, 1) := by decide +kernel
theorem dX12_isKnotReady_49 : decode cX12_isKnotReady 49 = .ok (.ireturn, 1) := by decide +kernel
theorem dX12_turnsKnot_0 : decode cX12_turnsKnot 0 = .ok (.iconst 0, 1) := by decide +kernel
theorem dX12_turnsKnot_1 : decode cX12_turnsKnot 1 = .ok (.istore_n 2, 1) := by decide +kernel
theorem dX12_turnsKnot_2 : decode cX12_turnsKnot 2 = .ok (.iload_n 2, 1) := by decide +kernel
theorem dX12_turnsKnot_3 : decode cX12_turnsKnot 3 = .ok (.bipush 8, 2) := by decide +kernel
theorem dX12_turnsKnot_5 : decode cX12_turnsKnot 5 = .ok (.aload_n 0, 1) := by decide +kernel
theorem dX12_turnsKnot_6 : decode cX12_turnsKnot 6 = .ok (.getfield 322, 3) := by decide +kernel
theorem dX12_turnsKnot_9 : decode cX12_turnsKnot 9 = .ok (.imul, 1) := by decide +kernel
theorem dX12_turnsKnot_10 : decode cX12_turnsKnot 10 = .ok (.if_icmp .ge 35, 3) := by decide +kernel
theorem dX12_turnsKnot_13 : decode cX12_turnsKnot 13 = .ok (.aload_n 0, 1) := by decide +kernel
theorem dX12_turnsKnot_14 : decode cX12_turnsKnot 14 = .ok (.getfield 126, 3) := by decide +kernel
theorem dX12_turnsKnot_17 : decode cX12_turnsKnot 17 = .ok (.iload_n 2, 1) := by decide +kernel
theorem dX12_turnsKnot_18 : decode cX12_turnsKnot 18 = .ok (.baload, 1) := by decide +kernel
theorem dX12_turnsKnot_19 : decode cX12_turnsKnot 19 = .ok (.ifCond .eq 20, 3) := by decide +kernel
theorem dX12_turnsKnot_22 : decode cX12_turnsKnot 22 = .ok (.aload_n 0, 1) := by decide +kernel
theorem dX12_turnsKnot_23 : decode cX12_turnsKnot 23 = .ok (.getfield 105, 3) := by decide +kernel
theorem dX12_turnsKnot_26 : decode cX12_turnsKnot 26 = .ok (.iload_n 2, 1) := by decide +kernel
theorem dX12_turnsKnot_27 : decode cX12_turnsKnot 27 = .ok (.iaload, 1) := by decide +kernel
theorem dX12_turnsKnot_28 : decode cX12_turnsKnot 28 = .ok (.iload_n 1, 1) := by decide +kernel
theorem dX12_turnsKnot_29 : decode cX12_turnsKnot 29 = .ok (.if_icmp .ne 10, 3) := by decide +kernel
theorem dX12_turnsKnot_32 : decode cX12_turnsKnot 32 = .ok (.aload_n 0, 1) := by decide +kernel
theorem dX12_turnsKnot_33 : decode cX12_turnsKnot 33 = .ok (.getfield 102, 3) := by decide +kernel
theorem dX12_turnsKnot_36 : decode cX12_turnsKnot 36 = .ok (.iload_n 2, 1) := by decide +kernel
theorem dX12_turnsKnot_37 : decode cX12_turnsKnot 37 = .ok (.iconst 0, 1) := by decide +kernel
theorem dX12_turnsKnot_38 : decode cX12_turnsKnot 38 = .ok (.iastore, 1) := by decide +kernel
theorem dX12_turnsKnot_39 : decode cX12_turnsKnot 39 = .ok (.iinc 2 1, 3) := by decide +kernel
theorem dX12_turnsKnot_42 : decode cX12_turnsKnot 42 = .ok (.goto (-40), 3) := by decide +kernel
theorem dX12_turnsKnot_45 : decode cX12_turnsKnot 45 = .ok (.iconst 0, 1) := by decide +kernel
theorem dX12_turnsKnot_46 : decode cX12_turnsKnot 46 = .ok (.istore_n 2, 1) := by decide +kernel
theorem dX12_turnsKnot_47 : decode cX12_turnsKnot 47 = .ok (.iconst 1, 1) := by decide +kernel
theorem dX12_turnsKnot_48 : decode cX12_turnsKnot 48 = .ok (.istore_n 3, 1) := by decide +kernel
theorem dX12_turnsKnot_49 : decode cX12_turnsKnot 49 = .ok (.iload_n 3, 1) := by decide +kernel
theorem dX12_turnsKnot_50 : decode cX12_turnsKnot 50 = .ok (.ifCond .eq 101, 3) := by decide +kernel
theorem dX12_turnsKnot_53 : decode cX12_turnsKnot 53 = .ok (.iload_n 2, 1) := by decide +kernel
theorem dX12_turnsKnot_54 : decode cX12_turnsKnot 54 = .ok (.bipush 64, 2) := by decide +kernel
theorem dX12_turnsKnot_56 : decode cX12_turnsKnot 56 = .ok (.if_icmp .ge 95, 3) := by decide +kernel
theorem dX12_turnsKnot_59 : decode cX12_turnsKnot 59 = .ok (.iconst 0, 1) := by decide +kernel
theorem dX12_turnsKnot_60 : decode cX12_turnsKnot 60 = .ok (.istore_n 3, 1) := by decide +kernel
theorem dX12_turnsKnot_61 : decode cX12_turnsKnot 61 = .ok (.iinc 2 1, 3) := by decide +kernel
theorem dX12_turnsKnot_64 : decode cX12_turnsKnot 64 = .ok (.iconst 0, 1) := by decide +kernel
theorem dX12_turnsKnot_65 : decode cX12_turnsKnot 65 = .ok (.istore 4, 2) := by decide +kernel
theorem dX12_turnsKnot_67 : decode cX12_turnsKnot 67 = .ok (.iload 4, 2) := by decide +kernel
theorem dX12_turnsKnot_69 : decode cX12_turnsKnot 69 = .ok (.bipush 8, 2) := by decide +kernel
theorem dX12_turnsKnot_71 : decode cX12_turnsKnot 71 = .ok (.aload_n 0, 1) := by decide +kernel
theorem dX12_turnsKnot_72 : decode cX12_turnsKnot 72 = .ok (.getfield 322, 3) := by decide +kernel
theorem dX12_turnsKnot_75 : decode cX12_turnsKnot 75 = .ok (.imul, 1) := by decide +kernel
theorem dX12_turnsKnot_76 : decode cX12_turnsKnot 76 = .ok (.if_icmp .ge 72, 3) := by decide +kernel
theorem dX12_turnsKnot_79 : decode cX12_turnsKnot 79 = .ok (.aload_n 0, 1) := by decide +kernel
theorem dX12_turnsKnot_80 : decode cX12_turnsKnot 80 = .ok (.getfield 126, 3) := by decide +kernel
theorem dX12_turnsKnot_83 : decode cX12_turnsKnot 83 = .ok (.iload 4, 2) := by decide +kernel
theorem dX12_turnsKnot_85 : decode cX12_turnsKnot 85 = .ok (.baload, 1) := by decide +kernel
theorem dX12_turnsKnot_86 : decode cX12_turnsKnot 86 = .ok (.ifCond .eq 56, 3) := by decide +kernel
theorem dX12_turnsKnot_89 : decode cX12_turnsKnot 89 = .ok (.aload_n 0, 1) := by decide +kernel
theorem dX12_turnsKnot_90 : decode cX12_turnsKnot 90 = .ok (.getfield 105, 3) := by decide +kernel
theorem dX12_turnsKnot_93 : decode cX12_turnsKnot 93 = .ok (.iload 4, 2) := by decide +kernel
theorem dX12_turnsKnot_95 : decode cX12_turnsKnot 95 = .ok (.iaload, 1) := by decide +kernel
theorem dX12_turnsKnot_96 : decode cX12_turnsKnot 96 = .ok (.iload_n 1, 1) := by decide +kernel
theorem dX12_turnsKnot_97 : decode cX12_turnsKnot 97 = .ok (.if_icmp .eq 6, 3) := by decide +kernel
theorem dX12_turnsKnot_100 : decode cX12_turnsKnot 100 = .ok (.goto 42, 3) := by decide +kernel
theorem dX12_turnsKnot_103 : decode cX12_turnsKnot 103 = .ok (.aload_n 0, 1) := by decide +kernel
theorem dX12_turnsKnot_104 : decode cX12_turnsKnot 104 = .ok (.iload 4, 2) := by decide +kernel
theorem dX12_turnsKnot_106 : decode cX12_turnsKnot 106 = .ok (.invokevirtual 523, 3) := by decide +kernel
theorem dX12_turnsKnot_109 : decode cX12_turnsKnot 109 = .ok (.istore 5, 2) := by decide +kernel
theorem dX12_turnsKnot_111 : decode cX12_turnsKnot 111 = .ok (.iload_n 3, 1) := by decide +kernel
theorem dX12_turnsKnot_112 : decode cX12_turnsKnot 112 = .ok (.ifCond .ne 15, 3) := by decide +kernel
theorem dX12_turnsKnot_115 : decode cX12_turnsKnot 115 = .ok (.iload 5, 2) := by decide +kernel
theorem dX12_turnsKnot_117 : decode cX12_turnsKnot 117 = .ok (.aload_n 0, 1) := by decide +kernel
theorem dX12_turnsKnot_118 : decode cX12_turnsKnot 118 = .ok (.getfield 102, 3) := by decide +kernel
theorem dX12_turnsKnot_121 : decode cX12_turnsKnot 121 = .ok (.iload 4, 2) := by decide +kernel
theorem dX12_turnsKnot_123 : decode cX12_turnsKnot 123 = .ok (.iaload, 1) := by decide +kernel
theorem dX12_turnsKnot_124 : decode cX12_turnsKnot 124 = .ok (.if_icmp .eq 7, 3) := by decide +kernel
theorem dX12_turnsKnot_127 : decode cX12_turnsKnot 127 = .ok (.iconst 1, 1) := by decide +kernel
theorem dX12_turnsKnot_128 : decode cX12_turnsKnot 128 = .ok (.goto 4, 3) := by decide +kernel
theorem dX12_turnsKnot_131 : decode cX12_turnsKnot 131 = .ok (.iconst 0, 1) := by decide +kernel
theorem dX12_turnsKnot_132 : decode cX12_turnsKnot 132 = .ok (.istore_n 3, 1) := by decide +kernel
theorem dX12_turnsKnot_133 : decode cX12_turnsKnot 133 = .ok (.aload_n 0, 1) := by decide +kernel
theorem dX12_turnsKnot_134 : decode cX12_turnsKnot 134 = .ok (.getfield 102, 3) := by decide +kernel
theorem dX12_turnsKnot_137 : decode cX12_turnsKnot 137 = .ok (.iload 4, 2) := by decide +kernel
theorem dX12_turnsKnot_139 : decode cX12_turnsKnot 139 = .ok (.iload 5, 2) := by decide +kernel
theorem dX12_turnsKnot_141 : decode cX12_turnsKnot 141 = .ok (.iastore, 1) := by decide +kernel
theorem dX12_turnsKnot_142 : decode cX12_turnsKnot 142 = .ok (.iinc 4 1, 3) := by decide +kernel
theorem dX12_turnsKnot_145 : decode cX12_turnsKnot 145 = .ok (.goto (-78), 3) := by decide +kernel
theorem dX12_turnsKnot_148 : decode cX12_turnsKnot 148 = .ok (.goto (-99), 3) := by decide +kernel
theorem dX12_turnsKnot_151 : decode cX12_turnsKnot 151 = .ok (.iconst 0, 1) := by decide +kernel
theorem dX12_turnsKnot_152 : decode cX12_turnsKnot 152 = .ok (.istore 4, 2) := by decide +kernel
theorem dX12_turnsKnot_154 : decode cX12_turnsKnot 154 = .ok (.iload 4, 2) := by decide +kernel
theorem dX12_turnsKnot_156 : decode cX12_turnsKnot 156 = .ok (.bipush 8, 2) := by decide +kernel
theorem dX12_turnsKnot_158 : decode cX12_turnsKnot 158 = .ok (.aload_n 0, 1) := by decide +kernel
theorem dX12_turnsKnot_159 : decode cX12_turnsKnot 159 = .ok (.getfield 322, 3) := by decide +kernel
theorem dX12_turnsKnot_162 : decode cX12_turnsKnot 162 = .ok (.imul, 1) := by decide +kernel
theorem dX12_turnsKnot_163 : decode cX12_turnsKnot 163 = .ok (.if_icmp .ge 57, 3) := by decide +kernel
theorem dX12_turnsKnot_166 : decode cX12_turnsKnot 166 = .ok (.aload_n 0, 1) := by decide +kernel
theorem dX12_turnsKnot_167 : decode cX12_turnsKnot 167 = .ok (.getfield 126, 3) := by decide +kernel
theorem dX12_turnsKnot_170 : decode cX12_turnsKnot 170 = .ok (.iload 4, 2) := by decide +kernel
theorem dX12_turnsKnot_172 : decode cX12_turnsKnot 172 = .ok (.baload, 1) := by decide +kernel
theorem dX12_turnsKnot_173 : decode cX12_turnsKnot 173 = .ok (.ifCond .eq 41, 3) := by decide +kernel
theorem dX12_turnsKnot_176 : decode cX12_turnsKnot 176 = .ok (.aload_n 0, 1) := by decide +kernel
theorem dX12_turnsKnot_177 : decode cX12_turnsKnot 177 = .ok (.getfield 105, 3) := by decide +kernel
theorem dX12_turnsKnot_180 : decode cX12_turnsKnot 180 = .ok (.iload 4, 2) := by decide +kernel
theorem dX12_turnsKnot_182 : decode cX12_turnsKnot 182 = .ok (.iaload, 1) := by decide +kernel
theorem dX12_turnsKnot_183 : decode cX12_turnsKnot 183 = .ok (.iload_n 1, 1) := by decide +kernel
theorem dX12_turnsKnot_184 : decode cX12_turnsKnot 184 = .ok (.if_icmp .eq 6, 3) := by decide +kernel
theorem dX12_turnsKnot_187 : decode cX12_turnsKnot 187 = .ok (.goto 27, 3) := by decide +kernel
theorem dX12_turnsKnot_190 : decode cX12_turnsKnot 190 = .ok (.aload_n 0, 1) := by decide +kernel
theorem dX12_turnsKnot_191 : decode cX12_turnsKnot 191 = .ok (.getfield 108, 3) := by decide +kernel
theorem dX12_turnsKnot_194 : decode cX12_turnsKnot 194 = .ok (.iload 4, 2) := by decide +kernel
theorem dX12_turnsKnot_196 : decode cX12_turnsKnot 196 = .ok (.iload_n 2, 1) := by decide +kernel
theorem dX12_turnsKnot_197 : decode cX12_turnsKnot 197 = .ok (.iastore, 1) := by decide +kernel
theorem dX12_turnsKnot_198 : decode cX12_turnsKnot 198 = .ok (.aload_n 0, 1) := by decide +kernel
theorem dX12_turnsKnot_199 : decode cX12_turnsKnot 199 = .ok (.getfield 130, 3) := by decide +kernel
theorem dX12_turnsKnot_202 : decode cX12_turnsKnot 202 = .ok (.iload 4, 2) := by decide +kernel
theorem dX12_turnsKnot_204 : decode cX12_turnsKnot 204 = .ok (.iload_n 3, 1) := by decide +kernel
theorem dX12_turnsKnot_205 : decode cX12_turnsKnot 205 = .ok (.bastore, 1) := by decide +kernel
theorem dX12_turnsKnot_206 : decode cX12_turnsKnot 206 = .ok (.aload_n 0, 1) := by decide +kernel
theorem dX12_turnsKnot_207 : decode cX12_turnsKnot 207 = .ok (.getfield 133, 3) := by decide +kernel
theorem dX12_turnsKnot_210 : decode cX12_turnsKnot 210 = .ok (.iload 4, 2) := by decide +kernel
theorem dX12_turnsKnot_212 : decode cX12_turnsKnot 212 = .ok (.iconst 1, 1) := by decide +kernel
theorem dX12_turnsKnot_213 : decode cX12_turnsKnot 213 = .ok (.bastore, 1) := by decide +kernel
theorem dX12_turnsKnot_214 : decode cX12_turnsKnot 214 = .ok (.iinc 4 1, 3) := by decide +kernel
theorem dX12_turnsKnot_217 : decode cX12_turnsKnot 217 = .ok (.goto (-63), 3) := by decide +kernel
theorem dX12_turnsKnot_220 : decode cX12_turnsKnot 220 = .ok (.return_, 1) := by decide +kernel
theorem dX12_settles_0 : decode cX12_settles 0 = .ok (.aload_n 0, 1) := by decide +kernel
theorem dX12_settles_1 : decode cX12_settles 1 = .ok (.invokevirtual 526, 3) := by decide +kernel
theorem dX12_settles_4 : decode cX12_settles 4 = .ok (.aload_n 0, 1) := by decide +kernel
theorem dX12_settles_5 : decode cX12_settles 5 = .ok (.invokevirtual 529, 3) := by decide +kernel
theorem dX12_settles_8 : decode cX12_settles 8 = .ok (.aload_n 0, 1) := by decide +kernel
theorem dX12_settles_9 : decode cX12_settles 9 = .ok (.invokevirtual 532, 3) := by decide +kernel
theorem dX12_settles_12 : decode cX12_settles 12 = .ok (.iconst 0, 1) := by decide +kernel
theorem dX12_settles_13 : decode cX12_settles 13 = .ok (.istore_n 1, 1) := by decide +kernel
theorem dX12_settles_14 : decode cX12_settles 14 = .ok (.iload_n 1, 1) := by decide +kernel
theorem dX12_settles_15 : decode cX12_settles 15 = .ok (.sipush 320, 3) := by decide +kernel
theorem dX12_settles_18 : decode cX12_settles 18 = .ok (.if_icmp .ge 16, 3) := by decide +kernel
theorem dX12_settles_21 : decode cX12_settles 21 = .ok (.aload_n 0, 1) := by decide +kernel
theorem dX12_settles_22 : decode cX12_settles 22 = .ok (.getfield 133, 3) := by decide +kernel
theorem dX12_settles_25 : decode cX12_settles 25 = .ok (.iload_n 1, 1) := by decide +kernel
theorem dX12_settles_26 : decode cX12_settles 26 = .ok (.iconst 0, 1) := by decide +kernel
theorem dX12_settles_27 : decode cX12_settles 27 = .ok (.bastore, 1) := by decide +kernel
theorem dX12_settles_28 : decode cX12_settles 28 = .ok (.iinc 1 1, 3) := by decide +kernel
theorem dX12_settles_31 : decode cX12_settles 31 = .ok (.goto (-17), 3) := by decide +kernel
theorem dX12_settles_34 : decode cX12_settles 34 = .ok (.aload_n 0, 1) := by decide +kernel
theorem dX12_settles_35 : decode cX12_settles 35 = .ok (.iconst 0, 1) := by decide +kernel
theorem dX12_settles_36 : decode cX12_settles 36 = .ok (.putfield 535, 3) := by decide +kernel
theorem dX12_settles_39 : decode cX12_settles 39 = .ok (.iconst 1, 1) := by decide +kernel
theorem dX12_settles_40 : decode cX12_settles 40 = .ok (.istore_n 1, 1) := by decide +kernel
theorem dX12_settles_41 : decode cX12_settles 41 = .ok (.iload_n 1, 1) := by decide +kernel
theorem dX12_settles_42 : decode cX12_settles 42 = .ok (.ifCond .eq 152, 3) := by decide +kernel
theorem dX12_settles_45 : decode cX12_settles 45 = .ok (.iconst 0, 1) := by decide +kernel
theorem dX12_settles_46 : decode cX12_settles 46 = .ok (.istore_n 1, 1) := by decide +kernel
theorem dX12_settles_47 : decode cX12_settles 47 = .ok (.iconst 0, 1) := by decide +kernel
theorem dX12_settles_48 : decode cX12_settles 48 = .ok (.istore_n 2, 1) := by decide +kernel
theorem dX12_settles_49 : decode cX12_settles 49 = .ok (.iload_n 2, 1) := by decide +kernel
theorem dX12_settles_50 : decode cX12_settles 50 = .ok (.bipush 8, 2) := by decide +kernel
theorem dX12_settles_52 : decode cX12_settles 52 = .ok (.aload_n 0, 1) := by decide +kernel
theorem dX12_settles_53 : decode cX12_settles 53 = .ok (.getfield 322, 3) := by decide +kernel
theorem dX12_settles_56 : decode cX12_settles 56 = .ok (.imul, 1) := by decide +kernel
theorem dX12_settles_57 : decode cX12_settles 57 = .ok (.if_icmp .ge 134, 3) := by decide +kernel
theorem dX12_settles_60 : decode cX12_settles 60 = .ok (.aload_n 0, 1) := by decide +kernel
theorem dX12_settles_61 : decode cX12_settles 61 = .ok (.getfield 126, 3) := by decide +kernel
theorem dX12_settles_64 : decode cX12_settles 64 = .ok (.iload_n 2, 1) := by decide +kernel
theorem dX12_settles_65 : decode cX12_settles 65 = .ok (.baload, 1) := by decide +kernel
theorem dX12_settles_66 : decode cX12_settles 66 = .ok (.ifCond .eq 119, 3) := by decide +kernel
theorem dX12_settles_69 : decode cX12_settles 69 = .ok (.aload_n 0, 1) := by decide +kernel
theorem dX12_settles_70 : decode cX12_settles 70 = .ok (.getfield 133, 3) := by decide +kernel
theorem dX12_settles_73 : decode cX12_settles 73 = .ok (.iload_n 2, 1) := by decide +kernel
theorem dX12_settles_74 : decode cX12_settles 74 = .ok (.baload, 1) := by decide +kernel
theorem dX12_settles_75 : decode cX12_settles 75 = .ok (.ifCond .ne 110, 3) := by decide +kernel
theorem dX12_settles_78 : decode cX12_settles 78 = .ok (.aload_n 0, 1) := by decide +kernel
theorem dX12_settles_79 : decode cX12_settles 79 = .ok (.getfield 105, 3) := by decide +kernel
theorem dX12_settles_82 : decode cX12_settles 82 = .ok (.iload_n 2, 1) := by decide +kernel
theorem dX12_settles_83 : decode cX12_settles 83 = .ok (.iaload, 1) := by decide +kernel
theorem dX12_settles_84 : decode cX12_settles 84 = .ok (.iconst (-1), 1) := by decide +kernel
theorem dX12_settles_85 : decode cX12_settles 85 = .ok (.if_icmp .ne 11, 3) := by decide +kernel
theorem dX12_settles_88 : decode cX12_settles 88 = .ok (.aload_n 0, 1) := by decide +kernel
theorem dX12_settles_89 : decode cX12_settles 89 = .ok (.iload_n 2, 1) := by decide +kernel
theorem dX12_settles_90 : decode cX12_settles 90 = .ok (.invokevirtual 520, 3) := by decide +kernel
theorem dX12_settles_93 : decode cX12_settles 93 = .ok (.ifCond .eq 92, 3) := by decide +kernel
theorem dX12_settles_96 : decode cX12_settles 96 = .ok (.aload_n 0, 1) := by decide +kernel
theorem dX12_settles_97 : decode cX12_settles 97 = .ok (.getfield 105, 3) := by decide +kernel
theorem dX12_settles_100 : decode cX12_settles 100 = .ok (.iload_n 2, 1) := by decide +kernel
theorem dX12_settles_101 : decode cX12_settles 101 = .ok (.iaload, 1) := by decide +kernel
theorem dX12_settles_102 : decode cX12_settles 102 = .ok (.iconst (-1), 1) := by decide +kernel
theorem dX12_settles_103 : decode cX12_settles 103 = .ok (.if_icmp .eq 24, 3) := by decide +kernel
theorem dX12_settles_106 : decode cX12_settles 106 = .ok (.aload_n 0, 1) := by decide +kernel
theorem dX12_settles_107 : decode cX12_settles 107 = .ok (.getfield 105, 3) := by decide +kernel
theorem dX12_settles_110 : decode cX12_settles 110 = .ok (.iload_n 2, 1) := by decide +kernel
theorem dX12_settles_111 : decode cX12_settles 111 = .ok (.iaload, 1) := by decide +kernel
theorem dX12_settles_112 : decode cX12_settles 112 = .ok (.iload_n 2, 1) := by decide +kernel
theorem dX12_settles_113 : decode cX12_settles 113 = .ok (.if_icmp .ne 72, 3) := by decide +kernel
theorem dX12_settles_116 : decode cX12_settles 116 = .ok (.aload_n 0, 1) := by decide +kernel
theorem dX12_settles_117 : decode cX12_settles 117 = .ok (.iload_n 2, 1) := by decide +kernel
theorem dX12_settles_118 : decode cX12_settles 118 = .ok (.invokevirtual 538, 3) := by decide +kernel
theorem dX12_settles_121 : decode cX12_settles 121 = .ok (.ifCond .ne 6, 3) := by decide +kernel
theorem dX12_settles_124 : decode cX12_settles 124 = .ok (.goto 61, 3) := by decide +kernel
theorem dX12_settles_127 : decode cX12_settles 127 = .ok (.aload_n 0, 1) := by decide +kernel
theorem dX12_settles_128 : decode cX12_settles 128 = .ok (.getfield 105, 3) := by decide +kernel
theorem dX12_settles_131 : decode cX12_settles 131 = .ok (.iload_n 2, 1) := by decide +kernel
theorem dX12_settles_132 : decode cX12_settles 132 = .ok (.iaload, 1) := by decide +kernel
theorem dX12_settles_133 : decode cX12_settles 133 = .ok (.iconst (-1), 1) := by decide +kernel
theorem dX12_settles_134 : decode cX12_settles 134 = .ok (.if_icmp .ne 24, 3) := by decide +kernel
theorem dX12_settles_137 : decode cX12_settles 137 = .ok (.aload_n 0, 1) := by decide +kernel
theorem dX12_settles_138 : decode cX12_settles 138 = .ok (.getfield 102, 3) := by decide +kernel
theorem dX12_settles_141 : decode cX12_settles 141 = .ok (.iload_n 2, 1) := by decide +kernel
theorem dX12_settles_142 : decode cX12_settles 142 = .ok (.aload_n 0, 1) := by decide +kernel
theorem dX12_settles_143 : decode cX12_settles 143 = .ok (.iload_n 2, 1) := by decide +kernel
theorem dX12_settles_144 : decode cX12_settles 144 = .ok (.invokevirtual 523, 3) := by decide +kernel
theorem dX12_settles_147 : decode cX12_settles 147 = .ok (.iastore, 1) := by decide +kernel
theorem dX12_settles_148 : decode cX12_settles 148 = .ok (.aload_n 0, 1) := by decide +kernel
theorem dX12_settles_149 : decode cX12_settles 149 = .ok (.getfield 133, 3) := by decide +kernel
theorem dX12_settles_152 : decode cX12_settles 152 = .ok (.iload_n 2, 1) := by decide +kernel
theorem dX12_settles_153 : decode cX12_settles 153 = .ok (.iconst 1, 1) := by decide +kernel
theorem dX12_settles_154 : decode cX12_settles 154 = .ok (.bastore, 1) := by decide +kernel
theorem dX12_settles_155 : decode cX12_settles 155 = .ok (.goto 8, 3) := by decide +kernel
theorem dX12_settles_158 : decode cX12_settles 158 = .ok (.aload_n 0, 1) := by decide +kernel
theorem dX12_settles_159 : decode cX12_settles 159 = .ok (.iload_n 2, 1) := by decide +kernel
theorem dX12_settles_160 : decode cX12_settles 160 = .ok (.invokevirtual 541, 3) := by decide +kernel
theorem dX12_settles_163 : decode cX12_settles 163 = .ok (.aload_n 0, 1) := by decide +kernel
theorem dX12_settles_164 : decode cX12_settles 164 = .ok (.getfield 111, 3) := by decide +kernel
theorem dX12_settles_167 : decode cX12_settles 167 = .ok (.aload_n 0, 1) := by decide +kernel
theorem dX12_settles_168 : decode cX12_settles 168 = .ok (.getfield 535, 3) := by decide +kernel
theorem dX12_settles_171 : decode cX12_settles 171 = .ok (.iload_n 2, 1) := by decide +kernel
theorem dX12_settles_172 : decode cX12_settles 172 = .ok (.iastore, 1) := by decide +kernel
theorem dX12_settles_173 : decode cX12_settles 173 = .ok (.aload_n 0, 1) := by decide +kernel
theorem dX12_settles_174 : decode cX12_settles 174 = .ok (.dup, 1) := by decide +kernel
theorem dX12_settles_175 : decode cX12_settles 175 = .ok (.getfield 535, 3) := by decide +kernel
theorem dX12_settles_178 : decode cX12_settles 178 = .ok (.iconst 1, 1) := by decide +kernel
theorem dX12_settles_179 : decode cX12_settles 179 = .ok (.iadd, 1) := by decide +kernel
theorem dX12_settles_180 : decode cX12_settles 180 = .ok (.putfield 535, 3) := by decide +kernel
theorem dX12_settles_183 : decode cX12_settles 183 = .ok (.iconst 1, 1) := by decide +kernel
theorem dX12_settles_184 : decode cX12_settles 184 = .ok (.istore_n 1, 1) := by decide +kernel
theorem dX12_settles_185 : decode cX12_settles 185 = .ok (.iinc 2 1, 3) := by decide +kernel
theorem dX12_settles_188 : decode cX12_settles 188 = .ok (.goto (-139), 3) := by decide +kernel
theorem dX12_settles_191 : decode cX12_settles 191 = .ok (.goto (-150), 3) := by decide +kernel
theorem dX12_settles_194 : decode cX12_settles 194 = .ok (.return_, 1) := by decide +kernel
theorem dX12_hasTree_0 : decode cX12_hasTree 0 = .ok (.aload_n 0, 1) := by decide +kernel
theorem dX12_hasTree_1 : decode cX12_hasTree 1 = .ok (.getfield 322, 3) := by decide +kernel
theorem dX12_hasTree_4 : decode cX12_hasTree 4 = .ok (.ifCond .le 7, 3) := by decide +kernel
theorem dX12_hasTree_7 : decode cX12_hasTree 7 = .ok (.iconst 1, 1) := by decide +kernel
theorem dX12_hasTree_8 : decode cX12_hasTree 8 = .ok (.goto 4, 3) := by decide +kernel
theorem dX12_hasTree_11 : decode cX12_hasTree 11 = .ok (.iconst 0, 1) := by decide +kernel
theorem dX12_hasTree_12 : decode cX12_hasTree 12 = .ok (.ireturn, 1) := by decide +kernel
theorem dX12_value_0 : decode cX12_value 0 = .ok (.aload_n 0, 1) := by decide +kernel
theorem dX12_value_1 : decode cX12_value 1 = .ok (.invokevirtual 544, 3) := by decide +kernel
theorem dX12_value_4 : decode cX12_value 4 = .ok (.ifCond .ne 9, 3) := by decide +kernel
theorem dX12_value_7 : decode cX12_value 7 = .ok (.aload_n 0, 1) := by decide +kernel
theorem dX12_value_8 : decode cX12_value 8 = .ok (.iconst 3, 1) := by decide +kernel
theorem dX12_value_9 : decode cX12_value 9 = .ok (.invokevirtual 305, 3) := by decide +kernel
theorem dX12_value_12 : decode cX12_value 12 = .ok (.ireturn, 1) := by decide +kernel
theorem dX12_value_13 : decode cX12_value 13 = .ok (.aload_n 0, 1) := by decide +kernel
theorem dX12_value_14 : decode cX12_value 14 = .ok (.iload_n 1, 1) := by decide +kernel
theorem dX12_value_15 : decode cX12_value 15 = .ok (.iload_n 2, 1) := by decide +kernel
theorem dX12_value_16 : decode cX12_value 16 = .ok (.invokevirtual 499, 3) := by decide +kernel
theorem dX12_value_19 : decode cX12_value 19 = .ok (.ifCond .eq 21, 3) := by decide +kernel
theorem dX12_value_22 : decode cX12_value 22 = .ok (.aload_n 0, 1) := by decide +kernel
theorem dX12_value_23 : decode cX12_value 23 = .ok (.aload_n 0, 1) := by decide +kernel
theorem dX12_value_24 : decode cX12_value 24 = .ok (.getfield 102, 3) := by decide +kernel
theorem dX12_value_27 : decode cX12_value 27 = .ok (.bipush 8, 2) := by decide +kernel
theorem dX12_value_29 : decode cX12_value 29 = .ok (.iload_n 1, 1) := by decide +kernel
theorem dX12_value_30 : decode cX12_value 30 = .ok (.imul, 1) := by decide +kernel
theorem dX12_value_31 : decode cX12_value 31 = .ok (.iload_n 2, 1) := by decide +kernel
theorem dX12_value_32 : decode cX12_value 32 = .ok (.iadd, 1) := by decide +kernel
theorem dX12_value_33 : decode cX12_value 33 = .ok (.iaload, 1) := by decide +kernel
theorem dX12_value_34 : decode cX12_value 34 = .ok (.invokevirtual 328, 3) := by decide +kernel
theorem dX12_value_37 : decode cX12_value 37 = .ok (.goto 8, 3) := by decide +kernel
theorem dX12_value_40 : decode cX12_value 40 = .ok (.aload_n 0, 1) := by decide +kernel
theorem dX12_value_41 : decode cX12_value 41 = .ok (.iconst 4, 1) := by decide +kernel
theorem dX12_value_42 : decode cX12_value 42 = .ok (.invokevirtual 305, 3) := by decide +kernel
theorem dX12_value_45 : decode cX12_value 45 = .ok (.ireturn, 1) := by decide +kernel
theorem dX12_knot_0 : decode cX12_knot 0 = .ok (.iload_n 3, 1) := by decide +kernel
theorem dX12_knot_1 : decode cX12_knot 1 = .ok (.iconst 0, 1) := by decide +kernel
theorem dX12_knot_2 : decode cX12_knot 2 = .ok (.iconst 4, 1) := by decide +kernel
theorem dX12_knot_3 : decode cX12_knot 3 = .ok (.invokestatic 246, 3) := by decide +kernel
theorem dX12_knot_6 : decode cX12_knot 6 = .ok (.ifCond .ne 9, 3) := by decide +kernel
theorem dX12_knot_9 : decode cX12_knot 9 = .ok (.aload_n 0, 1) := by decide +kernel
theorem dX12_knot_10 : decode cX12_knot 10 = .ok (.iconst 1, 1) := by decide +kernel
theorem dX12_knot_11 : decode cX12_knot 11 = .ok (.invokevirtual 305, 3) := by decide +kernel
theorem dX12_knot_14 : decode cX12_knot 14 = .ok (.ireturn, 1) := by decide +kernel
theorem dX12_knot_15 : decode cX12_knot 15 = .ok (.aload_n 0, 1) := by decide +kernel
theorem dX12_knot_16 : decode cX12_knot 16 = .ok (.invokevirtual 544, 3) := by decide +kernel
theorem dX12_knot_19 : decode cX12_knot 19 = .ok (.ifCond .ne 9, 3) := by decide +kernel
theorem dX12_knot_22 : decode cX12_knot 22 = .ok (.aload_n 0, 1) := by decide +kernel
theorem dX12_knot_23 : decode cX12_knot 23 = .ok (.iconst 3, 1) := by decide +kernel
theorem dX12_knot_24 : decode cX12_knot 24 = .ok (.invokevirtual 305, 3) := by decide +kernel
theorem dX12_knot_27 : decode cX12_knot 27 = .ok (.ireturn, 1) := by decide +kernel
theorem dX12_knot_28 : decode cX12_knot 28 = .ok (.aload_n 0, 1) := by decide +kernel
theorem dX12_knot_29 : decode cX12_knot 29 = .ok (.iload_n 1, 1) := by decide +kernel
theorem dX12_knot_30 : decode cX12_knot 30 = .ok (.iload_n 2, 1) := by decide +kernel
theorem dX12_knot_31 : decode cX12_knot 31 = .ok (.invokevirtual 499, 3) := by decide +kernel
theorem dX12_knot_34 : decode cX12_knot 34 = .ok (.ifCond .ne 9, 3) := by decide +kernel
theorem dX12_knot_37 : decode cX12_knot 37 = .ok (.aload_n 0, 1) := by decide +kernel
theorem dX12_knot_38 : decode cX12_knot 38 = .ok (.iconst 4, 1) := by decide +kernel
theorem dX12_knot_39 : decode cX12_knot 39 = .ok (.invokevirtual 305, 3) := by decide +kernel
theorem dX12_knot_42 : decode cX12_knot 42 = .ok (.ireturn, 1) := by decide +kernel
theorem dX12_knot_43 : decode cX12_knot 43 = .ok (.bipush 8, 2) := by decide +kernel
theorem dX12_knot_45 : decode cX12_knot 45 = .ok (.iload_n 1, 1) := by decide +kernel
theorem dX12_knot_46 : decode cX12_knot 46 = .ok (.imul, 1) := by decide +kernel
theorem dX12_knot_47 : decode cX12_knot 47 = .ok (.iload_n 2, 1) := by decide +kernel
theorem dX12_knot_48 : decode cX12_knot 48 = .ok (.iadd, 1) := by decide +kernel
theorem dX12_knot_49 : decode cX12_knot 49 = .ok (.istore 4, 2) := by decide +kernel
theorem dX12_knot_51 : decode cX12_knot 51 = .ok (.aload_n 0, 1) := by decide +kernel
theorem dX12_knot_52 : decode cX12_knot 52 = .ok (.getfield 105, 3) := by decide +kernel
theorem dX12_knot_55 : decode cX12_knot 55 = .ok (.iload 4, 2) := by decide +kernel
theorem dX12_knot_57 : decode cX12_knot 57 = .ok (.iaload, 1) := by decide +kernel
theorem dX12_knot_58 : decode cX12_knot 58 = .ok (.iconst (-1), 1) := by decide +kernel
theorem dX12_knot_59 : decode cX12_knot 59 = .ok (.if_icmp .ne 10, 3) := by decide +kernel
theorem dX12_knot_62 : decode cX12_knot 62 = .ok (.aload_n 0, 1) := by decide +kernel
theorem dX12_knot_63 : decode cX12_knot 63 = .ok (.bipush 7, 2) := by decide +kernel
theorem dX12_knot_65 : decode cX12_knot 65 = .ok (.invokevirtual 305, 3) := by decide +kernel
theorem dX12_knot_68 : decode cX12_knot 68 = .ok (.ireturn, 1) := by decide +kernel
theorem dX12_knot_69 : decode cX12_knot 69 = .ok (.iconst 0, 1) := by decide +kernel
theorem dX12_knot_70 : decode cX12_knot 70 = .ok (.istore 5, 2) := by decide +kernel
theorem dX12_knot_72 : decode cX12_knot 72 = .ok (.iconst 0, 1) := by decide +kernel
theorem dX12_knot_73 : decode cX12_knot 73 = .ok (.istore 6, 2) := by decide +kernel
theorem dX12_knot_75 : decode cX12_knot 75 = .ok (.iload 6, 2) := by decide +kernel
theorem dX12_knot_77 : decode cX12_knot 77 = .ok (.bipush 8, 2) := by decide +kernel
theorem dX12_knot_79 : decode cX12_knot 79 = .ok (.aload_n 0, 1) := by decide +kernel
theorem dX12_knot_80 : decode cX12_knot 80 = .ok (.getfield 322, 3) := by decide +kernel
theorem dX12_knot_83 : decode cX12_knot 83 = .ok (.imul, 1) := by decide +kernel
theorem dX12_knot_84 : decode cX12_knot 84 = .ok (.if_icmp .ge 46, 3) := by decide +kernel
theorem dX12_knot_87 : decode cX12_knot 87 = .ok (.iload 5, 2) := by decide +kernel
theorem dX12_knot_89 : decode cX12_knot 89 = .ok (.aload_n 0, 1) := by decide +kernel
theorem dX12_knot_90 : decode cX12_knot 90 = .ok (.getfield 126, 3) := by decide +kernel
theorem dX12_knot_93 : decode cX12_knot 93 = .ok (.iload 6, 2) := by decide +kernel
theorem dX12_knot_95 : decode cX12_knot 95 = .ok (.baload, 1) := by decide +kernel
theorem dX12_knot_96 : decode cX12_knot 96 = .ok (.ifCond .eq 24, 3) := by decide +kernel
theorem dX12_knot_99 : decode cX12_knot 99 = .ok (.aload_n 0, 1) := by decide +kernel
theorem dX12_knot_100 : decode cX12_knot 100 = .ok (.getfield 105, 3) := by decide +kernel
theorem dX12_knot_103 : decode cX12_knot 103 = .ok (.iload 6, 2) := by decide +kernel
theorem dX12_knot_105 : decode cX12_knot 105 = .ok (.iaload, 1) := by decide +kernel
theorem dX12_knot_106 : decode cX12_knot 106 = .ok (.aload_n 0, 1) := by decide +kernel
theorem dX12_knot_107 : decode cX12_knot 107 = .ok (.getfield 105, 3) := by decide +kernel
theorem dX12_knot_110 : decode cX12_knot 110 = .ok (.iload 4, 2) := by decide +kernel
theorem dX12_knot_112 : decode cX12_knot 112 = .ok (.iaload, 1) := by decide +kernel
theorem dX12_knot_113 : decode cX12_knot 113 = .ok (.if_icmp .ne 7, 3) := by decide +kernel
theorem dX12_knot_116 : decode cX12_knot 116 = .ok (.iconst 1, 1) := by decide +kernel
theorem dX12_knot_117 : decode cX12_knot 117 = .ok (.goto 4, 3) := by decide +kernel
theorem dX12_knot_120 : decode cX12_knot 120 = .ok (.iconst 0, 1) := by decide +kernel
theorem dX12_knot_121 : decode cX12_knot 121 = .ok (.iadd, 1) := by decide +kernel
theorem dX12_knot_122 : decode cX12_knot 122 = .ok (.istore 5, 2) := by decide +kernel
theorem dX12_knot_124 : decode cX12_knot 124 = .ok (.iinc 6 1, 3) := by decide +kernel
theorem dX12_knot_127 : decode cX12_knot 127 = .ok (.goto (-52), 3) := by decide +kernel
theorem dX12_knot_130 : decode cX12_knot 130 = .ok (.iload_n 3, 1) := by decide +kernel
theorem dX12_knot_131 : decode cX12_knot 131 = .ok (.tableswitch 83 0 3 #[29, 36, 48, 68], 29) := by decide +kernel
theorem dX12_knot_160 : decode cX12_knot 160 = .ok (.aload_n 0, 1) := by decide +kernel
theorem dX12_knot_161 : decode cX12_knot 161 = .ok (.iload 5, 2) := by decide +kernel
theorem dX12_knot_163 : decode cX12_knot 163 = .ok (.invokevirtual 328, 3) := by decide +kernel
theorem dX12_knot_166 : decode cX12_knot 166 = .ok (.ireturn, 1) := by decide +kernel
theorem dX12_knot_167 : decode cX12_knot 167 = .ok (.aload_n 0, 1) := by decide +kernel
theorem dX12_knot_168 : decode cX12_knot 168 = .ok (.aload_n 0, 1) := by decide +kernel
theorem dX12_knot_169 : decode cX12_knot 169 = .ok (.getfield 108, 3) := by decide +kernel
theorem dX12_knot_172 : decode cX12_knot 172 = .ok (.iload 4, 2) := by decide +kernel
theorem dX12_knot_174 : decode cX12_knot 174 = .ok (.iaload, 1) := by decide +kernel
theorem dX12_knot_175 : decode cX12_knot 175 = .ok (.invokevirtual 328, 3) := by decide +kernel
theorem dX12_knot_178 : decode cX12_knot 178 = .ok (.ireturn, 1) := by decide +kernel
theorem dX12_knot_179 : decode cX12_knot 179 = .ok (.aload_n 0, 1) := by decide +kernel
theorem dX12_knot_180 : decode cX12_knot 180 = .ok (.aload_n 0, 1) := by decide +kernel
theorem dX12_knot_181 : decode cX12_knot 181 = .ok (.getfield 130, 3) := by decide +kernel
theorem dX12_knot_184 : decode cX12_knot 184 = .ok (.iload 4, 2) := by decide +kernel
theorem dX12_knot_186 : decode cX12_knot 186 = .ok (.baload, 1) := by decide +kernel
theorem dX12_knot_187 : decode cX12_knot 187 = .ok (.ifCond .eq 7, 3) := by decide +kernel
theorem dX12_knot_190 : decode cX12_knot 190 = .ok (.iconst 1, 1) := by decide +kernel
theorem dX12_knot_191 : decode cX12_knot 191 = .ok (.goto 4, 3) := by decide +kernel
theorem dX12_knot_194 : decode cX12_knot 194 = .ok (.iconst 0, 1) := by decide +kernel
theorem dX12_knot_195 : decode cX12_knot 195 = .ok (.invokevirtual 328, 3) := by decide +kernel
theorem dX12_knot_198 : decode cX12_knot 198 = .ok (.ireturn, 1) := by decide +kernel
theorem dX12_knot_199 : decode cX12_knot 199 = .ok (.aload_n 0, 1) := by decide +kernel
theorem dX12_knot_200 : decode cX12_knot 200 = .ok (.aload_n 0, 1) := by decide +kernel
theorem dX12_knot_201 : decode cX12_knot 201 = .ok (.getfield 105, 3) := by decide +kernel
theorem dX12_knot_204 : decode cX12_knot 204 = .ok (.iload 4, 2) := by decide +kernel
theorem dX12_knot_206 : decode cX12_knot 206 = .ok (.iaload, 1) := by decide +kernel
theorem dX12_knot_207 : decode cX12_knot 207 = .ok (.bipush 8, 2) := by decide +kernel
theorem dX12_knot_209 : decode cX12_knot 209 = .ok (.idiv, 1) := by decide +kernel
theorem dX12_knot_210 : decode cX12_knot 210 = .ok (.invokevirtual 328, 3) := by decide +kernel
theorem dX12_knot_213 : decode cX12_knot 213 = .ok (.ireturn, 1) := by decide +kernel
theorem dX12_knot_214 : decode cX12_knot 214 = .ok (.aload_n 0, 1) := by decide +kernel
theorem dX12_knot_215 : decode cX12_knot 215 = .ok (.aload_n 0, 1) := by decide +kernel
theorem dX12_knot_216 : decode cX12_knot 216 = .ok (.getfield 105, 3) := by decide +kernel
theorem dX12_knot_219 : decode cX12_knot 219 = .ok (.iload 4, 2) := by decide +kernel
theorem dX12_knot_221 : decode cX12_knot 221 = .ok (.iaload, 1) := by decide +kernel
theorem dX12_knot_222 : decode cX12_knot 222 = .ok (.bipush 8, 2) := by decide +kernel
theorem dX12_knot_224 : decode cX12_knot 224 = .ok (.irem, 1) := by decide +kernel
theorem dX12_knot_225 : decode cX12_knot 225 = .ok (.invokevirtual 328, 3) := by decide +kernel
theorem dX12_knot_228 : decode cX12_knot 228 = .ok (.ireturn, 1) := by decide +kernel
theorem dX12_span_0 : decode cX12_span 0 = .ok (.iload_n 3, 1) := by decide +kernel
theorem dX12_span_1 : decode cX12_span 1 = .ok (.iconst 0, 1) := by decide +kernel
theorem dX12_span_2 : decode cX12_span 2 = .ok (.iconst 1, 1) := by decide +kernel
theorem dX12_span_3 : decode cX12_span 3 = .ok (.invokestatic 246, 3) := by decide +kernel
theorem dX12_span_6 : decode cX12_span 6 = .ok (.ifCond .ne 9, 3) := by decide +kernel
theorem dX12_span_9 : decode cX12_span 9 = .ok (.aload_n 0, 1) := by decide +kernel
theorem dX12_span_10 : decode cX12_span 10 = .ok (.iconst 1, 1) := by decide +kernel
theorem dX12_span_11 : decode cX12_span 11 = .ok (.invokevirtual 305, 3) := by decide +kernel
theorem dX12_span_14 : decode cX12_span 14 = .ok (.ireturn, 1) := by decide +kernel
theorem dX12_span_15 : decode cX12_span 15 = .ok (.aload_n 0, 1) := by decide +kernel
theorem dX12_span_16 : decode cX12_span 16 = .ok (.invokevirtual 544, 3) := by decide +kernel
theorem dX12_span_19 : decode cX12_span 19 = .ok (.ifCond .ne 9, 3) := by decide +kernel
theorem dX12_span_22 : decode cX12_span 22 = .ok (.aload_n 0, 1) := by decide +kernel
theorem dX12_span_23 : decode cX12_span 23 = .ok (.iconst 3, 1) := by decide +kernel
theorem dX12_span_24 : decode cX12_span 24 = .ok (.invokevirtual 305, 3) := by decide +kernel
theorem dX12_span_27 : decode cX12_span 27 = .ok (.ireturn, 1) := by decide +kernel
theorem dX12_span_28 : decode cX12_span 28 = .ok (.aload_n 0, 1) := by decide +kernel
theorem dX12_span_29 : decode cX12_span 29 = .ok (.iload_n 1, 1) := by decide +kernel
theorem dX12_span_30 : decode cX12_span 30 = .ok (.iload_n 2, 1) := by decide +kernel
theorem dX12_span_31 : decode cX12_span 31 = .ok (.invokevirtual 499, 3) := by decide +kernel
theorem dX12_span_34 : decode cX12_span 34 = .ok (.ifCond .ne 9, 3) := by decide +kernel
theorem dX12_span_37 : decode cX12_span 37 = .ok (.aload_n 0, 1) := by decide +kernel
theorem dX12_span_38 : decode cX12_span 38 = .ok (.iconst 4, 1) := by decide +kernel
theorem dX12_span_39 : decode cX12_span 39 = .ok (.invokevirtual 305, 3) := by decide +kernel
theorem dX12_span_42 : decode cX12_span 42 = .ok (.ireturn, 1) := by decide +kernel
theorem dX12_span_43 : decode cX12_span 43 = .ok (.bipush 8, 2) := by decide +kernel
theorem dX12_span_45 : decode cX12_span 45 = .ok (.iload_n 1, 1) := by decide +kernel
theorem dX12_span_46 : decode cX12_span 46 = .ok (.imul, 1) := by decide +kernel
theorem dX12_span_47 : decode cX12_span 47 = .ok (.iload_n 2, 1) := by decide +kernel
theorem dX12_span_48 : decode cX12_span 48 = .ok (.iadd, 1) := by decide +kernel
theorem dX12_span_49 : decode cX12_span 49 = .ok (.istore 4, 2) := by decide +kernel
theorem dX12_span_51 : decode cX12_span 51 = .ok (.iconst 1, 1) := by decide +kernel
theorem dX12_span_52 : decode cX12_span 52 = .ok (.istore 5, 2) := by decide +kernel
theorem dX12_span_54 : decode cX12_span 54 = .ok (.iconst 0, 1) := by decide +kernel
theorem dX12_span_55 : decode cX12_span 55 = .ok (.istore 6, 2) := by decide +kernel
theorem dX12_span_57 : decode cX12_span 57 = .ok (.iload 6, 2) := by decide +kernel
theorem dX12_span_59 : decode cX12_span 59 = .ok (.bipush 8, 2) := by decide +kernel
theorem dX12_span_61 : decode cX12_span 61 = .ok (.aload_n 0, 1) := by decide +kernel
theorem dX12_span_62 : decode cX12_span 62 = .ok (.getfield 322, 3) := by decide +kernel
theorem dX12_span_65 : decode cX12_span 65 = .ok (.imul, 1) := by decide +kernel
theorem dX12_span_66 : decode cX12_span 66 = .ok (.if_icmp .ge 71, 3) := by decide +kernel
theorem dX12_span_69 : decode cX12_span 69 = .ok (.iload 6, 2) := by decide +kernel
theorem dX12_span_71 : decode cX12_span 71 = .ok (.iload 4, 2) := by decide +kernel
theorem dX12_span_73 : decode cX12_span 73 = .ok (.if_icmp .eq 58, 3) := by decide +kernel
theorem dX12_span_76 : decode cX12_span 76 = .ok (.aload_n 0, 1) := by decide +kernel
theorem dX12_span_77 : decode cX12_span 77 = .ok (.getfield 126, 3) := by decide +kernel
theorem dX12_span_80 : decode cX12_span 80 = .ok (.iload 6, 2) := by decide +kernel
theorem dX12_span_82 : decode cX12_span 82 = .ok (.baload, 1) := by decide +kernel
theorem dX12_span_83 : decode cX12_span 83 = .ok (.ifCond .eq 48, 3) := by decide +kernel
theorem dX12_span_86 : decode cX12_span 86 = .ok (.iload 5, 2) := by decide +kernel
theorem dX12_span_88 : decode cX12_span 88 = .ok (.iload_n 3, 1) := by decide +kernel
theorem dX12_span_89 : decode cX12_span 89 = .ok (.ifCond .ne 20, 3) := by decide +kernel
theorem dX12_span_92 : decode cX12_span 92 = .ok (.aload_n 0, 1) := by decide +kernel
theorem dX12_span_93 : decode cX12_span 93 = .ok (.getfield 123, 3) := by decide +kernel
theorem dX12_span_96 : decode cX12_span 96 = .ok (.iload 4, 2) := by decide +kernel
theorem dX12_span_98 : decode cX12_span 98 = .ok (.iload 6, 2) := by decide +kernel
theorem dX12_span_100 : decode cX12_span 100 = .ok (.invokestatic 511, 3) := by decide +kernel
theorem dX12_span_103 : decode cX12_span 103 = .ok (.ifCond .eq 24, 3) := by decide +kernel
theorem dX12_span_106 : decode cX12_span 106 = .ok (.goto 17, 3) := by decide +kernel
theorem dX12_span_109 : decode cX12_span 109 = .ok (.aload_n 0, 1) := by decide +kernel
theorem dX12_span_110 : decode cX12_span 110 = .ok (.getfield 123, 3) := by decide +kernel
theorem dX12_span_113 : decode cX12_span 113 = .ok (.iload 6, 2) := by decide +kernel
theorem dX12_span_115 : decode cX12_span 115 = .ok (.iload 4, 2) := by decide +kernel
theorem dX12_span_117 : decode cX12_span 117 = .ok (.invokestatic 511, 3) := by decide +kernel
theorem dX12_span_120 : decode cX12_span 120 = .ok (.ifCond .eq 7, 3) := by decide +kernel
theorem dX12_span_123 : decode cX12_span 123 = .ok (.iconst 1, 1) := by decide +kernel
theorem dX12_span_124 : decode cX12_span 124 = .ok (.goto 4, 3) := by decide +kernel
theorem dX12_span_127 : decode cX12_span 127 = .ok (.iconst 0, 1) := by decide +kernel
theorem dX12_span_128 : decode cX12_span 128 = .ok (.iadd, 1) := by decide +kernel
theorem dX12_span_129 : decode cX12_span 129 = .ok (.istore 5, 2) := by decide +kernel
theorem dX12_span_131 : decode cX12_span 131 = .ok (.iinc 6 1, 3) := by decide +kernel
theorem dX12_span_134 : decode cX12_span 134 = .ok (.goto (-77), 3) := by decide +kernel
theorem dX12_span_137 : decode cX12_span 137 = .ok (.aload_n 0, 1) := by decide +kernel
theorem dX12_span_138 : decode cX12_span 138 = .ok (.iload 5, 2) := by decide +kernel
theorem dX12_span_140 : decode cX12_span 140 = .ok (.invokevirtual 328, 3) := by decide +kernel
theorem dX12_span_143 : decode cX12_span 143 = .ok (.ireturn, 1) := by decide +kernel
theorem dX12_run_0 : decode cX12_run 0 = .ok (.iload_n 1, 1) := by decide +kernel
theorem dX12_run_1 : decode cX12_run 1 = .ok (.iconst 0, 1) := by decide +kernel
theorem dX12_run_2 : decode cX12_run 2 = .ok (.iconst 1, 1) := by decide +kernel
theorem dX12_run_3 : decode cX12_run 3 = .ok (.invokestatic 246, 3) := by decide +kernel
theorem dX12_run_6 : decode cX12_run 6 = .ok (.ifCond .ne 9, 3) := by decide +kernel
theorem dX12_run_9 : decode cX12_run 9 = .ok (.aload_n 0, 1) := by decide +kernel
theorem dX12_run_10 : decode cX12_run 10 = .ok (.iconst 1, 1) := by decide +kernel
theorem dX12_run_11 : decode cX12_run 11 = .ok (.invokevirtual 305, 3) := by decide +kernel
theorem dX12_run_14 : decode cX12_run 14 = .ok (.ireturn, 1) := by decide +kernel
theorem dX12_run_15 : decode cX12_run 15 = .ok (.aload_n 0, 1) := by decide +kernel
theorem dX12_run_16 : decode cX12_run 16 = .ok (.invokevirtual 544, 3) := by decide +kernel
theorem dX12_run_19 : decode cX12_run 19 = .ok (.ifCond .ne 9, 3) := by decide +kernel
theorem dX12_run_22 : decode cX12_run 22 = .ok (.aload_n 0, 1) := by decide +kernel
theorem dX12_run_23 : decode cX12_run 23 = .ok (.iconst 3, 1) := by decide +kernel
theorem dX12_run_24 : decode cX12_run 24 = .ok (.invokevirtual 305, 3) := by decide +kernel
theorem dX12_run_27 : decode cX12_run 27 = .ok (.ireturn, 1) := by decide +kernel
theorem dX12_run_28 : decode cX12_run 28 = .ok (.aload_n 0, 1) := by decide +kernel
theorem dX12_run_29 : decode cX12_run 29 = .ok (.invokevirtual 456, 3) := by decide +kernel
theorem dX12_run_32 : decode cX12_run 32 = .ok (.iconst (-1), 1) := by decide +kernel
theorem dX12_run_33 : decode cX12_run 33 = .ok (.if_icmp .eq 9, 3) := by decide +kernel
theorem dX12_run_36 : decode cX12_run 36 = .ok (.aload_n 0, 1) := by decide +kernel
theorem dX12_run_37 : decode cX12_run 37 = .ok (.iconst 5, 1) := by decide +kernel
theorem dX12_run_38 : decode cX12_run 38 = .ok (.invokevirtual 305, 3) := by decide +kernel
theorem dX12_run_41 : decode cX12_run 41 = .ok (.ireturn, 1) := by decide +kernel
theorem dX12_run_42 : decode cX12_run 42 = .ok (.aload_n 0, 1) := by decide +kernel
theorem dX12_run_43 : decode cX12_run 43 = .ok (.invokevirtual 389, 3) := by decide +kernel
theorem dX12_run_46 : decode cX12_run 46 = .ok (.iconst 0, 1) := by decide +kernel
theorem dX12_run_47 : decode cX12_run 47 = .ok (.istore_n 2, 1) := by decide +kernel
theorem dX12_run_48 : decode cX12_run 48 = .ok (.iconst 0, 1) := by decide +kernel
theorem dX12_run_49 : decode cX12_run 49 = .ok (.istore_n 3, 1) := by decide +kernel
theorem dX12_run_50 : decode cX12_run 50 = .ok (.iload_n 3, 1) := by decide +kernel
theorem dX12_run_51 : decode cX12_run 51 = .ok (.aload_n 0, 1) := by decide +kernel
theorem dX12_run_52 : decode cX12_run 52 = .ok (.getfield 322, 3) := by decide +kernel
theorem dX12_run_55 : decode cX12_run 55 = .ok (.if_icmp .ge 92, 3) := by decide +kernel
theorem dX12_run_58 : decode cX12_run 58 = .ok (.iload_n 2, 1) := by decide +kernel
theorem dX12_run_59 : decode cX12_run 59 = .ok (.iload_n 1, 1) := by decide +kernel
theorem dX12_run_60 : decode cX12_run 60 = .ok (.ifCond .ne 16, 3) := by decide +kernel
theorem dX12_run_63 : decode cX12_run 63 = .ok (.aload_n 0, 1) := by decide +kernel
theorem dX12_run_64 : decode cX12_run 64 = .ok (.getfield 54, 3) := by decide +kernel
theorem dX12_run_67 : decode cX12_run 67 = .ok (.aload_n 0, 1) := by decide +kernel
theorem dX12_run_68 : decode cX12_run 68 = .ok (.iload_n 3, 1) := by decide +kernel
theorem dX12_run_69 : decode cX12_run 69 = .ok (.invokevirtual 487, 3) := by decide +kernel
theorem dX12_run_72 : decode cX12_run 72 = .ok (.iaload, 1) := by decide +kernel
theorem dX12_run_73 : decode cX12_run 73 = .ok (.goto 4, 3) := by decide +kernel
theorem dX12_run_76 : decode cX12_run 76 = .ok (.iconst 0, 1) := by decide +kernel
theorem dX12_run_77 : decode cX12_run 77 = .ok (.iadd, 1) := by decide +kernel
theorem dX12_run_78 : decode cX12_run 78 = .ok (.istore_n 2, 1) := by decide +kernel
theorem dX12_run_79 : decode cX12_run 79 = .ok (.iconst 0, 1) := by decide +kernel
theorem dX12_run_80 : decode cX12_run 80 = .ok (.istore 4, 2) := by decide +kernel
theorem dX12_run_82 : decode cX12_run 82 = .ok (.iload 4, 2) := by decide +kernel
theorem dX12_run_84 : decode cX12_run 84 = .ok (.bipush 32, 2) := by decide +kernel
theorem dX12_run_86 : decode cX12_run 86 = .ok (.if_icmp .ge 55, 3) := by decide +kernel
theorem dX12_run_89 : decode cX12_run 89 = .ok (.iload_n 1, 1) := by decide +kernel
theorem dX12_run_90 : decode cX12_run 90 = .ok (.iconst 1, 1) := by decide +kernel
theorem dX12_run_91 : decode cX12_run 91 = .ok (.if_icmp .ne 50, 3) := by decide +kernel
theorem dX12_run_94 : decode cX12_run 94 = .ok (.iload_n 2, 1) := by decide +kernel
theorem dX12_run_95 : decode cX12_run 95 = .ok (.aload_n 0, 1) := by decide +kernel
theorem dX12_run_96 : decode cX12_run 96 = .ok (.aload_n 0, 1) := by decide +kernel
theorem dX12_run_97 : decode cX12_run 97 = .ok (.getfield 75, 3) := by decide +kernel
theorem dX12_run_100 : decode cX12_run 100 = .ok (.iload_n 3, 1) := by decide +kernel
theorem dX12_run_101 : decode cX12_run 101 = .ok (.iaload, 1) := by decide +kernel
theorem dX12_run_102 : decode cX12_run 102 = .ok (.iload 4, 2) := by decide +kernel
theorem dX12_run_104 : decode cX12_run 104 = .ok (.invokevirtual 401, 3) := by decide +kernel
theorem dX12_run_107 : decode cX12_run 107 = .ok (.ifCond .eq 25, 3) := by decide +kernel
theorem dX12_run_110 : decode cX12_run 110 = .ok (.aload_n 0, 1) := by decide +kernel
theorem dX12_run_111 : decode cX12_run 111 = .ok (.getfield 13, 3) := by decide +kernel
theorem dX12_run_114 : decode cX12_run 114 = .ok (.aload_n 0, 1) := by decide +kernel
theorem dX12_run_115 : decode cX12_run 115 = .ok (.getfield 75, 3) := by decide +kernel
theorem dX12_run_118 : decode cX12_run 118 = .ok (.iload_n 3, 1) := by decide +kernel
theorem dX12_run_119 : decode cX12_run 119 = .ok (.iaload, 1) := by decide +kernel
theorem dX12_run_120 : decode cX12_run 120 = .ok (.iload 4, 2) := by decide +kernel
theorem dX12_run_122 : decode cX12_run 122 = .ok (.invokestatic 264, 3) := by decide +kernel
theorem dX12_run_125 : decode cX12_run 125 = .ok (.ifCond .eq 7, 3) := by decide +kernel
theorem dX12_run_128 : decode cX12_run 128 = .ok (.iconst 1, 1) := by decide +kernel
theorem dX12_run_129 : decode cX12_run 129 = .ok (.goto 4, 3) := by decide +kernel
theorem dX12_run_132 : decode cX12_run 132 = .ok (.iconst 0, 1) := by decide +kernel
theorem dX12_run_133 : decode cX12_run 133 = .ok (.iadd, 1) := by decide +kernel
theorem dX12_run_134 : decode cX12_run 134 = .ok (.istore_n 2, 1) := by decide +kernel
theorem dX12_run_135 : decode cX12_run 135 = .ok (.iinc 4 1, 3) := by decide +kernel
theorem dX12_run_138 : decode cX12_run 138 = .ok (.goto (-56), 3) := by decide +kernel
theorem dX12_run_141 : decode cX12_run 141 = .ok (.iinc 3 1, 3) := by decide +kernel
theorem dX12_run_144 : decode cX12_run 144 = .ok (.goto (-94), 3) := by decide +kernel
theorem dX12_run_147 : decode cX12_run 147 = .ok (.aload_n 0, 1) := by decide +kernel
theorem dX12_run_148 : decode cX12_run 148 = .ok (.iload_n 2, 1) := by decide +kernel
theorem dX12_run_149 : decode cX12_run 149 = .ok (.invokevirtual 328, 3) := by decide +kernel
theorem dX12_run_152 : decode cX12_run 152 = .ok (.ireturn, 1) := by decide +kernel
theorem dX12_longest_0 : decode cX12_longest 0 = .ok (.aload_n 0, 1) := by decide +kernel
theorem dX12_longest_1 : decode cX12_longest 1 = .ok (.invokevirtual 544, 3) := by decide +kernel
theorem dX12_longest_4 : decode cX12_longest 4 = .ok (.ifCond .ne 9, 3) := by decide +kernel
theorem dX12_longest_7 : decode cX12_longest 7 = .ok (.aload_n 0, 1) := by decide +kernel
theorem dX12_longest_8 : decode cX12_longest 8 = .ok (.iconst 3, 1) := by decide +kernel
theorem dX12_longest_9 : decode cX12_longest 9 = .ok (.invokevirtual 305, 3) := by decide +kernel
theorem dX12_longest_12 : decode cX12_longest 12 = .ok (.ireturn, 1) := by decide +kernel
theorem dX12_longest_13 : decode cX12_longest 13 = .ok (.iconst 0, 1) := by decide +kernel
theorem dX12_longest_14 : decode cX12_longest 14 = .ok (.istore_n 1, 1) := by decide +kernel
theorem dX12_longest_15 : decode cX12_longest 15 = .ok (.iconst 0, 1) := by decide +kernel
theorem dX12_longest_16 : decode cX12_longest 16 = .ok (.istore_n 2, 1) := by decide +kernel
theorem dX12_longest_17 : decode cX12_longest 17 = .ok (.iload_n 2, 1) := by decide +kernel
theorem dX12_longest_18 : decode cX12_longest 18 = .ok (.aload_n 0, 1) := by decide +kernel
theorem dX12_longest_19 : decode cX12_longest 19 = .ok (.getfield 535, 3) := by decide +kernel
theorem dX12_longest_22 : decode cX12_longest 22 = .ok (.if_icmp .ge 123, 3) := by decide +kernel
theorem dX12_longest_25 : decode cX12_longest 25 = .ok (.aload_n 0, 1) := by decide +kernel
theorem dX12_longest_26 : decode cX12_longest 26 = .ok (.getfield 111, 3) := by decide +kernel
theorem dX12_longest_29 : decode cX12_longest 29 = .ok (.iload_n 2, 1) := by decide +kernel
theorem dX12_longest_30 : decode cX12_longest 30 = .ok (.iaload, 1) := by decide +kernel
theorem dX12_longest_31 : decode cX12_longest 31 = .ok (.istore_n 3, 1) := by decide +kernel
theorem dX12_longest_32 : decode cX12_longest 32 = .ok (.aload_n 0, 1) := by decide +kernel
theorem dX12_longest_33 : decode cX12_longest 33 = .ok (.getfield 148, 3) := by decide +kernel
theorem dX12_longest_36 : decode cX12_longest 36 = .ok (.iload_n 3, 1) := by decide +kernel
theorem dX12_longest_37 : decode cX12_longest 37 = .ok (.iconst 0, 1) := by decide +kernel
theorem dX12_longest_38 : decode cX12_longest 38 = .ok (.iastore, 1) := by decide +kernel
theorem dX12_longest_39 : decode cX12_longest 39 = .ok (.aload_n 0, 1) := by decide +kernel
theorem dX12_longest_40 : decode cX12_longest 40 = .ok (.getfield 105, 3) := by decide +kernel
theorem dX12_longest_43 : decode cX12_longest 43 = .ok (.iload_n 3, 1) := by decide +kernel
theorem dX12_longest_44 : decode cX12_longest 44 = .ok (.iaload, 1) := by decide +kernel
theorem dX12_longest_45 : decode cX12_longest 45 = .ok (.iconst (-1), 1) := by decide +kernel
theorem dX12_longest_46 : decode cX12_longest 46 = .ok (.if_icmp .eq 6, 3) := by decide +kernel
theorem dX12_longest_49 : decode cX12_longest 49 = .ok (.goto 90, 3) := by decide +kernel
theorem dX12_longest_52 : decode cX12_longest 52 = .ok (.aload_n 0, 1) := by decide +kernel
theorem dX12_longest_53 : decode cX12_longest 53 = .ok (.getfield 148, 3) := by decide +kernel
theorem dX12_longest_56 : decode cX12_longest 56 = .ok (.iload_n 3, 1) := by decide +kernel
theorem dX12_longest_57 : decode cX12_longest 57 = .ok (.iconst 1, 1) := by decide +kernel
theorem dX12_longest_58 : decode cX12_longest 58 = .ok (.iastore, 1) := by decide +kernel
theorem dX12_longest_59 : decode cX12_longest 59 = .ok (.iconst 0, 1) := by decide +kernel
theorem dX12_longest_60 : decode cX12_longest 60 = .ok (.istore 4, 2) := by decide +kernel
theorem dX12_longest_62 : decode cX12_longest 62 = .ok (.iload 4, 2) := by decide +kernel
theorem dX12_longest_64 : decode cX12_longest 64 = .ok (.bipush 8, 2) := by decide +kernel
theorem dX12_longest_66 : decode cX12_longest 66 = .ok (.aload_n 0, 1) := by decide +kernel
theorem dX12_longest_67 : decode cX12_longest 67 = .ok (.getfield 322, 3) := by decide +kernel
theorem dX12_longest_70 : decode cX12_longest 70 = .ok (.imul, 1) := by decide +kernel
theorem dX12_longest_71 : decode cX12_longest 71 = .ok (.if_icmp .ge 57, 3) := by decide +kernel
theorem dX12_longest_74 : decode cX12_longest 74 = .ok (.aload_n 0, 1) := by decide +kernel
theorem dX12_longest_75 : decode cX12_longest 75 = .ok (.getfield 120, 3) := by decide +kernel
theorem dX12_longest_78 : decode cX12_longest 78 = .ok (.iload_n 3, 1) := by decide +kernel
theorem dX12_longest_79 : decode cX12_longest 79 = .ok (.iload 4, 2) := by decide +kernel
theorem dX12_longest_81 : decode cX12_longest 81 = .ok (.invokestatic 511, 3) := by decide +kernel
theorem dX12_longest_84 : decode cX12_longest 84 = .ok (.ifCond .eq 38, 3) := by decide +kernel
theorem dX12_longest_87 : decode cX12_longest 87 = .ok (.aload_n 0, 1) := by decide +kernel
theorem dX12_longest_88 : decode cX12_longest 88 = .ok (.getfield 105, 3) := by decide +kernel
theorem dX12_longest_91 : decode cX12_longest 91 = .ok (.iload 4, 2) := by decide +kernel
theorem dX12_longest_93 : decode cX12_longest 93 = .ok (.iaload, 1) := by decide +kernel
theorem dX12_longest_94 : decode cX12_longest 94 = .ok (.iconst (-1), 1) := by decide +kernel
theorem dX12_longest_95 : decode cX12_longest 95 = .ok (.if_icmp .ne 27, 3) := by decide +kernel
theorem dX12_longest_98 : decode cX12_longest 98 = .ok (.aload_n 0, 1) := by decide +kernel
theorem dX12_longest_99 : decode cX12_longest 99 = .ok (.getfield 148, 3) := by decide +kernel
theorem dX12_longest_102 : decode cX12_longest 102 = .ok (.iload_n 3, 1) := by decide +kernel
theorem dX12_longest_103 : decode cX12_longest 103 = .ok (.aload_n 0, 1) := by decide +kernel
theorem dX12_longest_104 : decode cX12_longest 104 = .ok (.getfield 148, 3) := by decide +kernel
theorem dX12_longest_107 : decode cX12_longest 107 = .ok (.iload_n 3, 1) := by decide +kernel
theorem dX12_longest_108 : decode cX12_longest 108 = .ok (.iaload, 1) := by decide +kernel
theorem dX12_longest_109 : decode cX12_longest 109 = .ok (.aload_n 0, 1) := by decide +kernel
theorem dX12_longest_110 : decode cX12_longest 110 = .ok (.getfield 148, 3) := by decide +kernel
theorem dX12_longest_113 : decode cX12_longest 113 = .ok (.iload 4, 2) := by decide +kernel
theorem dX12_longest_115 : decode cX12_longest 115 = .ok (.iaload, 1) := by decide +kernel
theorem dX12_longest_116 : decode cX12_longest 116 = .ok (.iconst 1, 1) := by decide +kernel
theorem dX12_longest_117 : decode cX12_longest 117 = .ok (.iadd, 1) := by decide +kernel
theorem dX12_longest_118 : decode cX12_longest 118 = .ok (.invokestatic 514, 3) := by decide +kernel
theorem dX12_longest_121 : decode cX12_longest 121 = .ok (.iastore, 1) := by decide +kernel
theorem dX12_longest_122 : decode cX12_longest 122 = .ok (.iinc 4 1, 3) := by decide +kernel
theorem dX12_longest_125 : decode cX12_longest 125 = .ok (.goto (-63), 3) := by decide +kernel
theorem dX12_longest_128 : decode cX12_longest 128 = .ok (.iload_n 1, 1) := by decide +kernel
theorem dX12_longest_129 : decode cX12_longest 129 = .ok (.aload_n 0, 1) := by decide +kernel
theorem dX12_longest_130 : decode cX12_longest 130 = .ok (.getfield 148, 3) := by decide +kernel
theorem dX12_longest_133 : decode cX12_longest 133 = .ok (.iload_n 3, 1) := by decide +kernel
theorem dX12_longest_134 : decode cX12_longest 134 = .ok (.iaload, 1) := by decide +kernel
theorem dX12_longest_135 : decode cX12_longest 135 = .ok (.invokestatic 514, 3) := by decide +kernel
theorem dX12_longest_138 : decode cX12_longest 138 = .ok (.istore_n 1, 1) := by decide +kernel
theorem dX12_longest_139 : decode cX12_longest 139 = .ok (.iinc 2 1, 3) := by decide +kernel
theorem dX12_longest_142 : decode cX12_longest 142 = .ok (.goto (-125), 3) := by decide +kernel
theorem dX12_longest_145 : decode cX12_longest 145 = .ok (.aload_n 0, 1) := by decide +kernel
theorem dX12_longest_146 : decode cX12_longest 146 = .ok (.iload_n 1, 1) := by decide +kernel
theorem dX12_longest_147 : decode cX12_longest 147 = .ok (.invokevirtual 328, 3) := by decide +kernel
theorem dX12_longest_150 : decode cX12_longest 150 = .ok (.ireturn, 1) := by decide +kernel
theorem dX12_beginsChange_0 : decode cX12_beginsChange 0 = .ok (.iconst 0, 1) := by decide +kernel
theorem dX12_beginsChange_1 : decode cX12_beginsChange 1 = .ok (.istore_n 1, 1) := by decide +kernel
theorem dX12_beginsChange_2 : decode cX12_beginsChange 2 = .ok (.iload_n 1, 1) := by decide +kernel
theorem dX12_beginsChange_3 : decode cX12_beginsChange 3 = .ok (.sipush 320, 3) := by decide +kernel
theorem dX12_beginsChange_6 : decode cX12_beginsChange 6 = .ok (.if_icmp .ge 54, 3) := by decide +kernel
theorem dX12_beginsChange_9 : decode cX12_beginsChange 9 = .ok (.aload_n 0, 1) := by decide +kernel
theorem dX12_beginsChange_10 : decode cX12_beginsChange 10 = .ok (.getfield 136, 3) := by decide +kernel
theorem dX12_beginsChange_13 : decode cX12_beginsChange 13 = .ok (.iload_n 1, 1) := by decide +kernel
theorem dX12_beginsChange_14 : decode cX12_beginsChange 14 = .ok (.iconst 0, 1) := by decide +kernel
theorem dX12_beginsChange_15 : decode cX12_beginsChange 15 = .ok (.bastore, 1) := by decide +kernel
theorem dX12_beginsChange_16 : decode cX12_beginsChange 16 = .ok (.aload_n 0, 1) := by decide +kernel
theorem dX12_beginsChange_17 : decode cX12_beginsChange 17 = .ok (.getfield 139, 3) := by decide +kernel
theorem dX12_beginsChange_20 : decode cX12_beginsChange 20 = .ok (.iload_n 1, 1) := by decide +kernel
theorem dX12_beginsChange_21 : decode cX12_beginsChange 21 = .ok (.iconst 0, 1) := by decide +kernel
theorem dX12_beginsChange_22 : decode cX12_beginsChange 22 = .ok (.bastore, 1) := by decide +kernel
theorem dX12_beginsChange_23 : decode cX12_beginsChange 23 = .ok (.aload_n 0, 1) := by decide +kernel
theorem dX12_beginsChange_24 : decode cX12_beginsChange 24 = .ok (.getfield 142, 3) := by decide +kernel
theorem dX12_beginsChange_27 : decode cX12_beginsChange 27 = .ok (.iload_n 1, 1) := by decide +kernel
theorem dX12_beginsChange_28 : decode cX12_beginsChange 28 = .ok (.iconst 0, 1) := by decide +kernel
theorem dX12_beginsChange_29 : decode cX12_beginsChange 29 = .ok (.bastore, 1) := by decide +kernel
theorem dX12_beginsChange_30 : decode cX12_beginsChange 30 = .ok (.aload_n 0, 1) := by decide +kernel
theorem dX12_beginsChange_31 : decode cX12_beginsChange 31 = .ok (.getfield 114, 3) := by decide +kernel
theorem dX12_beginsChange_34 : decode cX12_beginsChange 34 = .ok (.iload_n 1, 1) := by decide +kernel
theorem dX12_beginsChange_35 : decode cX12_beginsChange 35 = .ok (.aload_n 0, 1) := by decide +kernel
theorem dX12_beginsChange_36 : decode cX12_beginsChange 36 = .ok (.getfield 102, 3) := by decide +kernel
theorem dX12_beginsChange_39 : decode cX12_beginsChange 39 = .ok (.iload_n 1, 1) := by decide +kernel
theorem dX12_beginsChange_40 : decode cX12_beginsChange 40 = .ok (.iaload, 1) := by decide +kernel
theorem dX12_beginsChange_41 : decode cX12_beginsChange 41 = .ok (.iastore, 1) := by decide +kernel
theorem dX12_beginsChange_42 : decode cX12_beginsChange 42 = .ok (.aload_n 0, 1) := by decide +kernel
theorem dX12_beginsChange_43 : decode cX12_beginsChange 43 = .ok (.getfield 117, 3) := by decide +kernel
theorem dX12_beginsChange_46 : decode cX12_beginsChange 46 = .ok (.iload_n 1, 1) := by decide +kernel
theorem dX12_beginsChange_47 : decode cX12_beginsChange 47 = .ok (.aload_n 0, 1) := by decide +kernel
theorem dX12_beginsChange_48 : decode cX12_beginsChange 48 = .ok (.getfield 105, 3) := by decide +kernel
theorem dX12_beginsChange_51 : decode cX12_beginsChange 51 = .ok (.iload_n 1, 1) := by decide +kernel
theorem dX12_beginsChange_52 : decode cX12_beginsChange 52 = .ok (.iaload, 1) := by decide +kernel
theorem dX12_beginsChange_53 : decode cX12_beginsChange 53 = .ok (.iastore, 1) := by decide +kernel
theorem dX12_beginsChange_54 : decode cX12_beginsChange 54 = .ok (.iinc 1 1, 3) := by decide +kernel
theorem dX12_beginsChange_57 : decode cX12_beginsChange 57 = .ok (.goto (-55), 3) := by decide +kernel
theorem dX12_beginsChange_60 : decode cX12_beginsChange 60 = .ok (.return_, 1) := by decide +kernel
theorem dX12_hangsOnChanged_0 : decode cX12_hangsOnChanged 0 = .ok (.iconst 0, 1) := by decide +kernel
theorem dX12_hangsOnChanged_1 : decode cX12_hangsOnChanged 1 = .ok (.istore_n 2, 1) := by decide +kernel
theorem dX12_hangsOnChanged_2 : decode cX12_hangsOnChanged 2 = .ok (.iload_n 2, 1) := by decide +kernel
theorem dX12_hangsOnChanged_3 : decode cX12_hangsOnChanged 3 = .ok (.bipush 8, 2) := by decide +kernel
theorem dX12_hangsOnChanged_5 : decode cX12_hangsOnChanged 5 = .ok (.aload_n 0, 1) := by decide +kernel
theorem dX12_hangsOnChanged_6 : decode cX12_hangsOnChanged 6 = .ok (.getfield 322, 3) := by decide +kernel
theorem dX12_hangsOnChanged_9 : decode cX12_hangsOnChanged 9 = .ok (.imul, 1) := by decide +kernel
theorem dX12_hangsOnChanged_10 : decode cX12_hangsOnChanged 10 = .ok (.if_icmp .ge 32, 3) := by decide +kernel
theorem dX12_hangsOnChanged_13 : decode cX12_hangsOnChanged 13 = .ok (.aload_n 0, 1) := by decide +kernel
theorem dX12_hangsOnChanged_14 : decode cX12_hangsOnChanged 14 = .ok (.getfield 120, 3) := by decide +kernel
theorem dX12_hangsOnChanged_17 : decode cX12_hangsOnChanged 17 = .ok (.iload_n 1, 1) := by decide +kernel
theorem dX12_hangsOnChanged_18 : decode cX12_hangsOnChanged 18 = .ok (.iload_n 2, 1) := by decide +kernel
theorem dX12_hangsOnChanged_19 : decode cX12_hangsOnChanged 19 = .ok (.invokestatic 511, 3) := by decide +kernel
theorem dX12_hangsOnChanged_22 : decode cX12_hangsOnChanged 22 = .ok (.ifCond .eq 14, 3) := by decide +kernel
theorem dX12_hangsOnChanged_25 : decode cX12_hangsOnChanged 25 = .ok (.aload_n 0, 1) := by decide +kernel
theorem dX12_hangsOnChanged_26 : decode cX12_hangsOnChanged 26 = .ok (.getfield 142, 3) := by decide +kernel
theorem dX12_hangsOnChanged_29 : decode cX12_hangsOnChanged 29 = .ok (.iload_n 2, 1) := by decide +kernel
theorem dX12_hangsOnChanged_30 : decode cX12_hangsOnChanged 30 = .ok (.baload, 1) := by decide +kernel
theorem dX12_hangsOnChanged_31 : decode cX12_hangsOnChanged 31 = .ok (.ifCond .eq 5, 3) := by decide +kernel
theorem dX12_hangsOnChanged_34 : decode cX12_hangsOnChanged 34 = .ok (.iconst 1, 1) := by decide +kernel
theorem dX12_hangsOnChanged_35 : decode cX12_hangsOnChanged 35 = .ok (.ireturn, 1) := by decide +kernel
theorem dX12_hangsOnChanged_36 : decode cX12_hangsOnChanged 36 = .ok (.iinc 2 1, 3) := by decide +kernel
theorem dX12_hangsOnChanged_39 : decode cX12_hangsOnChanged 39 = .ok (.goto (-37), 3) := by decide +kernel
theorem dX12_hangsOnChanged_42 : decode cX12_hangsOnChanged 42 = .ok (.iconst 0, 1) := by decide +kernel
theorem dX12_hangsOnChanged_43 : decode cX12_hangsOnChanged 43 = .ok (.ireturn, 1) := by decide +kernel
theorem dX12_isTouched_0 : decode cX12_isTouched 0 = .ok (.aload_n 0, 1) := by decide +kernel
theorem dX12_isTouched_1 : decode cX12_isTouched 1 = .ok (.getfield 136, 3) := by decide +kernel
theorem dX12_isTouched_4 : decode cX12_isTouched 4 = .ok (.iload_n 1, 1) := by decide +kernel
theorem dX12_isTouched_5 : decode cX12_isTouched 5 = .ok (.baload, 1) := by decide +kernel
theorem dX12_isTouched_6 : decode cX12_isTouched 6 = .ok (.ifCond .ne 20, 3) := by decide +kernel
theorem dX12_isTouched_9 : decode cX12_isTouched 9 = .ok (.aload_n 0, 1) := by decide +kernel
theorem dX12_isTouched_10 : decode cX12_isTouched 10 = .ok (.getfield 139, 3) := by decide +kernel
theorem dX12_isTouched_13 : decode cX12_isTouched 13 = .ok (.iload_n 1, 1) := by decide +kernel
theorem dX12_isTouched_14 : decode cX12_isTouched 14 = .ok (.baload, 1) := by decide +kernel
theorem dX12_isTouched_15 : decode cX12_isTouched 15 = .ok (.ifCond .ne 11, 3) := by decide +kernel
theorem dX12_isTouched_18 : decode cX12_isTouched 18 = .ok (.aload_n 0, 1) := by decide +kernel
theorem dX12_isTouched_19 : decode cX12_isTouched 19 = .ok (.iload_n 1, 1) := by decide +kernel
theorem dX12_isTouched_20 : decode cX12_isTouched 20 = .ok (.invokevirtual 547, 3) := by decide +kernel
theorem dX12_isTouched_23 : decode cX12_isTouched 23 = .ok (.ifCond .eq 7, 3) := by decide +kernel
theorem dX12_isTouched_26 : decode cX12_isTouched 26 = .ok (.iconst 1, 1) := by decide +kernel
theorem dX12_isTouched_27 : decode cX12_isTouched 27 = .ok (.goto 4, 3) := by decide +kernel
theorem dX12_isTouched_30 : decode cX12_isTouched 30 = .ok (.iconst 0, 1) := by decide +kernel
theorem dX12_isTouched_31 : decode cX12_isTouched 31 = .ok (.ireturn, 1) := by decide +kernel
theorem dX12_isOf_0 : decode cX12_isOf 0 = .ok (.aload_n 0, 1) := by decide +kernel
theorem dX12_isOf_1 : decode cX12_isOf 1 = .ok (.getfield 126, 3) := by decide +kernel
theorem dX12_isOf_4 : decode cX12_isOf 4 = .ok (.iload_n 1, 1) := by decide +kernel
theorem dX12_isOf_5 : decode cX12_isOf 5 = .ok (.baload, 1) := by decide +kernel
theorem dX12_isOf_6 : decode cX12_isOf 6 = .ok (.ifCond .eq 37, 3) := by decide +kernel
theorem dX12_isOf_9 : decode cX12_isOf 9 = .ok (.iload_n 1, 1) := by decide +kernel
theorem dX12_isOf_10 : decode cX12_isOf 10 = .ok (.iload_n 2, 1) := by decide +kernel
theorem dX12_isOf_11 : decode cX12_isOf 11 = .ok (.if_icmp .eq 28, 3) := by decide +kernel
theorem dX12_isOf_14 : decode cX12_isOf 14 = .ok (.aload_n 0, 1) := by decide +kernel
theorem dX12_isOf_15 : decode cX12_isOf 15 = .ok (.getfield 105, 3) := by decide +kernel
theorem dX12_isOf_18 : decode cX12_isOf 18 = .ok (.iload_n 2, 1) := by decide +kernel
theorem dX12_isOf_19 : decode cX12_isOf 19 = .ok (.iaload, 1) := by decide +kernel
theorem dX12_isOf_20 : decode cX12_isOf 20 = .ok (.iconst (-1), 1) := by decide +kernel
theorem dX12_isOf_21 : decode cX12_isOf 21 = .ok (.if_icmp .eq 22, 3) := by decide +kernel
theorem dX12_isOf_24 : decode cX12_isOf 24 = .ok (.aload_n 0, 1) := by decide +kernel
theorem dX12_isOf_25 : decode cX12_isOf 25 = .ok (.getfield 105, 3) := by decide +kernel
theorem dX12_isOf_28 : decode cX12_isOf 28 = .ok (.iload_n 1, 1) := by decide +kernel
theorem dX12_isOf_29 : decode cX12_isOf 29 = .ok (.iaload, 1) := by decide +kernel
theorem dX12_isOf_30 : decode cX12_isOf 30 = .ok (.aload_n 0, 1) := by decide +kernel
theorem dX12_isOf_31 : decode cX12_isOf 31 = .ok (.getfield 105, 3) := by decide +kernel
theorem dX12_isOf_34 : decode cX12_isOf 34 = .ok (.iload_n 2, 1) := by decide +kernel
theorem dX12_isOf_35 : decode cX12_isOf 35 = .ok (.iaload, 1) := by decide +kernel
theorem dX12_isOf_36 : decode cX12_isOf 36 = .ok (.if_icmp .ne 7, 3) := by decide +kernel
theorem dX12_isOf_39 : decode cX12_isOf 39 = .ok (.iconst 1, 1) := by decide +kernel
theorem dX12_isOf_40 : decode cX12_isOf 40 = .ok (.goto 4, 3) := by decide +kernel
theorem dX12_isOf_43 : decode cX12_isOf 43 = .ok (.iconst 0, 1) := by decide +kernel
theorem dX12_isOf_44 : decode cX12_isOf 44 = .ok (.ireturn, 1) := by decide +kernel
theorem dX12_counts_0 : decode cX12_counts 0 = .ok (.aload_n 0, 1) := by decide +kernel
theorem dX12_counts_1 : decode cX12_counts 1 = .ok (.invokevirtual 481, 3) := by decide +kernel
theorem dX12_counts_4 : decode cX12_counts 4 = .ok (.aload_n 0, 1) := by decide +kernel
theorem dX12_counts_5 : decode cX12_counts 5 = .ok (.iconst 1, 1) := by decide +kernel
theorem dX12_counts_6 : decode cX12_counts 6 = .ok (.putfield 478, 3) := by decide +kernel
theorem dX12_counts_9 : decode cX12_counts 9 = .ok (.aload_n 0, 1) := by decide +kernel
theorem dX12_counts_10 : decode cX12_counts 10 = .ok (.iconst 0, 1) := by decide +kernel
theorem dX12_counts_11 : decode cX12_counts 11 = .ok (.putfield 550, 3) := by decide +kernel
theorem dX12_counts_14 : decode cX12_counts 14 = .ok (.aload_n 0, 1) := by decide +kernel
theorem dX12_counts_15 : decode cX12_counts 15 = .ok (.iconst 0, 1) := by decide +kernel
theorem dX12_counts_16 : decode cX12_counts 16 = .ok (.putfield 553, 3) := by decide +kernel
theorem dX12_counts_19 : decode cX12_counts 19 = .ok (.iconst 0, 1) := by decide +kernel
theorem dX12_counts_20 : decode cX12_counts 20 = .ok (.istore_n 1, 1) := by decide +kernel
theorem dX12_counts_21 : decode cX12_counts 21 = .ok (.iload_n 1, 1) := by decide +kernel
theorem dX12_counts_22 : decode cX12_counts 22 = .ok (.aload_n 0, 1) := by decide +kernel
theorem dX12_counts_23 : decode cX12_counts 23 = .ok (.getfield 535, 3) := by decide +kernel
theorem dX12_counts_26 : decode cX12_counts 26 = .ok (.if_icmp .ge 179, 3) := by decide +kernel
theorem dX12_counts_29 : decode cX12_counts 29 = .ok (.aload_n 0, 1) := by decide +kernel
theorem dX12_counts_30 : decode cX12_counts 30 = .ok (.getfield 111, 3) := by decide +kernel
theorem dX12_counts_33 : decode cX12_counts 33 = .ok (.iload_n 1, 1) := by decide +kernel
theorem dX12_counts_34 : decode cX12_counts 34 = .ok (.iaload, 1) := by decide +kernel
theorem dX12_counts_35 : decode cX12_counts 35 = .ok (.istore_n 2, 1) := by decide +kernel
theorem dX12_counts_36 : decode cX12_counts 36 = .ok (.iconst 0, 1) := by decide +kernel
theorem dX12_counts_37 : decode cX12_counts 37 = .ok (.istore_n 3, 1) := by decide +kernel
theorem dX12_counts_38 : decode cX12_counts 38 = .ok (.iconst 0, 1) := by decide +kernel
theorem dX12_counts_39 : decode cX12_counts 39 = .ok (.istore 4, 2) := by decide +kernel
theorem dX12_counts_41 : decode cX12_counts 41 = .ok (.iload 4, 2) := by decide +kernel
theorem dX12_counts_43 : decode cX12_counts 43 = .ok (.bipush 8, 2) := by decide +kernel
theorem dX12_counts_45 : decode cX12_counts 45 = .ok (.aload_n 0, 1) := by decide +kernel
theorem dX12_counts_46 : decode cX12_counts 46 = .ok (.getfield 322, 3) := by decide +kernel
theorem dX12_counts_49 : decode cX12_counts 49 = .ok (.imul, 1) := by decide +kernel
theorem dX12_counts_50 : decode cX12_counts 50 = .ok (.if_icmp .ge 38, 3) := by decide +kernel
theorem dX12_counts_53 : decode cX12_counts 53 = .ok (.iload_n 3, 1) := by decide +kernel
theorem dX12_counts_54 : decode cX12_counts 54 = .ok (.ifCond .ne 22, 3) := by decide +kernel
theorem dX12_counts_57 : decode cX12_counts 57 = .ok (.aload_n 0, 1) := by decide +kernel
theorem dX12_counts_58 : decode cX12_counts 58 = .ok (.iload 4, 2) := by decide +kernel
theorem dX12_counts_60 : decode cX12_counts 60 = .ok (.iload_n 2, 1) := by decide +kernel
theorem dX12_counts_61 : decode cX12_counts 61 = .ok (.invokevirtual 556, 3) := by decide +kernel
theorem dX12_counts_64 : decode cX12_counts 64 = .ok (.ifCond .eq 16, 3) := by decide +kernel
theorem dX12_counts_67 : decode cX12_counts 67 = .ok (.aload_n 0, 1) := by decide +kernel
theorem dX12_counts_68 : decode cX12_counts 68 = .ok (.iload 4, 2) := by decide +kernel
theorem dX12_counts_70 : decode cX12_counts 70 = .ok (.invokevirtual 559, 3) := by decide +kernel
theorem dX12_counts_73 : decode cX12_counts 73 = .ok (.ifCond .eq 7, 3) := by decide +kernel
theorem dX12_counts_76 : decode cX12_counts 76 = .ok (.iconst 1, 1) := by decide +kernel
theorem dX12_counts_77 : decode cX12_counts 77 = .ok (.goto 4, 3) := by decide +kernel
theorem dX12_counts_80 : decode cX12_counts 80 = .ok (.iconst 0, 1) := by decide +kernel
theorem dX12_counts_81 : decode cX12_counts 81 = .ok (.istore_n 3, 1) := by decide +kernel
theorem dX12_counts_82 : decode cX12_counts 82 = .ok (.iinc 4 1, 3) := by decide +kernel
theorem dX12_counts_85 : decode cX12_counts 85 = .ok (.goto (-44), 3) := by decide +kernel
theorem dX12_counts_88 : decode cX12_counts 88 = .ok (.iconst 0, 1) := by decide +kernel
theorem dX12_counts_89 : decode cX12_counts 89 = .ok (.istore 4, 2) := by decide +kernel
theorem dX12_counts_91 : decode cX12_counts 91 = .ok (.iload 4, 2) := by decide +kernel
theorem dX12_counts_93 : decode cX12_counts 93 = .ok (.bipush 8, 2) := by decide +kernel
theorem dX12_counts_95 : decode cX12_counts 95 = .ok (.aload_n 0, 1) := by decide +kernel
theorem dX12_counts_96 : decode cX12_counts 96 = .ok (.getfield 322, 3) := by decide +kernel
theorem dX12_counts_99 : decode cX12_counts 99 = .ok (.imul, 1) := by decide +kernel
theorem dX12_counts_100 : decode cX12_counts 100 = .ok (.if_icmp .ge 99, 3) := by decide +kernel
theorem dX12_counts_103 : decode cX12_counts 103 = .ok (.iload_n 3, 1) := by decide +kernel
theorem dX12_counts_104 : decode cX12_counts 104 = .ok (.ifCond .eq 95, 3) := by decide +kernel
theorem dX12_counts_107 : decode cX12_counts 107 = .ok (.aload_n 0, 1) := by decide +kernel
theorem dX12_counts_108 : decode cX12_counts 108 = .ok (.iload 4, 2) := by decide +kernel
theorem dX12_counts_110 : decode cX12_counts 110 = .ok (.iload_n 2, 1) := by decide +kernel
theorem dX12_counts_111 : decode cX12_counts 111 = .ok (.invokevirtual 556, 3) := by decide +kernel
theorem dX12_counts_114 : decode cX12_counts 114 = .ok (.ifCond .ne 6, 3) := by decide +kernel
theorem dX12_counts_117 : decode cX12_counts 117 = .ok (.goto 76, 3) := by decide +kernel
theorem dX12_counts_120 : decode cX12_counts 120 = .ok (.aload_n 0, 1) := by decide +kernel
theorem dX12_counts_121 : decode cX12_counts 121 = .ok (.dup, 1) := by decide +kernel
theorem dX12_counts_122 : decode cX12_counts 122 = .ok (.getfield 550, 3) := by decide +kernel
theorem dX12_counts_125 : decode cX12_counts 125 = .ok (.iconst 1, 1) := by decide +kernel
theorem dX12_counts_126 : decode cX12_counts 126 = .ok (.iadd, 1) := by decide +kernel
theorem dX12_counts_127 : decode cX12_counts 127 = .ok (.putfield 550, 3) := by decide +kernel
theorem dX12_counts_130 : decode cX12_counts 130 = .ok (.aload_n 0, 1) := by decide +kernel
theorem dX12_counts_131 : decode cX12_counts 131 = .ok (.getfield 142, 3) := by decide +kernel
theorem dX12_counts_134 : decode cX12_counts 134 = .ok (.iload 4, 2) := by decide +kernel
theorem dX12_counts_136 : decode cX12_counts 136 = .ok (.aload_n 0, 1) := by decide +kernel
theorem dX12_counts_137 : decode cX12_counts 137 = .ok (.getfield 139, 3) := by decide +kernel
theorem dX12_counts_140 : decode cX12_counts 140 = .ok (.iload 4, 2) := by decide +kernel
theorem dX12_counts_142 : decode cX12_counts 142 = .ok (.baload, 1) := by decide +kernel
theorem dX12_counts_143 : decode cX12_counts 143 = .ok (.ifCond .ne 20, 3) := by decide +kernel
theorem dX12_counts_146 : decode cX12_counts 146 = .ok (.aload_n 0, 1) := by decide +kernel
theorem dX12_counts_147 : decode cX12_counts 147 = .ok (.getfield 102, 3) := by decide +kernel
theorem dX12_counts_150 : decode cX12_counts 150 = .ok (.iload 4, 2) := by decide +kernel
theorem dX12_counts_152 : decode cX12_counts 152 = .ok (.iaload, 1) := by decide +kernel
theorem dX12_counts_153 : decode cX12_counts 153 = .ok (.aload_n 0, 1) := by decide +kernel
theorem dX12_counts_154 : decode cX12_counts 154 = .ok (.getfield 114, 3) := by decide +kernel
theorem dX12_counts_157 : decode cX12_counts 157 = .ok (.iload 4, 2) := by decide +kernel
theorem dX12_counts_159 : decode cX12_counts 159 = .ok (.iaload, 1) := by decide +kernel
theorem dX12_counts_160 : decode cX12_counts 160 = .ok (.if_icmp .eq 7, 3) := by decide +kernel
theorem dX12_counts_163 : decode cX12_counts 163 = .ok (.iconst 1, 1) := by decide +kernel
theorem dX12_counts_164 : decode cX12_counts 164 = .ok (.goto 4, 3) := by decide +kernel
theorem dX12_counts_167 : decode cX12_counts 167 = .ok (.iconst 0, 1) := by decide +kernel
theorem dX12_counts_168 : decode cX12_counts 168 = .ok (.bastore, 1) := by decide +kernel
theorem dX12_counts_169 : decode cX12_counts 169 = .ok (.aload_n 0, 1) := by decide +kernel
theorem dX12_counts_170 : decode cX12_counts 170 = .ok (.dup, 1) := by decide +kernel
theorem dX12_counts_171 : decode cX12_counts 171 = .ok (.getfield 553, 3) := by decide +kernel
theorem dX12_counts_174 : decode cX12_counts 174 = .ok (.aload_n 0, 1) := by decide +kernel
theorem dX12_counts_175 : decode cX12_counts 175 = .ok (.getfield 142, 3) := by decide +kernel
theorem dX12_counts_178 : decode cX12_counts 178 = .ok (.iload 4, 2) := by decide +kernel
theorem dX12_counts_180 : decode cX12_counts 180 = .ok (.baload, 1) := by decide +kernel
theorem dX12_counts_181 : decode cX12_counts 181 = .ok (.ifCond .eq 7, 3) := by decide +kernel
theorem dX12_counts_184 : decode cX12_counts 184 = .ok (.iconst 1, 1) := by decide +kernel
theorem dX12_counts_185 : decode cX12_counts 185 = .ok (.goto 4, 3) := by decide +kernel
theorem dX12_counts_188 : decode cX12_counts 188 = .ok (.iconst 0, 1) := by decide +kernel
theorem dX12_counts_189 : decode cX12_counts 189 = .ok (.iadd, 1) := by decide +kernel
theorem dX12_counts_190 : decode cX12_counts 190 = .ok (.putfield 553, 3) := by decide +kernel
theorem dX12_counts_193 : decode cX12_counts 193 = .ok (.iinc 4 1, 3) := by decide +kernel
theorem dX12_counts_196 : decode cX12_counts 196 = .ok (.goto (-105), 3) := by decide +kernel
theorem dX12_counts_199 : decode cX12_counts 199 = .ok (.iinc 1 1, 3) := by decide +kernel
theorem dX12_counts_202 : decode cX12_counts 202 = .ok (.goto (-181), 3) := by decide +kernel
theorem dX12_counts_205 : decode cX12_counts 205 = .ok (.return_, 1) := by decide +kernel
theorem dX12_asksOwn_0 : decode cX12_asksOwn 0 = .ok (.bipush 32, 2) := by decide +kernel
theorem dX12_asksOwn_2 : decode cX12_asksOwn 2 = .ok (.aload_n 0, 1) := by decide +kernel
theorem dX12_asksOwn_3 : decode cX12_asksOwn 3 = .ok (.getfield 75, 3) := by decide +kernel
theorem dX12_asksOwn_6 : decode cX12_asksOwn 6 = .ok (.aload_n 0, 1) := by decide +kernel
theorem dX12_asksOwn_7 : decode cX12_asksOwn 7 = .ok (.getfield 96, 3) := by decide +kernel
theorem dX12_asksOwn_10 : decode cX12_asksOwn 10 = .ok (.iload_n 1, 1) := by decide +kernel
theorem dX12_asksOwn_11 : decode cX12_asksOwn 11 = .ok (.iaload, 1) := by decide +kernel
theorem dX12_asksOwn_12 : decode cX12_asksOwn 12 = .ok (.iaload, 1) := by decide +kernel
theorem dX12_asksOwn_13 : decode cX12_asksOwn 13 = .ok (.imul, 1) := by decide +kernel
theorem dX12_asksOwn_14 : decode cX12_asksOwn 14 = .ok (.aload_n 0, 1) := by decide +kernel
theorem dX12_asksOwn_15 : decode cX12_asksOwn 15 = .ok (.getfield 99, 3) := by decide +kernel
theorem dX12_asksOwn_18 : decode cX12_asksOwn 18 = .ok (.iload_n 1, 1) := by decide +kernel
theorem dX12_asksOwn_19 : decode cX12_asksOwn 19 = .ok (.iaload, 1) := by decide +kernel
theorem dX12_asksOwn_20 : decode cX12_asksOwn 20 = .ok (.iadd, 1) := by decide +kernel
theorem dX12_asksOwn_21 : decode cX12_asksOwn 21 = .ok (.istore_n 2, 1) := by decide +kernel
theorem dX12_asksOwn_22 : decode cX12_asksOwn 22 = .ok (.aload_n 0, 1) := by decide +kernel
theorem dX12_asksOwn_23 : decode cX12_asksOwn 23 = .ok (.getfield 13, 3) := by decide +kernel
theorem dX12_asksOwn_26 : decode cX12_asksOwn 26 = .ok (.bipush 80, 2) := by decide +kernel
theorem dX12_asksOwn_28 : decode cX12_asksOwn 28 = .ok (.iload_n 2, 1) := by decide +kernel
theorem dX12_asksOwn_29 : decode cX12_asksOwn 29 = .ok (.iadd, 1) := by decide +kernel
theorem dX12_asksOwn_30 : decode cX12_asksOwn 30 = .ok (.iaload, 1) := by decide +kernel
theorem dX12_asksOwn_31 : decode cX12_asksOwn 31 = .ok (.istore_n 3, 1) := by decide +kernel
theorem dX12_asksOwn_32 : decode cX12_asksOwn 32 = .ok (.iload_n 3, 1) := by decide +kernel
theorem dX12_asksOwn_33 : decode cX12_asksOwn 33 = .ok (.aload_n 0, 1) := by decide +kernel
theorem dX12_asksOwn_34 : decode cX12_asksOwn 34 = .ok (.getfield 13, 3) := by decide +kernel
theorem dX12_asksOwn_37 : decode cX12_asksOwn 37 = .ok (.sipush 464, 3) := by decide +kernel
theorem dX12_asksOwn_40 : decode cX12_asksOwn 40 = .ok (.iload_n 2, 1) := by decide +kernel
theorem dX12_asksOwn_41 : decode cX12_asksOwn 41 = .ok (.iadd, 1) := by decide +kernel
theorem dX12_asksOwn_42 : decode cX12_asksOwn 42 = .ok (.iaload, 1) := by decide +kernel
theorem dX12_asksOwn_43 : decode cX12_asksOwn 43 = .ok (.if_icmp .ge 25, 3) := by decide +kernel
theorem dX12_asksOwn_46 : decode cX12_asksOwn 46 = .ok (.aload_n 0, 1) := by decide +kernel
theorem dX12_asksOwn_47 : decode cX12_asksOwn 47 = .ok (.getfield 13, 3) := by decide +kernel
theorem dX12_asksOwn_50 : decode cX12_asksOwn 50 = .ok (.sipush 1616, 3) := by decide +kernel
theorem dX12_asksOwn_53 : decode cX12_asksOwn 53 = .ok (.iload_n 3, 1) := by decide +kernel
theorem dX12_asksOwn_54 : decode cX12_asksOwn 54 = .ok (.iadd, 1) := by decide +kernel
theorem dX12_asksOwn_55 : decode cX12_asksOwn 55 = .ok (.iaload, 1) := by decide +kernel
theorem dX12_asksOwn_56 : decode cX12_asksOwn 56 = .ok (.iconst 1, 1) := by decide +kernel
theorem dX12_asksOwn_57 : decode cX12_asksOwn 57 = .ok (.if_icmp .ne 5, 3) := by decide +kernel
theorem dX12_asksOwn_60 : decode cX12_asksOwn 60 = .ok (.iconst 1, 1) := by decide +kernel
theorem dX12_asksOwn_61 : decode cX12_asksOwn 61 = .ok (.ireturn, 1) := by decide +kernel
theorem dX12_asksOwn_62 : decode cX12_asksOwn 62 = .ok (.iinc 3 1, 3) := by decide +kernel
theorem dX12_asksOwn_65 : decode cX12_asksOwn 65 = .ok (.goto (-33), 3) := by decide +kernel
theorem dX12_asksOwn_68 : decode cX12_asksOwn 68 = .ok (.iconst 0, 1) := by decide +kernel
theorem dX12_asksOwn_69 : decode cX12_asksOwn 69 = .ok (.ireturn, 1) := by decide +kernel
theorem dX12_put_0 : decode cX12_put 0 = .ok (.iload_n 2, 1) := by decide +kernel
theorem dX12_put_1 : decode cX12_put 1 = .ok (.iconst 0, 1) := by decide +kernel
theorem dX12_put_2 : decode cX12_put 2 = .ok (.sipush 9999, 3) := by decide +kernel
theorem dX12_put_5 : decode cX12_put 5 = .ok (.invokestatic 246, 3) := by decide +kernel
theorem dX12_put_8 : decode cX12_put 8 = .ok (.ifCond .ne 9, 3) := by decide +kernel
theorem dX12_put_11 : decode cX12_put 11 = .ok (.aload_n 0, 1) := by decide +kernel
theorem dX12_put_12 : decode cX12_put 12 = .ok (.iconst 1, 1) := by decide +kernel
theorem dX12_put_13 : decode cX12_put 13 = .ok (.invokevirtual 305, 3) := by decide +kernel
theorem dX12_put_16 : decode cX12_put 16 = .ok (.ireturn, 1) := by decide +kernel
theorem dX12_put_17 : decode cX12_put 17 = .ok (.aload_n 0, 1) := by decide +kernel
theorem dX12_put_18 : decode cX12_put 18 = .ok (.invokevirtual 544, 3) := by decide +kernel
theorem dX12_put_21 : decode cX12_put 21 = .ok (.ifCond .ne 9, 3) := by decide +kernel
theorem dX12_put_24 : decode cX12_put 24 = .ok (.aload_n 0, 1) := by decide +kernel
theorem dX12_put_25 : decode cX12_put 25 = .ok (.iconst 3, 1) := by decide +kernel
theorem dX12_put_26 : decode cX12_put 26 = .ok (.invokevirtual 305, 3) := by decide +kernel
theorem dX12_put_29 : decode cX12_put 29 = .ok (.ireturn, 1) := by decide +kernel
theorem dX12_put_30 : decode cX12_put 30 = .ok (.aload_n 0, 1) := by decide +kernel
theorem dX12_put_31 : decode cX12_put 31 = .ok (.iload_n 1, 1) := by decide +kernel
theorem dX12_put_32 : decode cX12_put 32 = .ok (.invokevirtual 484, 3) := by decide +kernel
theorem dX12_put_35 : decode cX12_put 35 = .ok (.ifCond .ne 9, 3) := by decide +kernel
theorem dX12_put_38 : decode cX12_put 38 = .ok (.aload_n 0, 1) := by decide +kernel
theorem dX12_put_39 : decode cX12_put 39 = .ok (.iconst 4, 1) := by decide +kernel
theorem dX12_put_40 : decode cX12_put 40 = .ok (.invokevirtual 305, 3) := by decide +kernel
theorem dX12_put_43 : decode cX12_put 43 = .ok (.ireturn, 1) := by decide +kernel
theorem dX12_put_44 : decode cX12_put 44 = .ok (.aload_n 0, 1) := by decide +kernel
theorem dX12_put_45 : decode cX12_put 45 = .ok (.getfield 78, 3) := by decide +kernel
theorem dX12_put_48 : decode cX12_put 48 = .ok (.iload_n 1, 1) := by decide +kernel
theorem dX12_put_49 : decode cX12_put 49 = .ok (.iaload, 1) := by decide +kernel
theorem dX12_put_50 : decode cX12_put 50 = .ok (.istore_n 3, 1) := by decide +kernel
theorem dX12_put_51 : decode cX12_put 51 = .ok (.aload_n 0, 1) := by decide +kernel
theorem dX12_put_52 : decode cX12_put 52 = .ok (.invokevirtual 562, 3) := by decide +kernel
theorem dX12_put_55 : decode cX12_put 55 = .ok (.iconst 0, 1) := by decide +kernel
theorem dX12_put_56 : decode cX12_put 56 = .ok (.istore 4, 2) := by decide +kernel
theorem dX12_put_58 : decode cX12_put 58 = .ok (.iload 4, 2) := by decide +kernel
theorem dX12_put_60 : decode cX12_put 60 = .ok (.bipush 8, 2) := by decide +kernel
theorem dX12_put_62 : decode cX12_put 62 = .ok (.aload_n 0, 1) := by decide +kernel
theorem dX12_put_63 : decode cX12_put 63 = .ok (.getfield 322, 3) := by decide +kernel
theorem dX12_put_66 : decode cX12_put 66 = .ok (.imul, 1) := by decide +kernel
theorem dX12_put_67 : decode cX12_put 67 = .ok (.if_icmp .ge 56, 3) := by decide +kernel
theorem dX12_put_70 : decode cX12_put 70 = .ok (.iload_n 3, 1) := by decide +kernel
theorem dX12_put_71 : decode cX12_put 71 = .ok (.iload_n 2, 1) := by decide +kernel
theorem dX12_put_72 : decode cX12_put 72 = .ok (.if_icmp .eq 51, 3) := by decide +kernel
theorem dX12_put_75 : decode cX12_put 75 = .ok (.aload_n 0, 1) := by decide +kernel
theorem dX12_put_76 : decode cX12_put 76 = .ok (.getfield 136, 3) := by decide +kernel
theorem dX12_put_79 : decode cX12_put 79 = .ok (.iload 4, 2) := by decide +kernel
theorem dX12_put_81 : decode cX12_put 81 = .ok (.aload_n 0, 1) := by decide +kernel
theorem dX12_put_82 : decode cX12_put 82 = .ok (.getfield 126, 3) := by decide +kernel
theorem dX12_put_85 : decode cX12_put 85 = .ok (.iload 4, 2) := by decide +kernel
theorem dX12_put_87 : decode cX12_put 87 = .ok (.baload, 1) := by decide +kernel
theorem dX12_put_88 : decode cX12_put 88 = .ok (.ifCond .eq 27, 3) := by decide +kernel
theorem dX12_put_91 : decode cX12_put 91 = .ok (.aload_n 0, 1) := by decide +kernel
theorem dX12_put_92 : decode cX12_put 92 = .ok (.getfield 96, 3) := by decide +kernel
theorem dX12_put_95 : decode cX12_put 95 = .ok (.iload 4, 2) := by decide +kernel
theorem dX12_put_97 : decode cX12_put 97 = .ok (.iaload, 1) := by decide +kernel
theorem dX12_put_98 : decode cX12_put 98 = .ok (.iload_n 1, 1) := by decide +kernel
theorem dX12_put_99 : decode cX12_put 99 = .ok (.if_icmp .ne 16, 3) := by decide +kernel
theorem dX12_put_102 : decode cX12_put 102 = .ok (.aload_n 0, 1) := by decide +kernel
theorem dX12_put_103 : decode cX12_put 103 = .ok (.iload 4, 2) := by decide +kernel
theorem dX12_put_105 : decode cX12_put 105 = .ok (.invokevirtual 565, 3) := by decide +kernel
theorem dX12_put_108 : decode cX12_put 108 = .ok (.ifCond .eq 7, 3) := by decide +kernel
theorem dX12_put_111 : decode cX12_put 111 = .ok (.iconst 1, 1) := by decide +kernel
theorem dX12_put_112 : decode cX12_put 112 = .ok (.goto 4, 3) := by decide +kernel
theorem dX12_put_115 : decode cX12_put 115 = .ok (.iconst 0, 1) := by decide +kernel
theorem dX12_put_116 : decode cX12_put 116 = .ok (.bastore, 1) := by decide +kernel
theorem dX12_put_117 : decode cX12_put 117 = .ok (.iinc 4 1, 3) := by decide +kernel
theorem dX12_put_120 : decode cX12_put 120 = .ok (.goto (-62), 3) := by decide +kernel
theorem dX12_put_123 : decode cX12_put 123 = .ok (.aload_n 0, 1) := by decide +kernel
theorem dX12_put_124 : decode cX12_put 124 = .ok (.getfield 78, 3) := by decide +kernel
theorem dX12_put_127 : decode cX12_put 127 = .ok (.iload_n 1, 1) := by decide +kernel
theorem dX12_put_128 : decode cX12_put 128 = .ok (.iload_n 2, 1) := by decide +kernel
theorem dX12_put_129 : decode cX12_put 129 = .ok (.iastore, 1) := by decide +kernel
theorem dX12_put_130 : decode cX12_put 130 = .ok (.aload_n 0, 1) := by decide +kernel
theorem dX12_put_131 : decode cX12_put 131 = .ok (.invokevirtual 568, 3) := by decide +kernel
theorem dX12_put_134 : decode cX12_put 134 = .ok (.aload_n 0, 1) := by decide +kernel
theorem dX12_put_135 : decode cX12_put 135 = .ok (.iload_n 3, 1) := by decide +kernel
theorem dX12_put_136 : decode cX12_put 136 = .ok (.invokevirtual 328, 3) := by decide +kernel
theorem dX12_put_139 : decode cX12_put 139 = .ok (.ireturn, 1) := by decide +kernel
theorem dX12_give_0 : decode cX12_give 0 = .ok (.aload_n 0, 1) := by decide +kernel
theorem dX12_give_1 : decode cX12_give 1 = .ok (.invokevirtual 544, 3) := by decide +kernel
theorem dX12_give_4 : decode cX12_give 4 = .ok (.ifCond .ne 9, 3) := by decide +kernel
theorem dX12_give_7 : decode cX12_give 7 = .ok (.aload_n 0, 1) := by decide +kernel
theorem dX12_give_8 : decode cX12_give 8 = .ok (.iconst 3, 1) := by decide +kernel
theorem dX12_give_9 : decode cX12_give 9 = .ok (.invokevirtual 305, 3) := by decide +kernel
theorem dX12_give_12 : decode cX12_give 12 = .ok (.ireturn, 1) := by decide +kernel
theorem dX12_give_13 : decode cX12_give 13 = .ok (.iload_n 1, 1) := by decide +kernel
theorem dX12_give_14 : decode cX12_give 14 = .ok (.iconst 0, 1) := by decide +kernel
theorem dX12_give_15 : decode cX12_give 15 = .ok (.aload_n 0, 1) := by decide +kernel
theorem dX12_give_16 : decode cX12_give 16 = .ok (.getfield 13, 3) := by decide +kernel
theorem dX12_give_19 : decode cX12_give 19 = .ok (.iconst 4, 1) := by decide +kernel
theorem dX12_give_20 : decode cX12_give 20 = .ok (.aload_n 0, 1) := by decide +kernel
theorem dX12_give_21 : decode cX12_give 21 = .ok (.iconst 0, 1) := by decide +kernel
theorem dX12_give_22 : decode cX12_give 22 = .ok (.invokevirtual 487, 3) := by decide +kernel
theorem dX12_give_25 : decode cX12_give 25 = .ok (.iadd, 1) := by decide +kernel
theorem dX12_give_26 : decode cX12_give 26 = .ok (.iaload, 1) := by decide +kernel
theorem dX12_give_27 : decode cX12_give 27 = .ok (.iconst 1, 1) := by decide +kernel
theorem dX12_give_28 : decode cX12_give 28 = .ok (.isub, 1) := by decide +kernel
theorem dX12_give_29 : decode cX12_give 29 = .ok (.invokestatic 246, 3) := by decide +kernel
theorem dX12_give_32 : decode cX12_give 32 = .ok (.ifCond .ne 9, 3) := by decide +kernel
theorem dX12_give_35 : decode cX12_give 35 = .ok (.aload_n 0, 1) := by decide +kernel
theorem dX12_give_36 : decode cX12_give 36 = .ok (.iconst 4, 1) := by decide +kernel
theorem dX12_give_37 : decode cX12_give 37 = .ok (.invokevirtual 305, 3) := by decide +kernel
theorem dX12_give_40 : decode cX12_give 40 = .ok (.ireturn, 1) := by decide +kernel
theorem dX12_give_41 : decode cX12_give 41 = .ok (.aload_n 0, 1) := by decide +kernel
theorem dX12_give_42 : decode cX12_give 42 = .ok (.getfield 93, 3) := by decide +kernel
theorem dX12_give_45 : decode cX12_give 45 = .ok (.iload_n 1, 1) := by decide +kernel
theorem dX12_give_46 : decode cX12_give 46 = .ok (.iaload, 1) := by decide +kernel
theorem dX12_give_47 : decode cX12_give 47 = .ok (.istore_n 3, 1) := by decide +kernel
theorem dX12_give_48 : decode cX12_give 48 = .ok (.aload_n 0, 1) := by decide +kernel
theorem dX12_give_49 : decode cX12_give 49 = .ok (.invokevirtual 562, 3) := by decide +kernel
theorem dX12_give_52 : decode cX12_give 52 = .ok (.aload_n 0, 1) := by decide +kernel
theorem dX12_give_53 : decode cX12_give 53 = .ok (.getfield 136, 3) := by decide +kernel
theorem dX12_give_56 : decode cX12_give 56 = .ok (.iload_n 1, 1) := by decide +kernel
theorem dX12_give_57 : decode cX12_give 57 = .ok (.iload_n 3, 1) := by decide +kernel
theorem dX12_give_58 : decode cX12_give 58 = .ok (.iload_n 2, 1) := by decide +kernel
theorem dX12_give_59 : decode cX12_give 59 = .ok (.if_icmp .eq 7, 3) := by decide +kernel
theorem dX12_give_62 : decode cX12_give 62 = .ok (.iconst 1, 1) := by decide +kernel
theorem dX12_give_63 : decode cX12_give 63 = .ok (.goto 4, 3) := by decide +kernel
theorem dX12_give_66 : decode cX12_give 66 = .ok (.iconst 0, 1) := by decide +kernel
theorem dX12_give_67 : decode cX12_give 67 = .ok (.bastore, 1) := by decide +kernel
theorem dX12_give_68 : decode cX12_give 68 = .ok (.aload_n 0, 1) := by decide +kernel
theorem dX12_give_69 : decode cX12_give 69 = .ok (.getfield 93, 3) := by decide +kernel
theorem dX12_give_72 : decode cX12_give 72 = .ok (.iload_n 1, 1) := by decide +kernel
theorem dX12_give_73 : decode cX12_give 73 = .ok (.iload_n 2, 1) := by decide +kernel
theorem dX12_give_74 : decode cX12_give 74 = .ok (.iastore, 1) := by decide +kernel
theorem dX12_give_75 : decode cX12_give 75 = .ok (.aload_n 0, 1) := by decide +kernel
theorem dX12_give_76 : decode cX12_give 76 = .ok (.invokevirtual 568, 3) := by decide +kernel
theorem dX12_give_79 : decode cX12_give 79 = .ok (.aload_n 0, 1) := by decide +kernel
theorem dX12_give_80 : decode cX12_give 80 = .ok (.iload_n 3, 1) := by decide +kernel
theorem dX12_give_81 : decode cX12_give 81 = .ok (.invokevirtual 328, 3) := by decide +kernel
theorem dX12_give_84 : decode cX12_give 84 = .ok (.ireturn, 1) := by decide +kernel
theorem dX12_graft_0 : decode cX12_graft 0 = .ok (.iload_n 2, 1) := by decide +kernel
theorem dX12_graft_1 : decode cX12_graft 1 = .ok (.iconst 0, 1) := by decide +kernel
theorem dX12_graft_2 : decode cX12_graft 2 = .ok (.aload_n 0, 1) := by decide +kernel
theorem dX12_graft_3 : decode cX12_graft 3 = .ok (.getfield 154, 3) := by decide +kernel
theorem dX12_graft_6 : decode cX12_graft 6 = .ok (.invokestatic 246, 3) := by decide +kernel
theorem dX12_graft_9 : decode cX12_graft 9 = .ok (.ifCond .ne 9, 3) := by decide +kernel
theorem dX12_graft_12 : decode cX12_graft 12 = .ok (.aload_n 0, 1) := by decide +kernel
theorem dX12_graft_13 : decode cX12_graft 13 = .ok (.iconst 1, 1) := by decide +kernel
theorem dX12_graft_14 : decode cX12_graft 14 = .ok (.invokevirtual 305, 3) := by decide +kernel
theorem dX12_graft_17 : decode cX12_graft 17 = .ok (.ireturn, 1) := by decide +kernel
theorem dX12_graft_18 : decode cX12_graft 18 = .ok (.aload_n 0, 1) := by decide +kernel
theorem dX12_graft_19 : decode cX12_graft 19 = .ok (.invokevirtual 544, 3) := by decide +kernel
theorem dX12_graft_22 : decode cX12_graft 22 = .ok (.ifCond .ne 9, 3) := by decide +kernel
theorem dX12_graft_25 : decode cX12_graft 25 = .ok (.aload_n 0, 1) := by decide +kernel
theorem dX12_graft_26 : decode cX12_graft 26 = .ok (.iconst 3, 1) := by decide +kernel
theorem dX12_graft_27 : decode cX12_graft 27 = .ok (.invokevirtual 305, 3) := by decide +kernel
theorem dX12_graft_30 : decode cX12_graft 30 = .ok (.ireturn, 1) := by decide +kernel
theorem dX12_graft_31 : decode cX12_graft 31 = .ok (.aload_n 0, 1) := by decide +kernel
theorem dX12_graft_32 : decode cX12_graft 32 = .ok (.iload_n 1, 1) := by decide +kernel
theorem dX12_graft_33 : decode cX12_graft 33 = .ok (.invokevirtual 484, 3) := by decide +kernel
theorem dX12_graft_36 : decode cX12_graft 36 = .ok (.ifCond .ne 9, 3) := by decide +kernel
theorem dX12_graft_39 : decode cX12_graft 39 = .ok (.aload_n 0, 1) := by decide +kernel
theorem dX12_graft_40 : decode cX12_graft 40 = .ok (.iconst 4, 1) := by decide +kernel
theorem dX12_graft_41 : decode cX12_graft 41 = .ok (.invokevirtual 305, 3) := by decide +kernel
theorem dX12_graft_44 : decode cX12_graft 44 = .ok (.ireturn, 1) := by decide +kernel
theorem dX12_graft_45 : decode cX12_graft 45 = .ok (.aload_n 0, 1) := by decide +kernel
theorem dX12_graft_46 : decode cX12_graft 46 = .ok (.iload_n 1, 1) := by decide +kernel
theorem dX12_graft_47 : decode cX12_graft 47 = .ok (.invokevirtual 496, 3) := by decide +kernel
theorem dX12_graft_50 : decode cX12_graft 50 = .ok (.istore_n 3, 1) := by decide +kernel
theorem dX12_graft_51 : decode cX12_graft 51 = .ok (.aload_n 0, 1) := by decide +kernel
theorem dX12_graft_52 : decode cX12_graft 52 = .ok (.aload_n 0, 1) := by decide +kernel
theorem dX12_graft_53 : decode cX12_graft 53 = .ok (.getfield 322, 3) := by decide +kernel
theorem dX12_graft_56 : decode cX12_graft 56 = .ok (.iload_n 3, 1) := by decide +kernel
theorem dX12_graft_57 : decode cX12_graft 57 = .ok (.isub, 1) := by decide +kernel
theorem dX12_graft_58 : decode cX12_graft 58 = .ok (.putfield 466, 3) := by decide +kernel
theorem dX12_graft_61 : decode cX12_graft 61 = .ok (.aload_n 0, 1) := by decide +kernel
theorem dX12_graft_62 : decode cX12_graft 62 = .ok (.aload_n 0, 1) := by decide +kernel
theorem dX12_graft_63 : decode cX12_graft 63 = .ok (.iload_n 2, 1) := by decide +kernel
theorem dX12_graft_64 : decode cX12_graft 64 = .ok (.aload_n 0, 1) := by decide +kernel
theorem dX12_graft_65 : decode cX12_graft 65 = .ok (.iload_n 1, 1) := by decide +kernel
theorem dX12_graft_66 : decode cX12_graft 66 = .ok (.invokevirtual 487, 3) := by decide +kernel
theorem dX12_graft_69 : decode cX12_graft 69 = .ok (.aload_n 0, 1) := by decide +kernel
theorem dX12_graft_70 : decode cX12_graft 70 = .ok (.iload_n 1, 1) := by decide +kernel
theorem dX12_graft_71 : decode cX12_graft 71 = .ok (.invokevirtual 490, 3) := by decide +kernel
theorem dX12_graft_74 : decode cX12_graft 74 = .ok (.iconst 1, 1) := by decide +kernel
theorem dX12_graft_75 : decode cX12_graft 75 = .ok (.iadd, 1) := by decide +kernel
theorem dX12_graft_76 : decode cX12_graft 76 = .ok (.invokevirtual 475, 3) := by decide +kernel
theorem dX12_graft_79 : decode cX12_graft 79 = .ok (.invokevirtual 314, 3) := by decide +kernel
theorem dX12_graft_82 : decode cX12_graft 82 = .ok (.ifCond .le 10, 3) := by decide +kernel
theorem dX12_graft_85 : decode cX12_graft 85 = .ok (.aload_n 0, 1) := by decide +kernel
theorem dX12_graft_86 : decode cX12_graft 86 = .ok (.bipush 9, 2) := by decide +kernel
theorem dX12_graft_88 : decode cX12_graft 88 = .ok (.invokevirtual 305, 3) := by decide +kernel
theorem dX12_graft_91 : decode cX12_graft 91 = .ok (.ireturn, 1) := by decide +kernel
theorem dX12_graft_92 : decode cX12_graft 92 = .ok (.aload_n 0, 1) := by decide +kernel
theorem dX12_graft_93 : decode cX12_graft 93 = .ok (.invokevirtual 562, 3) := by decide +kernel
theorem dX12_graft_96 : decode cX12_graft 96 = .ok (.iconst 0, 1) := by decide +kernel
theorem dX12_graft_97 : decode cX12_graft 97 = .ok (.istore 4, 2) := by decide +kernel
theorem dX12_graft_99 : decode cX12_graft 99 = .ok (.iload 4, 2) := by decide +kernel
theorem dX12_graft_101 : decode cX12_graft 101 = .ok (.bipush 8, 2) := by decide +kernel
theorem dX12_graft_103 : decode cX12_graft 103 = .ok (.aload_n 0, 1) := by decide +kernel
theorem dX12_graft_104 : decode cX12_graft 104 = .ok (.getfield 322, 3) := by decide +kernel
theorem dX12_graft_107 : decode cX12_graft 107 = .ok (.imul, 1) := by decide +kernel
theorem dX12_graft_108 : decode cX12_graft 108 = .ok (.if_icmp .ge 42, 3) := by decide +kernel
theorem dX12_graft_111 : decode cX12_graft 111 = .ok (.aload_n 0, 1) := by decide +kernel
theorem dX12_graft_112 : decode cX12_graft 112 = .ok (.getfield 136, 3) := by decide +kernel
theorem dX12_graft_115 : decode cX12_graft 115 = .ok (.iload 4, 2) := by decide +kernel
theorem dX12_graft_117 : decode cX12_graft 117 = .ok (.aload_n 0, 1) := by decide +kernel
theorem dX12_graft_118 : decode cX12_graft 118 = .ok (.getfield 126, 3) := by decide +kernel
theorem dX12_graft_121 : decode cX12_graft 121 = .ok (.iload 4, 2) := by decide +kernel
theorem dX12_graft_123 : decode cX12_graft 123 = .ok (.baload, 1) := by decide +kernel
theorem dX12_graft_124 : decode cX12_graft 124 = .ok (.ifCond .eq 18, 3) := by decide +kernel
theorem dX12_graft_127 : decode cX12_graft 127 = .ok (.aload_n 0, 1) := by decide +kernel
theorem dX12_graft_128 : decode cX12_graft 128 = .ok (.iload 4, 2) := by decide +kernel
theorem dX12_graft_130 : decode cX12_graft 130 = .ok (.iload_n 1, 1) := by decide +kernel
theorem dX12_graft_131 : decode cX12_graft 131 = .ok (.iload_n 3, 1) := by decide +kernel
theorem dX12_graft_132 : decode cX12_graft 132 = .ok (.invokevirtual 571, 3) := by decide +kernel
theorem dX12_graft_135 : decode cX12_graft 135 = .ok (.ifCond .eq 7, 3) := by decide +kernel
theorem dX12_graft_138 : decode cX12_graft 138 = .ok (.iconst 1, 1) := by decide +kernel
theorem dX12_graft_139 : decode cX12_graft 139 = .ok (.goto 4, 3) := by decide +kernel
theorem dX12_graft_142 : decode cX12_graft 142 = .ok (.iconst 0, 1) := by decide +kernel
theorem dX12_graft_143 : decode cX12_graft 143 = .ok (.bastore, 1) := by decide +kernel
theorem dX12_graft_144 : decode cX12_graft 144 = .ok (.iinc 4 1, 3) := by decide +kernel
theorem dX12_graft_147 : decode cX12_graft 147 = .ok (.goto (-48), 3) := by decide +kernel
theorem dX12_graft_150 : decode cX12_graft 150 = .ok (.aload_n 0, 1) := by decide +kernel
theorem dX12_graft_151 : decode cX12_graft 151 = .ok (.getfield 469, 3) := by decide +kernel
theorem dX12_graft_154 : decode cX12_graft 154 = .ok (.iload_n 3, 1) := by decide +kernel
theorem dX12_graft_155 : decode cX12_graft 155 = .ok (.isub, 1) := by decide +kernel
theorem dX12_graft_156 : decode cX12_graft 156 = .ok (.istore 4, 2) := by decide +kernel
theorem dX12_graft_158 : decode cX12_graft 158 = .ok (.aload_n 0, 1) := by decide +kernel
theorem dX12_graft_159 : decode cX12_graft 159 = .ok (.iload_n 1, 1) := by decide +kernel
theorem dX12_graft_160 : decode cX12_graft 160 = .ok (.iload_n 3, 1) := by decide +kernel
theorem dX12_graft_161 : decode cX12_graft 161 = .ok (.iadd, 1) := by decide +kernel
theorem dX12_graft_162 : decode cX12_graft 162 = .ok (.iload 4, 2) := by decide +kernel
theorem dX12_graft_164 : decode cX12_graft 164 = .ok (.invokevirtual 574, 3) := by decide +kernel
theorem dX12_graft_167 : decode cX12_graft 167 = .ok (.aload_n 0, 1) := by decide +kernel
theorem dX12_graft_168 : decode cX12_graft 168 = .ok (.getfield 81, 3) := by decide +kernel
theorem dX12_graft_171 : decode cX12_graft 171 = .ok (.iload_n 1, 1) := by decide +kernel
theorem dX12_graft_172 : decode cX12_graft 172 = .ok (.iaload, 1) := by decide +kernel
theorem dX12_graft_173 : decode cX12_graft 173 = .ok (.istore 5, 2) := by decide +kernel
theorem dX12_graft_175 : decode cX12_graft 175 = .ok (.iconst 0, 1) := by decide +kernel
theorem dX12_graft_176 : decode cX12_graft 176 = .ok (.istore 6, 2) := by decide +kernel
theorem dX12_graft_178 : decode cX12_graft 178 = .ok (.iload 6, 2) := by decide +kernel
theorem dX12_graft_180 : decode cX12_graft 180 = .ok (.aload_n 0, 1) := by decide +kernel
theorem dX12_graft_181 : decode cX12_graft 181 = .ok (.getfield 469, 3) := by decide +kernel
theorem dX12_graft_184 : decode cX12_graft 184 = .ok (.if_icmp .ge 122, 3) := by decide +kernel
theorem dX12_graft_187 : decode cX12_graft 187 = .ok (.aload_n 0, 1) := by decide +kernel
theorem dX12_graft_188 : decode cX12_graft 188 = .ok (.getfield 75, 3) := by decide +kernel
theorem dX12_graft_191 : decode cX12_graft 191 = .ok (.iload_n 1, 1) := by decide +kernel
theorem dX12_graft_192 : decode cX12_graft 192 = .ok (.iload 6, 2) := by decide +kernel
theorem dX12_graft_194 : decode cX12_graft 194 = .ok (.iadd, 1) := by decide +kernel
theorem dX12_graft_195 : decode cX12_graft 195 = .ok (.aload_n 0, 1) := by decide +kernel
theorem dX12_graft_196 : decode cX12_graft 196 = .ok (.getfield 84, 3) := by decide +kernel
theorem dX12_graft_199 : decode cX12_graft 199 = .ok (.iload 6, 2) := by decide +kernel
theorem dX12_graft_201 : decode cX12_graft 201 = .ok (.iaload, 1) := by decide +kernel
theorem dX12_graft_202 : decode cX12_graft 202 = .ok (.iastore, 1) := by decide +kernel
theorem dX12_graft_203 : decode cX12_graft 203 = .ok (.aload_n 0, 1) := by decide +kernel
theorem dX12_graft_204 : decode cX12_graft 204 = .ok (.getfield 78, 3) := by decide +kernel
theorem dX12_graft_207 : decode cX12_graft 207 = .ok (.iload_n 1, 1) := by decide +kernel
theorem dX12_graft_208 : decode cX12_graft 208 = .ok (.iload 6, 2) := by decide +kernel
theorem dX12_graft_210 : decode cX12_graft 210 = .ok (.iadd, 1) := by decide +kernel
theorem dX12_graft_211 : decode cX12_graft 211 = .ok (.aload_n 0, 1) := by decide +kernel
theorem dX12_graft_212 : decode cX12_graft 212 = .ok (.getfield 87, 3) := by decide +kernel
theorem dX12_graft_215 : decode cX12_graft 215 = .ok (.iload 6, 2) := by decide +kernel
theorem dX12_graft_217 : decode cX12_graft 217 = .ok (.iaload, 1) := by decide +kernel
theorem dX12_graft_218 : decode cX12_graft 218 = .ok (.iastore, 1) := by decide +kernel
theorem dX12_graft_219 : decode cX12_graft 219 = .ok (.aload_n 0, 1) := by decide +kernel
theorem dX12_graft_220 : decode cX12_graft 220 = .ok (.getfield 81, 3) := by decide +kernel
theorem dX12_graft_223 : decode cX12_graft 223 = .ok (.iload_n 1, 1) := by decide +kernel
theorem dX12_graft_224 : decode cX12_graft 224 = .ok (.iload 6, 2) := by decide +kernel
theorem dX12_graft_226 : decode cX12_graft 226 = .ok (.iadd, 1) := by decide +kernel
theorem dX12_graft_227 : decode cX12_graft 227 = .ok (.iload 6, 2) := by decide +kernel
theorem dX12_graft_229 : decode cX12_graft 229 = .ok (.ifCond .ne 8, 3) := by decide +kernel
theorem dX12_graft_232 : decode cX12_graft 232 = .ok (.iload 5, 2) := by decide +kernel
theorem dX12_graft_234 : decode cX12_graft 234 = .ok (.goto 12, 3) := by decide +kernel
theorem dX12_graft_237 : decode cX12_graft 237 = .ok (.aload_n 0, 1) := by decide +kernel
theorem dX12_graft_238 : decode cX12_graft 238 = .ok (.getfield 90, 3) := by decide +kernel
theorem dX12_graft_241 : decode cX12_graft 241 = .ok (.iload 6, 2) := by decide +kernel
theorem dX12_graft_243 : decode cX12_graft 243 = .ok (.iaload, 1) := by decide +kernel
theorem dX12_graft_244 : decode cX12_graft 244 = .ok (.iload_n 1, 1) := by decide +kernel
theorem dX12_graft_245 : decode cX12_graft 245 = .ok (.iadd, 1) := by decide +kernel
theorem dX12_graft_246 : decode cX12_graft 246 = .ok (.iastore, 1) := by decide +kernel
theorem dX12_graft_247 : decode cX12_graft 247 = .ok (.iconst 0, 1) := by decide +kernel
theorem dX12_graft_248 : decode cX12_graft 248 = .ok (.istore 7, 2) := by decide +kernel
theorem dX12_graft_250 : decode cX12_graft 250 = .ok (.iload 7, 2) := by decide +kernel
theorem dX12_graft_252 : decode cX12_graft 252 = .ok (.bipush 8, 2) := by decide +kernel
theorem dX12_graft_254 : decode cX12_graft 254 = .ok (.if_icmp .ge 46, 3) := by decide +kernel
theorem dX12_graft_257 : decode cX12_graft 257 = .ok (.iload 6, 2) := by decide +kernel
theorem dX12_graft_259 : decode cX12_graft 259 = .ok (.ifCond .le 41, 3) := by decide +kernel
theorem dX12_graft_262 : decode cX12_graft 262 = .ok (.aload_n 0, 1) := by decide +kernel
theorem dX12_graft_263 : decode cX12_graft 263 = .ok (.getfield 139, 3) := by decide +kernel
theorem dX12_graft_266 : decode cX12_graft 266 = .ok (.bipush 8, 2) := by decide +kernel
theorem dX12_graft_268 : decode cX12_graft 268 = .ok (.iload_n 1, 1) := by decide +kernel
theorem dX12_graft_269 : decode cX12_graft 269 = .ok (.iload 6, 2) := by decide +kernel
theorem dX12_graft_271 : decode cX12_graft 271 = .ok (.iadd, 1) := by decide +kernel
theorem dX12_graft_272 : decode cX12_graft 272 = .ok (.imul, 1) := by decide +kernel
theorem dX12_graft_273 : decode cX12_graft 273 = .ok (.iload 7, 2) := by decide +kernel
theorem dX12_graft_275 : decode cX12_graft 275 = .ok (.iadd, 1) := by decide +kernel
theorem dX12_graft_276 : decode cX12_graft 276 = .ok (.iconst 1, 1) := by decide +kernel
theorem dX12_graft_277 : decode cX12_graft 277 = .ok (.bastore, 1) := by decide +kernel
theorem dX12_graft_278 : decode cX12_graft 278 = .ok (.aload_n 0, 1) := by decide +kernel
theorem dX12_graft_279 : decode cX12_graft 279 = .ok (.getfield 136, 3) := by decide +kernel
theorem dX12_graft_282 : decode cX12_graft 282 = .ok (.bipush 8, 2) := by decide +kernel
theorem dX12_graft_284 : decode cX12_graft 284 = .ok (.iload_n 1, 1) := by decide +kernel
theorem dX12_graft_285 : decode cX12_graft 285 = .ok (.iload 6, 2) := by decide +kernel
theorem dX12_graft_287 : decode cX12_graft 287 = .ok (.iadd, 1) := by decide +kernel
theorem dX12_graft_288 : decode cX12_graft 288 = .ok (.imul, 1) := by decide +kernel
theorem dX12_graft_289 : decode cX12_graft 289 = .ok (.iload 7, 2) := by decide +kernel
theorem dX12_graft_291 : decode cX12_graft 291 = .ok (.iadd, 1) := by decide +kernel
theorem dX12_graft_292 : decode cX12_graft 292 = .ok (.iconst 1, 1) := by decide +kernel
theorem dX12_graft_293 : decode cX12_graft 293 = .ok (.bastore, 1) := by decide +kernel
theorem dX12_graft_294 : decode cX12_graft 294 = .ok (.iinc 7 1, 3) := by decide +kernel
theorem dX12_graft_297 : decode cX12_graft 297 = .ok (.goto (-47), 3) := by decide +kernel
theorem dX12_graft_300 : decode cX12_graft 300 = .ok (.iinc 6 1, 3) := by decide +kernel
theorem dX12_graft_303 : decode cX12_graft 303 = .ok (.goto (-125), 3) := by decide +kernel
theorem dX12_graft_306 : decode cX12_graft 306 = .ok (.aload_n 0, 1) := by decide +kernel
theorem dX12_graft_307 : decode cX12_graft 307 = .ok (.dup, 1) := by decide +kernel
theorem dX12_graft_308 : decode cX12_graft 308 = .ok (.getfield 322, 3) := by decide +kernel
theorem dX12_graft_311 : decode cX12_graft 311 = .ok (.iload 4, 2) := by decide +kernel
theorem dX12_graft_313 : decode cX12_graft 313 = .ok (.iadd, 1) := by decide +kernel
theorem dX12_graft_314 : decode cX12_graft 314 = .ok (.putfield 322, 3) := by decide +kernel
theorem dX12_graft_317 : decode cX12_graft 317 = .ok (.aload_n 0, 1) := by decide +kernel
theorem dX12_graft_318 : decode cX12_graft 318 = .ok (.getfield 13, 3) := by decide +kernel
theorem dX12_graft_321 : decode cX12_graft 321 = .ok (.iconst 4, 1) := by decide +kernel
theorem dX12_graft_322 : decode cX12_graft 322 = .ok (.aload_n 0, 1) := by decide +kernel
theorem dX12_graft_323 : decode cX12_graft 323 = .ok (.iload_n 1, 1) := by decide +kernel
theorem dX12_graft_324 : decode cX12_graft 324 = .ok (.invokevirtual 487, 3) := by decide +kernel
theorem dX12_graft_327 : decode cX12_graft 327 = .ok (.iadd, 1) := by decide +kernel
theorem dX12_graft_328 : decode cX12_graft 328 = .ok (.iaload, 1) := by decide +kernel
theorem dX12_graft_329 : decode cX12_graft 329 = .ok (.istore 6, 2) := by decide +kernel
theorem dX12_graft_331 : decode cX12_graft 331 = .ok (.iload 6, 2) := by decide +kernel
theorem dX12_graft_333 : decode cX12_graft 333 = .ok (.aload_n 0, 1) := by decide +kernel
theorem dX12_graft_334 : decode cX12_graft 334 = .ok (.aload_n 0, 1) := by decide +kernel
theorem dX12_graft_335 : decode cX12_graft 335 = .ok (.iload_n 1, 1) := by decide +kernel
theorem dX12_graft_336 : decode cX12_graft 336 = .ok (.invokevirtual 487, 3) := by decide +kernel
theorem dX12_graft_339 : decode cX12_graft 339 = .ok (.invokevirtual 334, 3) := by decide +kernel
theorem dX12_graft_342 : decode cX12_graft 342 = .ok (.if_icmp .ge 22, 3) := by decide +kernel
theorem dX12_graft_345 : decode cX12_graft 345 = .ok (.aload_n 0, 1) := by decide +kernel
theorem dX12_graft_346 : decode cX12_graft 346 = .ok (.getfield 136, 3) := by decide +kernel
theorem dX12_graft_349 : decode cX12_graft 349 = .ok (.bipush 8, 2) := by decide +kernel
theorem dX12_graft_351 : decode cX12_graft 351 = .ok (.iload_n 1, 1) := by decide +kernel
theorem dX12_graft_352 : decode cX12_graft 352 = .ok (.imul, 1) := by decide +kernel
theorem dX12_graft_353 : decode cX12_graft 353 = .ok (.iload 6, 2) := by decide +kernel
theorem dX12_graft_355 : decode cX12_graft 355 = .ok (.iadd, 1) := by decide +kernel
theorem dX12_graft_356 : decode cX12_graft 356 = .ok (.iconst 1, 1) := by decide +kernel
theorem dX12_graft_357 : decode cX12_graft 357 = .ok (.bastore, 1) := by decide +kernel
theorem dX12_graft_358 : decode cX12_graft 358 = .ok (.iinc 6 1, 3) := by decide +kernel
theorem dX12_graft_361 : decode cX12_graft 361 = .ok (.goto (-30), 3) := by decide +kernel
theorem dX12_graft_364 : decode cX12_graft 364 = .ok (.aload_n 0, 1) := by decide +kernel
theorem dX12_graft_365 : decode cX12_graft 365 = .ok (.invokevirtual 568, 3) := by decide +kernel
theorem dX12_graft_368 : decode cX12_graft 368 = .ok (.aload_n 0, 1) := by decide +kernel
theorem dX12_graft_369 : decode cX12_graft 369 = .ok (.aload_n 0, 1) := by decide +kernel
theorem dX12_graft_370 : decode cX12_graft 370 = .ok (.getfield 322, 3) := by decide +kernel
theorem dX12_graft_373 : decode cX12_graft 373 = .ok (.invokevirtual 328, 3) := by decide +kernel
theorem dX12_graft_376 : decode cX12_graft 376 = .ok (.ireturn, 1) := by decide +kernel
theorem dX12_wasTied_0 : decode cX12_wasTied 0 = .ok (.aload_n 0, 1) := by decide +kernel
theorem dX12_wasTied_1 : decode cX12_wasTied 1 = .ok (.getfield 105, 3) := by decide +kernel
theorem dX12_wasTied_4 : decode cX12_wasTied 4 = .ok (.iload_n 1, 1) := by decide +kernel
theorem dX12_wasTied_5 : decode cX12_wasTied 5 = .ok (.iaload, 1) := by decide +kernel
theorem dX12_wasTied_6 : decode cX12_wasTied 6 = .ok (.iconst (-1), 1) := by decide +kernel
theorem dX12_wasTied_7 : decode cX12_wasTied 7 = .ok (.if_icmp .ne 5, 3) := by decide +kernel
theorem dX12_wasTied_10 : decode cX12_wasTied 10 = .ok (.iconst 0, 1) := by decide +kernel
theorem dX12_wasTied_11 : decode cX12_wasTied 11 = .ok (.ireturn, 1) := by decide +kernel
theorem dX12_wasTied_12 : decode cX12_wasTied 12 = .ok (.bipush 8, 2) := by decide +kernel
theorem dX12_wasTied_14 : decode cX12_wasTied 14 = .ok (.iload_n 2, 1) := by decide +kernel
theorem dX12_wasTied_15 : decode cX12_wasTied 15 = .ok (.imul, 1) := by decide +kernel
theorem dX12_wasTied_16 : decode cX12_wasTied 16 = .ok (.istore 4, 2) := by decide +kernel
theorem dX12_wasTied_18 : decode cX12_wasTied 18 = .ok (.iload 4, 2) := by decide +kernel
theorem dX12_wasTied_20 : decode cX12_wasTied 20 = .ok (.bipush 8, 2) := by decide +kernel
theorem dX12_wasTied_22 : decode cX12_wasTied 22 = .ok (.iload_n 2, 1) := by decide +kernel
theorem dX12_wasTied_23 : decode cX12_wasTied 23 = .ok (.iload_n 3, 1) := by decide +kernel
theorem dX12_wasTied_24 : decode cX12_wasTied 24 = .ok (.iadd, 1) := by decide +kernel
theorem dX12_wasTied_25 : decode cX12_wasTied 25 = .ok (.imul, 1) := by decide +kernel
theorem dX12_wasTied_26 : decode cX12_wasTied 26 = .ok (.if_icmp .ge 37, 3) := by decide +kernel
theorem dX12_wasTied_29 : decode cX12_wasTied 29 = .ok (.aload_n 0, 1) := by decide +kernel
theorem dX12_wasTied_30 : decode cX12_wasTied 30 = .ok (.getfield 126, 3) := by decide +kernel
theorem dX12_wasTied_33 : decode cX12_wasTied 33 = .ok (.iload 4, 2) := by decide +kernel
theorem dX12_wasTied_35 : decode cX12_wasTied 35 = .ok (.baload, 1) := by decide +kernel
theorem dX12_wasTied_36 : decode cX12_wasTied 36 = .ok (.ifCond .eq 21, 3) := by decide +kernel
theorem dX12_wasTied_39 : decode cX12_wasTied 39 = .ok (.aload_n 0, 1) := by decide +kernel
theorem dX12_wasTied_40 : decode cX12_wasTied 40 = .ok (.getfield 105, 3) := by decide +kernel
theorem dX12_wasTied_43 : decode cX12_wasTied 43 = .ok (.iload 4, 2) := by decide +kernel
theorem dX12_wasTied_45 : decode cX12_wasTied 45 = .ok (.iaload, 1) := by decide +kernel
theorem dX12_wasTied_46 : decode cX12_wasTied 46 = .ok (.aload_n 0, 1) := by decide +kernel
theorem dX12_wasTied_47 : decode cX12_wasTied 47 = .ok (.getfield 105, 3) := by decide +kernel
theorem dX12_wasTied_50 : decode cX12_wasTied 50 = .ok (.iload_n 1, 1) := by decide +kernel
theorem dX12_wasTied_51 : decode cX12_wasTied 51 = .ok (.iaload, 1) := by decide +kernel
theorem dX12_wasTied_52 : decode cX12_wasTied 52 = .ok (.if_icmp .ne 5, 3) := by decide +kernel
theorem dX12_wasTied_55 : decode cX12_wasTied 55 = .ok (.iconst 1, 1) := by decide +kernel
theorem dX12_wasTied_56 : decode cX12_wasTied 56 = .ok (.ireturn, 1) := by decide +kernel
theorem dX12_wasTied_57 : decode cX12_wasTied 57 = .ok (.iinc 4 1, 3) := by decide +kernel
theorem dX12_wasTied_60 : decode cX12_wasTied 60 = .ok (.goto (-42), 3) := by decide +kernel
theorem dX12_wasTied_63 : decode cX12_wasTied 63 = .ok (.iconst 0, 1) := by decide +kernel
theorem dX12_wasTied_64 : decode cX12_wasTied 64 = .ok (.ireturn, 1) := by decide +kernel
theorem dX12_movesBehind_0 : decode cX12_movesBehind 0 = .ok (.iload_n 2, 1) := by decide +kernel
theorem dX12_movesBehind_1 : decode cX12_movesBehind 1 = .ok (.ifCond .le 7, 3) := by decide +kernel
theorem dX12_movesBehind_4 : decode cX12_movesBehind 4 = .ok (.iconst (-1), 1) := by decide +kernel
theorem dX12_movesBehind_5 : decode cX12_movesBehind 5 = .ok (.goto 4, 3) := by decide +kernel
theorem dX12_movesBehind_8 : decode cX12_movesBehind 8 = .ok (.iconst 1, 1) := by decide +kernel
theorem dX12_movesBehind_9 : decode cX12_movesBehind 9 = .ok (.istore_n 3, 1) := by decide +kernel
theorem dX12_movesBehind_10 : decode cX12_movesBehind 10 = .ok (.iload_n 2, 1) := by decide +kernel
theorem dX12_movesBehind_11 : decode cX12_movesBehind 11 = .ok (.ifCond .le 12, 3) := by decide +kernel
theorem dX12_movesBehind_14 : decode cX12_movesBehind 14 = .ok (.aload_n 0, 1) := by decide +kernel
theorem dX12_movesBehind_15 : decode cX12_movesBehind 15 = .ok (.getfield 322, 3) := by decide +kernel
theorem dX12_movesBehind_18 : decode cX12_movesBehind 18 = .ok (.iconst 1, 1) := by decide +kernel
theorem dX12_movesBehind_19 : decode cX12_movesBehind 19 = .ok (.isub, 1) := by decide +kernel
theorem dX12_movesBehind_20 : decode cX12_movesBehind 20 = .ok (.goto 4, 3) := by decide +kernel
theorem dX12_movesBehind_23 : decode cX12_movesBehind 23 = .ok (.iload_n 1, 1) := by decide +kernel
theorem dX12_movesBehind_24 : decode cX12_movesBehind 24 = .ok (.istore 4, 2) := by decide +kernel
theorem dX12_movesBehind_26 : decode cX12_movesBehind 26 = .ok (.iload_n 2, 1) := by decide +kernel
theorem dX12_movesBehind_27 : decode cX12_movesBehind 27 = .ok (.ifCond .eq 186, 3) := by decide +kernel
theorem dX12_movesBehind_30 : decode cX12_movesBehind 30 = .ok (.iload 4, 2) := by decide +kernel
theorem dX12_movesBehind_32 : decode cX12_movesBehind 32 = .ok (.iload_n 1, 1) := by decide +kernel
theorem dX12_movesBehind_33 : decode cX12_movesBehind 33 = .ok (.if_icmp .lt 180, 3) := by decide +kernel
theorem dX12_movesBehind_36 : decode cX12_movesBehind 36 = .ok (.iload 4, 2) := by decide +kernel
theorem dX12_movesBehind_38 : decode cX12_movesBehind 38 = .ok (.aload_n 0, 1) := by decide +kernel
theorem dX12_movesBehind_39 : decode cX12_movesBehind 39 = .ok (.getfield 322, 3) := by decide +kernel
theorem dX12_movesBehind_42 : decode cX12_movesBehind 42 = .ok (.if_icmp .ge 171, 3) := by decide +kernel
theorem dX12_movesBehind_45 : decode cX12_movesBehind 45 = .ok (.aload_n 0, 1) := by decide +kernel
theorem dX12_movesBehind_46 : decode cX12_movesBehind 46 = .ok (.getfield 75, 3) := by decide +kernel
theorem dX12_movesBehind_49 : decode cX12_movesBehind 49 = .ok (.iload 4, 2) := by decide +kernel
theorem dX12_movesBehind_51 : decode cX12_movesBehind 51 = .ok (.iload_n 2, 1) := by decide +kernel
theorem dX12_movesBehind_52 : decode cX12_movesBehind 52 = .ok (.iadd, 1) := by decide +kernel
theorem dX12_movesBehind_53 : decode cX12_movesBehind 53 = .ok (.aload_n 0, 1) := by decide +kernel
theorem dX12_movesBehind_54 : decode cX12_movesBehind 54 = .ok (.getfield 75, 3) := by decide +kernel
theorem dX12_movesBehind_57 : decode cX12_movesBehind 57 = .ok (.iload 4, 2) := by decide +kernel
theorem dX12_movesBehind_59 : decode cX12_movesBehind 59 = .ok (.iaload, 1) := by decide +kernel
theorem dX12_movesBehind_60 : decode cX12_movesBehind 60 = .ok (.iastore, 1) := by decide +kernel
theorem dX12_movesBehind_61 : decode cX12_movesBehind 61 = .ok (.aload_n 0, 1) := by decide +kernel
theorem dX12_movesBehind_62 : decode cX12_movesBehind 62 = .ok (.getfield 78, 3) := by decide +kernel
theorem dX12_movesBehind_65 : decode cX12_movesBehind 65 = .ok (.iload 4, 2) := by decide +kernel
theorem dX12_movesBehind_67 : decode cX12_movesBehind 67 = .ok (.iload_n 2, 1) := by decide +kernel
theorem dX12_movesBehind_68 : decode cX12_movesBehind 68 = .ok (.iadd, 1) := by decide +kernel
theorem dX12_movesBehind_69 : decode cX12_movesBehind 69 = .ok (.aload_n 0, 1) := by decide +kernel
theorem dX12_movesBehind_70 : decode cX12_movesBehind 70 = .ok (.getfield 78, 3) := by decide +kernel
theorem dX12_movesBehind_73 : decode cX12_movesBehind 73 = .ok (.iload 4, 2) := by decide +kernel
theorem dX12_movesBehind_75 : decode cX12_movesBehind 75 = .ok (.iaload, 1) := by decide +kernel
theorem dX12_movesBehind_76 : decode cX12_movesBehind 76 = .ok (.iastore, 1) := by decide +kernel
theorem dX12_movesBehind_77 : decode cX12_movesBehind 77 = .ok (.aload_n 0, 1) := by decide +kernel
theorem dX12_movesBehind_78 : decode cX12_movesBehind 78 = .ok (.getfield 81, 3) := by decide +kernel
theorem dX12_movesBehind_81 : decode cX12_movesBehind 81 = .ok (.iload 4, 2) := by decide +kernel
theorem dX12_movesBehind_83 : decode cX12_movesBehind 83 = .ok (.iload_n 2, 1) := by decide +kernel
theorem dX12_movesBehind_84 : decode cX12_movesBehind 84 = .ok (.iadd, 1) := by decide +kernel
theorem dX12_movesBehind_85 : decode cX12_movesBehind 85 = .ok (.aload_n 0, 1) := by decide +kernel
theorem dX12_movesBehind_86 : decode cX12_movesBehind 86 = .ok (.getfield 81, 3) := by decide +kernel
theorem dX12_movesBehind_89 : decode cX12_movesBehind 89 = .ok (.iload 4, 2) := by decide +kernel
theorem dX12_movesBehind_91 : decode cX12_movesBehind 91 = .ok (.iaload, 1) := by decide +kernel
theorem dX12_movesBehind_92 : decode cX12_movesBehind 92 = .ok (.iload_n 1, 1) := by decide +kernel
theorem dX12_movesBehind_93 : decode cX12_movesBehind 93 = .ok (.if_icmp .lt 15, 3) := by decide +kernel
theorem dX12_movesBehind_96 : decode cX12_movesBehind 96 = .ok (.aload_n 0, 1) := by decide +kernel
theorem dX12_movesBehind_97 : decode cX12_movesBehind 97 = .ok (.getfield 81, 3) := by decide +kernel
theorem dX12_movesBehind_100 : decode cX12_movesBehind 100 = .ok (.iload 4, 2) := by decide +kernel
theorem dX12_movesBehind_102 : decode cX12_movesBehind 102 = .ok (.iaload, 1) := by decide +kernel
theorem dX12_movesBehind_103 : decode cX12_movesBehind 103 = .ok (.iload_n 2, 1) := by decide +kernel
theorem dX12_movesBehind_104 : decode cX12_movesBehind 104 = .ok (.iadd, 1) := by decide +kernel
theorem dX12_movesBehind_105 : decode cX12_movesBehind 105 = .ok (.goto 10, 3) := by decide +kernel
theorem dX12_movesBehind_108 : decode cX12_movesBehind 108 = .ok (.aload_n 0, 1) := by decide +kernel
theorem dX12_movesBehind_109 : decode cX12_movesBehind 109 = .ok (.getfield 81, 3) := by decide +kernel
theorem dX12_movesBehind_112 : decode cX12_movesBehind 112 = .ok (.iload 4, 2) := by decide +kernel
theorem dX12_movesBehind_114 : decode cX12_movesBehind 114 = .ok (.iaload, 1) := by decide +kernel
theorem dX12_movesBehind_115 : decode cX12_movesBehind 115 = .ok (.iastore, 1) := by decide +kernel
theorem dX12_movesBehind_116 : decode cX12_movesBehind 116 = .ok (.iconst 0, 1) := by decide +kernel
theorem dX12_movesBehind_117 : decode cX12_movesBehind 117 = .ok (.istore 5, 2) := by decide +kernel
theorem dX12_movesBehind_119 : decode cX12_movesBehind 119 = .ok (.iload 5, 2) := by decide +kernel
theorem dX12_movesBehind_121 : decode cX12_movesBehind 121 = .ok (.bipush 8, 2) := by decide +kernel
theorem dX12_movesBehind_123 : decode cX12_movesBehind 123 = .ok (.if_icmp .ge 81, 3) := by decide +kernel
theorem dX12_movesBehind_126 : decode cX12_movesBehind 126 = .ok (.aload_n 0, 1) := by decide +kernel
theorem dX12_movesBehind_127 : decode cX12_movesBehind 127 = .ok (.getfield 114, 3) := by decide +kernel
theorem dX12_movesBehind_130 : decode cX12_movesBehind 130 = .ok (.bipush 8, 2) := by decide +kernel
theorem dX12_movesBehind_132 : decode cX12_movesBehind 132 = .ok (.iload 4, 2) := by decide +kernel
theorem dX12_movesBehind_134 : decode cX12_movesBehind 134 = .ok (.iload_n 2, 1) := by decide +kernel
theorem dX12_movesBehind_135 : decode cX12_movesBehind 135 = .ok (.iadd, 1) := by decide +kernel
theorem dX12_movesBehind_136 : decode cX12_movesBehind 136 = .ok (.imul, 1) := by decide +kernel
theorem dX12_movesBehind_137 : decode cX12_movesBehind 137 = .ok (.iload 5, 2) := by decide +kernel
theorem dX12_movesBehind_139 : decode cX12_movesBehind 139 = .ok (.iadd, 1) := by decide +kernel
theorem dX12_movesBehind_140 : decode cX12_movesBehind 140 = .ok (.aload_n 0, 1) := by decide +kernel
theorem dX12_movesBehind_141 : decode cX12_movesBehind 141 = .ok (.getfield 114, 3) := by decide +kernel
theorem dX12_movesBehind_144 : decode cX12_movesBehind 144 = .ok (.bipush 8, 2) := by decide +kernel
theorem dX12_movesBehind_146 : decode cX12_movesBehind 146 = .ok (.iload 4, 2) := by decide +kernel
theorem dX12_movesBehind_148 : decode cX12_movesBehind 148 = .ok (.imul, 1) := by decide +kernel
theorem dX12_movesBehind_149 : decode cX12_movesBehind 149 = .ok (.iload 5, 2) := by decide +kernel
theorem dX12_movesBehind_151 : decode cX12_movesBehind 151 = .ok (.iadd, 1) := by decide +kernel
theorem dX12_movesBehind_152 : decode cX12_movesBehind 152 = .ok (.iaload, 1) := by decide +kernel
theorem dX12_movesBehind_153 : decode cX12_movesBehind 153 = .ok (.iastore, 1) := by decide +kernel
theorem dX12_movesBehind_154 : decode cX12_movesBehind 154 = .ok (.aload_n 0, 1) := by decide +kernel
theorem dX12_movesBehind_155 : decode cX12_movesBehind 155 = .ok (.getfield 136, 3) := by decide +kernel
theorem dX12_movesBehind_158 : decode cX12_movesBehind 158 = .ok (.bipush 8, 2) := by decide +kernel
theorem dX12_movesBehind_160 : decode cX12_movesBehind 160 = .ok (.iload 4, 2) := by decide +kernel
theorem dX12_movesBehind_162 : decode cX12_movesBehind 162 = .ok (.iload_n 2, 1) := by decide +kernel
theorem dX12_movesBehind_163 : decode cX12_movesBehind 163 = .ok (.iadd, 1) := by decide +kernel
theorem dX12_movesBehind_164 : decode cX12_movesBehind 164 = .ok (.imul, 1) := by decide +kernel
theorem dX12_movesBehind_165 : decode cX12_movesBehind 165 = .ok (.iload 5, 2) := by decide +kernel
theorem dX12_movesBehind_167 : decode cX12_movesBehind 167 = .ok (.iadd, 1) := by decide +kernel
theorem dX12_movesBehind_168 : decode cX12_movesBehind 168 = .ok (.aload_n 0, 1) := by decide +kernel
theorem dX12_movesBehind_169 : decode cX12_movesBehind 169 = .ok (.getfield 136, 3) := by decide +kernel
theorem dX12_movesBehind_172 : decode cX12_movesBehind 172 = .ok (.bipush 8, 2) := by decide +kernel
theorem dX12_movesBehind_174 : decode cX12_movesBehind 174 = .ok (.iload 4, 2) := by decide +kernel
theorem dX12_movesBehind_176 : decode cX12_movesBehind 176 = .ok (.imul, 1) := by decide +kernel
theorem dX12_movesBehind_177 : decode cX12_movesBehind 177 = .ok (.iload 5, 2) := by decide +kernel
theorem dX12_movesBehind_179 : decode cX12_movesBehind 179 = .ok (.iadd, 1) := by decide +kernel
theorem dX12_movesBehind_180 : decode cX12_movesBehind 180 = .ok (.baload, 1) := by decide +kernel
theorem dX12_movesBehind_181 : decode cX12_movesBehind 181 = .ok (.bastore, 1) := by decide +kernel
theorem dX12_movesBehind_182 : decode cX12_movesBehind 182 = .ok (.aload_n 0, 1) := by decide +kernel
theorem dX12_movesBehind_183 : decode cX12_movesBehind 183 = .ok (.getfield 139, 3) := by decide +kernel
theorem dX12_movesBehind_186 : decode cX12_movesBehind 186 = .ok (.bipush 8, 2) := by decide +kernel
theorem dX12_movesBehind_188 : decode cX12_movesBehind 188 = .ok (.iload 4, 2) := by decide +kernel
theorem dX12_movesBehind_190 : decode cX12_movesBehind 190 = .ok (.iload_n 2, 1) := by decide +kernel
theorem dX12_movesBehind_191 : decode cX12_movesBehind 191 = .ok (.iadd, 1) := by decide +kernel
theorem dX12_movesBehind_192 : decode cX12_movesBehind 192 = .ok (.imul, 1) := by decide +kernel
theorem dX12_movesBehind_193 : decode cX12_movesBehind 193 = .ok (.iload 5, 2) := by decide +kernel
theorem dX12_movesBehind_195 : decode cX12_movesBehind 195 = .ok (.iadd, 1) := by decide +kernel
theorem dX12_movesBehind_196 : decode cX12_movesBehind 196 = .ok (.iconst 0, 1) := by decide +kernel
theorem dX12_movesBehind_197 : decode cX12_movesBehind 197 = .ok (.bastore, 1) := by decide +kernel
theorem dX12_movesBehind_198 : decode cX12_movesBehind 198 = .ok (.iinc 5 1, 3) := by decide +kernel
theorem dX12_movesBehind_201 : decode cX12_movesBehind 201 = .ok (.goto (-82), 3) := by decide +kernel
theorem dX12_movesBehind_204 : decode cX12_movesBehind 204 = .ok (.iload 4, 2) := by decide +kernel
theorem dX12_movesBehind_206 : decode cX12_movesBehind 206 = .ok (.iload_n 3, 1) := by decide +kernel
theorem dX12_movesBehind_207 : decode cX12_movesBehind 207 = .ok (.iadd, 1) := by decide +kernel
theorem dX12_movesBehind_208 : decode cX12_movesBehind 208 = .ok (.istore 4, 2) := by decide +kernel
theorem dX12_movesBehind_210 : decode cX12_movesBehind 210 = .ok (.goto (-184), 3) := by decide +kernel
theorem dX12_movesBehind_213 : decode cX12_movesBehind 213 = .ok (.return_, 1) := by decide +kernel
theorem dX12_anew_0 : decode cX12_anew 0 = .ok (.iload_n 1, 1) := by decide +kernel
theorem dX12_anew_1 : decode cX12_anew 1 = .ok (.iconst 0, 1) := by decide +kernel
theorem dX12_anew_2 : decode cX12_anew 2 = .ok (.iconst 1, 1) := by decide +kernel
theorem dX12_anew_3 : decode cX12_anew 3 = .ok (.invokestatic 246, 3) := by decide +kernel
theorem dX12_anew_6 : decode cX12_anew 6 = .ok (.ifCond .ne 9, 3) := by decide +kernel
theorem dX12_anew_9 : decode cX12_anew 9 = .ok (.aload_n 0, 1) := by decide +kernel
theorem dX12_anew_10 : decode cX12_anew 10 = .ok (.iconst 1, 1) := by decide +kernel
theorem dX12_anew_11 : decode cX12_anew 11 = .ok (.invokevirtual 305, 3) := by decide +kernel
theorem dX12_anew_14 : decode cX12_anew 14 = .ok (.ireturn, 1) := by decide +kernel
theorem dX12_anew_15 : decode cX12_anew 15 = .ok (.aload_n 0, 1) := by decide +kernel
theorem dX12_anew_16 : decode cX12_anew 16 = .ok (.invokevirtual 544, 3) := by decide +kernel
theorem dX12_anew_19 : decode cX12_anew 19 = .ok (.ifCond .ne 9, 3) := by decide +kernel
theorem dX12_anew_22 : decode cX12_anew 22 = .ok (.aload_n 0, 1) := by decide +kernel
theorem dX12_anew_23 : decode cX12_anew 23 = .ok (.iconst 3, 1) := by decide +kernel
theorem dX12_anew_24 : decode cX12_anew 24 = .ok (.invokevirtual 305, 3) := by decide +kernel
theorem dX12_anew_27 : decode cX12_anew 27 = .ok (.ireturn, 1) := by decide +kernel
theorem dX12_anew_28 : decode cX12_anew 28 = .ok (.aload_n 0, 1) := by decide +kernel
theorem dX12_anew_29 : decode cX12_anew 29 = .ok (.getfield 478, 3) := by decide +kernel
theorem dX12_anew_32 : decode cX12_anew 32 = .ok (.ifCond .ne 10, 3) := by decide +kernel
theorem dX12_anew_35 : decode cX12_anew 35 = .ok (.aload_n 0, 1) := by decide +kernel
theorem dX12_anew_36 : decode cX12_anew 36 = .ok (.bipush 7, 2) := by decide +kernel
theorem dX12_anew_38 : decode cX12_anew 38 = .ok (.invokevirtual 305, 3) := by decide +kernel
theorem dX12_anew_41 : decode cX12_anew 41 = .ok (.ireturn, 1) := by decide +kernel
theorem dX12_anew_42 : decode cX12_anew 42 = .ok (.aload_n 0, 1) := by decide +kernel
theorem dX12_anew_43 : decode cX12_anew 43 = .ok (.iload_n 1, 1) := by decide +kernel
theorem dX12_anew_44 : decode cX12_anew 44 = .ok (.ifCond .ne 10, 3) := by decide +kernel
theorem dX12_anew_47 : decode cX12_anew 47 = .ok (.aload_n 0, 1) := by decide +kernel
theorem dX12_anew_48 : decode cX12_anew 48 = .ok (.getfield 550, 3) := by decide +kernel
theorem dX12_anew_51 : decode cX12_anew 51 = .ok (.goto 7, 3) := by decide +kernel
theorem dX12_anew_54 : decode cX12_anew 54 = .ok (.aload_n 0, 1) := by decide +kernel
theorem dX12_anew_55 : decode cX12_anew 55 = .ok (.getfield 553, 3) := by decide +kernel
theorem dX12_anew_58 : decode cX12_anew 58 = .ok (.invokevirtual 328, 3) := by decide +kernel
theorem dX12_anew_61 : decode cX12_anew 61 = .ok (.ireturn, 1) := by decide +kernel
theorem dX12_digest_0 : decode cX12_digest 0 = .ok (.aload_n 0, 1) := by decide +kernel
theorem dX12_digest_1 : decode cX12_digest 1 = .ok (.invokevirtual 544, 3) := by decide +kernel
theorem dX12_digest_4 : decode cX12_digest 4 = .ok (.ifCond .ne 9, 3) := by decide +kernel
theorem dX12_digest_7 : decode cX12_digest 7 = .ok (.aload_n 0, 1) := by decide +kernel
theorem dX12_digest_8 : decode cX12_digest 8 = .ok (.iconst 3, 1) := by decide +kernel
theorem dX12_digest_9 : decode cX12_digest 9 = .ok (.invokevirtual 305, 3) := by decide +kernel
theorem dX12_digest_12 : decode cX12_digest 12 = .ok (.ireturn, 1) := by decide +kernel
theorem dX12_digest_13 : decode cX12_digest 13 = .ok (.bipush 17, 2) := by decide +kernel
theorem dX12_digest_15 : decode cX12_digest 15 = .ok (.istore_n 1, 1) := by decide +kernel
theorem dX12_digest_16 : decode cX12_digest 16 = .ok (.iconst 0, 1) := by decide +kernel
theorem dX12_digest_17 : decode cX12_digest 17 = .ok (.istore_n 2, 1) := by decide +kernel
theorem dX12_digest_18 : decode cX12_digest 18 = .ok (.iload_n 2, 1) := by decide +kernel
theorem dX12_digest_19 : decode cX12_digest 19 = .ok (.bipush 8, 2) := by decide +kernel
theorem dX12_digest_21 : decode cX12_digest 21 = .ok (.aload_n 0, 1) := by decide +kernel
theorem dX12_digest_22 : decode cX12_digest 22 = .ok (.getfield 322, 3) := by decide +kernel
theorem dX12_digest_25 : decode cX12_digest 25 = .ok (.imul, 1) := by decide +kernel
theorem dX12_digest_26 : decode cX12_digest 26 = .ok (.if_icmp .ge 30, 3) := by decide +kernel
theorem dX12_digest_29 : decode cX12_digest 29 = .ok (.aload_n 0, 1) := by decide +kernel
theorem dX12_digest_30 : decode cX12_digest 30 = .ok (.getfield 126, 3) := by decide +kernel
theorem dX12_digest_33 : decode cX12_digest 33 = .ok (.iload_n 2, 1) := by decide +kernel
theorem dX12_digest_34 : decode cX12_digest 34 = .ok (.baload, 1) := by decide +kernel
theorem dX12_digest_35 : decode cX12_digest 35 = .ok (.ifCond .eq 15, 3) := by decide +kernel
theorem dX12_digest_38 : decode cX12_digest 38 = .ok (.bipush 31, 2) := by decide +kernel
theorem dX12_digest_40 : decode cX12_digest 40 = .ok (.iload_n 1, 1) := by decide +kernel
theorem dX12_digest_41 : decode cX12_digest 41 = .ok (.imul, 1) := by decide +kernel
theorem dX12_digest_42 : decode cX12_digest 42 = .ok (.aload_n 0, 1) := by decide +kernel
theorem dX12_digest_43 : decode cX12_digest 43 = .ok (.getfield 102, 3) := by decide +kernel
theorem dX12_digest_46 : decode cX12_digest 46 = .ok (.iload_n 2, 1) := by decide +kernel
theorem dX12_digest_47 : decode cX12_digest 47 = .ok (.iaload, 1) := by decide +kernel
theorem dX12_digest_48 : decode cX12_digest 48 = .ok (.iadd, 1) := by decide +kernel
theorem dX12_digest_49 : decode cX12_digest 49 = .ok (.istore_n 1, 1) := by decide +kernel
theorem dX12_digest_50 : decode cX12_digest 50 = .ok (.iinc 2 1, 3) := by decide +kernel
theorem dX12_digest_53 : decode cX12_digest 53 = .ok (.goto (-35), 3) := by decide +kernel
theorem dX12_digest_56 : decode cX12_digest 56 = .ok (.aload_n 0, 1) := by decide +kernel
theorem dX12_digest_57 : decode cX12_digest 57 = .ok (.iload_n 1, 1) := by decide +kernel
theorem dX12_digest_58 : decode cX12_digest 58 = .ok (.invokevirtual 328, 3) := by decide +kernel
theorem dX12_digest_61 : decode cX12_digest 61 = .ok (.ireturn, 1) := by decide +kernel
