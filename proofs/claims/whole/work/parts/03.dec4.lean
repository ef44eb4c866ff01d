theorem dX12_induces_172 : decode cX12_induces 172 = .ok (.iinc 3 1, 3) := by decide +kernel
theorem dX12_induces_175 : decode cX12_induces 175 = .ok (.goto (-127), 3) := by decide +kernel
theorem dX12_induces_178 : decode cX12_induces 178 = .ok (.iinc 2 1, 3) := by decide +kernel
theorem dX12_induces_181 : decode cX12_induces 181 = .ok (.goto (-150), 3) := by decide +kernel
theorem dX12_induces_184 : decode cX12_induces 184 = .ok (.goto (-161), 3) := by decide +kernel
theorem dX12_induces_187 : decode cX12_induces 187 = .ok (.return_, 1) := by decide +kernel
theorem dX12_isSelf_0 : decode cX12_isSelf 0 = .ok (.iconst 0, 1) := by decide +kernel
theorem dX12_isSelf_1 : decode cX12_isSelf 1 = .ok (.istore_n 2, 1) := by decide +kernel
theorem dX12_isSelf_2 : decode cX12_isSelf 2 = .ok (.iload_n 2, 1) := by decide +kernel
theorem dX12_isSelf_3 : decode cX12_isSelf 3 = .ok (.aload_n 0, 1) := by decide +kernel
theorem dX12_isSelf_4 : decode cX12_isSelf 4 = .ok (.iload_n 1, 1) := by decide +kernel
theorem dX12_isSelf_5 : decode cX12_isSelf 5 = .ok (.invokevirtual 334, 3) := by decide +kernel
theorem dX12_isSelf_8 : decode cX12_isSelf 8 = .ok (.if_icmp .ge 29, 3) := by decide +kernel
theorem dX12_isSelf_11 : decode cX12_isSelf 11 = .ok (.aload_n 0, 1) := by decide +kernel
theorem dX12_isSelf_12 : decode cX12_isSelf 12 = .ok (.getfield 33, 3) := by decide +kernel
theorem dX12_isSelf_15 : decode cX12_isSelf 15 = .ok (.bipush 8, 2) := by decide +kernel
theorem dX12_isSelf_17 : decode cX12_isSelf 17 = .ok (.iload_n 1, 1) := by decide +kernel
theorem dX12_isSelf_18 : decode cX12_isSelf 18 = .ok (.imul, 1) := by decide +kernel
theorem dX12_isSelf_19 : decode cX12_isSelf 19 = .ok (.iload_n 2, 1) := by decide +kernel
theorem dX12_isSelf_20 : decode cX12_isSelf 20 = .ok (.iadd, 1) := by decide +kernel
theorem dX12_isSelf_21 : decode cX12_isSelf 21 = .ok (.iaload, 1) := by decide +kernel
theorem dX12_isSelf_22 : decode cX12_isSelf 22 = .ok (.iload_n 2, 1) := by decide +kernel
theorem dX12_isSelf_23 : decode cX12_isSelf 23 = .ok (.invokestatic 344, 3) := by decide +kernel
theorem dX12_isSelf_26 : decode cX12_isSelf 26 = .ok (.ifCond .eq 5, 3) := by decide +kernel
theorem dX12_isSelf_29 : decode cX12_isSelf 29 = .ok (.iconst 1, 1) := by decide +kernel
theorem dX12_isSelf_30 : decode cX12_isSelf 30 = .ok (.ireturn, 1) := by decide +kernel
theorem dX12_isSelf_31 : decode cX12_isSelf 31 = .ok (.iinc 2 1, 3) := by decide +kernel
theorem dX12_isSelf_34 : decode cX12_isSelf 34 = .ok (.goto (-32), 3) := by decide +kernel
theorem dX12_isSelf_37 : decode cX12_isSelf 37 = .ok (.iconst 0, 1) := by decide +kernel
theorem dX12_isSelf_38 : decode cX12_isSelf 38 = .ok (.ireturn, 1) := by decide +kernel
theorem dX12_isSelfIn_0 : decode cX12_isSelfIn 0 = .ok (.iconst 0, 1) := by decide +kernel
theorem dX12_isSelfIn_1 : decode cX12_isSelfIn 1 = .ok (.istore_n 2, 1) := by decide +kernel
theorem dX12_isSelfIn_2 : decode cX12_isSelfIn 2 = .ok (.iload_n 2, 1) := by decide +kernel
theorem dX12_isSelfIn_3 : decode cX12_isSelfIn 3 = .ok (.aload_n 0, 1) := by decide +kernel
theorem dX12_isSelfIn_4 : decode cX12_isSelfIn 4 = .ok (.getfield 13, 3) := by decide +kernel
theorem dX12_isSelfIn_7 : decode cX12_isSelfIn 7 = .ok (.bipush 32, 2) := by decide +kernel
theorem dX12_isSelfIn_9 : decode cX12_isSelfIn 9 = .ok (.iload_n 1, 1) := by decide +kernel
theorem dX12_isSelfIn_10 : decode cX12_isSelfIn 10 = .ok (.iadd, 1) := by decide +kernel
theorem dX12_isSelfIn_11 : decode cX12_isSelfIn 11 = .ok (.iaload, 1) := by decide +kernel
theorem dX12_isSelfIn_12 : decode cX12_isSelfIn 12 = .ok (.if_icmp .gt 27, 3) := by decide +kernel
theorem dX12_isSelfIn_15 : decode cX12_isSelfIn 15 = .ok (.aload_n 0, 1) := by decide +kernel
theorem dX12_isSelfIn_16 : decode cX12_isSelfIn 16 = .ok (.aload_n 0, 1) := by decide +kernel
theorem dX12_isSelfIn_17 : decode cX12_isSelfIn 17 = .ok (.getfield 13, 3) := by decide +kernel
theorem dX12_isSelfIn_20 : decode cX12_isSelfIn 20 = .ok (.iload_n 1, 1) := by decide +kernel
theorem dX12_isSelfIn_21 : decode cX12_isSelfIn 21 = .ok (.iload_n 2, 1) := by decide +kernel
theorem dX12_isSelfIn_22 : decode cX12_isSelfIn 22 = .ok (.invokestatic 250, 3) := by decide +kernel
theorem dX12_isSelfIn_25 : decode cX12_isSelfIn 25 = .ok (.invokevirtual 359, 3) := by decide +kernel
theorem dX12_isSelfIn_28 : decode cX12_isSelfIn 28 = .ok (.ifCond .eq 5, 3) := by decide +kernel
theorem dX12_isSelfIn_31 : decode cX12_isSelfIn 31 = .ok (.iconst 1, 1) := by decide +kernel
theorem dX12_isSelfIn_32 : decode cX12_isSelfIn 32 = .ok (.ireturn, 1) := by decide +kernel
theorem dX12_isSelfIn_33 : decode cX12_isSelfIn 33 = .ok (.iinc 2 1, 3) := by decide +kernel
theorem dX12_isSelfIn_36 : decode cX12_isSelfIn 36 = .ok (.goto (-34), 3) := by decide +kernel
theorem dX12_isSelfIn_39 : decode cX12_isSelfIn 39 = .ok (.iconst 0, 1) := by decide +kernel
theorem dX12_isSelfIn_40 : decode cX12_isSelfIn 40 = .ok (.ireturn, 1) := by decide +kernel
theorem dX12_firstSelf_0 : decode cX12_firstSelf 0 = .ok (.iconst 0, 1) := by decide +kernel
theorem dX12_firstSelf_1 : decode cX12_firstSelf 1 = .ok (.istore_n 1, 1) := by decide +kernel
theorem dX12_firstSelf_2 : decode cX12_firstSelf 2 = .ok (.iload_n 1, 1) := by decide +kernel
theorem dX12_firstSelf_3 : decode cX12_firstSelf 3 = .ok (.bipush 32, 2) := by decide +kernel
theorem dX12_firstSelf_5 : decode cX12_firstSelf 5 = .ok (.if_icmp .ge 24, 3) := by decide +kernel
theorem dX12_firstSelf_8 : decode cX12_firstSelf 8 = .ok (.aload_n 0, 1) := by decide +kernel
theorem dX12_firstSelf_9 : decode cX12_firstSelf 9 = .ok (.getfield 36, 3) := by decide +kernel
theorem dX12_firstSelf_12 : decode cX12_firstSelf 12 = .ok (.iload_n 1, 1) := by decide +kernel
theorem dX12_firstSelf_13 : decode cX12_firstSelf 13 = .ok (.iaload, 1) := by decide +kernel
theorem dX12_firstSelf_14 : decode cX12_firstSelf 14 = .ok (.iload_n 1, 1) := by decide +kernel
theorem dX12_firstSelf_15 : decode cX12_firstSelf 15 = .ok (.invokestatic 344, 3) := by decide +kernel
theorem dX12_firstSelf_18 : decode cX12_firstSelf 18 = .ok (.ifCond .eq 5, 3) := by decide +kernel
theorem dX12_firstSelf_21 : decode cX12_firstSelf 21 = .ok (.iload_n 1, 1) := by decide +kernel
theorem dX12_firstSelf_22 : decode cX12_firstSelf 22 = .ok (.ireturn, 1) := by decide +kernel
theorem dX12_firstSelf_23 : decode cX12_firstSelf 23 = .ok (.iinc 1 1, 3) := by decide +kernel
theorem dX12_firstSelf_26 : decode cX12_firstSelf 26 = .ok (.goto (-24), 3) := by decide +kernel
theorem dX12_firstSelf_29 : decode cX12_firstSelf 29 = .ok (.iconst (-1), 1) := by decide +kernel
theorem dX12_firstSelf_30 : decode cX12_firstSelf 30 = .ok (.ireturn, 1) := by decide +kernel
theorem dX12_findsCircle_0 : decode cX12_findsCircle 0 = .ok (.iconst 0, 1) := by decide +kernel
theorem dX12_findsCircle_1 : decode cX12_findsCircle 1 = .ok (.istore_n 1, 1) := by decide +kernel
theorem dX12_findsCircle_2 : decode cX12_findsCircle 2 = .ok (.iload_n 1, 1) := by decide +kernel
theorem dX12_findsCircle_3 : decode cX12_findsCircle 3 = .ok (.aload_n 0, 1) := by decide +kernel
theorem dX12_findsCircle_4 : decode cX12_findsCircle 4 = .ok (.getfield 13, 3) := by decide +kernel
theorem dX12_findsCircle_7 : decode cX12_findsCircle 7 = .ok (.iconst 1, 1) := by decide +kernel
theorem dX12_findsCircle_8 : decode cX12_findsCircle 8 = .ok (.iaload, 1) := by decide +kernel
theorem dX12_findsCircle_9 : decode cX12_findsCircle 9 = .ok (.if_icmp .ge 44, 3) := by decide +kernel
theorem dX12_findsCircle_12 : decode cX12_findsCircle 12 = .ok (.aload_n 0, 1) := by decide +kernel
theorem dX12_findsCircle_13 : decode cX12_findsCircle 13 = .ok (.iload_n 1, 1) := by decide +kernel
theorem dX12_findsCircle_14 : decode cX12_findsCircle 14 = .ok (.invokevirtual 356, 3) := by decide +kernel
theorem dX12_findsCircle_17 : decode cX12_findsCircle 17 = .ok (.aload_n 0, 1) := by decide +kernel
theorem dX12_findsCircle_18 : decode cX12_findsCircle 18 = .ok (.invokevirtual 362, 3) := by decide +kernel
theorem dX12_findsCircle_21 : decode cX12_findsCircle 21 = .ok (.istore_n 2, 1) := by decide +kernel
theorem dX12_findsCircle_22 : decode cX12_findsCircle 22 = .ok (.iload_n 2, 1) := by decide +kernel
theorem dX12_findsCircle_23 : decode cX12_findsCircle 23 = .ok (.iconst (-1), 1) := by decide +kernel
theorem dX12_findsCircle_24 : decode cX12_findsCircle 24 = .ok (.if_icmp .ne 6, 3) := by decide +kernel
theorem dX12_findsCircle_27 : decode cX12_findsCircle 27 = .ok (.goto 20, 3) := by decide +kernel
theorem dX12_findsCircle_30 : decode cX12_findsCircle 30 = .ok (.aload_n 0, 1) := by decide +kernel
theorem dX12_findsCircle_31 : decode cX12_findsCircle 31 = .ok (.iload_n 1, 1) := by decide +kernel
theorem dX12_findsCircle_32 : decode cX12_findsCircle 32 = .ok (.invokevirtual 347, 3) := by decide +kernel
theorem dX12_findsCircle_35 : decode cX12_findsCircle 35 = .ok (.aload_n 0, 1) := by decide +kernel
theorem dX12_findsCircle_36 : decode cX12_findsCircle 36 = .ok (.iload_n 1, 1) := by decide +kernel
theorem dX12_findsCircle_37 : decode cX12_findsCircle 37 = .ok (.invokevirtual 350, 3) := by decide +kernel
theorem dX12_findsCircle_40 : decode cX12_findsCircle 40 = .ok (.aload_n 0, 1) := by decide +kernel
theorem dX12_findsCircle_41 : decode cX12_findsCircle 41 = .ok (.iload_n 2, 1) := by decide +kernel
theorem dX12_findsCircle_42 : decode cX12_findsCircle 42 = .ok (.invokevirtual 365, 3) := by decide +kernel
theorem dX12_findsCircle_45 : decode cX12_findsCircle 45 = .ok (.iload_n 1, 1) := by decide +kernel
theorem dX12_findsCircle_46 : decode cX12_findsCircle 46 = .ok (.ireturn, 1) := by decide +kernel
theorem dX12_findsCircle_47 : decode cX12_findsCircle 47 = .ok (.iinc 1 1, 3) := by decide +kernel
theorem dX12_findsCircle_50 : decode cX12_findsCircle 50 = .ok (.goto (-48), 3) := by decide +kernel
theorem dX12_findsCircle_53 : decode cX12_findsCircle 53 = .ok (.iconst (-1), 1) := by decide +kernel
theorem dX12_findsCircle_54 : decode cX12_findsCircle 54 = .ok (.ireturn, 1) := by decide +kernel
theorem dX12_laysRing_0 : decode cX12_laysRing 0 = .ok (.iconst 0, 1) := by decide +kernel
theorem dX12_laysRing_1 : decode cX12_laysRing 1 = .ok (.istore_n 2, 1) := by decide +kernel
theorem dX12_laysRing_2 : decode cX12_laysRing 2 = .ok (.iload_n 2, 1) := by decide +kernel
theorem dX12_laysRing_3 : decode cX12_laysRing 3 = .ok (.bipush 32, 2) := by decide +kernel
theorem dX12_laysRing_5 : decode cX12_laysRing 5 = .ok (.if_icmp .ge 35, 3) := by decide +kernel
theorem dX12_laysRing_8 : decode cX12_laysRing 8 = .ok (.aload_n 0, 1) := by decide +kernel
theorem dX12_laysRing_9 : decode cX12_laysRing 9 = .ok (.getfield 42, 3) := by decide +kernel
theorem dX12_laysRing_12 : decode cX12_laysRing 12 = .ok (.iload_n 2, 1) := by decide +kernel
theorem dX12_laysRing_13 : decode cX12_laysRing 13 = .ok (.aload_n 0, 1) := by decide +kernel
theorem dX12_laysRing_14 : decode cX12_laysRing 14 = .ok (.getfield 36, 3) := by decide +kernel
theorem dX12_laysRing_17 : decode cX12_laysRing 17 = .ok (.iload_n 2, 1) := by decide +kernel
theorem dX12_laysRing_18 : decode cX12_laysRing 18 = .ok (.iaload, 1) := by decide +kernel
theorem dX12_laysRing_19 : decode cX12_laysRing 19 = .ok (.iload_n 1, 1) := by decide +kernel
theorem dX12_laysRing_20 : decode cX12_laysRing 20 = .ok (.invokestatic 344, 3) := by decide +kernel
theorem dX12_laysRing_23 : decode cX12_laysRing 23 = .ok (.ifCond .eq 7, 3) := by decide +kernel
theorem dX12_laysRing_26 : decode cX12_laysRing 26 = .ok (.iconst 1, 1) := by decide +kernel
theorem dX12_laysRing_27 : decode cX12_laysRing 27 = .ok (.goto 6, 3) := by decide +kernel
theorem dX12_laysRing_30 : decode cX12_laysRing 30 = .ok (.sipush 1000, 3) := by decide +kernel
theorem dX12_laysRing_33 : decode cX12_laysRing 33 = .ok (.iastore, 1) := by decide +kernel
theorem dX12_laysRing_34 : decode cX12_laysRing 34 = .ok (.iinc 2 1, 3) := by decide +kernel
theorem dX12_laysRing_37 : decode cX12_laysRing 37 = .ok (.goto (-35), 3) := by decide +kernel
theorem dX12_laysRing_40 : decode cX12_laysRing 40 = .ok (.iconst 0, 1) := by decide +kernel
theorem dX12_laysRing_41 : decode cX12_laysRing 41 = .ok (.istore_n 2, 1) := by decide +kernel
theorem dX12_laysRing_42 : decode cX12_laysRing 42 = .ok (.iload_n 2, 1) := by decide +kernel
theorem dX12_laysRing_43 : decode cX12_laysRing 43 = .ok (.bipush 32, 2) := by decide +kernel
theorem dX12_laysRing_45 : decode cX12_laysRing 45 = .ok (.if_icmp .ge 77, 3) := by decide +kernel
theorem dX12_laysRing_48 : decode cX12_laysRing 48 = .ok (.iconst 0, 1) := by decide +kernel
theorem dX12_laysRing_49 : decode cX12_laysRing 49 = .ok (.istore_n 3, 1) := by decide +kernel
theorem dX12_laysRing_50 : decode cX12_laysRing 50 = .ok (.iload_n 3, 1) := by decide +kernel
theorem dX12_laysRing_51 : decode cX12_laysRing 51 = .ok (.bipush 32, 2) := by decide +kernel
theorem dX12_laysRing_53 : decode cX12_laysRing 53 = .ok (.if_icmp .ge 63, 3) := by decide +kernel
theorem dX12_laysRing_56 : decode cX12_laysRing 56 = .ok (.iconst 0, 1) := by decide +kernel
theorem dX12_laysRing_57 : decode cX12_laysRing 57 = .ok (.istore 4, 2) := by decide +kernel
theorem dX12_laysRing_59 : decode cX12_laysRing 59 = .ok (.iload 4, 2) := by decide +kernel
theorem dX12_laysRing_61 : decode cX12_laysRing 61 = .ok (.bipush 32, 2) := by decide +kernel
theorem dX12_laysRing_63 : decode cX12_laysRing 63 = .ok (.if_icmp .ge 47, 3) := by decide +kernel
theorem dX12_laysRing_66 : decode cX12_laysRing 66 = .ok (.aload_n 0, 1) := by decide +kernel
theorem dX12_laysRing_67 : decode cX12_laysRing 67 = .ok (.getfield 36, 3) := by decide +kernel
theorem dX12_laysRing_70 : decode cX12_laysRing 70 = .ok (.iload_n 3, 1) := by decide +kernel
theorem dX12_laysRing_71 : decode cX12_laysRing 71 = .ok (.iaload, 1) := by decide +kernel
theorem dX12_laysRing_72 : decode cX12_laysRing 72 = .ok (.iload 4, 2) := by decide +kernel
theorem dX12_laysRing_74 : decode cX12_laysRing 74 = .ok (.invokestatic 344, 3) := by decide +kernel
theorem dX12_laysRing_77 : decode cX12_laysRing 77 = .ok (.ifCond .eq 27, 3) := by decide +kernel
theorem dX12_laysRing_80 : decode cX12_laysRing 80 = .ok (.aload_n 0, 1) := by decide +kernel
theorem dX12_laysRing_81 : decode cX12_laysRing 81 = .ok (.getfield 42, 3) := by decide +kernel
theorem dX12_laysRing_84 : decode cX12_laysRing 84 = .ok (.iload_n 3, 1) := by decide +kernel
theorem dX12_laysRing_85 : decode cX12_laysRing 85 = .ok (.aload_n 0, 1) := by decide +kernel
theorem dX12_laysRing_86 : decode cX12_laysRing 86 = .ok (.getfield 42, 3) := by decide +kernel
theorem dX12_laysRing_89 : decode cX12_laysRing 89 = .ok (.iload_n 3, 1) := by decide +kernel
theorem dX12_laysRing_90 : decode cX12_laysRing 90 = .ok (.iaload, 1) := by decide +kernel
theorem dX12_laysRing_91 : decode cX12_laysRing 91 = .ok (.aload_n 0, 1) := by decide +kernel
theorem dX12_laysRing_92 : decode cX12_laysRing 92 = .ok (.getfield 42, 3) := by decide +kernel
theorem dX12_laysRing_95 : decode cX12_laysRing 95 = .ok (.iload 4, 2) := by decide +kernel
theorem dX12_laysRing_97 : decode cX12_laysRing 97 = .ok (.iaload, 1) := by decide +kernel
theorem dX12_laysRing_98 : decode cX12_laysRing 98 = .ok (.iconst 1, 1) := by decide +kernel
theorem dX12_laysRing_99 : decode cX12_laysRing 99 = .ok (.iadd, 1) := by decide +kernel
theorem dX12_laysRing_100 : decode cX12_laysRing 100 = .ok (.invokestatic 368, 3) := by decide +kernel
theorem dX12_laysRing_103 : decode cX12_laysRing 103 = .ok (.iastore, 1) := by decide +kernel
theorem dX12_laysRing_104 : decode cX12_laysRing 104 = .ok (.iinc 4 1, 3) := by decide +kernel
theorem dX12_laysRing_107 : decode cX12_laysRing 107 = .ok (.goto (-48), 3) := by decide +kernel
theorem dX12_laysRing_110 : decode cX12_laysRing 110 = .ok (.iinc 3 1, 3) := by decide +kernel
theorem dX12_laysRing_113 : decode cX12_laysRing 113 = .ok (.goto (-63), 3) := by decide +kernel
theorem dX12_laysRing_116 : decode cX12_laysRing 116 = .ok (.iinc 2 1, 3) := by decide +kernel
theorem dX12_laysRing_119 : decode cX12_laysRing 119 = .ok (.goto (-77), 3) := by decide +kernel
theorem dX12_laysRing_122 : decode cX12_laysRing 122 = .ok (.aload_n 0, 1) := by decide +kernel
theorem dX12_laysRing_123 : decode cX12_laysRing 123 = .ok (.aload_n 0, 1) := by decide +kernel
theorem dX12_laysRing_124 : decode cX12_laysRing 124 = .ok (.getfield 42, 3) := by decide +kernel
theorem dX12_laysRing_127 : decode cX12_laysRing 127 = .ok (.iload_n 1, 1) := by decide +kernel
theorem dX12_laysRing_128 : decode cX12_laysRing 128 = .ok (.iaload, 1) := by decide +kernel
theorem dX12_laysRing_129 : decode cX12_laysRing 129 = .ok (.putfield 373, 3) := by decide +kernel
theorem dX12_laysRing_132 : decode cX12_laysRing 132 = .ok (.iload_n 1, 1) := by decide +kernel
theorem dX12_laysRing_133 : decode cX12_laysRing 133 = .ok (.istore_n 2, 1) := by decide +kernel
theorem dX12_laysRing_134 : decode cX12_laysRing 134 = .ok (.iconst 0, 1) := by decide +kernel
theorem dX12_laysRing_135 : decode cX12_laysRing 135 = .ok (.istore_n 3, 1) := by decide +kernel
theorem dX12_laysRing_136 : decode cX12_laysRing 136 = .ok (.iload_n 3, 1) := by decide +kernel
theorem dX12_laysRing_137 : decode cX12_laysRing 137 = .ok (.aload_n 0, 1) := by decide +kernel
theorem dX12_laysRing_138 : decode cX12_laysRing 138 = .ok (.getfield 373, 3) := by decide +kernel
theorem dX12_laysRing_141 : decode cX12_laysRing 141 = .ok (.if_icmp .ge 70, 3) := by decide +kernel
theorem dX12_laysRing_144 : decode cX12_laysRing 144 = .ok (.aload_n 0, 1) := by decide +kernel
theorem dX12_laysRing_145 : decode cX12_laysRing 145 = .ok (.getfield 45, 3) := by decide +kernel
theorem dX12_laysRing_148 : decode cX12_laysRing 148 = .ok (.iload_n 3, 1) := by decide +kernel
theorem dX12_laysRing_149 : decode cX12_laysRing 149 = .ok (.iload_n 2, 1) := by decide +kernel
theorem dX12_laysRing_150 : decode cX12_laysRing 150 = .ok (.iastore, 1) := by decide +kernel
theorem dX12_laysRing_151 : decode cX12_laysRing 151 = .ok (.iconst 0, 1) := by decide +kernel
theorem dX12_laysRing_152 : decode cX12_laysRing 152 = .ok (.istore 4, 2) := by decide +kernel
theorem dX12_laysRing_154 : decode cX12_laysRing 154 = .ok (.iload_n 3, 1) := by decide +kernel
theorem dX12_laysRing_155 : decode cX12_laysRing 155 = .ok (.iconst 1, 1) := by decide +kernel
theorem dX12_laysRing_156 : decode cX12_laysRing 156 = .ok (.iadd, 1) := by decide +kernel
theorem dX12_laysRing_157 : decode cX12_laysRing 157 = .ok (.aload_n 0, 1) := by decide +kernel
theorem dX12_laysRing_158 : decode cX12_laysRing 158 = .ok (.getfield 373, 3) := by decide +kernel
theorem dX12_laysRing_161 : decode cX12_laysRing 161 = .ok (.if_icmp .ge 41, 3) := by decide +kernel
theorem dX12_laysRing_164 : decode cX12_laysRing 164 = .ok (.aload_n 0, 1) := by decide +kernel
theorem dX12_laysRing_165 : decode cX12_laysRing 165 = .ok (.getfield 36, 3) := by decide +kernel
theorem dX12_laysRing_168 : decode cX12_laysRing 168 = .ok (.iload_n 2, 1) := by decide +kernel
theorem dX12_laysRing_169 : decode cX12_laysRing 169 = .ok (.iaload, 1) := by decide +kernel
theorem dX12_laysRing_170 : decode cX12_laysRing 170 = .ok (.iload 4, 2) := by decide +kernel
theorem dX12_laysRing_172 : decode cX12_laysRing 172 = .ok (.invokestatic 344, 3) := by decide +kernel
theorem dX12_laysRing_175 : decode cX12_laysRing 175 = .ok (.ifCond .eq 21, 3) := by decide +kernel
theorem dX12_laysRing_178 : decode cX12_laysRing 178 = .ok (.aload_n 0, 1) := by decide +kernel
theorem dX12_laysRing_179 : decode cX12_laysRing 179 = .ok (.getfield 42, 3) := by decide +kernel
theorem dX12_laysRing_182 : decode cX12_laysRing 182 = .ok (.iload 4, 2) := by decide +kernel
theorem dX12_laysRing_184 : decode cX12_laysRing 184 = .ok (.iaload, 1) := by decide +kernel
theorem dX12_laysRing_185 : decode cX12_laysRing 185 = .ok (.aload_n 0, 1) := by decide +kernel
theorem dX12_laysRing_186 : decode cX12_laysRing 186 = .ok (.getfield 373, 3) := by decide +kernel
theorem dX12_laysRing_189 : decode cX12_laysRing 189 = .ok (.iload_n 3, 1) := by decide +kernel
theorem dX12_laysRing_190 : decode cX12_laysRing 190 = .ok (.isub, 1) := by decide +kernel
theorem dX12_laysRing_191 : decode cX12_laysRing 191 = .ok (.iconst 1, 1) := by decide +kernel
theorem dX12_laysRing_192 : decode cX12_laysRing 192 = .ok (.isub, 1) := by decide +kernel
theorem dX12_laysRing_193 : decode cX12_laysRing 193 = .ok (.if_icmp .eq 9, 3) := by decide +kernel
theorem dX12_laysRing_196 : decode cX12_laysRing 196 = .ok (.iinc 4 1, 3) := by decide +kernel
theorem dX12_laysRing_199 : decode cX12_laysRing 199 = .ok (.goto (-45), 3) := by decide +kernel
theorem dX12_laysRing_202 : decode cX12_laysRing 202 = .ok (.iload 4, 2) := by decide +kernel
theorem dX12_laysRing_204 : decode cX12_laysRing 204 = .ok (.istore_n 2, 1) := by decide +kernel
theorem dX12_laysRing_205 : decode cX12_laysRing 205 = .ok (.iinc 3 1, 3) := by decide +kernel
theorem dX12_laysRing_208 : decode cX12_laysRing 208 = .ok (.goto (-72), 3) := by decide +kernel
theorem dX12_laysRing_211 : decode cX12_laysRing 211 = .ok (.return_, 1) := by decide +kernel
theorem dX12_isFree_0 : decode cX12_isFree 0 = .ok (.iconst 0, 1) := by decide +kernel
theorem dX12_isFree_1 : decode cX12_isFree 1 = .ok (.istore_n 3, 1) := by decide +kernel
theorem dX12_isFree_2 : decode cX12_isFree 2 = .ok (.iload_n 3, 1) := by decide +kernel
theorem dX12_isFree_3 : decode cX12_isFree 3 = .ok (.aload_n 0, 1) := by decide +kernel
theorem dX12_isFree_4 : decode cX12_isFree 4 = .ok (.iload_n 1, 1) := by decide +kernel
theorem dX12_isFree_5 : decode cX12_isFree 5 = .ok (.invokevirtual 334, 3) := by decide +kernel
theorem dX12_isFree_8 : decode cX12_isFree 8 = .ok (.if_icmp .ge 38, 3) := by decide +kernel
theorem dX12_isFree_11 : decode cX12_isFree 11 = .ok (.aload_n 0, 1) := by decide +kernel
theorem dX12_isFree_12 : decode cX12_isFree 12 = .ok (.getfield 48, 3) := by decide +kernel
theorem dX12_isFree_15 : decode cX12_isFree 15 = .ok (.iload_n 3, 1) := by decide +kernel
theorem dX12_isFree_16 : decode cX12_isFree 16 = .ok (.iaload, 1) := by decide +kernel
theorem dX12_isFree_17 : decode cX12_isFree 17 = .ok (.ifCond .ne 23, 3) := by decide +kernel
theorem dX12_isFree_20 : decode cX12_isFree 20 = .ok (.aload_n 0, 1) := by decide +kernel
theorem dX12_isFree_21 : decode cX12_isFree 21 = .ok (.getfield 33, 3) := by decide +kernel
theorem dX12_isFree_24 : decode cX12_isFree 24 = .ok (.bipush 8, 2) := by decide +kernel
theorem dX12_isFree_26 : decode cX12_isFree 26 = .ok (.iload_n 1, 1) := by decide +kernel
theorem dX12_isFree_27 : decode cX12_isFree 27 = .ok (.imul, 1) := by decide +kernel
theorem dX12_isFree_28 : decode cX12_isFree 28 = .ok (.iload_n 3, 1) := by decide +kernel
theorem dX12_isFree_29 : decode cX12_isFree 29 = .ok (.iadd, 1) := by decide +kernel
theorem dX12_isFree_30 : decode cX12_isFree 30 = .ok (.iaload, 1) := by decide +kernel
theorem dX12_isFree_31 : decode cX12_isFree 31 = .ok (.iload_n 2, 1) := by decide +kernel
theorem dX12_isFree_32 : decode cX12_isFree 32 = .ok (.invokestatic 344, 3) := by decide +kernel
theorem dX12_isFree_35 : decode cX12_isFree 35 = .ok (.ifCond .eq 5, 3) := by decide +kernel
theorem dX12_isFree_38 : decode cX12_isFree 38 = .ok (.iconst 0, 1) := by decide +kernel
theorem dX12_isFree_39 : decode cX12_isFree 39 = .ok (.ireturn, 1) := by decide +kernel
theorem dX12_isFree_40 : decode cX12_isFree 40 = .ok (.iinc 3 1, 3) := by decide +kernel
theorem dX12_isFree_43 : decode cX12_isFree 43 = .ok (.goto (-41), 3) := by decide +kernel
theorem dX12_isFree_46 : decode cX12_isFree 46 = .ok (.iconst 1, 1) := by decide +kernel
theorem dX12_isFree_47 : decode cX12_isFree 47 = .ok (.ireturn, 1) := by decide +kernel
theorem dX12_fillsSet_0 : decode cX12_fillsSet 0 = .ok (.iconst 1, 1) := by decide +kernel
theorem dX12_fillsSet_1 : decode cX12_fillsSet 1 = .ok (.istore_n 3, 1) := by decide +kernel
theorem dX12_fillsSet_2 : decode cX12_fillsSet 2 = .ok (.iload_n 3, 1) := by decide +kernel
theorem dX12_fillsSet_3 : decode cX12_fillsSet 3 = .ok (.ifCond .eq 85, 3) := by decide +kernel
theorem dX12_fillsSet_6 : decode cX12_fillsSet 6 = .ok (.iconst 0, 1) := by decide +kernel
theorem dX12_fillsSet_7 : decode cX12_fillsSet 7 = .ok (.istore_n 3, 1) := by decide +kernel
theorem dX12_fillsSet_8 : decode cX12_fillsSet 8 = .ok (.iconst 0, 1) := by decide +kernel
theorem dX12_fillsSet_9 : decode cX12_fillsSet 9 = .ok (.istore 4, 2) := by decide +kernel
theorem dX12_fillsSet_11 : decode cX12_fillsSet 11 = .ok (.iload 4, 2) := by decide +kernel
theorem dX12_fillsSet_13 : decode cX12_fillsSet 13 = .ok (.aload_n 0, 1) := by decide +kernel
theorem dX12_fillsSet_14 : decode cX12_fillsSet 14 = .ok (.iload_n 1, 1) := by decide +kernel
theorem dX12_fillsSet_15 : decode cX12_fillsSet 15 = .ok (.invokevirtual 334, 3) := by decide +kernel
theorem dX12_fillsSet_18 : decode cX12_fillsSet 18 = .ok (.if_icmp .ge 67, 3) := by decide +kernel
theorem dX12_fillsSet_21 : decode cX12_fillsSet 21 = .ok (.aload_n 0, 1) := by decide +kernel
theorem dX12_fillsSet_22 : decode cX12_fillsSet 22 = .ok (.getfield 48, 3) := by decide +kernel
theorem dX12_fillsSet_25 : decode cX12_fillsSet 25 = .ok (.iload 4, 2) := by decide +kernel
theorem dX12_fillsSet_27 : decode cX12_fillsSet 27 = .ok (.iaload, 1) := by decide +kernel
theorem dX12_fillsSet_28 : decode cX12_fillsSet 28 = .ok (.ifCond .ne 51, 3) := by decide +kernel
theorem dX12_fillsSet_31 : decode cX12_fillsSet 31 = .ok (.iload 4, 2) := by decide +kernel
theorem dX12_fillsSet_33 : decode cX12_fillsSet 33 = .ok (.aload_n 0, 1) := by decide +kernel
theorem dX12_fillsSet_34 : decode cX12_fillsSet 34 = .ok (.getfield 13, 3) := by decide +kernel
theorem dX12_fillsSet_37 : decode cX12_fillsSet 37 = .ok (.iconst 4, 1) := by decide +kernel
theorem dX12_fillsSet_38 : decode cX12_fillsSet 38 = .ok (.iload_n 1, 1) := by decide +kernel
theorem dX12_fillsSet_39 : decode cX12_fillsSet 39 = .ok (.iadd, 1) := by decide +kernel
theorem dX12_fillsSet_40 : decode cX12_fillsSet 40 = .ok (.iaload, 1) := by decide +kernel
theorem dX12_fillsSet_41 : decode cX12_fillsSet 41 = .ok (.if_icmp .lt 7, 3) := by decide +kernel
theorem dX12_fillsSet_44 : decode cX12_fillsSet 44 = .ok (.iconst 1, 1) := by decide +kernel
theorem dX12_fillsSet_45 : decode cX12_fillsSet 45 = .ok (.goto 4, 3) := by decide +kernel
theorem dX12_fillsSet_48 : decode cX12_fillsSet 48 = .ok (.iconst 0, 1) := by decide +kernel
theorem dX12_fillsSet_49 : decode cX12_fillsSet 49 = .ok (.iload_n 2, 1) := by decide +kernel
theorem dX12_fillsSet_50 : decode cX12_fillsSet 50 = .ok (.if_icmp .ne 29, 3) := by decide +kernel
theorem dX12_fillsSet_53 : decode cX12_fillsSet 53 = .ok (.aload_n 0, 1) := by decide +kernel
theorem dX12_fillsSet_54 : decode cX12_fillsSet 54 = .ok (.iload_n 1, 1) := by decide +kernel
theorem dX12_fillsSet_55 : decode cX12_fillsSet 55 = .ok (.iload 4, 2) := by decide +kernel
theorem dX12_fillsSet_57 : decode cX12_fillsSet 57 = .ok (.invokevirtual 376, 3) := by decide +kernel
theorem dX12_fillsSet_60 : decode cX12_fillsSet 60 = .ok (.ifCond .ne 6, 3) := by decide +kernel
theorem dX12_fillsSet_63 : decode cX12_fillsSet 63 = .ok (.goto 16, 3) := by decide +kernel
theorem dX12_fillsSet_66 : decode cX12_fillsSet 66 = .ok (.aload_n 0, 1) := by decide +kernel
theorem dX12_fillsSet_67 : decode cX12_fillsSet 67 = .ok (.getfield 48, 3) := by decide +kernel
theorem dX12_fillsSet_70 : decode cX12_fillsSet 70 = .ok (.iload 4, 2) := by decide +kernel
theorem dX12_fillsSet_72 : decode cX12_fillsSet 72 = .ok (.aload_n 0, 1) := by decide +kernel
theorem dX12_fillsSet_73 : decode cX12_fillsSet 73 = .ok (.getfield 379, 3) := by decide +kernel
theorem dX12_fillsSet_76 : decode cX12_fillsSet 76 = .ok (.iastore, 1) := by decide +kernel
theorem dX12_fillsSet_77 : decode cX12_fillsSet 77 = .ok (.iconst 1, 1) := by decide +kernel
theorem dX12_fillsSet_78 : decode cX12_fillsSet 78 = .ok (.istore_n 3, 1) := by decide +kernel
theorem dX12_fillsSet_79 : decode cX12_fillsSet 79 = .ok (.iinc 4 1, 3) := by decide +kernel
theorem dX12_fillsSet_82 : decode cX12_fillsSet 82 = .ok (.goto (-71), 3) := by decide +kernel
theorem dX12_fillsSet_85 : decode cX12_fillsSet 85 = .ok (.goto (-83), 3) := by decide +kernel
theorem dX12_fillsSet_88 : decode cX12_fillsSet 88 = .ok (.return_, 1) := by decide +kernel
theorem dX12_laysVisits_0 : decode cX12_laysVisits 0 = .ok (.iconst 0, 1) := by decide +kernel
theorem dX12_laysVisits_1 : decode cX12_laysVisits 1 = .ok (.istore_n 2, 1) := by decide +kernel
theorem dX12_laysVisits_2 : decode cX12_laysVisits 2 = .ok (.iload_n 2, 1) := by decide +kernel
theorem dX12_laysVisits_3 : decode cX12_laysVisits 3 = .ok (.bipush 8, 2) := by decide +kernel
theorem dX12_laysVisits_5 : decode cX12_laysVisits 5 = .ok (.if_icmp .ge 16, 3) := by decide +kernel
theorem dX12_laysVisits_8 : decode cX12_laysVisits 8 = .ok (.aload_n 0, 1) := by decide +kernel
theorem dX12_laysVisits_9 : decode cX12_laysVisits 9 = .ok (.getfield 48, 3) := by decide +kernel
theorem dX12_laysVisits_12 : decode cX12_laysVisits 12 = .ok (.iload_n 2, 1) := by decide +kernel
theorem dX12_laysVisits_13 : decode cX12_laysVisits 13 = .ok (.iconst 0, 1) := by decide +kernel
theorem dX12_laysVisits_14 : decode cX12_laysVisits 14 = .ok (.iastore, 1) := by decide +kernel
theorem dX12_laysVisits_15 : decode cX12_laysVisits 15 = .ok (.iinc 2 1, 3) := by decide +kernel
theorem dX12_laysVisits_18 : decode cX12_laysVisits 18 = .ok (.goto (-16), 3) := by decide +kernel
theorem dX12_laysVisits_21 : decode cX12_laysVisits 21 = .ok (.aload_n 0, 1) := by decide +kernel
theorem dX12_laysVisits_22 : decode cX12_laysVisits 22 = .ok (.iconst 0, 1) := by decide +kernel
theorem dX12_laysVisits_23 : decode cX12_laysVisits 23 = .ok (.putfield 379, 3) := by decide +kernel
theorem dX12_laysVisits_26 : decode cX12_laysVisits 26 = .ok (.aload_n 0, 1) := by decide +kernel
theorem dX12_laysVisits_27 : decode cX12_laysVisits 27 = .ok (.iload_n 1, 1) := by decide +kernel
theorem dX12_laysVisits_28 : decode cX12_laysVisits 28 = .ok (.invokevirtual 334, 3) := by decide +kernel
theorem dX12_laysVisits_31 : decode cX12_laysVisits 31 = .ok (.ifCond .le 7, 3) := by decide +kernel
theorem dX12_laysVisits_34 : decode cX12_laysVisits 34 = .ok (.iconst 1, 1) := by decide +kernel
theorem dX12_laysVisits_35 : decode cX12_laysVisits 35 = .ok (.goto 4, 3) := by decide +kernel
theorem dX12_laysVisits_38 : decode cX12_laysVisits 38 = .ok (.iconst 0, 1) := by decide +kernel
theorem dX12_laysVisits_39 : decode cX12_laysVisits 39 = .ok (.istore_n 2, 1) := by decide +kernel
theorem dX12_laysVisits_40 : decode cX12_laysVisits 40 = .ok (.iload_n 2, 1) := by decide +kernel
theorem dX12_laysVisits_41 : decode cX12_laysVisits 41 = .ok (.ifCond .eq 74, 3) := by decide +kernel
theorem dX12_laysVisits_44 : decode cX12_laysVisits 44 = .ok (.aload_n 0, 1) := by decide +kernel
theorem dX12_laysVisits_45 : decode cX12_laysVisits 45 = .ok (.dup, 1) := by decide +kernel
theorem dX12_laysVisits_46 : decode cX12_laysVisits 46 = .ok (.getfield 379, 3) := by decide +kernel
theorem dX12_laysVisits_49 : decode cX12_laysVisits 49 = .ok (.iconst 1, 1) := by decide +kernel
theorem dX12_laysVisits_50 : decode cX12_laysVisits 50 = .ok (.iadd, 1) := by decide +kernel
theorem dX12_laysVisits_51 : decode cX12_laysVisits 51 = .ok (.putfield 379, 3) := by decide +kernel
theorem dX12_laysVisits_54 : decode cX12_laysVisits 54 = .ok (.aload_n 0, 1) := by decide +kernel
theorem dX12_laysVisits_55 : decode cX12_laysVisits 55 = .ok (.iload_n 1, 1) := by decide +kernel
theorem dX12_laysVisits_56 : decode cX12_laysVisits 56 = .ok (.aload_n 0, 1) := by decide +kernel
theorem dX12_laysVisits_57 : decode cX12_laysVisits 57 = .ok (.getfield 379, 3) := by decide +kernel
theorem dX12_laysVisits_60 : decode cX12_laysVisits 60 = .ok (.iconst 2, 1) := by decide +kernel
theorem dX12_laysVisits_61 : decode cX12_laysVisits 61 = .ok (.irem, 1) := by decide +kernel
theorem dX12_laysVisits_62 : decode cX12_laysVisits 62 = .ok (.iconst 1, 1) := by decide +kernel
theorem dX12_laysVisits_63 : decode cX12_laysVisits 63 = .ok (.if_icmp .ne 7, 3) := by decide +kernel
theorem dX12_laysVisits_66 : decode cX12_laysVisits 66 = .ok (.iconst 1, 1) := by decide +kernel
theorem dX12_laysVisits_67 : decode cX12_laysVisits 67 = .ok (.goto 4, 3) := by decide +kernel
theorem dX12_laysVisits_70 : decode cX12_laysVisits 70 = .ok (.iconst 0, 1) := by decide +kernel
theorem dX12_laysVisits_71 : decode cX12_laysVisits 71 = .ok (.invokevirtual 382, 3) := by decide +kernel
theorem dX12_laysVisits_74 : decode cX12_laysVisits 74 = .ok (.iconst 0, 1) := by decide +kernel
theorem dX12_laysVisits_75 : decode cX12_laysVisits 75 = .ok (.istore_n 2, 1) := by decide +kernel
theorem dX12_laysVisits_76 : decode cX12_laysVisits 76 = .ok (.iconst 0, 1) := by decide +kernel
theorem dX12_laysVisits_77 : decode cX12_laysVisits 77 = .ok (.istore_n 3, 1) := by decide +kernel
theorem dX12_laysVisits_78 : decode cX12_laysVisits 78 = .ok (.iload_n 3, 1) := by decide +kernel
theorem dX12_laysVisits_79 : decode cX12_laysVisits 79 = .ok (.aload_n 0, 1) := by decide +kernel
theorem dX12_laysVisits_80 : decode cX12_laysVisits 80 = .ok (.iload_n 1, 1) := by decide +kernel
theorem dX12_laysVisits_81 : decode cX12_laysVisits 81 = .ok (.invokevirtual 334, 3) := by decide +kernel
theorem dX12_laysVisits_84 : decode cX12_laysVisits 84 = .ok (.if_icmp .ge 28, 3) := by decide +kernel
theorem dX12_laysVisits_87 : decode cX12_laysVisits 87 = .ok (.iload_n 2, 1) := by decide +kernel
theorem dX12_laysVisits_88 : decode cX12_laysVisits 88 = .ok (.ifCond .ne 12, 3) := by decide +kernel
theorem dX12_laysVisits_91 : decode cX12_laysVisits 91 = .ok (.aload_n 0, 1) := by decide +kernel
theorem dX12_laysVisits_92 : decode cX12_laysVisits 92 = .ok (.getfield 48, 3) := by decide +kernel
theorem dX12_laysVisits_95 : decode cX12_laysVisits 95 = .ok (.iload_n 3, 1) := by decide +kernel
theorem dX12_laysVisits_96 : decode cX12_laysVisits 96 = .ok (.iaload, 1) := by decide +kernel
theorem dX12_laysVisits_97 : decode cX12_laysVisits 97 = .ok (.ifCond .ne 7, 3) := by decide +kernel
theorem dX12_laysVisits_100 : decode cX12_laysVisits 100 = .ok (.iconst 1, 1) := by decide +kernel
theorem dX12_laysVisits_101 : decode cX12_laysVisits 101 = .ok (.goto 4, 3) := by decide +kernel
theorem dX12_laysVisits_104 : decode cX12_laysVisits 104 = .ok (.iconst 0, 1) := by decide +kernel
theorem dX12_laysVisits_105 : decode cX12_laysVisits 105 = .ok (.istore_n 2, 1) := by decide +kernel
theorem dX12_laysVisits_106 : decode cX12_laysVisits 106 = .ok (.iinc 3 1, 3) := by decide +kernel
theorem dX12_laysVisits_109 : decode cX12_laysVisits 109 = .ok (.goto (-31), 3) := by decide +kernel
theorem dX12_laysVisits_112 : decode cX12_laysVisits 112 = .ok (.goto (-72), 3) := by decide +kernel
theorem dX12_laysVisits_115 : decode cX12_laysVisits 115 = .ok (.aload_n 0, 1) := by decide +kernel
theorem dX12_laysVisits_116 : decode cX12_laysVisits 116 = .ok (.getfield 54, 3) := by decide +kernel
theorem dX12_laysVisits_119 : decode cX12_laysVisits 119 = .ok (.iload_n 1, 1) := by decide +kernel
theorem dX12_laysVisits_120 : decode cX12_laysVisits 120 = .ok (.aload_n 0, 1) := by decide +kernel
theorem dX12_laysVisits_121 : decode cX12_laysVisits 121 = .ok (.getfield 379, 3) := by decide +kernel
theorem dX12_laysVisits_124 : decode cX12_laysVisits 124 = .ok (.ifCond .ne 7, 3) := by decide +kernel
theorem dX12_laysVisits_127 : decode cX12_laysVisits 127 = .ok (.iconst 1, 1) := by decide +kernel
theorem dX12_laysVisits_128 : decode cX12_laysVisits 128 = .ok (.goto 11, 3) := by decide +kernel
theorem dX12_laysVisits_131 : decode cX12_laysVisits 131 = .ok (.aload_n 0, 1) := by decide +kernel
theorem dX12_laysVisits_132 : decode cX12_laysVisits 132 = .ok (.getfield 379, 3) := by decide +kernel
theorem dX12_laysVisits_135 : decode cX12_laysVisits 135 = .ok (.iconst 1, 1) := by decide +kernel
theorem dX12_laysVisits_136 : decode cX12_laysVisits 136 = .ok (.iadd, 1) := by decide +kernel
theorem dX12_laysVisits_137 : decode cX12_laysVisits 137 = .ok (.iconst 2, 1) := by decide +kernel
theorem dX12_laysVisits_138 : decode cX12_laysVisits 138 = .ok (.idiv, 1) := by decide +kernel
theorem dX12_laysVisits_139 : decode cX12_laysVisits 139 = .ok (.iastore, 1) := by decide +kernel
theorem dX12_laysVisits_140 : decode cX12_laysVisits 140 = .ok (.iconst 0, 1) := by decide +kernel
theorem dX12_laysVisits_141 : decode cX12_laysVisits 141 = .ok (.istore_n 3, 1) := by decide +kernel
theorem dX12_laysVisits_142 : decode cX12_laysVisits 142 = .ok (.iload_n 3, 1) := by decide +kernel
theorem dX12_laysVisits_143 : decode cX12_laysVisits 143 = .ok (.aload_n 0, 1) := by decide +kernel
theorem dX12_laysVisits_144 : decode cX12_laysVisits 144 = .ok (.iload_n 1, 1) := by decide +kernel
theorem dX12_laysVisits_145 : decode cX12_laysVisits 145 = .ok (.invokevirtual 334, 3) := by decide +kernel
theorem dX12_laysVisits_148 : decode cX12_laysVisits 148 = .ok (.if_icmp .ge 39, 3) := by decide +kernel
theorem dX12_laysVisits_151 : decode cX12_laysVisits 151 = .ok (.aload_n 0, 1) := by decide +kernel
theorem dX12_laysVisits_152 : decode cX12_laysVisits 152 = .ok (.getfield 51, 3) := by decide +kernel
theorem dX12_laysVisits_155 : decode cX12_laysVisits 155 = .ok (.bipush 8, 2) := by decide +kernel
theorem dX12_laysVisits_157 : decode cX12_laysVisits 157 = .ok (.iload_n 1, 1) := by decide +kernel
theorem dX12_laysVisits_158 : decode cX12_laysVisits 158 = .ok (.imul, 1) := by decide +kernel
theorem dX12_laysVisits_159 : decode cX12_laysVisits 159 = .ok (.iload_n 3, 1) := by decide +kernel
theorem dX12_laysVisits_160 : decode cX12_laysVisits 160 = .ok (.iadd, 1) := by decide +kernel
theorem dX12_laysVisits_161 : decode cX12_laysVisits 161 = .ok (.aload_n 0, 1) := by decide +kernel
theorem dX12_laysVisits_162 : decode cX12_laysVisits 162 = .ok (.getfield 54, 3) := by decide +kernel
theorem dX12_laysVisits_165 : decode cX12_laysVisits 165 = .ok (.iload_n 1, 1) := by decide +kernel
theorem dX12_laysVisits_166 : decode cX12_laysVisits 166 = .ok (.iaload, 1) := by decide +kernel
theorem dX12_laysVisits_167 : decode cX12_laysVisits 167 = .ok (.aload_n 0, 1) := by decide +kernel
theorem dX12_laysVisits_168 : decode cX12_laysVisits 168 = .ok (.getfield 48, 3) := by decide +kernel
theorem dX12_laysVisits_171 : decode cX12_laysVisits 171 = .ok (.iload_n 3, 1) := by decide +kernel
theorem dX12_laysVisits_172 : decode cX12_laysVisits 172 = .ok (.iaload, 1) := by decide +kernel
theorem dX12_laysVisits_173 : decode cX12_laysVisits 173 = .ok (.iconst 1, 1) := by decide +kernel
theorem dX12_laysVisits_174 : decode cX12_laysVisits 174 = .ok (.iadd, 1) := by decide +kernel
theorem dX12_laysVisits_175 : decode cX12_laysVisits 175 = .ok (.iconst 2, 1) := by decide +kernel
theorem dX12_laysVisits_176 : decode cX12_laysVisits 176 = .ok (.idiv, 1) := by decide +kernel
theorem dX12_laysVisits_177 : decode cX12_laysVisits 177 = .ok (.isub, 1) := by decide +kernel
theorem dX12_laysVisits_178 : decode cX12_laysVisits 178 = .ok (.iconst 1, 1) := by decide +kernel
theorem dX12_laysVisits_179 : decode cX12_laysVisits 179 = .ok (.iadd, 1) := by decide +kernel
theorem dX12_laysVisits_180 : decode cX12_laysVisits 180 = .ok (.iastore, 1) := by decide +kernel
theorem dX12_laysVisits_181 : decode cX12_laysVisits 181 = .ok (.iinc 3 1, 3) := by decide +kernel
theorem dX12_laysVisits_184 : decode cX12_laysVisits 184 = .ok (.goto (-42), 3) := by decide +kernel
theorem dX12_laysVisits_187 : decode cX12_laysVisits 187 = .ok (.return_, 1) := by decide +kernel
theorem dX12_laysAllVisits_0 : decode cX12_laysAllVisits 0 = .ok (.iconst 0, 1) := by decide +kernel
theorem dX12_laysAllVisits_1 : decode cX12_laysAllVisits 1 = .ok (.istore_n 1, 1) := by decide +kernel
theorem dX12_laysAllVisits_2 : decode cX12_laysAllVisits 2 = .ok (.iload_n 1, 1) := by decide +kernel
theorem dX12_laysAllVisits_3 : decode cX12_laysAllVisits 3 = .ok (.aload_n 0, 1) := by decide +kernel
theorem dX12_laysAllVisits_4 : decode cX12_laysAllVisits 4 = .ok (.getfield 13, 3) := by decide +kernel
theorem dX12_laysAllVisits_7 : decode cX12_laysAllVisits 7 = .ok (.iconst 0, 1) := by decide +kernel
theorem dX12_laysAllVisits_8 : decode cX12_laysAllVisits 8 = .ok (.iaload, 1) := by decide +kernel
theorem dX12_laysAllVisits_9 : decode cX12_laysAllVisits 9 = .ok (.if_icmp .ge 22, 3) := by decide +kernel
theorem dX12_laysAllVisits_12 : decode cX12_laysAllVisits 12 = .ok (.aload_n 0, 1) := by decide +kernel
theorem dX12_laysAllVisits_13 : decode cX12_laysAllVisits 13 = .ok (.iload_n 1, 1) := by decide +kernel
theorem dX12_laysAllVisits_14 : decode cX12_laysAllVisits 14 = .ok (.invokevirtual 359, 3) := by decide +kernel
theorem dX12_laysAllVisits_17 : decode cX12_laysAllVisits 17 = .ok (.ifCond .ne 8, 3) := by decide +kernel
theorem dX12_laysAllVisits_20 : decode cX12_laysAllVisits 20 = .ok (.aload_n 0, 1) := by decide +kernel
theorem dX12_laysAllVisits_21 : decode cX12_laysAllVisits 21 = .ok (.iload_n 1, 1) := by decide +kernel
theorem dX12_laysAllVisits_22 : decode cX12_laysAllVisits 22 = .ok (.invokevirtual 386, 3) := by decide +kernel
theorem dX12_laysAllVisits_25 : decode cX12_laysAllVisits 25 = .ok (.iinc 1 1, 3) := by decide +kernel
theorem dX12_laysAllVisits_28 : decode cX12_laysAllVisits 28 = .ok (.goto (-26), 3) := by decide +kernel
theorem dX12_laysAllVisits_31 : decode cX12_laysAllVisits 31 = .ok (.return_, 1) := by decide +kernel
theorem dX12_addsVisits_0 : decode cX12_addsVisits 0 = .ok (.aload_n 0, 1) := by decide +kernel
theorem dX12_addsVisits_1 : decode cX12_addsVisits 1 = .ok (.invokevirtual 389, 3) := by decide +kernel
theorem dX12_addsVisits_4 : decode cX12_addsVisits 4 = .ok (.iconst 0, 1) := by decide +kernel
theorem dX12_addsVisits_5 : decode cX12_addsVisits 5 = .ok (.istore_n 2, 1) := by decide +kernel
theorem dX12_addsVisits_6 : decode cX12_addsVisits 6 = .ok (.iload_n 2, 1) := by decide +kernel
theorem dX12_addsVisits_7 : decode cX12_addsVisits 7 = .ok (.aload_n 0, 1) := by decide +kernel
theorem dX12_addsVisits_8 : decode cX12_addsVisits 8 = .ok (.getfield 13, 3) := by decide +kernel
theorem dX12_addsVisits_11 : decode cX12_addsVisits 11 = .ok (.bipush 32, 2) := by decide +kernel
theorem dX12_addsVisits_13 : decode cX12_addsVisits 13 = .ok (.iload_n 1, 1) := by decide +kernel
theorem dX12_addsVisits_14 : decode cX12_addsVisits 14 = .ok (.iadd, 1) := by decide +kernel
theorem dX12_addsVisits_15 : decode cX12_addsVisits 15 = .ok (.iaload, 1) := by decide +kernel
theorem dX12_addsVisits_16 : decode cX12_addsVisits 16 = .ok (.if_icmp .gt 185, 3) := by decide +kernel
theorem dX12_addsVisits_19 : decode cX12_addsVisits 19 = .ok (.aload_n 0, 1) := by decide +kernel
theorem dX12_addsVisits_20 : decode cX12_addsVisits 20 = .ok (.getfield 13, 3) := by decide +kernel
theorem dX12_addsVisits_23 : decode cX12_addsVisits 23 = .ok (.iload_n 1, 1) := by decide +kernel
theorem dX12_addsVisits_24 : decode cX12_addsVisits 24 = .ok (.iload_n 2, 1) := by decide +kernel
theorem dX12_addsVisits_25 : decode cX12_addsVisits 25 = .ok (.invokestatic 250, 3) := by decide +kernel
theorem dX12_addsVisits_28 : decode cX12_addsVisits 28 = .ok (.istore_n 3, 1) := by decide +kernel
theorem dX12_addsVisits_29 : decode cX12_addsVisits 29 = .ok (.iconst 0, 1) := by decide +kernel
theorem dX12_addsVisits_30 : decode cX12_addsVisits 30 = .ok (.istore 4, 2) := by decide +kernel
theorem dX12_addsVisits_32 : decode cX12_addsVisits 32 = .ok (.iload 4, 2) := by decide +kernel
theorem dX12_addsVisits_34 : decode cX12_addsVisits 34 = .ok (.aload_n 0, 1) := by decide +kernel
theorem dX12_addsVisits_35 : decode cX12_addsVisits 35 = .ok (.iload_n 3, 1) := by decide +kernel
theorem dX12_addsVisits_36 : decode cX12_addsVisits 36 = .ok (.invokevirtual 334, 3) := by decide +kernel
theorem dX12_addsVisits_39 : decode cX12_addsVisits 39 = .ok (.if_icmp .ge 156, 3) := by decide +kernel
theorem dX12_addsVisits_42 : decode cX12_addsVisits 42 = .ok (.iconst 0, 1) := by decide +kernel
theorem dX12_addsVisits_43 : decode cX12_addsVisits 43 = .ok (.istore 5, 2) := by decide +kernel
theorem dX12_addsVisits_45 : decode cX12_addsVisits 45 = .ok (.iload 5, 2) := by decide +kernel
theorem dX12_addsVisits_47 : decode cX12_addsVisits 47 = .ok (.aload_n 0, 1) := by decide +kernel
theorem dX12_addsVisits_48 : decode cX12_addsVisits 48 = .ok (.iload_n 3, 1) := by decide +kernel
theorem dX12_addsVisits_49 : decode cX12_addsVisits 49 = .ok (.invokevirtual 334, 3) := by decide +kernel
theorem dX12_addsVisits_52 : decode cX12_addsVisits 52 = .ok (.if_icmp .ge 137, 3) := by decide +kernel
theorem dX12_addsVisits_55 : decode cX12_addsVisits 55 = .ok (.aload_n 0, 1) := by decide +kernel
theorem dX12_addsVisits_56 : decode cX12_addsVisits 56 = .ok (.getfield 51, 3) := by decide +kernel
theorem dX12_addsVisits_59 : decode cX12_addsVisits 59 = .ok (.bipush 8, 2) := by decide +kernel
theorem dX12_addsVisits_61 : decode cX12_addsVisits 61 = .ok (.iload_n 3, 1) := by decide +kernel
theorem dX12_addsVisits_62 : decode cX12_addsVisits 62 = .ok (.imul, 1) := by decide +kernel
theorem dX12_addsVisits_63 : decode cX12_addsVisits 63 = .ok (.iload 4, 2) := by decide +kernel
theorem dX12_addsVisits_65 : decode cX12_addsVisits 65 = .ok (.iadd, 1) := by decide +kernel
theorem dX12_addsVisits_66 : decode cX12_addsVisits 66 = .ok (.iaload, 1) := by decide +kernel
theorem dX12_addsVisits_67 : decode cX12_addsVisits 67 = .ok (.aload_n 0, 1) := by decide +kernel
theorem dX12_addsVisits_68 : decode cX12_addsVisits 68 = .ok (.getfield 51, 3) := by decide +kernel
theorem dX12_addsVisits_71 : decode cX12_addsVisits 71 = .ok (.bipush 8, 2) := by decide +kernel
theorem dX12_addsVisits_73 : decode cX12_addsVisits 73 = .ok (.iload_n 3, 1) := by decide +kernel
theorem dX12_addsVisits_74 : decode cX12_addsVisits 74 = .ok (.imul, 1) := by decide +kernel
theorem dX12_addsVisits_75 : decode cX12_addsVisits 75 = .ok (.iload 5, 2) := by decide +kernel
theorem dX12_addsVisits_77 : decode cX12_addsVisits 77 = .ok (.iadd, 1) := by decide +kernel
theorem dX12_addsVisits_78 : decode cX12_addsVisits 78 = .ok (.iaload, 1) := by decide +kernel
theorem dX12_addsVisits_79 : decode cX12_addsVisits 79 = .ok (.if_icmp .le 7, 3) := by decide +kernel
theorem dX12_addsVisits_82 : decode cX12_addsVisits 82 = .ok (.iconst 1, 1) := by decide +kernel
theorem dX12_addsVisits_83 : decode cX12_addsVisits 83 = .ok (.goto 4, 3) := by decide +kernel
theorem dX12_addsVisits_86 : decode cX12_addsVisits 86 = .ok (.iconst 0, 1) := by decide +kernel
theorem dX12_addsVisits_87 : decode cX12_addsVisits 87 = .ok (.istore 6, 2) := by decide +kernel
theorem dX12_addsVisits_89 : decode cX12_addsVisits 89 = .ok (.aload_n 0, 1) := by decide +kernel
theorem dX12_addsVisits_90 : decode cX12_addsVisits 90 = .ok (.getfield 51, 3) := by decide +kernel
theorem dX12_addsVisits_93 : decode cX12_addsVisits 93 = .ok (.bipush 8, 2) := by decide +kernel
theorem dX12_addsVisits_95 : decode cX12_addsVisits 95 = .ok (.iload_n 3, 1) := by decide +kernel
theorem dX12_addsVisits_96 : decode cX12_addsVisits 96 = .ok (.imul, 1) := by decide +kernel
theorem dX12_addsVisits_97 : decode cX12_addsVisits 97 = .ok (.iload 4, 2) := by decide +kernel
theorem dX12_addsVisits_99 : decode cX12_addsVisits 99 = .ok (.iadd, 1) := by decide +kernel
theorem dX12_addsVisits_100 : decode cX12_addsVisits 100 = .ok (.iaload, 1) := by decide +kernel
theorem dX12_addsVisits_101 : decode cX12_addsVisits 101 = .ok (.aload_n 0, 1) := by decide +kernel
theorem dX12_addsVisits_102 : decode cX12_addsVisits 102 = .ok (.getfield 51, 3) := by decide +kernel
theorem dX12_addsVisits_105 : decode cX12_addsVisits 105 = .ok (.bipush 8, 2) := by decide +kernel
theorem dX12_addsVisits_107 : decode cX12_addsVisits 107 = .ok (.iload_n 3, 1) := by decide +kernel
theorem dX12_addsVisits_108 : decode cX12_addsVisits 108 = .ok (.imul, 1) := by decide +kernel
theorem dX12_addsVisits_109 : decode cX12_addsVisits 109 = .ok (.iload 5, 2) := by decide +kernel
theorem dX12_addsVisits_111 : decode cX12_addsVisits 111 = .ok (.iadd, 1) := by decide +kernel
theorem dX12_addsVisits_112 : decode cX12_addsVisits 112 = .ok (.iaload, 1) := by decide +kernel
theorem dX12_addsVisits_113 : decode cX12_addsVisits 113 = .ok (.if_icmp .ne 33, 3) := by decide +kernel
theorem dX12_addsVisits_116 : decode cX12_addsVisits 116 = .ok (.iload 4, 2) := by decide +kernel
theorem dX12_addsVisits_118 : decode cX12_addsVisits 118 = .ok (.aload_n 0, 1) := by decide +kernel
theorem dX12_addsVisits_119 : decode cX12_addsVisits 119 = .ok (.getfield 13, 3) := by decide +kernel
theorem dX12_addsVisits_122 : decode cX12_addsVisits 122 = .ok (.iconst 4, 1) := by decide +kernel
theorem dX12_addsVisits_123 : decode cX12_addsVisits 123 = .ok (.iload_n 3, 1) := by decide +kernel
theorem dX12_addsVisits_124 : decode cX12_addsVisits 124 = .ok (.iadd, 1) := by decide +kernel
theorem dX12_addsVisits_125 : decode cX12_addsVisits 125 = .ok (.iaload, 1) := by decide +kernel
theorem dX12_addsVisits_126 : decode cX12_addsVisits 126 = .ok (.if_icmp .lt 20, 3) := by decide +kernel
theorem dX12_addsVisits_129 : decode cX12_addsVisits 129 = .ok (.iload 5, 2) := by decide +kernel
theorem dX12_addsVisits_131 : decode cX12_addsVisits 131 = .ok (.aload_n 0, 1) := by decide +kernel
theorem dX12_addsVisits_132 : decode cX12_addsVisits 132 = .ok (.getfield 13, 3) := by decide +kernel
theorem dX12_addsVisits_135 : decode cX12_addsVisits 135 = .ok (.iconst 4, 1) := by decide +kernel
theorem dX12_addsVisits_136 : decode cX12_addsVisits 136 = .ok (.iload_n 3, 1) := by decide +kernel
theorem dX12_addsVisits_137 : decode cX12_addsVisits 137 = .ok (.iadd, 1) := by decide +kernel
theorem dX12_addsVisits_138 : decode cX12_addsVisits 138 = .ok (.iaload, 1) := by decide +kernel
theorem dX12_addsVisits_139 : decode cX12_addsVisits 139 = .ok (.if_icmp .ge 7, 3) := by decide +kernel
theorem dX12_addsVisits_142 : decode cX12_addsVisits 142 = .ok (.iconst 1, 1) := by decide +kernel
theorem dX12_addsVisits_143 : decode cX12_addsVisits 143 = .ok (.goto 4, 3) := by decide +kernel
theorem dX12_addsVisits_146 : decode cX12_addsVisits 146 = .ok (.iconst 0, 1) := by decide +kernel
theorem dX12_addsVisits_147 : decode cX12_addsVisits 147 = .ok (.istore 7, 2) := by decide +kernel
theorem dX12_addsVisits_149 : decode cX12_addsVisits 149 = .ok (.iload 6, 2) := by decide +kernel
theorem dX12_addsVisits_151 : decode cX12_addsVisits 151 = .ok (.ifCond .ne 8, 3) := by decide +kernel
theorem dX12_addsVisits_154 : decode cX12_addsVisits 154 = .ok (.iload 7, 2) := by decide +kernel
theorem dX12_addsVisits_156 : decode cX12_addsVisits 156 = .ok (.ifCond .eq 27, 3) := by decide +kernel
theorem dX12_addsVisits_159 : decode cX12_addsVisits 159 = .ok (.aload_n 0, 1) := by decide +kernel
theorem dX12_addsVisits_160 : decode cX12_addsVisits 160 = .ok (.getfield 36, 3) := by decide +kernel
theorem dX12_addsVisits_163 : decode cX12_addsVisits 163 = .ok (.bipush 8, 2) := by decide +kernel
theorem dX12_addsVisits_165 : decode cX12_addsVisits 165 = .ok (.iload_n 2, 1) := by decide +kernel
theorem dX12_addsVisits_166 : decode cX12_addsVisits 166 = .ok (.imul, 1) := by decide +kernel
theorem dX12_addsVisits_167 : decode cX12_addsVisits 167 = .ok (.iload 4, 2) := by decide +kernel
theorem dX12_addsVisits_169 : decode cX12_addsVisits 169 = .ok (.iadd, 1) := by decide +kernel
theorem dX12_addsVisits_170 : decode cX12_addsVisits 170 = .ok (.dup2, 1) := by decide +kernel
theorem dX12_addsVisits_171 : decode cX12_addsVisits 171 = .ok (.iaload, 1) := by decide +kernel
theorem dX12_addsVisits_172 : decode cX12_addsVisits 172 = .ok (.iconst 1, 1) := by decide +kernel
theorem dX12_addsVisits_173 : decode cX12_addsVisits 173 = .ok (.bipush 8, 2) := by decide +kernel
theorem dX12_addsVisits_175 : decode cX12_addsVisits 175 = .ok (.iload_n 2, 1) := by decide +kernel
theorem dX12_addsVisits_176 : decode cX12_addsVisits 176 = .ok (.imul, 1) := by decide +kernel
theorem dX12_addsVisits_177 : decode cX12_addsVisits 177 = .ok (.iload 5, 2) := by decide +kernel
theorem dX12_addsVisits_179 : decode cX12_addsVisits 179 = .ok (.iadd, 1) := by decide +kernel
theorem dX12_addsVisits_180 : decode cX12_addsVisits 180 = .ok (.ishl, 1) := by decide +kernel
theorem dX12_addsVisits_181 : decode cX12_addsVisits 181 = .ok (.ior, 1) := by decide +kernel
theorem dX12_addsVisits_182 : decode cX12_addsVisits 182 = .ok (.iastore, 1) := by decide +kernel
theorem dX12_addsVisits_183 : decode cX12_addsVisits 183 = .ok (.iinc 5 1, 3) := by decide +kernel
theorem dX12_addsVisits_186 : decode cX12_addsVisits 186 = .ok (.goto (-141), 3) := by decide +kernel
theorem dX12_addsVisits_189 : decode cX12_addsVisits 189 = .ok (.iinc 4 1, 3) := by decide +kernel
theorem dX12_addsVisits_192 : decode cX12_addsVisits 192 = .ok (.goto (-160), 3) := by decide +kernel
theorem dX12_addsVisits_195 : decode cX12_addsVisits 195 = .ok (.iinc 2 1, 3) := by decide +kernel
theorem dX12_addsVisits_198 : decode cX12_addsVisits 198 = .ok (.goto (-192), 3) := by decide +kernel
theorem dX12_addsVisits_201 : decode cX12_addsVisits 201 = .ok (.return_, 1) := by decide +kernel
theorem dX12_laysOrdered_0 : decode cX12_laysOrdered 0 = .ok (.aload_n 0, 1) := by decide +kernel
theorem dX12_laysOrdered_1 : decode cX12_laysOrdered 1 = .ok (.iload_n 1, 1) := by decide +kernel
theorem dX12_laysOrdered_2 : decode cX12_laysOrdered 2 = .ok (.invokevirtual 347, 3) := by decide +kernel
theorem dX12_laysOrdered_5 : decode cX12_laysOrdered 5 = .ok (.aload_n 0, 1) := by decide +kernel
theorem dX12_laysOrdered_6 : decode cX12_laysOrdered 6 = .ok (.iload_n 1, 1) := by decide +kernel
theorem dX12_laysOrdered_7 : decode cX12_laysOrdered 7 = .ok (.invokevirtual 350, 3) := by decide +kernel
theorem dX12_laysOrdered_10 : decode cX12_laysOrdered 10 = .ok (.aload_n 0, 1) := by decide +kernel
theorem dX12_laysOrdered_11 : decode cX12_laysOrdered 11 = .ok (.iload_n 1, 1) := by decide +kernel
theorem dX12_laysOrdered_12 : decode cX12_laysOrdered 12 = .ok (.invokevirtual 392, 3) := by decide +kernel
theorem dX12_laysOrdered_15 : decode cX12_laysOrdered 15 = .ok (.aload_n 0, 1) := by decide +kernel
theorem dX12_laysOrdered_16 : decode cX12_laysOrdered 16 = .ok (.invokevirtual 353, 3) := by decide +kernel
theorem dX12_laysOrdered_19 : decode cX12_laysOrdered 19 = .ok (.return_, 1) := by decide +kernel
theorem dX12_block_0 : decode cX12_block 0 = .ok (.iconst 0, 1) := by decide +kernel
theorem dX12_block_1 : decode cX12_block 1 = .ok (.istore_n 1, 1) := by decide +kernel
theorem dX12_block_2 : decode cX12_block 2 = .ok (.iload_n 1, 1) := by decide +kernel
theorem dX12_block_3 : decode cX12_block 3 = .ok (.aload_n 0, 1) := by decide +kernel
theorem dX12_block_4 : decode cX12_block 4 = .ok (.getfield 13, 3) := by decide +kernel
theorem dX12_block_7 : decode cX12_block 7 = .ok (.iconst 1, 1) := by decide +kernel
theorem dX12_block_8 : decode cX12_block 8 = .ok (.iaload, 1) := by decide +kernel
theorem dX12_block_9 : decode cX12_block 9 = .ok (.if_icmp .ge 39, 3) := by decide +kernel
theorem dX12_block_12 : decode cX12_block 12 = .ok (.aload_n 0, 1) := by decide +kernel
theorem dX12_block_13 : decode cX12_block 13 = .ok (.iload_n 1, 1) := by decide +kernel
theorem dX12_block_14 : decode cX12_block 14 = .ok (.invokevirtual 356, 3) := by decide +kernel
theorem dX12_block_17 : decode cX12_block 17 = .ok (.aload_n 0, 1) := by decide +kernel
theorem dX12_block_18 : decode cX12_block 18 = .ok (.invokevirtual 362, 3) := by decide +kernel
theorem dX12_block_21 : decode cX12_block 21 = .ok (.iconst (-1), 1) := by decide +kernel
theorem dX12_block_22 : decode cX12_block 22 = .ok (.if_icmp .eq 5, 3) := by decide +kernel
theorem dX12_block_25 : decode cX12_block 25 = .ok (.iload_n 1, 1) := by decide +kernel
theorem dX12_block_26 : decode cX12_block 26 = .ok (.ireturn, 1) := by decide +kernel
theorem dX12_block_27 : decode cX12_block 27 = .ok (.aload_n 0, 1) := by decide +kernel
theorem dX12_block_28 : decode cX12_block 28 = .ok (.iload_n 1, 1) := by decide +kernel
theorem dX12_block_29 : decode cX12_block 29 = .ok (.invokevirtual 395, 3) := by decide +kernel
theorem dX12_block_32 : decode cX12_block 32 = .ok (.aload_n 0, 1) := by decide +kernel
theorem dX12_block_33 : decode cX12_block 33 = .ok (.invokevirtual 362, 3) := by decide +kernel
theorem dX12_block_36 : decode cX12_block 36 = .ok (.iconst (-1), 1) := by decide +kernel
theorem dX12_block_37 : decode cX12_block 37 = .ok (.if_icmp .eq 5, 3) := by decide +kernel
theorem dX12_block_40 : decode cX12_block 40 = .ok (.iload_n 1, 1) := by decide +kernel
theorem dX12_block_41 : decode cX12_block 41 = .ok (.ireturn, 1) := by decide +kernel
theorem dX12_block_42 : decode cX12_block 42 = .ok (.iinc 1 1, 3) := by decide +kernel
theorem dX12_block_45 : decode cX12_block 45 = .ok (.goto (-43), 3) := by decide +kernel
theorem dX12_block_48 : decode cX12_block 48 = .ok (.iconst (-1), 1) := by decide +kernel
theorem dX12_block_49 : decode cX12_block 49 = .ok (.ireturn, 1) := by decide +kernel
theorem dX12_step_0 : decode cX12_step 0 = .ok (.aload_n 0, 1) := by decide +kernel
theorem dX12_step_1 : decode cX12_step 1 = .ok (.getfield 57, 3) := by decide +kernel
theorem dX12_step_4 : decode cX12_step 4 = .ok (.aload_n 0, 1) := by decide +kernel
theorem dX12_step_5 : decode cX12_step 5 = .ok (.getfield 398, 3) := by decide +kernel
theorem dX12_step_8 : decode cX12_step 8 = .ok (.iload_n 1, 1) := by decide +kernel
theorem dX12_step_9 : decode cX12_step 9 = .ok (.iastore, 1) := by decide +kernel
theorem dX12_step_10 : decode cX12_step 10 = .ok (.aload_n 0, 1) := by decide +kernel
theorem dX12_step_11 : decode cX12_step 11 = .ok (.dup, 1) := by decide +kernel
theorem dX12_step_12 : decode cX12_step 12 = .ok (.getfield 398, 3) := by decide +kernel
theorem dX12_step_15 : decode cX12_step 15 = .ok (.iconst 1, 1) := by decide +kernel
theorem dX12_step_16 : decode cX12_step 16 = .ok (.iadd, 1) := by decide +kernel
theorem dX12_step_17 : decode cX12_step 17 = .ok (.putfield 398, 3) := by decide +kernel
theorem dX12_step_20 : decode cX12_step 20 = .ok (.return_, 1) := by decide +kernel
theorem dX12_insOf_0 : decode cX12_insOf 0 = .ok (.iconst 0, 1) := by decide +kernel
theorem dX12_insOf_1 : decode cX12_insOf 1 = .ok (.istore 4, 2) := by decide +kernel
theorem dX12_insOf_3 : decode cX12_insOf 3 = .ok (.iconst 0, 1) := by decide +kernel
theorem dX12_insOf_4 : decode cX12_insOf 4 = .ok (.istore 5, 2) := by decide +kernel
theorem dX12_insOf_6 : decode cX12_insOf 6 = .ok (.iload 5, 2) := by decide +kernel
theorem dX12_insOf_8 : decode cX12_insOf 8 = .ok (.aload_n 0, 1) := by decide +kernel
theorem dX12_insOf_9 : decode cX12_insOf 9 = .ok (.getfield 13, 3) := by decide +kernel
theorem dX12_insOf_12 : decode cX12_insOf 12 = .ok (.iconst 4, 1) := by decide +kernel
theorem dX12_insOf_13 : decode cX12_insOf 13 = .ok (.iload_n 2, 1) := by decide +kernel
theorem dX12_insOf_14 : decode cX12_insOf 14 = .ok (.iadd, 1) := by decide +kernel
theorem dX12_insOf_15 : decode cX12_insOf 15 = .ok (.iaload, 1) := by decide +kernel
theorem dX12_insOf_16 : decode cX12_insOf 16 = .ok (.if_icmp .ge 43, 3) := by decide +kernel
theorem dX12_insOf_19 : decode cX12_insOf 19 = .ok (.iload 4, 2) := by decide +kernel
theorem dX12_insOf_21 : decode cX12_insOf 21 = .ok (.aload_n 0, 1) := by decide +kernel
theorem dX12_insOf_22 : decode cX12_insOf 22 = .ok (.getfield 51, 3) := by decide +kernel
theorem dX12_insOf_25 : decode cX12_insOf 25 = .ok (.bipush 8, 2) := by decide +kernel
theorem dX12_insOf_27 : decode cX12_insOf 27 = .ok (.iload_n 2, 1) := by decide +kernel
theorem dX12_insOf_28 : decode cX12_insOf 28 = .ok (.imul, 1) := by decide +kernel
theorem dX12_insOf_29 : decode cX12_insOf 29 = .ok (.iload 5, 2) := by decide +kernel
theorem dX12_insOf_31 : decode cX12_insOf 31 = .ok (.iadd, 1) := by decide +kernel
theorem dX12_insOf_32 : decode cX12_insOf 32 = .ok (.iaload, 1) := by decide +kernel
theorem dX12_insOf_33 : decode cX12_insOf 33 = .ok (.iload_n 3, 1) := by decide +kernel
theorem dX12_insOf_34 : decode cX12_insOf 34 = .ok (.if_icmp .ne 15, 3) := by decide +kernel
theorem dX12_insOf_37 : decode cX12_insOf 37 = .ok (.iconst 1, 1) := by decide +kernel
theorem dX12_insOf_38 : decode cX12_insOf 38 = .ok (.bipush 8, 2) := by decide +kernel
theorem dX12_insOf_40 : decode cX12_insOf 40 = .ok (.iload_n 1, 1) := by decide +kernel
theorem dX12_insOf_41 : decode cX12_insOf 41 = .ok (.imul, 1) := by decide +kernel
theorem dX12_insOf_42 : decode cX12_insOf 42 = .ok (.iload 5, 2) := by decide +kernel
theorem dX12_insOf_44 : decode cX12_insOf 44 = .ok (.iadd, 1) := by decide +kernel
theorem dX12_insOf_45 : decode cX12_insOf 45 = .ok (.ishl, 1) := by decide +kernel
theorem dX12_insOf_46 : decode cX12_insOf 46 = .ok (.goto 4, 3) := by decide +kernel
theorem dX12_insOf_49 : decode cX12_insOf 49 = .ok (.iconst 0, 1) := by decide +kernel
theorem dX12_insOf_50 : decode cX12_insOf 50 = .ok (.ior, 1) := by decide +kernel
theorem dX12_insOf_51 : decode cX12_insOf 51 = .ok (.istore 4, 2) := by decide +kernel
theorem dX12_insOf_53 : decode cX12_insOf 53 = .ok (.iinc 5 1, 3) := by decide +kernel
theorem dX12_insOf_56 : decode cX12_insOf 56 = .ok (.goto (-50), 3) := by decide +kernel
theorem dX12_insOf_59 : decode cX12_insOf 59 = .ok (.iload 4, 2) := by decide +kernel
theorem dX12_insOf_61 : decode cX12_insOf 61 = .ok (.ireturn, 1) := by decide +kernel
theorem dX12_outsOf_0 : decode cX12_outsOf 0 = .ok (.iconst 0, 1) := by decide +kernel
theorem dX12_outsOf_1 : decode cX12_outsOf 1 = .ok (.istore 4, 2) := by decide +kernel
theorem dX12_outsOf_3 : decode cX12_outsOf 3 = .ok (.aload_n 0, 1) := by decide +kernel
theorem dX12_outsOf_4 : decode cX12_outsOf 4 = .ok (.getfield 13, 3) := by decide +kernel
theorem dX12_outsOf_7 : decode cX12_outsOf 7 = .ok (.iconst 4, 1) := by decide +kernel
theorem dX12_outsOf_8 : decode cX12_outsOf 8 = .ok (.iload_n 2, 1) := by decide +kernel
theorem dX12_outsOf_9 : decode cX12_outsOf 9 = .ok (.iadd, 1) := by decide +kernel
theorem dX12_outsOf_10 : decode cX12_outsOf 10 = .ok (.iaload, 1) := by decide +kernel
theorem dX12_outsOf_11 : decode cX12_outsOf 11 = .ok (.istore 5, 2) := by decide +kernel
theorem dX12_outsOf_13 : decode cX12_outsOf 13 = .ok (.iload 5, 2) := by decide +kernel
theorem dX12_outsOf_15 : decode cX12_outsOf 15 = .ok (.aload_n 0, 1) := by decide +kernel
theorem dX12_outsOf_16 : decode cX12_outsOf 16 = .ok (.iload_n 2, 1) := by decide +kernel
theorem dX12_outsOf_17 : decode cX12_outsOf 17 = .ok (.invokevirtual 334, 3) := by decide +kernel
theorem dX12_outsOf_20 : decode cX12_outsOf 20 = .ok (.if_icmp .ge 43, 3) := by decide +kernel
theorem dX12_outsOf_23 : decode cX12_outsOf 23 = .ok (.iload 4, 2) := by decide +kernel
theorem dX12_outsOf_25 : decode cX12_outsOf 25 = .ok (.aload_n 0, 1) := by decide +kernel
theorem dX12_outsOf_26 : decode cX12_outsOf 26 = .ok (.getfield 51, 3) := by decide +kernel
theorem dX12_outsOf_29 : decode cX12_outsOf 29 = .ok (.bipush 8, 2) := by decide +kernel
theorem dX12_outsOf_31 : decode cX12_outsOf 31 = .ok (.iload_n 2, 1) := by decide +kernel
theorem dX12_outsOf_32 : decode cX12_outsOf 32 = .ok (.imul, 1) := by decide +kernel
theorem dX12_outsOf_33 : decode cX12_outsOf 33 = .ok (.iload 5, 2) := by decide +kernel
theorem dX12_outsOf_35 : decode cX12_outsOf 35 = .ok (.iadd, 1) := by decide +kernel
theorem dX12_outsOf_36 : decode cX12_outsOf 36 = .ok (.iaload, 1) := by decide +kernel
theorem dX12_outsOf_37 : decode cX12_outsOf 37 = .ok (.iload_n 3, 1) := by decide +kernel
theorem dX12_outsOf_38 : decode cX12_outsOf 38 = .ok (.if_icmp .ne 15, 3) := by decide +kernel
theorem dX12_outsOf_41 : decode cX12_outsOf 41 = .ok (.iconst 1, 1) := by decide +kernel
theorem dX12_outsOf_42 : decode cX12_outsOf 42 = .ok (.bipush 8, 2) := by decide +kernel
theorem dX12_outsOf_44 : decode cX12_outsOf 44 = .ok (.iload_n 1, 1) := by decide +kernel
theorem dX12_outsOf_45 : decode cX12_outsOf 45 = .ok (.imul, 1) := by decide +kernel
theorem dX12_outsOf_46 : decode cX12_outsOf 46 = .ok (.iload 5, 2) := by decide +kernel
theorem dX12_outsOf_48 : decode cX12_outsOf 48 = .ok (.iadd, 1) := by decide +kernel
theorem dX12_outsOf_49 : decode cX12_outsOf 49 = .ok (.ishl, 1) := by decide +kernel
theorem dX12_outsOf_50 : decode cX12_outsOf 50 = .ok (.goto 4, 3) := by decide +kernel
theorem dX12_outsOf_53 : decode cX12_outsOf 53 = .ok (.iconst 0, 1) := by decide +kernel
theorem dX12_outsOf_54 : decode cX12_outsOf 54 = .ok (.ior, 1) := by decide +kernel
theorem dX12_outsOf_55 : decode cX12_outsOf 55 = .ok (.istore 4, 2) := by decide +kernel
theorem dX12_outsOf_57 : decode cX12_outsOf 57 = .ok (.iinc 5 1, 3) := by decide +kernel
theorem dX12_outsOf_60 : decode cX12_outsOf 60 = .ok (.goto (-47), 3) := by decide +kernel
theorem dX12_outsOf_63 : decode cX12_outsOf 63 = .ok (.iload 4, 2) := by decide +kernel
theorem dX12_outsOf_65 : decode cX12_outsOf 65 = .ok (.ireturn, 1) := by decide +kernel
theorem dX12_nextRule_0 : decode cX12_nextRule 0 = .ok (.iconst 0, 1) := by decide +kernel
theorem dX12_nextRule_1 : decode cX12_nextRule 1 = .ok (.istore_n 3, 1) := by decide +kernel
theorem dX12_nextRule_2 : decode cX12_nextRule 2 = .ok (.iload_n 3, 1) := by decide +kernel
theorem dX12_nextRule_3 : decode cX12_nextRule 3 = .ok (.bipush 32, 2) := by decide +kernel
theorem dX12_nextRule_5 : decode cX12_nextRule 5 = .ok (.if_icmp .ge 53, 3) := by decide +kernel
theorem dX12_nextRule_8 : decode cX12_nextRule 8 = .ok (.aload_n 0, 1) := by decide +kernel
theorem dX12_nextRule_9 : decode cX12_nextRule 9 = .ok (.iload_n 1, 1) := by decide +kernel
theorem dX12_nextRule_10 : decode cX12_nextRule 10 = .ok (.iload_n 3, 1) := by decide +kernel
theorem dX12_nextRule_11 : decode cX12_nextRule 11 = .ok (.invokevirtual 401, 3) := by decide +kernel
theorem dX12_nextRule_14 : decode cX12_nextRule 14 = .ok (.ifCond .eq 38, 3) := by decide +kernel
theorem dX12_nextRule_17 : decode cX12_nextRule 17 = .ok (.aload_n 0, 1) := by decide +kernel
theorem dX12_nextRule_18 : decode cX12_nextRule 18 = .ok (.getfield 13, 3) := by decide +kernel
theorem dX12_nextRule_21 : decode cX12_nextRule 21 = .ok (.iload_n 1, 1) := by decide +kernel
theorem dX12_nextRule_22 : decode cX12_nextRule 22 = .ok (.iload_n 3, 1) := by decide +kernel
theorem dX12_nextRule_23 : decode cX12_nextRule 23 = .ok (.invokestatic 264, 3) := by decide +kernel
theorem dX12_nextRule_26 : decode cX12_nextRule 26 = .ok (.ifCond .eq 26, 3) := by decide +kernel
theorem dX12_nextRule_29 : decode cX12_nextRule 29 = .ok (.iload_n 2, 1) := by decide +kernel
theorem dX12_nextRule_30 : decode cX12_nextRule 30 = .ok (.iload_n 3, 1) := by decide +kernel
theorem dX12_nextRule_31 : decode cX12_nextRule 31 = .ok (.invokestatic 344, 3) := by decide +kernel
theorem dX12_nextRule_34 : decode cX12_nextRule 34 = .ok (.ifCond .ne 18, 3) := by decide +kernel
theorem dX12_nextRule_37 : decode cX12_nextRule 37 = .ok (.aload_n 0, 1) := by decide +kernel
theorem dX12_nextRule_38 : decode cX12_nextRule 38 = .ok (.iload_n 1, 1) := by decide +kernel
theorem dX12_nextRule_39 : decode cX12_nextRule 39 = .ok (.iload_n 3, 1) := by decide +kernel
theorem dX12_nextRule_40 : decode cX12_nextRule 40 = .ok (.invokevirtual 340, 3) := by decide +kernel
theorem dX12_nextRule_43 : decode cX12_nextRule 43 = .ok (.iload_n 2, 1) := by decide +kernel
theorem dX12_nextRule_44 : decode cX12_nextRule 44 = .ok (.iconst (-1), 1) := by decide +kernel
theorem dX12_nextRule_45 : decode cX12_nextRule 45 = .ok (.ixor, 1) := by decide +kernel
theorem dX12_nextRule_46 : decode cX12_nextRule 46 = .ok (.iand, 1) := by decide +kernel
theorem dX12_nextRule_47 : decode cX12_nextRule 47 = .ok (.ifCond .ne 5, 3) := by decide +kernel
theorem dX12_nextRule_50 : decode cX12_nextRule 50 = .ok (.iload_n 3, 1) := by decide +kernel
theorem dX12_nextRule_51 : decode cX12_nextRule 51 = .ok (.ireturn, 1) := by decide +kernel
theorem dX12_nextRule_52 : decode cX12_nextRule 52 = .ok (.iinc 3 1, 3) := by decide +kernel
theorem dX12_nextRule_55 : decode cX12_nextRule 55 = .ok (.goto (-53), 3) := by decide +kernel
theorem dX12_nextRule_58 : decode cX12_nextRule 58 = .ok (.iconst (-1), 1) := by decide +kernel
theorem dX12_nextRule_59 : decode cX12_nextRule 59 = .ok (.ireturn, 1) := by decide +kernel
theorem dX12_nextChild_0 : decode cX12_nextChild 0 = .ok (.iconst 1, 1) := by decide +kernel
theorem dX12_nextChild_1 : decode cX12_nextChild 1 = .ok (.istore_n 3, 1) := by decide +kernel
theorem dX12_nextChild_2 : decode cX12_nextChild 2 = .ok (.iload_n 3, 1) := by decide +kernel
theorem dX12_nextChild_3 : decode cX12_nextChild 3 = .ok (.aload_n 0, 1) := by decide +kernel
theorem dX12_nextChild_4 : decode cX12_nextChild 4 = .ok (.getfield 13, 3) := by decide +kernel
theorem dX12_nextChild_7 : decode cX12_nextChild 7 = .ok (.bipush 32, 2) := by decide +kernel
theorem dX12_nextChild_9 : decode cX12_nextChild 9 = .ok (.iload_n 1, 1) := by decide +kernel
theorem dX12_nextChild_10 : decode cX12_nextChild 10 = .ok (.iadd, 1) := by decide +kernel
theorem dX12_nextChild_11 : decode cX12_nextChild 11 = .ok (.iaload, 1) := by decide +kernel
theorem dX12_nextChild_12 : decode cX12_nextChild 12 = .ok (.if_icmp .gt 63, 3) := by decide +kernel
theorem dX12_nextChild_15 : decode cX12_nextChild 15 = .ok (.aload_n 0, 1) := by decide +kernel
theorem dX12_nextChild_16 : decode cX12_nextChild 16 = .ok (.getfield 13, 3) := by decide +kernel
theorem dX12_nextChild_19 : decode cX12_nextChild 19 = .ok (.iload_n 1, 1) := by decide +kernel
theorem dX12_nextChild_20 : decode cX12_nextChild 20 = .ok (.iload_n 3, 1) := by decide +kernel
theorem dX12_nextChild_21 : decode cX12_nextChild 21 = .ok (.invokestatic 250, 3) := by decide +kernel
theorem dX12_nextChild_24 : decode cX12_nextChild 24 = .ok (.istore 4, 2) := by decide +kernel
theorem dX12_nextChild_26 : decode cX12_nextChild 26 = .ok (.aload_n 0, 1) := by decide +kernel
theorem dX12_nextChild_27 : decode cX12_nextChild 27 = .ok (.getfield 60, 3) := by decide +kernel
theorem dX12_nextChild_30 : decode cX12_nextChild 30 = .ok (.iload_n 3, 1) := by decide +kernel
theorem dX12_nextChild_31 : decode cX12_nextChild 31 = .ok (.iaload, 1) := by decide +kernel
theorem dX12_nextChild_32 : decode cX12_nextChild 32 = .ok (.aload_n 0, 1) := by decide +kernel
theorem dX12_nextChild_33 : decode cX12_nextChild 33 = .ok (.getfield 54, 3) := by decide +kernel
theorem dX12_nextChild_36 : decode cX12_nextChild 36 = .ok (.iload 4, 2) := by decide +kernel
theorem dX12_nextChild_38 : decode cX12_nextChild 38 = .ok (.iaload, 1) := by decide +kernel
theorem dX12_nextChild_39 : decode cX12_nextChild 39 = .ok (.if_icmp .ne 6, 3) := by decide +kernel
theorem dX12_nextChild_42 : decode cX12_nextChild 42 = .ok (.goto 27, 3) := by decide +kernel
theorem dX12_nextChild_45 : decode cX12_nextChild 45 = .ok (.aload_n 0, 1) := by decide +kernel
theorem dX12_nextChild_46 : decode cX12_nextChild 46 = .ok (.iload_n 3, 1) := by decide +kernel
theorem dX12_nextChild_47 : decode cX12_nextChild 47 = .ok (.iload 4, 2) := by decide +kernel
theorem dX12_nextChild_49 : decode cX12_nextChild 49 = .ok (.aload_n 0, 1) := by decide +kernel
theorem dX12_nextChild_50 : decode cX12_nextChild 50 = .ok (.getfield 60, 3) := by decide +kernel
theorem dX12_nextChild_53 : decode cX12_nextChild 53 = .ok (.iload_n 3, 1) := by decide +kernel
theorem dX12_nextChild_54 : decode cX12_nextChild 54 = .ok (.iaload, 1) := by decide +kernel
theorem dX12_nextChild_55 : decode cX12_nextChild 55 = .ok (.iconst 1, 1) := by decide +kernel
theorem dX12_nextChild_56 : decode cX12_nextChild 56 = .ok (.iadd, 1) := by decide +kernel
theorem dX12_nextChild_57 : decode cX12_nextChild 57 = .ok (.invokevirtual 404, 3) := by decide +kernel
theorem dX12_nextChild_60 : decode cX12_nextChild 60 = .ok (.iload_n 2, 1) := by decide +kernel
theorem dX12_nextChild_61 : decode cX12_nextChild 61 = .ok (.iconst (-1), 1) := by decide +kernel
theorem dX12_nextChild_62 : decode cX12_nextChild 62 = .ok (.ixor, 1) := by decide +kernel
theorem dX12_nextChild_63 : decode cX12_nextChild 63 = .ok (.iand, 1) := by decide +kernel
theorem dX12_nextChild_64 : decode cX12_nextChild 64 = .ok (.ifCond .ne 5, 3) := by decide +kernel
theorem dX12_nextChild_67 : decode cX12_nextChild 67 = .ok (.iload_n 3, 1) := by decide +kernel
theorem dX12_nextChild_68 : decode cX12_nextChild 68 = .ok (.ireturn, 1) := by decide +kernel
theorem dX12_nextChild_69 : decode cX12_nextChild 69 = .ok (.iinc 3 1, 3) := by decide +kernel
theorem dX12_nextChild_72 : decode cX12_nextChild 72 = .ok (.goto (-70), 3) := by decide +kernel
theorem dX12_nextChild_75 : decode cX12_nextChild 75 = .ok (.iconst (-1), 1) := by decide +kernel
theorem dX12_nextChild_76 : decode cX12_nextChild 76 = .ok (.ireturn, 1) := by decide +kernel
theorem dX12_laysPlan_0 : decode cX12_laysPlan 0 = .ok (.aload_n 0, 1) := by decide +kernel
theorem dX12_laysPlan_1 : decode cX12_laysPlan 1 = .ok (.invokevirtual 389, 3) := by decide +kernel
theorem dX12_laysPlan_4 : decode cX12_laysPlan 4 = .ok (.aload_n 0, 1) := by decide +kernel
theorem dX12_laysPlan_5 : decode cX12_laysPlan 5 = .ok (.iconst 0, 1) := by decide +kernel
theorem dX12_laysPlan_6 : decode cX12_laysPlan 6 = .ok (.putfield 398, 3) := by decide +kernel
theorem dX12_laysPlan_9 : decode cX12_laysPlan 9 = .ok (.iconst 0, 1) := by decide +kernel
theorem dX12_laysPlan_10 : decode cX12_laysPlan 10 = .ok (.istore_n 2, 1) := by decide +kernel
theorem dX12_laysPlan_11 : decode cX12_laysPlan 11 = .ok (.iload_n 2, 1) := by decide +kernel
theorem dX12_laysPlan_12 : decode cX12_laysPlan 12 = .ok (.iconst 4, 1) := by decide +kernel
theorem dX12_laysPlan_13 : decode cX12_laysPlan 13 = .ok (.if_icmp .ge 16, 3) := by decide +kernel
theorem dX12_laysPlan_16 : decode cX12_laysPlan 16 = .ok (.aload_n 0, 1) := by decide +kernel
theorem dX12_laysPlan_17 : decode cX12_laysPlan 17 = .ok (.getfield 60, 3) := by decide +kernel
theorem dX12_laysPlan_20 : decode cX12_laysPlan 20 = .ok (.iload_n 2, 1) := by decide +kernel
theorem dX12_laysPlan_21 : decode cX12_laysPlan 21 = .ok (.iconst 0, 1) := by decide +kernel
theorem dX12_laysPlan_22 : decode cX12_laysPlan 22 = .ok (.iastore, 1) := by decide +kernel
theorem dX12_laysPlan_23 : decode cX12_laysPlan 23 = .ok (.iinc 2 1, 3) := by decide +kernel
theorem dX12_laysPlan_26 : decode cX12_laysPlan 26 = .ok (.goto (-15), 3) := by decide +kernel
theorem dX12_laysPlan_29 : decode cX12_laysPlan 29 = .ok (.aload_n 0, 1) := by decide +kernel
theorem dX12_laysPlan_30 : decode cX12_laysPlan 30 = .ok (.getfield 13, 3) := by decide +kernel
theorem dX12_laysPlan_33 : decode cX12_laysPlan 33 = .ok (.bipush 20, 2) := by decide +kernel
theorem dX12_laysPlan_35 : decode cX12_laysPlan 35 = .ok (.iload_n 1, 1) := by decide +kernel
theorem dX12_laysPlan_36 : decode cX12_laysPlan 36 = .ok (.iadd, 1) := by decide +kernel
theorem dX12_laysPlan_37 : decode cX12_laysPlan 37 = .ok (.iaload, 1) := by decide +kernel
theorem dX12_laysPlan_38 : decode cX12_laysPlan 38 = .ok (.istore_n 2, 1) := by decide +kernel
theorem dX12_laysPlan_39 : decode cX12_laysPlan 39 = .ok (.iconst 1, 1) := by decide +kernel
theorem dX12_laysPlan_40 : decode cX12_laysPlan 40 = .ok (.istore_n 3, 1) := by decide +kernel
theorem dX12_laysPlan_41 : decode cX12_laysPlan 41 = .ok (.aload_n 0, 1) := by decide +kernel
theorem dX12_laysPlan_42 : decode cX12_laysPlan 42 = .ok (.iconst 0, 1) := by decide +kernel
theorem dX12_laysPlan_43 : decode cX12_laysPlan 43 = .ok (.iload_n 2, 1) := by decide +kernel
theorem dX12_laysPlan_44 : decode cX12_laysPlan 44 = .ok (.iconst 1, 1) := by decide +kernel
theorem dX12_laysPlan_45 : decode cX12_laysPlan 45 = .ok (.invokevirtual 404, 3) := by decide +kernel
theorem dX12_laysPlan_48 : decode cX12_laysPlan 48 = .ok (.istore 4, 2) := by decide +kernel
theorem dX12_laysPlan_50 : decode cX12_laysPlan 50 = .ok (.iload_n 3, 1) := by decide +kernel
theorem dX12_laysPlan_51 : decode cX12_laysPlan 51 = .ok (.aload_n 0, 1) := by decide +kernel
theorem dX12_laysPlan_52 : decode cX12_laysPlan 52 = .ok (.getfield 54, 3) := by decide +kernel
theorem dX12_laysPlan_55 : decode cX12_laysPlan 55 = .ok (.iload_n 2, 1) := by decide +kernel
theorem dX12_laysPlan_56 : decode cX12_laysPlan 56 = .ok (.iaload, 1) := by decide +kernel
theorem dX12_laysPlan_57 : decode cX12_laysPlan 57 = .ok (.if_icmp .gt 183, 3) := by decide +kernel
theorem dX12_laysPlan_60 : decode cX12_laysPlan 60 = .ok (.aload_n 0, 1) := by decide +kernel
theorem dX12_laysPlan_61 : decode cX12_laysPlan 61 = .ok (.iconst 0, 1) := by decide +kernel
theorem dX12_laysPlan_62 : decode cX12_laysPlan 62 = .ok (.iload_n 2, 1) := by decide +kernel
theorem dX12_laysPlan_63 : decode cX12_laysPlan 63 = .ok (.iload_n 3, 1) := by decide +kernel
theorem dX12_laysPlan_64 : decode cX12_laysPlan 64 = .ok (.invokevirtual 408, 3) := by decide +kernel
theorem dX12_laysPlan_67 : decode cX12_laysPlan 67 = .ok (.iload 4, 2) := by decide +kernel
theorem dX12_laysPlan_69 : decode cX12_laysPlan 69 = .ok (.iconst (-1), 1) := by decide +kernel
theorem dX12_laysPlan_70 : decode cX12_laysPlan 70 = .ok (.ixor, 1) := by decide +kernel
theorem dX12_laysPlan_71 : decode cX12_laysPlan 71 = .ok (.iand, 1) := by decide +kernel
theorem dX12_laysPlan_72 : decode cX12_laysPlan 72 = .ok (.ifCond .ne 7, 3) := by decide +kernel
theorem dX12_laysPlan_75 : decode cX12_laysPlan 75 = .ok (.iconst 1, 1) := by decide +kernel
theorem dX12_laysPlan_76 : decode cX12_laysPlan 76 = .ok (.goto 4, 3) := by decide +kernel
theorem dX12_laysPlan_79 : decode cX12_laysPlan 79 = .ok (.iconst 0, 1) := by decide +kernel
theorem dX12_laysPlan_80 : decode cX12_laysPlan 80 = .ok (.istore 5, 2) := by decide +kernel
theorem dX12_laysPlan_82 : decode cX12_laysPlan 82 = .ok (.aload_n 0, 1) := by decide +kernel
theorem dX12_laysPlan_83 : decode cX12_laysPlan 83 = .ok (.iload_n 1, 1) := by decide +kernel
theorem dX12_laysPlan_84 : decode cX12_laysPlan 84 = .ok (.iload 4, 2) := by decide +kernel
theorem dX12_laysPlan_86 : decode cX12_laysPlan 86 = .ok (.invokevirtual 411, 3) := by decide +kernel
theorem dX12_laysPlan_89 : decode cX12_laysPlan 89 = .ok (.istore 6, 2) := by decide +kernel
theorem dX12_laysPlan_91 : decode cX12_laysPlan 91 = .ok (.aload_n 0, 1) := by decide +kernel
theorem dX12_laysPlan_92 : decode cX12_laysPlan 92 = .ok (.iload_n 1, 1) := by decide +kernel
theorem dX12_laysPlan_93 : decode cX12_laysPlan 93 = .ok (.iload 4, 2) := by decide +kernel
theorem dX12_laysPlan_95 : decode cX12_laysPlan 95 = .ok (.invokevirtual 414, 3) := by decide +kernel
theorem dX12_laysPlan_98 : decode cX12_laysPlan 98 = .ok (.istore 7, 2) := by decide +kernel
theorem dX12_laysPlan_100 : decode cX12_laysPlan 100 = .ok (.iload_n 3, 1) := by decide +kernel
theorem dX12_laysPlan_101 : decode cX12_laysPlan 101 = .ok (.aload_n 0, 1) := by decide +kernel
theorem dX12_laysPlan_102 : decode cX12_laysPlan 102 = .ok (.getfield 54, 3) := by decide +kernel
theorem dX12_laysPlan_105 : decode cX12_laysPlan 105 = .ok (.iload_n 2, 1) := by decide +kernel
theorem dX12_laysPlan_106 : decode cX12_laysPlan 106 = .ok (.iaload, 1) := by decide +kernel
theorem dX12_laysPlan_107 : decode cX12_laysPlan 107 = .ok (.if_icmp .ge 8, 3) := by decide +kernel
theorem dX12_laysPlan_110 : decode cX12_laysPlan 110 = .ok (.iload 5, 2) := by decide +kernel
theorem dX12_laysPlan_112 : decode cX12_laysPlan 112 = .ok (.ifCond .ne 15, 3) := by decide +kernel
theorem dX12_laysPlan_115 : decode cX12_laysPlan 115 = .ok (.iload 6, 2) := by decide +kernel
theorem dX12_laysPlan_117 : decode cX12_laysPlan 117 = .ok (.iconst (-1), 1) := by decide +kernel
theorem dX12_laysPlan_118 : decode cX12_laysPlan 118 = .ok (.if_icmp .ne 36, 3) := by decide +kernel
theorem dX12_laysPlan_121 : decode cX12_laysPlan 121 = .ok (.iload 7, 2) := by decide +kernel
theorem dX12_laysPlan_123 : decode cX12_laysPlan 123 = .ok (.iconst (-1), 1) := by decide +kernel
theorem dX12_laysPlan_124 : decode cX12_laysPlan 124 = .ok (.if_icmp .ne 30, 3) := by decide +kernel
theorem dX12_laysPlan_127 : decode cX12_laysPlan 127 = .ok (.aload_n 0, 1) := by decide +kernel
theorem dX12_laysPlan_128 : decode cX12_laysPlan 128 = .ok (.sipush 1000, 3) := by decide +kernel
theorem dX12_laysPlan_131 : decode cX12_laysPlan 131 = .ok (.iload_n 3, 1) := by decide +kernel
theorem dX12_laysPlan_132 : decode cX12_laysPlan 132 = .ok (.iadd, 1) := by decide +kernel
theorem dX12_laysPlan_133 : decode cX12_laysPlan 133 = .ok (.invokevirtual 417, 3) := by decide +kernel
theorem dX12_laysPlan_136 : decode cX12_laysPlan 136 = .ok (.iinc 3 1, 3) := by decide +kernel
theorem dX12_laysPlan_139 : decode cX12_laysPlan 139 = .ok (.iload 4, 2) := by decide +kernel
theorem dX12_laysPlan_141 : decode cX12_laysPlan 141 = .ok (.aload_n 0, 1) := by decide +kernel
theorem dX12_laysPlan_142 : decode cX12_laysPlan 142 = .ok (.iconst 0, 1) := by decide +kernel
theorem dX12_laysPlan_143 : decode cX12_laysPlan 143 = .ok (.iload_n 2, 1) := by decide +kernel
theorem dX12_laysPlan_144 : decode cX12_laysPlan 144 = .ok (.iload_n 3, 1) := by decide +kernel
theorem dX12_laysPlan_145 : decode cX12_laysPlan 145 = .ok (.invokevirtual 404, 3) := by decide +kernel
theorem dX12_laysPlan_148 : decode cX12_laysPlan 148 = .ok (.ior, 1) := by decide +kernel
theorem dX12_laysPlan_149 : decode cX12_laysPlan 149 = .ok (.istore 4, 2) := by decide +kernel
theorem dX12_laysPlan_151 : decode cX12_laysPlan 151 = .ok (.goto 86, 3) := by decide +kernel
theorem dX12_laysPlan_154 : decode cX12_laysPlan 154 = .ok (.iload 6, 2) := by decide +kernel
theorem dX12_laysPlan_156 : decode cX12_laysPlan 156 = .ok (.iconst (-1), 1) := by decide +kernel
theorem dX12_laysPlan_157 : decode cX12_laysPlan 157 = .ok (.if_icmp .eq 24, 3) := by decide +kernel
theorem dX12_laysPlan_160 : decode cX12_laysPlan 160 = .ok (.aload_n 0, 1) := by decide +kernel
theorem dX12_laysPlan_161 : decode cX12_laysPlan 161 = .ok (.bipush 100, 2) := by decide +kernel
theorem dX12_laysPlan_163 : decode cX12_laysPlan 163 = .ok (.iload 6, 2) := by decide +kernel
theorem dX12_laysPlan_165 : decode cX12_laysPlan 165 = .ok (.iadd, 1) := by decide +kernel
theorem dX12_laysPlan_166 : decode cX12_laysPlan 166 = .ok (.invokevirtual 417, 3) := by decide +kernel
theorem dX12_laysPlan_169 : decode cX12_laysPlan 169 = .ok (.iload 4, 2) := by decide +kernel
theorem dX12_laysPlan_171 : decode cX12_laysPlan 171 = .ok (.iconst 1, 1) := by decide +kernel
theorem dX12_laysPlan_172 : decode cX12_laysPlan 172 = .ok (.iload 6, 2) := by decide +kernel
theorem dX12_laysPlan_174 : decode cX12_laysPlan 174 = .ok (.ishl, 1) := by decide +kernel
theorem dX12_laysPlan_175 : decode cX12_laysPlan 175 = .ok (.ior, 1) := by decide +kernel
theorem dX12_laysPlan_176 : decode cX12_laysPlan 176 = .ok (.istore 4, 2) := by decide +kernel
theorem dX12_laysPlan_178 : decode cX12_laysPlan 178 = .ok (.goto 59, 3) := by decide +kernel
theorem dX12_laysPlan_181 : decode cX12_laysPlan 181 = .ok (.aload_n 0, 1) := by decide +kernel
theorem dX12_laysPlan_182 : decode cX12_laysPlan 182 = .ok (.getfield 60, 3) := by decide +kernel
theorem dX12_laysPlan_185 : decode cX12_laysPlan 185 = .ok (.iload 7, 2) := by decide +kernel
theorem dX12_laysPlan_187 : decode cX12_laysPlan 187 = .ok (.dup2, 1) := by decide +kernel
theorem dX12_laysPlan_188 : decode cX12_laysPlan 188 = .ok (.iaload, 1) := by decide +kernel
theorem dX12_laysPlan_189 : decode cX12_laysPlan 189 = .ok (.iconst 1, 1) := by decide +kernel
theorem dX12_laysPlan_190 : decode cX12_laysPlan 190 = .ok (.iadd, 1) := by decide +kernel
theorem dX12_laysPlan_191 : decode cX12_laysPlan 191 = .ok (.iastore, 1) := by decide +kernel
theorem dX12_laysPlan_192 : decode cX12_laysPlan 192 = .ok (.aload_n 0, 1) := by decide +kernel
theorem dX12_laysPlan_193 : decode cX12_laysPlan 193 = .ok (.bipush 10, 2) := by decide +kernel
theorem dX12_laysPlan_195 : decode cX12_laysPlan 195 = .ok (.iload 7, 2) := by decide +kernel
theorem dX12_laysPlan_197 : decode cX12_laysPlan 197 = .ok (.imul, 1) := by decide +kernel
theorem dX12_laysPlan_198 : decode cX12_laysPlan 198 = .ok (.aload_n 0, 1) := by decide +kernel
theorem dX12_laysPlan_199 : decode cX12_laysPlan 199 = .ok (.getfield 60, 3) := by decide +kernel
theorem dX12_laysPlan_202 : decode cX12_laysPlan 202 = .ok (.iload 7, 2) := by decide +kernel
theorem dX12_laysPlan_204 : decode cX12_laysPlan 204 = .ok (.iaload, 1) := by decide +kernel
theorem dX12_laysPlan_205 : decode cX12_laysPlan 205 = .ok (.iadd, 1) := by decide +kernel
theorem dX12_laysPlan_206 : decode cX12_laysPlan 206 = .ok (.invokevirtual 417, 3) := by decide +kernel
theorem dX12_laysPlan_209 : decode cX12_laysPlan 209 = .ok (.iload 4, 2) := by decide +kernel
theorem dX12_laysPlan_211 : decode cX12_laysPlan 211 = .ok (.aload_n 0, 1) := by decide +kernel
theorem dX12_laysPlan_212 : decode cX12_laysPlan 212 = .ok (.iload 7, 2) := by decide +kernel
theorem dX12_laysPlan_214 : decode cX12_laysPlan 214 = .ok (.aload_n 0, 1) := by decide +kernel
theorem dX12_laysPlan_215 : decode cX12_laysPlan 215 = .ok (.getfield 13, 3) := by decide +kernel
theorem dX12_laysPlan_218 : decode cX12_laysPlan 218 = .ok (.iload_n 1, 1) := by decide +kernel
theorem dX12_laysPlan_219 : decode cX12_laysPlan 219 = .ok (.iload 7, 2) := by decide +kernel
theorem dX12_laysPlan_221 : decode cX12_laysPlan 221 = .ok (.invokestatic 250, 3) := by decide +kernel
theorem dX12_laysPlan_224 : decode cX12_laysPlan 224 = .ok (.aload_n 0, 1) := by decide +kernel
theorem dX12_laysPlan_225 : decode cX12_laysPlan 225 = .ok (.getfield 60, 3) := by decide +kernel
theorem dX12_laysPlan_228 : decode cX12_laysPlan 228 = .ok (.iload 7, 2) := by decide +kernel
theorem dX12_laysPlan_230 : decode cX12_laysPlan 230 = .ok (.iaload, 1) := by decide +kernel
theorem dX12_laysPlan_231 : decode cX12_laysPlan 231 = .ok (.invokevirtual 408, 3) := by decide +kernel
theorem dX12_laysPlan_234 : decode cX12_laysPlan 234 = .ok (.ior, 1) := by decide +kernel
theorem dX12_laysPlan_235 : decode cX12_laysPlan 235 = .ok (.istore 4, 2) := by decide +kernel
theorem dX12_laysPlan_237 : decode cX12_laysPlan 237 = .ok (.goto (-187), 3) := by decide +kernel
theorem dX12_laysPlan_240 : decode cX12_laysPlan 240 = .ok (.return_, 1) := by decide +kernel
theorem dX12_keepsShade_0 : decode cX12_keepsShade 0 = .ok (.iconst 0, 1) := by decide +kernel
theorem dX12_keepsShade_1 : decode cX12_keepsShade 1 = .ok (.istore_n 3, 1) := by decide +kernel
theorem dX12_keepsShade_2 : decode cX12_keepsShade 2 = .ok (.iload_n 3, 1) := by decide +kernel
theorem dX12_keepsShade_3 : decode cX12_keepsShade 3 = .ok (.aload_n 0, 1) := by decide +kernel
theorem dX12_keepsShade_4 : decode cX12_keepsShade 4 = .ok (.getfield 66, 3) := by decide +kernel
theorem dX12_keepsShade_7 : decode cX12_keepsShade 7 = .ok (.iload_n 1, 1) := by decide +kernel
theorem dX12_keepsShade_8 : decode cX12_keepsShade 8 = .ok (.iaload, 1) := by decide +kernel
theorem dX12_keepsShade_9 : decode cX12_keepsShade 9 = .ok (.if_icmp .ge 25, 3) := by decide +kernel
theorem dX12_keepsShade_12 : decode cX12_keepsShade 12 = .ok (.aload_n 0, 1) := by decide +kernel
theorem dX12_keepsShade_13 : decode cX12_keepsShade 13 = .ok (.getfield 63, 3) := by decide +kernel
theorem dX12_keepsShade_16 : decode cX12_keepsShade 16 = .ok (.bipush 14, 2) := by decide +kernel
theorem dX12_keepsShade_18 : decode cX12_keepsShade 18 = .ok (.iload_n 1, 1) := by decide +kernel
theorem dX12_keepsShade_19 : decode cX12_keepsShade 19 = .ok (.imul, 1) := by decide +kernel
theorem dX12_keepsShade_20 : decode cX12_keepsShade 20 = .ok (.iload_n 3, 1) := by decide +kernel
theorem dX12_keepsShade_21 : decode cX12_keepsShade 21 = .ok (.iadd, 1) := by decide +kernel
theorem dX12_keepsShade_22 : decode cX12_keepsShade 22 = .ok (.iaload, 1) := by decide +kernel
theorem dX12_keepsShade_23 : decode cX12_keepsShade 23 = .ok (.iload_n 2, 1) := by decide +kernel
theorem dX12_keepsShade_24 : decode cX12_keepsShade 24 = .ok (.if_icmp .ne 4, 3) := by decide +kernel
theorem dX12_keepsShade_27 : decode cX12_keepsShade 27 = .ok (.return_, 1) := by decide +kernel
theorem dX12_keepsShade_28 : decode cX12_keepsShade 28 = .ok (.iinc 3 1, 3) := by decide +kernel
theorem dX12_keepsShade_31 : decode cX12_keepsShade 31 = .ok (.goto (-29), 3) := by decide +kernel
theorem dX12_keepsShade_34 : decode cX12_keepsShade 34 = .ok (.aload_n 0, 1) := by decide +kernel
theorem dX12_keepsShade_35 : decode cX12_keepsShade 35 = .ok (.iconst 1, 1) := by decide +kernel
theorem dX12_keepsShade_36 : decode cX12_keepsShade 36 = .ok (.putfield 420, 3) := by decide +kernel
theorem dX12_keepsShade_39 : decode cX12_keepsShade 39 = .ok (.aload_n 0, 1) := by decide +kernel
theorem dX12_keepsShade_40 : decode cX12_keepsShade 40 = .ok (.getfield 66, 3) := by decide +kernel
theorem dX12_keepsShade_43 : decode cX12_keepsShade 43 = .ok (.iload_n 1, 1) := by decide +kernel
theorem dX12_keepsShade_44 : decode cX12_keepsShade 44 = .ok (.iaload, 1) := by decide +kernel
theorem dX12_keepsShade_45 : decode cX12_keepsShade 45 = .ok (.bipush 12, 2) := by decide +kernel
theorem dX12_keepsShade_47 : decode cX12_keepsShade 47 = .ok (.if_icmp .ne 9, 3) := by decide +kernel
theorem dX12_keepsShade_50 : decode cX12_keepsShade 50 = .ok (.aload_n 0, 1) := by decide +kernel
theorem dX12_keepsShade_51 : decode cX12_keepsShade 51 = .ok (.iconst 1, 1) := by decide +kernel
theorem dX12_keepsShade_52 : decode cX12_keepsShade 52 = .ok (.putfield 423, 3) := by decide +kernel
theorem dX12_keepsShade_55 : decode cX12_keepsShade 55 = .ok (.return_, 1) := by decide +kernel
theorem dX12_keepsShade_56 : decode cX12_keepsShade 56 = .ok (.aload_n 0, 1) := by decide +kernel
theorem dX12_keepsShade_57 : decode cX12_keepsShade 57 = .ok (.getfield 63, 3) := by decide +kernel
theorem dX12_keepsShade_60 : decode cX12_keepsShade 60 = .ok (.bipush 14, 2) := by decide +kernel
theorem dX12_keepsShade_62 : decode cX12_keepsShade 62 = .ok (.iload_n 1, 1) := by decide +kernel
theorem dX12_keepsShade_63 : decode cX12_keepsShade 63 = .ok (.imul, 1) := by decide +kernel
theorem dX12_keepsShade_64 : decode cX12_keepsShade 64 = .ok (.aload_n 0, 1) := by decide +kernel
theorem dX12_keepsShade_65 : decode cX12_keepsShade 65 = .ok (.getfield 66, 3) := by decide +kernel
theorem dX12_keepsShade_68 : decode cX12_keepsShade 68 = .ok (.iload_n 1, 1) := by decide +kernel
theorem dX12_keepsShade_69 : decode cX12_keepsShade 69 = .ok (.iaload, 1) := by decide +kernel
theorem dX12_keepsShade_70 : decode cX12_keepsShade 70 = .ok (.iadd, 1) := by decide +kernel
theorem dX12_keepsShade_71 : decode cX12_keepsShade 71 = .ok (.iload_n 2, 1) := by decide +kernel
theorem dX12_keepsShade_72 : decode cX12_keepsShade 72 = .ok (.iastore, 1) := by decide +kernel
theorem dX12_keepsShade_73 : decode cX12_keepsShade 73 = .ok (.aload_n 0, 1) := by decide +kernel
theorem dX12_keepsShade_74 : decode cX12_keepsShade 74 = .ok (.getfield 66, 3) := by decide +kernel
theorem dX12_keepsShade_77 : decode cX12_keepsShade 77 = .ok (.iload_n 1, 1) := by decide +kernel
theorem dX12_keepsShade_78 : decode cX12_keepsShade 78 = .ok (.dup2, 1) := by decide +kernel
theorem dX12_keepsShade_79 : decode cX12_keepsShade 79 = .ok (.iaload, 1) := by decide +kernel
theorem dX12_keepsShade_80 : decode cX12_keepsShade 80 = .ok (.iconst 1, 1) := by decide +kernel
theorem dX12_keepsShade_81 : decode cX12_keepsShade 81 = .ok (.iadd, 1) := by decide +kernel
theorem dX12_keepsShade_82 : decode cX12_keepsShade 82 = .ok (.iastore, 1) := by decide +kernel
theorem dX12_keepsShade_83 : decode cX12_keepsShade 83 = .ok (.return_, 1) := by decide +kernel
theorem dX12_shadesBy_0 : decode cX12_shadesBy 0 = .ok (.aload_n 0, 1) := by decide +kernel
theorem dX12_shadesBy_1 : decode cX12_shadesBy 1 = .ok (.iload_n 1, 1) := by decide +kernel
theorem dX12_shadesBy_2 : decode cX12_shadesBy 2 = .ok (.invokevirtual 347, 3) := by decide +kernel
theorem dX12_shadesBy_5 : decode cX12_shadesBy 5 = .ok (.iconst 1, 1) := by decide +kernel
theorem dX12_shadesBy_6 : decode cX12_shadesBy 6 = .ok (.istore_n 2, 1) := by decide +kernel
theorem dX12_shadesBy_7 : decode cX12_shadesBy 7 = .ok (.iload_n 2, 1) := by decide +kernel
theorem dX12_shadesBy_8 : decode cX12_shadesBy 8 = .ok (.aload_n 0, 1) := by decide +kernel
theorem dX12_shadesBy_9 : decode cX12_shadesBy 9 = .ok (.getfield 13, 3) := by decide +kernel
theorem dX12_shadesBy_12 : decode cX12_shadesBy 12 = .ok (.bipush 32, 2) := by decide +kernel
theorem dX12_shadesBy_14 : decode cX12_shadesBy 14 = .ok (.iload_n 1, 1) := by decide +kernel
theorem dX12_shadesBy_15 : decode cX12_shadesBy 15 = .ok (.iadd, 1) := by decide +kernel
theorem dX12_shadesBy_16 : decode cX12_shadesBy 16 = .ok (.iaload, 1) := by decide +kernel
theorem dX12_shadesBy_17 : decode cX12_shadesBy 17 = .ok (.if_icmp .gt 102, 3) := by decide +kernel
theorem dX12_shadesBy_20 : decode cX12_shadesBy 20 = .ok (.aload_n 0, 1) := by decide +kernel
theorem dX12_shadesBy_21 : decode cX12_shadesBy 21 = .ok (.getfield 13, 3) := by decide +kernel
theorem dX12_shadesBy_24 : decode cX12_shadesBy 24 = .ok (.iload_n 1, 1) := by decide +kernel
theorem dX12_shadesBy_25 : decode cX12_shadesBy 25 = .ok (.iload_n 2, 1) := by decide +kernel
theorem dX12_shadesBy_26 : decode cX12_shadesBy 26 = .ok (.invokestatic 250, 3) := by decide +kernel
theorem dX12_shadesBy_29 : decode cX12_shadesBy 29 = .ok (.istore_n 3, 1) := by decide +kernel
theorem dX12_shadesBy_30 : decode cX12_shadesBy 30 = .ok (.aload_n 0, 1) := by decide +kernel
theorem dX12_shadesBy_31 : decode cX12_shadesBy 31 = .ok (.getfield 63, 3) := by decide +kernel
theorem dX12_shadesBy_34 : decode cX12_shadesBy 34 = .ok (.bipush 14, 2) := by decide +kernel
theorem dX12_shadesBy_36 : decode cX12_shadesBy 36 = .ok (.iload_n 3, 1) := by decide +kernel
theorem dX12_shadesBy_37 : decode cX12_shadesBy 37 = .ok (.imul, 1) := by decide +kernel
theorem dX12_shadesBy_38 : decode cX12_shadesBy 38 = .ok (.aload_n 0, 1) := by decide +kernel
theorem dX12_shadesBy_39 : decode cX12_shadesBy 39 = .ok (.getfield 72, 3) := by decide +kernel
theorem dX12_shadesBy_42 : decode cX12_shadesBy 42 = .ok (.iload_n 2, 1) := by decide +kernel
theorem dX12_shadesBy_43 : decode cX12_shadesBy 43 = .ok (.iaload, 1) := by decide +kernel
theorem dX12_shadesBy_44 : decode cX12_shadesBy 44 = .ok (.iadd, 1) := by decide +kernel
theorem dX12_shadesBy_45 : decode cX12_shadesBy 45 = .ok (.iaload, 1) := by decide +kernel
theorem dX12_shadesBy_46 : decode cX12_shadesBy 46 = .ok (.istore 4, 2) := by decide +kernel
theorem dX12_shadesBy_48 : decode cX12_shadesBy 48 = .ok (.aload_n 0, 1) := by decide +kernel
theorem dX12_shadesBy_49 : decode cX12_shadesBy 49 = .ok (.getfield 13, 3) := by decide +kernel
theorem dX12_shadesBy_52 : decode cX12_shadesBy 52 = .ok (.iconst 4, 1) := by decide +kernel
theorem dX12_shadesBy_53 : decode cX12_shadesBy 53 = .ok (.iload_n 3, 1) := by decide +kernel
theorem dX12_shadesBy_54 : decode cX12_shadesBy 54 = .ok (.iadd, 1) := by decide +kernel
theorem dX12_shadesBy_55 : decode cX12_shadesBy 55 = .ok (.iaload, 1) := by decide +kernel
theorem dX12_shadesBy_56 : decode cX12_shadesBy 56 = .ok (.istore 5, 2) := by decide +kernel
theorem dX12_shadesBy_58 : decode cX12_shadesBy 58 = .ok (.iload 5, 2) := by decide +kernel
theorem dX12_shadesBy_60 : decode cX12_shadesBy 60 = .ok (.aload_n 0, 1) := by decide +kernel
theorem dX12_shadesBy_61 : decode cX12_shadesBy 61 = .ok (.iload_n 3, 1) := by decide +kernel
theorem dX12_shadesBy_62 : decode cX12_shadesBy 62 = .ok (.invokevirtual 334, 3) := by decide +kernel
theorem dX12_shadesBy_65 : decode cX12_shadesBy 65 = .ok (.if_icmp .ge 48, 3) := by decide +kernel
theorem dX12_shadesBy_68 : decode cX12_shadesBy 68 = .ok (.aload_n 0, 1) := by decide +kernel
theorem dX12_shadesBy_69 : decode cX12_shadesBy 69 = .ok (.getfield 36, 3) := by decide +kernel
theorem dX12_shadesBy_72 : decode cX12_shadesBy 72 = .ok (.bipush 8, 2) := by decide +kernel
theorem dX12_shadesBy_74 : decode cX12_shadesBy 74 = .ok (.iload_n 2, 1) := by decide +kernel
theorem dX12_shadesBy_75 : decode cX12_shadesBy 75 = .ok (.imul, 1) := by decide +kernel
theorem dX12_shadesBy_76 : decode cX12_shadesBy 76 = .ok (.iload 5, 2) := by decide +kernel
theorem dX12_shadesBy_78 : decode cX12_shadesBy 78 = .ok (.iadd, 1) := by decide +kernel
theorem dX12_shadesBy_79 : decode cX12_shadesBy 79 = .ok (.dup2, 1) := by decide +kernel
theorem dX12_shadesBy_80 : decode cX12_shadesBy 80 = .ok (.iaload, 1) := by decide +kernel
theorem dX12_shadesBy_81 : decode cX12_shadesBy 81 = .ok (.iload 4, 2) := by decide +kernel
theorem dX12_shadesBy_83 : decode cX12_shadesBy 83 = .ok (.iconst 4, 1) := by decide +kernel
theorem dX12_shadesBy_84 : decode cX12_shadesBy 84 = .ok (.iload 5, 2) := by decide +kernel
theorem dX12_shadesBy_86 : decode cX12_shadesBy 86 = .ok (.aload_n 0, 1) := by decide +kernel
theorem dX12_shadesBy_87 : decode cX12_shadesBy 87 = .ok (.getfield 13, 3) := by decide +kernel
theorem dX12_shadesBy_90 : decode cX12_shadesBy 90 = .ok (.iconst 4, 1) := by decide +kernel
theorem dX12_shadesBy_91 : decode cX12_shadesBy 91 = .ok (.iload_n 3, 1) := by decide +kernel
theorem dX12_shadesBy_92 : decode cX12_shadesBy 92 = .ok (.iadd, 1) := by decide +kernel
theorem dX12_shadesBy_93 : decode cX12_shadesBy 93 = .ok (.iaload, 1) := by decide +kernel
theorem dX12_shadesBy_94 : decode cX12_shadesBy 94 = .ok (.isub, 1) := by decide +kernel
theorem dX12_shadesBy_95 : decode cX12_shadesBy 95 = .ok (.imul, 1) := by decide +kernel
theorem dX12_shadesBy_96 : decode cX12_shadesBy 96 = .ok (.ishr, 1) := by decide +kernel
theorem dX12_shadesBy_97 : decode cX12_shadesBy 97 = .ok (.bipush 15, 2) := by decide +kernel
theorem dX12_shadesBy_99 : decode cX12_shadesBy 99 = .ok (.iand, 1) := by decide +kernel
theorem dX12_shadesBy_100 : decode cX12_shadesBy 100 = .ok (.bipush 8, 2) := by decide +kernel
theorem dX12_shadesBy_102 : decode cX12_shadesBy 102 = .ok (.iload_n 2, 1) := by decide +kernel
theorem dX12_shadesBy_103 : decode cX12_shadesBy 103 = .ok (.imul, 1) := by decide +kernel
theorem dX12_shadesBy_104 : decode cX12_shadesBy 104 = .ok (.ishl, 1) := by decide +kernel
theorem dX12_shadesBy_105 : decode cX12_shadesBy 105 = .ok (.ior, 1) := by decide +kernel
theorem dX12_shadesBy_106 : decode cX12_shadesBy 106 = .ok (.iastore, 1) := by decide +kernel
theorem dX12_shadesBy_107 : decode cX12_shadesBy 107 = .ok (.iinc 5 1, 3) := by decide +kernel
theorem dX12_shadesBy_110 : decode cX12_shadesBy 110 = .ok (.goto (-52), 3) := by decide +kernel
theorem dX12_shadesBy_113 : decode cX12_shadesBy 113 = .ok (.iinc 2 1, 3) := by decide +kernel
theorem dX12_shadesBy_116 : decode cX12_shadesBy 116 = .ok (.goto (-109), 3) := by decide +kernel
theorem dX12_shadesBy_119 : decode cX12_shadesBy 119 = .ok (.aload_n 0, 1) := by decide +kernel
theorem dX12_shadesBy_120 : decode cX12_shadesBy 120 = .ok (.invokevirtual 353, 3) := by decide +kernel
theorem dX12_shadesBy_123 : decode cX12_shadesBy 123 = .ok (.aload_n 0, 1) := by decide +kernel
theorem dX12_shadesBy_124 : decode cX12_shadesBy 124 = .ok (.invokevirtual 362, 3) := by decide +kernel
theorem dX12_shadesBy_127 : decode cX12_shadesBy 127 = .ok (.iconst (-1), 1) := by decide +kernel
theorem dX12_shadesBy_128 : decode cX12_shadesBy 128 = .ok (.if_icmp .eq 18, 3) := by decide +kernel
theorem dX12_shadesBy_131 : decode cX12_shadesBy 131 = .ok (.aload_n 0, 1) := by decide +kernel
theorem dX12_shadesBy_132 : decode cX12_shadesBy 132 = .ok (.getfield 426, 3) := by decide +kernel
theorem dX12_shadesBy_135 : decode cX12_shadesBy 135 = .ok (.ifCond .ne 11, 3) := by decide +kernel
theorem dX12_shadesBy_138 : decode cX12_shadesBy 138 = .ok (.aload_n 0, 1) := by decide +kernel
theorem dX12_shadesBy_139 : decode cX12_shadesBy 139 = .ok (.aload_n 0, 1) := by decide +kernel
theorem dX12_shadesBy_140 : decode cX12_shadesBy 140 = .ok (.getfield 429, 3) := by decide +kernel
theorem dX12_shadesBy_143 : decode cX12_shadesBy 143 = .ok (.putfield 426, 3) := by decide +kernel
theorem dX12_shadesBy_146 : decode cX12_shadesBy 146 = .ok (.aload_n 0, 1) := by decide +kernel
theorem dX12_shadesBy_147 : decode cX12_shadesBy 147 = .ok (.getfield 13, 3) := by decide +kernel
theorem dX12_shadesBy_150 : decode cX12_shadesBy 150 = .ok (.bipush 20, 2) := by decide +kernel
theorem dX12_shadesBy_152 : decode cX12_shadesBy 152 = .ok (.iload_n 1, 1) := by decide +kernel
theorem dX12_shadesBy_153 : decode cX12_shadesBy 153 = .ok (.iadd, 1) := by decide +kernel
theorem dX12_shadesBy_154 : decode cX12_shadesBy 154 = .ok (.iaload, 1) := by decide +kernel
theorem dX12_shadesBy_155 : decode cX12_shadesBy 155 = .ok (.istore_n 2, 1) := by decide +kernel
theorem dX12_shadesBy_156 : decode cX12_shadesBy 156 = .ok (.iconst 0, 1) := by decide +kernel
theorem dX12_shadesBy_157 : decode cX12_shadesBy 157 = .ok (.istore_n 3, 1) := by decide +kernel
theorem dX12_shadesBy_158 : decode cX12_shadesBy 158 = .ok (.aload_n 0, 1) := by decide +kernel
theorem dX12_shadesBy_159 : decode cX12_shadesBy 159 = .ok (.getfield 13, 3) := by decide +kernel
theorem dX12_shadesBy_162 : decode cX12_shadesBy 162 = .ok (.iconst 4, 1) := by decide +kernel
theorem dX12_shadesBy_163 : decode cX12_shadesBy 163 = .ok (.iload_n 2, 1) := by decide +kernel
theorem dX12_shadesBy_164 : decode cX12_shadesBy 164 = .ok (.iadd, 1) := by decide +kernel
theorem dX12_shadesBy_165 : decode cX12_shadesBy 165 = .ok (.iaload, 1) := by decide +kernel
theorem dX12_shadesBy_166 : decode cX12_shadesBy 166 = .ok (.istore 4, 2) := by decide +kernel
theorem dX12_shadesBy_168 : decode cX12_shadesBy 168 = .ok (.iload 4, 2) := by decide +kernel
theorem dX12_shadesBy_170 : decode cX12_shadesBy 170 = .ok (.aload_n 0, 1) := by decide +kernel
theorem dX12_shadesBy_171 : decode cX12_shadesBy 171 = .ok (.iload_n 2, 1) := by decide +kernel
theorem dX12_shadesBy_172 : decode cX12_shadesBy 172 = .ok (.invokevirtual 334, 3) := by decide +kernel
theorem dX12_shadesBy_175 : decode cX12_shadesBy 175 = .ok (.if_icmp .ge 46, 3) := by decide +kernel
theorem dX12_shadesBy_178 : decode cX12_shadesBy 178 = .ok (.iload_n 3, 1) := by decide +kernel
theorem dX12_shadesBy_179 : decode cX12_shadesBy 179 = .ok (.aload_n 0, 1) := by decide +kernel
theorem dX12_shadesBy_180 : decode cX12_shadesBy 180 = .ok (.getfield 36, 3) := by decide +kernel
theorem dX12_shadesBy_183 : decode cX12_shadesBy 183 = .ok (.iload 4, 2) := by decide +kernel
theorem dX12_shadesBy_185 : decode cX12_shadesBy 185 = .ok (.iaload, 1) := by decide +kernel
theorem dX12_shadesBy_186 : decode cX12_shadesBy 186 = .ok (.iconst 1, 1) := by decide +kernel
theorem dX12_shadesBy_187 : decode cX12_shadesBy 187 = .ok (.aload_n 0, 1) := by decide +kernel
theorem dX12_shadesBy_188 : decode cX12_shadesBy 188 = .ok (.getfield 13, 3) := by decide +kernel
theorem dX12_shadesBy_191 : decode cX12_shadesBy 191 = .ok (.iconst 4, 1) := by decide +kernel
theorem dX12_shadesBy_192 : decode cX12_shadesBy 192 = .ok (.iload_n 2, 1) := by decide +kernel
theorem dX12_shadesBy_193 : decode cX12_shadesBy 193 = .ok (.iadd, 1) := by decide +kernel
theorem dX12_shadesBy_194 : decode cX12_shadesBy 194 = .ok (.iaload, 1) := by decide +kernel
theorem dX12_shadesBy_195 : decode cX12_shadesBy 195 = .ok (.ishl, 1) := by decide +kernel
theorem dX12_shadesBy_196 : decode cX12_shadesBy 196 = .ok (.iconst 1, 1) := by decide +kernel
theorem dX12_shadesBy_197 : decode cX12_shadesBy 197 = .ok (.isub, 1) := by decide +kernel
theorem dX12_shadesBy_198 : decode cX12_shadesBy 198 = .ok (.iand, 1) := by decide +kernel
theorem dX12_shadesBy_199 : decode cX12_shadesBy 199 = .ok (.iconst 4, 1) := by decide +kernel
theorem dX12_shadesBy_200 : decode cX12_shadesBy 200 = .ok (.iload 4, 2) := by decide +kernel
theorem dX12_shadesBy_202 : decode cX12_shadesBy 202 = .ok (.aload_n 0, 1) := by decide +kernel
theorem dX12_shadesBy_203 : decode cX12_shadesBy 203 = .ok (.getfield 13, 3) := by decide +kernel
theorem dX12_shadesBy_206 : decode cX12_shadesBy 206 = .ok (.iconst 4, 1) := by decide +kernel
theorem dX12_shadesBy_207 : decode cX12_shadesBy 207 = .ok (.iload_n 2, 1) := by decide +kernel
theorem dX12_shadesBy_208 : decode cX12_shadesBy 208 = .ok (.iadd, 1) := by decide +kernel
theorem dX12_shadesBy_209 : decode cX12_shadesBy 209 = .ok (.iaload, 1) := by decide +kernel
theorem dX12_shadesBy_210 : decode cX12_shadesBy 210 = .ok (.isub, 1) := by decide +kernel
theorem dX12_shadesBy_211 : decode cX12_shadesBy 211 = .ok (.imul, 1) := by decide +kernel
theorem dX12_shadesBy_212 : decode cX12_shadesBy 212 = .ok (.ishl, 1) := by decide +kernel
theorem dX12_shadesBy_213 : decode cX12_shadesBy 213 = .ok (.ior, 1) := by decide +kernel
theorem dX12_shadesBy_214 : decode cX12_shadesBy 214 = .ok (.istore_n 3, 1) := by decide +kernel
theorem dX12_shadesBy_215 : decode cX12_shadesBy 215 = .ok (.iinc 4 1, 3) := by decide +kernel
theorem dX12_shadesBy_218 : decode cX12_shadesBy 218 = .ok (.goto (-50), 3) := by decide +kernel
theorem dX12_shadesBy_221 : decode cX12_shadesBy 221 = .ok (.aload_n 0, 1) := by decide +kernel
theorem dX12_shadesBy_222 : decode cX12_shadesBy 222 = .ok (.iload_n 2, 1) := by decide +kernel
theorem dX12_shadesBy_223 : decode cX12_shadesBy 223 = .ok (.iload_n 3, 1) := by decide +kernel
theorem dX12_shadesBy_224 : decode cX12_shadesBy 224 = .ok (.invokevirtual 432, 3) := by decide +kernel
theorem dX12_shadesBy_227 : decode cX12_shadesBy 227 = .ok (.return_, 1) := by decide +kernel
theorem dX12_chooses_0 : decode cX12_chooses 0 = .ok (.iload_n 2, 1) := by decide +kernel
theorem dX12_chooses_1 : decode cX12_chooses 1 = .ok (.aload_n 0, 1) := by decide +kernel
theorem dX12_chooses_2 : decode cX12_chooses 2 = .ok (.getfield 13, 3) := by decide +kernel
theorem dX12_chooses_5 : decode cX12_chooses 5 = .ok (.bipush 32, 2) := by decide +kernel
theorem dX12_chooses_7 : decode cX12_chooses 7 = .ok (.iload_n 1, 1) := by decide +kernel
theorem dX12_chooses_8 : decode cX12_chooses 8 = .ok (.iadd, 1) := by decide +kernel
theorem dX12_chooses_9 : decode cX12_chooses 9 = .ok (.iaload, 1) := by decide +kernel
theorem dX12_chooses_10 : decode cX12_chooses 10 = .ok (.if_icmp .le 9, 3) := by decide +kernel
theorem dX12_chooses_13 : decode cX12_chooses 13 = .ok (.aload_n 0, 1) := by decide +kernel
theorem dX12_chooses_14 : decode cX12_chooses 14 = .ok (.iload_n 1, 1) := by decide +kernel
theorem dX12_chooses_15 : decode cX12_chooses 15 = .ok (.invokevirtual 435, 3) := by decide +kernel
theorem dX12_chooses_18 : decode cX12_chooses 18 = .ok (.return_, 1) := by decide +kernel
theorem dX12_chooses_19 : decode cX12_chooses 19 = .ok (.aload_n 0, 1) := by decide +kernel
theorem dX12_chooses_20 : decode cX12_chooses 20 = .ok (.getfield 13, 3) := by decide +kernel
theorem dX12_chooses_23 : decode cX12_chooses 23 = .ok (.iload_n 1, 1) := by decide +kernel
theorem dX12_chooses_24 : decode cX12_chooses 24 = .ok (.iload_n 2, 1) := by decide +kernel
theorem dX12_chooses_25 : decode cX12_chooses 25 = .ok (.invokestatic 250, 3) := by decide +kernel
theorem dX12_chooses_28 : decode cX12_chooses 28 = .ok (.istore_n 3, 1) := by decide +kernel
theorem dX12_chooses_29 : decode cX12_chooses 29 = .ok (.iconst 0, 1) := by decide +kernel
theorem dX12_chooses_30 : decode cX12_chooses 30 = .ok (.istore 4, 2) := by decide +kernel
theorem dX12_chooses_32 : decode cX12_chooses 32 = .ok (.iload 4, 2) := by decide +kernel
theorem dX12_chooses_34 : decode cX12_chooses 34 = .ok (.aload_n 0, 1) := by decide +kernel
theorem dX12_chooses_35 : decode cX12_chooses 35 = .ok (.getfield 69, 3) := by decide +kernel
theorem dX12_chooses_38 : decode cX12_chooses 38 = .ok (.iload_n 3, 1) := by decide +kernel
theorem dX12_chooses_39 : decode cX12_chooses 39 = .ok (.iaload, 1) := by decide +kernel
theorem dX12_chooses_40 : decode cX12_chooses 40 = .ok (.if_icmp .ge 25, 3) := by decide +kernel
theorem dX12_chooses_43 : decode cX12_chooses 43 = .ok (.aload_n 0, 1) := by decide +kernel
theorem dX12_chooses_44 : decode cX12_chooses 44 = .ok (.getfield 72, 3) := by decide +kernel
theorem dX12_chooses_47 : decode cX12_chooses 47 = .ok (.iload_n 2, 1) := by decide +kernel
theorem dX12_chooses_48 : decode cX12_chooses 48 = .ok (.iload 4, 2) := by decide +kernel
theorem dX12_chooses_50 : decode cX12_chooses 50 = .ok (.iastore, 1) := by decide +kernel
theorem dX12_chooses_51 : decode cX12_chooses 51 = .ok (.aload_n 0, 1) := by decide +kernel
theorem dX12_chooses_52 : decode cX12_chooses 52 = .ok (.iload_n 1, 1) := by decide +kernel
theorem dX12_chooses_53 : decode cX12_chooses 53 = .ok (.iload_n 2, 1) := by decide +kernel
theorem dX12_chooses_54 : decode cX12_chooses 54 = .ok (.iconst 1, 1) := by decide +kernel
theorem dX12_chooses_55 : decode cX12_chooses 55 = .ok (.iadd, 1) := by decide +kernel
theorem dX12_chooses_56 : decode cX12_chooses 56 = .ok (.invokevirtual 438, 3) := by decide +kernel
theorem dX12_chooses_59 : decode cX12_chooses 59 = .ok (.iinc 4 1, 3) := by decide +kernel
theorem dX12_chooses_62 : decode cX12_chooses 62 = .ok (.goto (-30), 3) := by decide +kernel
theorem dX12_chooses_65 : decode cX12_chooses 65 = .ok (.return_, 1) := by decide +kernel
theorem dX12_round_0 : decode cX12_round 0 = .ok (.aload_n 0, 1) := by decide +kernel
theorem dX12_round_1 : decode cX12_round 1 = .ok (.dup, 1) := by decide +kernel
theorem dX12_round_2 : decode cX12_round 2 = .ok (.getfield 429, 3) := by decide +kernel
theorem dX12_round_5 : decode cX12_round 5 = .ok (.iconst 1, 1) := by decide +kernel
theorem dX12_round_6 : decode cX12_round 6 = .ok (.iadd, 1) := by decide +kernel
theorem dX12_round_7 : decode cX12_round 7 = .ok (.putfield 429, 3) := by decide +kernel
theorem dX12_round_10 : decode cX12_round 10 = .ok (.aload_n 0, 1) := by decide +kernel
theorem dX12_round_11 : decode cX12_round 11 = .ok (.iconst 0, 1) := by decide +kernel
theorem dX12_round_12 : decode cX12_round 12 = .ok (.putfield 420, 3) := by decide +kernel
theorem dX12_round_15 : decode cX12_round 15 = .ok (.iconst 0, 1) := by decide +kernel
theorem dX12_round_16 : decode cX12_round 16 = .ok (.istore_n 1, 1) := by decide +kernel
theorem dX12_round_17 : decode cX12_round 17 = .ok (.iload_n 1, 1) := by decide +kernel
theorem dX12_round_18 : decode cX12_round 18 = .ok (.aload_n 0, 1) := by decide +kernel
theorem dX12_round_19 : decode cX12_round 19 = .ok (.getfield 13, 3) := by decide +kernel
theorem dX12_round_22 : decode cX12_round 22 = .ok (.iconst 0, 1) := by decide +kernel
theorem dX12_round_23 : decode cX12_round 23 = .ok (.iaload, 1) := by decide +kernel
theorem dX12_round_24 : decode cX12_round 24 = .ok (.if_icmp .ge 21, 3) := by decide +kernel
theorem dX12_round_27 : decode cX12_round 27 = .ok (.aload_n 0, 1) := by decide +kernel
theorem dX12_round_28 : decode cX12_round 28 = .ok (.getfield 69, 3) := by decide +kernel
theorem dX12_round_31 : decode cX12_round 31 = .ok (.iload_n 1, 1) := by decide +kernel
theorem dX12_round_32 : decode cX12_round 32 = .ok (.aload_n 0, 1) := by decide +kernel
theorem dX12_round_33 : decode cX12_round 33 = .ok (.getfield 66, 3) := by decide +kernel
theorem dX12_round_36 : decode cX12_round 36 = .ok (.iload_n 1, 1) := by decide +kernel
theorem dX12_round_37 : decode cX12_round 37 = .ok (.iaload, 1) := by decide +kernel
theorem dX12_round_38 : decode cX12_round 38 = .ok (.iastore, 1) := by decide +kernel
theorem dX12_round_39 : decode cX12_round 39 = .ok (.iinc 1 1, 3) := by decide +kernel
theorem dX12_round_42 : decode cX12_round 42 = .ok (.goto (-25), 3) := by decide +kernel
theorem dX12_round_45 : decode cX12_round 45 = .ok (.iconst 0, 1) := by decide +kernel
theorem dX12_round_46 : decode cX12_round 46 = .ok (.istore_n 1, 1) := by decide +kernel
theorem dX12_round_47 : decode cX12_round 47 = .ok (.iload_n 1, 1) := by decide +kernel
theorem dX12_round_48 : decode cX12_round 48 = .ok (.aload_n 0, 1) := by decide +kernel
theorem dX12_round_49 : decode cX12_round 49 = .ok (.getfield 13, 3) := by decide +kernel
theorem dX12_round_52 : decode cX12_round 52 = .ok (.iconst 1, 1) := by decide +kernel
theorem dX12_round_53 : decode cX12_round 53 = .ok (.iaload, 1) := by decide +kernel
theorem dX12_round_54 : decode cX12_round 54 = .ok (.if_icmp .ge 48, 3) := by decide +kernel
theorem dX12_round_57 : decode cX12_round 57 = .ok (.aload_n 0, 1) := by decide +kernel
theorem dX12_round_58 : decode cX12_round 58 = .ok (.getfield 13, 3) := by decide +kernel
theorem dX12_round_61 : decode cX12_round 61 = .ok (.bipush 32, 2) := by decide +kernel
theorem dX12_round_63 : decode cX12_round 63 = .ok (.iload_n 1, 1) := by decide +kernel
theorem dX12_round_64 : decode cX12_round 64 = .ok (.iadd, 1) := by decide +kernel
theorem dX12_round_65 : decode cX12_round 65 = .ok (.iaload, 1) := by decide +kernel
theorem dX12_round_66 : decode cX12_round 66 = .ok (.ifCond .ne 7, 3) := by decide +kernel
theorem dX12_round_69 : decode cX12_round 69 = .ok (.iconst 1, 1) := by decide +kernel
theorem dX12_round_70 : decode cX12_round 70 = .ok (.goto 4, 3) := by decide +kernel
theorem dX12_round_73 : decode cX12_round 73 = .ok (.iconst 0, 1) := by decide +kernel
theorem dX12_round_74 : decode cX12_round 74 = .ok (.aload_n 0, 1) := by decide +kernel
theorem dX12_round_75 : decode cX12_round 75 = .ok (.getfield 429, 3) := by decide +kernel
theorem dX12_round_78 : decode cX12_round 78 = .ok (.iconst 1, 1) := by decide +kernel
theorem dX12_round_79 : decode cX12_round 79 = .ok (.if_icmp .ne 7, 3) := by decide +kernel
theorem dX12_round_82 : decode cX12_round 82 = .ok (.iconst 1, 1) := by decide +kernel
theorem dX12_round_83 : decode cX12_round 83 = .ok (.goto 4, 3) := by decide +kernel
theorem dX12_round_86 : decode cX12_round 86 = .ok (.iconst 0, 1) := by decide +kernel
theorem dX12_round_87 : decode cX12_round 87 = .ok (.if_icmp .ne 9, 3) := by decide +kernel
theorem dX12_round_90 : decode cX12_round 90 = .ok (.aload_n 0, 1) := by decide +kernel
theorem dX12_round_91 : decode cX12_round 91 = .ok (.iload_n 1, 1) := by decide +kernel
theorem dX12_round_92 : decode cX12_round 92 = .ok (.iconst 1, 1) := by decide +kernel
theorem dX12_round_93 : decode cX12_round 93 = .ok (.invokevirtual 438, 3) := by decide +kernel
theorem dX12_round_96 : decode cX12_round 96 = .ok (.iinc 1 1, 3) := by decide +kernel
theorem dX12_round_99 : decode cX12_round 99 = .ok (.goto (-52), 3) := by decide +kernel
theorem dX12_round_102 : decode cX12_round 102 = .ok (.return_, 1) := by decide +kernel
theorem dX12_seeks_0 : decode cX12_seeks 0 = .ok (.iconst 0, 1) := by decide +kernel
theorem dX12_seeks_1 : decode cX12_seeks 1 = .ok (.istore_n 2, 1) := by decide +kernel
theorem dX12_seeks_2 : decode cX12_seeks 2 = .ok (.iload_n 2, 1) := by decide +kernel
theorem dX12_seeks_3 : decode cX12_seeks 3 = .ok (.bipush 8, 2) := by decide +kernel
theorem dX12_seeks_5 : decode cX12_seeks 5 = .ok (.if_icmp .ge 16, 3) := by decide +kernel
theorem dX12_seeks_8 : decode cX12_seeks 8 = .ok (.aload_n 0, 1) := by decide +kernel
theorem dX12_seeks_9 : decode cX12_seeks 9 = .ok (.getfield 66, 3) := by decide +kernel
theorem dX12_seeks_12 : decode cX12_seeks 12 = .ok (.iload_n 2, 1) := by decide +kernel
theorem dX12_seeks_13 : decode cX12_seeks 13 = .ok (.iconst 0, 1) := by decide +kernel
theorem dX12_seeks_14 : decode cX12_seeks 14 = .ok (.iastore, 1) := by decide +kernel
theorem dX12_seeks_15 : decode cX12_seeks 15 = .ok (.iinc 2 1, 3) := by decide +kernel
theorem dX12_seeks_18 : decode cX12_seeks 18 = .ok (.goto (-16), 3) := by decide +kernel
theorem dX12_seeks_21 : decode cX12_seeks 21 = .ok (.aload_n 0, 1) := by decide +kernel
theorem dX12_seeks_22 : decode cX12_seeks 22 = .ok (.iconst 0, 1) := by decide +kernel
theorem dX12_seeks_23 : decode cX12_seeks 23 = .ok (.putfield 429, 3) := by decide +kernel
theorem dX12_seeks_26 : decode cX12_seeks 26 = .ok (.aload_n 0, 1) := by decide +kernel
theorem dX12_seeks_27 : decode cX12_seeks 27 = .ok (.iconst 0, 1) := by decide +kernel
theorem dX12_seeks_28 : decode cX12_seeks 28 = .ok (.putfield 426, 3) := by decide +kernel
theorem dX12_seeks_31 : decode cX12_seeks 31 = .ok (.aload_n 0, 1) := by decide +kernel
theorem dX12_seeks_32 : decode cX12_seeks 32 = .ok (.iconst 0, 1) := by decide +kernel
theorem dX12_seeks_33 : decode cX12_seeks 33 = .ok (.putfield 423, 3) := by decide +kernel
theorem dX12_seeks_36 : decode cX12_seeks 36 = .ok (.aload_n 0, 1) := by decide +kernel
theorem dX12_seeks_37 : decode cX12_seeks 37 = .ok (.invokevirtual 441, 3) := by decide +kernel
theorem dX12_seeks_40 : decode cX12_seeks 40 = .ok (.aload_n 0, 1) := by decide +kernel
theorem dX12_seeks_41 : decode cX12_seeks 41 = .ok (.getfield 420, 3) := by decide +kernel
theorem dX12_seeks_44 : decode cX12_seeks 44 = .ok (.ifCond .eq 21, 3) := by decide +kernel
theorem dX12_seeks_47 : decode cX12_seeks 47 = .ok (.aload_n 0, 1) := by decide +kernel
theorem dX12_seeks_48 : decode cX12_seeks 48 = .ok (.getfield 423, 3) := by decide +kernel
theorem dX12_seeks_51 : decode cX12_seeks 51 = .ok (.ifCond .ne 14, 3) := by decide +kernel
theorem dX12_seeks_54 : decode cX12_seeks 54 = .ok (.iload_n 1, 1) := by decide +kernel
theorem dX12_seeks_55 : decode cX12_seeks 55 = .ok (.ifCond .eq (-19), 3) := by decide +kernel
theorem dX12_seeks_58 : decode cX12_seeks 58 = .ok (.aload_n 0, 1) := by decide +kernel
theorem dX12_seeks_59 : decode cX12_seeks 59 = .ok (.getfield 426, 3) := by decide +kernel
theorem dX12_seeks_62 : decode cX12_seeks 62 = .ok (.ifCond .le (-26), 3) := by decide +kernel
theorem dX12_seeks_65 : decode cX12_seeks 65 = .ok (.return_, 1) := by decide +kernel
theorem dX12_many_0 : decode cX12_many 0 = .ok (.iload_n 1, 1) := by decide +kernel
theorem dX12_many_1 : decode cX12_many 1 = .ok (.iconst 0, 1) := by decide +kernel
theorem dX12_many_2 : decode cX12_many 2 = .ok (.iconst 4, 1) := by decide +kernel
theorem dX12_many_3 : decode cX12_many 3 = .ok (.invokestatic 246, 3) := by decide +kernel
theorem dX12_many_6 : decode cX12_many 6 = .ok (.ifCond .ne 9, 3) := by decide +kernel
theorem dX12_many_9 : decode cX12_many 9 = .ok (.aload_n 0, 1) := by decide +kernel
theorem dX12_many_10 : decode cX12_many 10 = .ok (.iconst 1, 1) := by decide +kernel
theorem dX12_many_11 : decode cX12_many 11 = .ok (.invokevirtual 305, 3) := by decide +kernel
theorem dX12_many_14 : decode cX12_many 14 = .ok (.ireturn, 1) := by decide +kernel
theorem dX12_many_15 : decode cX12_many 15 = .ok (.iload_n 1, 1) := by decide +kernel
theorem dX12_many_16 : decode cX12_many 16 = .ok (.iconst 4, 1) := by decide +kernel
theorem dX12_many_17 : decode cX12_many 17 = .ok (.if_icmp .ne 27, 3) := by decide +kernel
theorem dX12_many_20 : decode cX12_many 20 = .ok (.aload_n 0, 1) := by decide +kernel
theorem dX12_many_21 : decode cX12_many 21 = .ok (.getfield 322, 3) := by decide +kernel
theorem dX12_many_24 : decode cX12_many 24 = .ok (.ifCond .ne 11, 3) := by decide +kernel
theorem dX12_many_27 : decode cX12_many 27 = .ok (.aload_n 0, 1) := by decide +kernel
theorem dX12_many_28 : decode cX12_many 28 = .ok (.iconst 3, 1) := by decide +kernel
theorem dX12_many_29 : decode cX12_many 29 = .ok (.invokevirtual 305, 3) := by decide +kernel
theorem dX12_many_32 : decode cX12_many 32 = .ok (.goto 11, 3) := by decide +kernel
theorem dX12_many_35 : decode cX12_many 35 = .ok (.aload_n 0, 1) := by decide +kernel
theorem dX12_many_36 : decode cX12_many 36 = .ok (.aload_n 0, 1) := by decide +kernel
theorem dX12_many_37 : decode cX12_many 37 = .ok (.invokevirtual 444, 3) := by decide +kernel
theorem dX12_many_40 : decode cX12_many 40 = .ok (.invokevirtual 328, 3) := by decide +kernel
theorem dX12_many_43 : decode cX12_many 43 = .ok (.ireturn, 1) := by decide +kernel
theorem dX12_many_44 : decode cX12_many 44 = .ok (.iload_n 1, 1) := by decide +kernel
theorem dX12_many_45 : decode cX12_many 45 = .ok (.iconst 3, 1) := by decide +kernel
theorem dX12_many_46 : decode cX12_many 46 = .ok (.if_icmp .ne 12, 3) := by decide +kernel
theorem dX12_many_49 : decode cX12_many 49 = .ok (.aload_n 0, 1) := by decide +kernel
theorem dX12_many_50 : decode cX12_many 50 = .ok (.aload_n 0, 1) := by decide +kernel
theorem dX12_many_51 : decode cX12_many 51 = .ok (.getfield 322, 3) := by decide +kernel
theorem dX12_many_54 : decode cX12_many 54 = .ok (.invokevirtual 328, 3) := by decide +kernel
theorem dX12_many_57 : decode cX12_many 57 = .ok (.ireturn, 1) := by decide +kernel
theorem dX12_many_58 : decode cX12_many 58 = .ok (.aload_n 0, 1) := by decide +kernel
theorem dX12_many_59 : decode cX12_many 59 = .ok (.aload_n 0, 1) := by decide +kernel
theorem dX12_many_60 : decode cX12_many 60 = .ok (.getfield 318, 3) := by decide +kernel
theorem dX12_many_63 : decode cX12_many 63 = .ok (.ifCond .eq 12, 3) := by decide +kernel
theorem dX12_many_66 : decode cX12_many 66 = .ok (.aload_n 0, 1) := by decide +kernel
theorem dX12_many_67 : decode cX12_many 67 = .ok (.getfield 13, 3) := by decide +kernel
theorem dX12_many_70 : decode cX12_many 70 = .ok (.iload_n 1, 1) := by decide +kernel
theorem dX12_many_71 : decode cX12_many 71 = .ok (.iaload, 1) := by decide +kernel
theorem dX12_many_72 : decode cX12_many 72 = .ok (.goto 4, 3) := by decide +kernel
theorem dX12_many_75 : decode cX12_many 75 = .ok (.iconst 0, 1) := by decide +kernel
theorem dX12_many_76 : decode cX12_many 76 = .ok (.invokevirtual 328, 3) := by decide +kernel
theorem dX12_many_79 : decode cX12_many 79 = .ok (.ireturn, 1) := by decide +kernel
theorem dX12_symbol_0 : decode cX12_symbol 0 = .ok (.iload_n 2, 1) := by decide +kernel
theorem dX12_symbol_1 : decode cX12_symbol 1 = .ok (.iconst 0, 1) := by decide +kernel
theorem dX12_symbol_2 : decode cX12_symbol 2 = .ok (.iconst 3, 1) := by decide +kernel
theorem dX12_symbol_3 : decode cX12_symbol 3 = .ok (.invokestatic 246, 3) := by decide +kernel
theorem dX12_symbol_6 : decode cX12_symbol 6 = .ok (.ifCond .ne 9, 3) := by decide +kernel
theorem dX12_symbol_9 : decode cX12_symbol 9 = .ok (.aload_n 0, 1) := by decide +kernel
theorem dX12_symbol_10 : decode cX12_symbol 10 = .ok (.iconst 1, 1) := by decide +kernel
theorem dX12_symbol_11 : decode cX12_symbol 11 = .ok (.invokevirtual 305, 3) := by decide +kernel
theorem dX12_symbol_14 : decode cX12_symbol 14 = .ok (.ireturn, 1) := by decide +kernel
theorem dX12_symbol_15 : decode cX12_symbol 15 = .ok (.aload_n 0, 1) := by decide +kernel
theorem dX12_symbol_16 : decode cX12_symbol 16 = .ok (.iload_n 1, 1) := by decide +kernel
theorem dX12_symbol_17 : decode cX12_symbol 17 = .ok (.invokevirtual 331, 3) := by decide +kernel
theorem dX12_symbol_20 : decode cX12_symbol 20 = .ok (.ifCond .ne 9, 3) := by decide +kernel
theorem dX12_symbol_23 : decode cX12_symbol 23 = .ok (.aload_n 0, 1) := by decide +kernel
theorem dX12_symbol_24 : decode cX12_symbol 24 = .ok (.iconst 4, 1) := by decide +kernel
theorem dX12_symbol_25 : decode cX12_symbol 25 = .ok (.invokevirtual 305, 3) := by decide +kernel
theorem dX12_symbol_28 : decode cX12_symbol 28 = .ok (.ireturn, 1) := by decide +kernel
theorem dX12_symbol_29 : decode cX12_symbol 29 = .ok (.iload_n 2, 1) := by decide +kernel
theorem dX12_symbol_30 : decode cX12_symbol 30 = .ok (.iconst 2, 1) := by decide +kernel
theorem dX12_symbol_31 : decode cX12_symbol 31 = .ok (.if_icmp .ge 25, 3) := by decide +kernel
theorem dX12_symbol_34 : decode cX12_symbol 34 = .ok (.aload_n 0, 1) := by decide +kernel
theorem dX12_symbol_35 : decode cX12_symbol 35 = .ok (.aload_n 0, 1) := by decide +kernel
theorem dX12_symbol_36 : decode cX12_symbol 36 = .ok (.getfield 13, 3) := by decide +kernel
theorem dX12_symbol_39 : decode cX12_symbol 39 = .ok (.iload_n 2, 1) := by decide +kernel
theorem dX12_symbol_40 : decode cX12_symbol 40 = .ok (.ifCond .ne 7, 3) := by decide +kernel
theorem dX12_symbol_43 : decode cX12_symbol 43 = .ok (.iconst 4, 1) := by decide +kernel
theorem dX12_symbol_44 : decode cX12_symbol 44 = .ok (.goto 5, 3) := by decide +kernel
theorem dX12_symbol_47 : decode cX12_symbol 47 = .ok (.bipush 12, 2) := by decide +kernel
theorem dX12_symbol_49 : decode cX12_symbol 49 = .ok (.iload_n 1, 1) := by decide +kernel
theorem dX12_symbol_50 : decode cX12_symbol 50 = .ok (.iadd, 1) := by decide +kernel
theorem dX12_symbol_51 : decode cX12_symbol 51 = .ok (.iaload, 1) := by decide +kernel
theorem dX12_symbol_52 : decode cX12_symbol 52 = .ok (.invokevirtual 328, 3) := by decide +kernel
theorem dX12_symbol_55 : decode cX12_symbol 55 = .ok (.ireturn, 1) := by decide +kernel
theorem dX12_symbol_56 : decode cX12_symbol 56 = .ok (.iload_n 2, 1) := by decide +kernel
theorem dX12_symbol_57 : decode cX12_symbol 57 = .ok (.iconst 2, 1) := by decide +kernel
theorem dX12_symbol_58 : decode cX12_symbol 58 = .ok (.if_icmp .ne 53, 3) := by decide +kernel
theorem dX12_symbol_61 : decode cX12_symbol 61 = .ok (.iconst 0, 1) := by decide +kernel
theorem dX12_symbol_62 : decode cX12_symbol 62 = .ok (.istore_n 3, 1) := by decide +kernel
theorem dX12_symbol_63 : decode cX12_symbol 63 = .ok (.iconst 0, 1) := by decide +kernel
theorem dX12_symbol_64 : decode cX12_symbol 64 = .ok (.istore 4, 2) := by decide +kernel
theorem dX12_symbol_66 : decode cX12_symbol 66 = .ok (.iload 4, 2) := by decide +kernel
theorem dX12_symbol_68 : decode cX12_symbol 68 = .ok (.aload_n 0, 1) := by decide +kernel
theorem dX12_symbol_69 : decode cX12_symbol 69 = .ok (.getfield 13, 3) := by decide +kernel
theorem dX12_symbol_72 : decode cX12_symbol 72 = .ok (.iconst 1, 1) := by decide +kernel
theorem dX12_symbol_73 : decode cX12_symbol 73 = .ok (.iaload, 1) := by decide +kernel
theorem dX12_symbol_74 : decode cX12_symbol 74 = .ok (.if_icmp .ge 31, 3) := by decide +kernel
theorem dX12_symbol_77 : decode cX12_symbol 77 = .ok (.iload_n 3, 1) := by decide +kernel
theorem dX12_symbol_78 : decode cX12_symbol 78 = .ok (.aload_n 0, 1) := by decide +kernel
theorem dX12_symbol_79 : decode cX12_symbol 79 = .ok (.getfield 13, 3) := by decide +kernel
theorem dX12_symbol_82 : decode cX12_symbol 82 = .ok (.bipush 20, 2) := by decide +kernel
theorem dX12_symbol_84 : decode cX12_symbol 84 = .ok (.iload 4, 2) := by decide +kernel
theorem dX12_symbol_86 : decode cX12_symbol 86 = .ok (.iadd, 1) := by decide +kernel
theorem dX12_symbol_87 : decode cX12_symbol 87 = .ok (.iaload, 1) := by decide +kernel
theorem dX12_symbol_88 : decode cX12_symbol 88 = .ok (.iload_n 1, 1) := by decide +kernel
theorem dX12_symbol_89 : decode cX12_symbol 89 = .ok (.if_icmp .ne 7, 3) := by decide +kernel
theorem dX12_symbol_92 : decode cX12_symbol 92 = .ok (.iconst 1, 1) := by decide +kernel
theorem dX12_symbol_93 : decode cX12_symbol 93 = .ok (.goto 4, 3) := by decide +kernel
theorem dX12_symbol_96 : decode cX12_symbol 96 = .ok (.iconst 0, 1) := by decide +kernel
theorem dX12_symbol_97 : decode cX12_symbol 97 = .ok (.iadd, 1) := by decide +kernel
theorem dX12_symbol_98 : decode cX12_symbol 98 = .ok (.istore_n 3, 1) := by decide +kernel
theorem dX12_symbol_99 : decode cX12_symbol 99 = .ok (.iinc 4 1, 3) := by decide +kernel
theorem dX12_symbol_102 : decode cX12_symbol 102 = .ok (.goto (-36), 3) := by decide +kernel
theorem dX12_symbol_105 : decode cX12_symbol 105 = .ok (.aload_n 0, 1) := by decide +kernel
theorem dX12_symbol_106 : decode cX12_symbol 106 = .ok (.iload_n 3, 1) := by decide +kernel
theorem dX12_symbol_107 : decode cX12_symbol 107 = .ok (.invokevirtual 328, 3) := by decide +kernel
theorem dX12_symbol_110 : decode cX12_symbol 110 = .ok (.ireturn, 1) := by decide +kernel
theorem dX12_symbol_111 : decode cX12_symbol 111 = .ok (.aload_n 0, 1) := by decide +kernel
theorem dX12_symbol_112 : decode cX12_symbol 112 = .ok (.iload_n 1, 1) := by decide +kernel
theorem dX12_symbol_113 : decode cX12_symbol 113 = .ok (.invokevirtual 359, 3) := by decide +kernel
theorem dX12_symbol_116 : decode cX12_symbol 116 = .ok (.ifCond .eq 10, 3) := by decide +kernel
theorem dX12_symbol_119 : decode cX12_symbol 119 = .ok (.aload_n 0, 1) := by decide +kernel
theorem dX12_symbol_120 : decode cX12_symbol 120 = .ok (.bipush 7, 2) := by decide +kernel
theorem dX12_symbol_122 : decode cX12_symbol 122 = .ok (.invokevirtual 305, 3) := by decide +kernel
theorem dX12_symbol_125 : decode cX12_symbol 125 = .ok (.ireturn, 1) := by decide +kernel
theorem dX12_symbol_126 : decode cX12_symbol 126 = .ok (.aload_n 0, 1) := by decide +kernel
theorem dX12_symbol_127 : decode cX12_symbol 127 = .ok (.iload_n 1, 1) := by decide +kernel
theorem dX12_symbol_128 : decode cX12_symbol 128 = .ok (.invokevirtual 386, 3) := by decide +kernel
theorem dX12_symbol_131 : decode cX12_symbol 131 = .ok (.aload_n 0, 1) := by decide +kernel
theorem dX12_symbol_132 : decode cX12_symbol 132 = .ok (.aload_n 0, 1) := by decide +kernel
theorem dX12_symbol_133 : decode cX12_symbol 133 = .ok (.getfield 54, 3) := by decide +kernel
theorem dX12_symbol_136 : decode cX12_symbol 136 = .ok (.iload_n 1, 1) := by decide +kernel
theorem dX12_symbol_137 : decode cX12_symbol 137 = .ok (.iaload, 1) := by decide +kernel
theorem dX12_symbol_138 : decode cX12_symbol 138 = .ok (.invokevirtual 328, 3) := by decide +kernel
theorem dX12_symbol_141 : decode cX12_symbol 141 = .ok (.ireturn, 1) := by decide +kernel
theorem dX12_production_0 : decode cX12_production 0 = .ok (.iload_n 2, 1) := by decide +kernel
theorem dX12_production_1 : decode cX12_production 1 = .ok (.iconst 0, 1) := by decide +kernel
theorem dX12_production_2 : decode cX12_production 2 = .ok (.iconst 5, 1) := by decide +kernel
theorem dX12_production_3 : decode cX12_production 3 = .ok (.invokestatic 246, 3) := by decide +kernel
theorem dX12_production_6 : decode cX12_production 6 = .ok (.ifCond .ne 9, 3) := by decide +kernel
theorem dX12_production_9 : decode cX12_production 9 = .ok (.aload_n 0, 1) := by decide +kernel
theorem dX12_production_10 : decode cX12_production 10 = .ok (.iconst 1, 1) := by decide +kernel
theorem dX12_production_11 : decode cX12_production 11 = .ok (.invokevirtual 305, 3) := by decide +kernel
theorem dX12_production_14 : decode cX12_production 14 = .ok (.ireturn, 1) := by decide +kernel
theorem dX12_production_15 : decode cX12_production 15 = .ok (.aload_n 0, 1) := by decide +kernel
theorem dX12_production_16 : decode cX12_production 16 = .ok (.iload_n 1, 1) := by decide +kernel
theorem dX12_production_17 : decode cX12_production 17 = .ok (.invokevirtual 337, 3) := by decide +kernel
theorem dX12_production_20 : decode cX12_production 20 = .ok (.ifCond .ne 9, 3) := by decide +kernel
theorem dX12_production_23 : decode cX12_production 23 = .ok (.aload_n 0, 1) := by decide +kernel
theorem dX12_production_24 : decode cX12_production 24 = .ok (.iconst 4, 1) := by decide +kernel
theorem dX12_production_25 : decode cX12_production 25 = .ok (.invokevirtual 305, 3) := by decide +kernel
theorem dX12_production_28 : decode cX12_production 28 = .ok (.ireturn, 1) := by decide +kernel
theorem dX12_production_29 : decode cX12_production 29 = .ok (.iload_n 2, 1) := by decide +kernel
theorem dX12_production_30 : decode cX12_production 30 = .ok (.ifCond .ne 17, 3) := by decide +kernel
theorem dX12_production_33 : decode cX12_production 33 = .ok (.aload_n 0, 1) := by decide +kernel
theorem dX12_production_34 : decode cX12_production 34 = .ok (.aload_n 0, 1) := by decide +kernel
theorem dX12_production_35 : decode cX12_production 35 = .ok (.getfield 13, 3) := by decide +kernel
theorem dX12_production_38 : decode cX12_production 38 = .ok (.bipush 20, 2) := by decide +kernel
theorem dX12_production_40 : decode cX12_production 40 = .ok (.iload_n 1, 1) := by decide +kernel
theorem dX12_production_41 : decode cX12_production 41 = .ok (.iadd, 1) := by decide +kernel
theorem dX12_production_42 : decode cX12_production 42 = .ok (.iaload, 1) := by decide +kernel
theorem dX12_production_43 : decode cX12_production 43 = .ok (.invokevirtual 328, 3) := by decide +kernel
theorem dX12_production_46 : decode cX12_production 46 = .ok (.ireturn, 1) := by decide +kernel
theorem dX12_production_47 : decode cX12_production 47 = .ok (.iload_n 2, 1) := by decide +kernel
theorem dX12_production_48 : decode cX12_production 48 = .ok (.iconst 1, 1) := by decide +kernel
theorem dX12_production_49 : decode cX12_production 49 = .ok (.if_icmp .ne 17, 3) := by decide +kernel
theorem dX12_production_52 : decode cX12_production 52 = .ok (.aload_n 0, 1) := by decide +kernel
theorem dX12_production_53 : decode cX12_production 53 = .ok (.aload_n 0, 1) := by decide +kernel
theorem dX12_production_54 : decode cX12_production 54 = .ok (.getfield 13, 3) := by decide +kernel
theorem dX12_production_57 : decode cX12_production 57 = .ok (.bipush 32, 2) := by decide +kernel
theorem dX12_production_59 : decode cX12_production 59 = .ok (.iload_n 1, 1) := by decide +kernel
theorem dX12_production_60 : decode cX12_production 60 = .ok (.iadd, 1) := by decide +kernel
theorem dX12_production_61 : decode cX12_production 61 = .ok (.iaload, 1) := by decide +kernel
theorem dX12_production_62 : decode cX12_production 62 = .ok (.invokevirtual 328, 3) := by decide +kernel
theorem dX12_production_65 : decode cX12_production 65 = .ok (.ireturn, 1) := by decide +kernel
theorem dX12_production_66 : decode cX12_production 66 = .ok (.iload_n 2, 1) := by decide +kernel
theorem dX12_production_67 : decode cX12_production 67 = .ok (.iconst 5, 1) := by decide +kernel
theorem dX12_production_68 : decode cX12_production 68 = .ok (.if_icmp .ge 47, 3) := by decide +kernel
theorem dX12_production_71 : decode cX12_production 71 = .ok (.iload_n 2, 1) := by decide +kernel
theorem dX12_production_72 : decode cX12_production 72 = .ok (.iconst 2, 1) := by decide +kernel
theorem dX12_production_73 : decode cX12_production 73 = .ok (.isub, 1) := by decide +kernel
theorem dX12_production_74 : decode cX12_production 74 = .ok (.aload_n 0, 1) := by decide +kernel
theorem dX12_production_75 : decode cX12_production 75 = .ok (.getfield 13, 3) := by decide +kernel
theorem dX12_production_78 : decode cX12_production 78 = .ok (.bipush 32, 2) := by decide +kernel
theorem dX12_production_80 : decode cX12_production 80 = .ok (.iload_n 1, 1) := by decide +kernel
theorem dX12_production_81 : decode cX12_production 81 = .ok (.iadd, 1) := by decide +kernel
theorem dX12_production_82 : decode cX12_production 82 = .ok (.iaload, 1) := by decide +kernel
theorem dX12_production_83 : decode cX12_production 83 = .ok (.if_icmp .ge 25, 3) := by decide +kernel
theorem dX12_production_86 : decode cX12_production 86 = .ok (.aload_n 0, 1) := by decide +kernel
theorem dX12_production_87 : decode cX12_production 87 = .ok (.aload_n 0, 1) := by decide +kernel
theorem dX12_production_88 : decode cX12_production 88 = .ok (.getfield 13, 3) := by decide +kernel
theorem dX12_production_91 : decode cX12_production 91 = .ok (.bipush 44, 2) := by decide +kernel
theorem dX12_production_93 : decode cX12_production 93 = .ok (.iconst 3, 1) := by decide +kernel
theorem dX12_production_94 : decode cX12_production 94 = .ok (.iload_n 1, 1) := by decide +kernel
theorem dX12_production_95 : decode cX12_production 95 = .ok (.imul, 1) := by decide +kernel
theorem dX12_production_96 : decode cX12_production 96 = .ok (.iadd, 1) := by decide +kernel
theorem dX12_production_97 : decode cX12_production 97 = .ok (.iload_n 2, 1) := by decide +kernel
theorem dX12_production_98 : decode cX12_production 98 = .ok (.iadd, 1) := by decide +kernel
theorem dX12_production_99 : decode cX12_production 99 = .ok (.iconst 2, 1) := by decide +kernel
theorem dX12_production_100 : decode cX12_production 100 = .ok (.isub, 1) := by decide +kernel
theorem dX12_production_101 : decode cX12_production 101 = .ok (.iaload, 1) := by decide +kernel
theorem dX12_production_102 : decode cX12_production 102 = .ok (.invokevirtual 328, 3) := by decide +kernel
theorem dX12_production_105 : decode cX12_production 105 = .ok (.goto 9, 3) := by decide +kernel
theorem dX12_production_108 : decode cX12_production 108 = .ok (.aload_n 0, 1) := by decide +kernel
theorem dX12_production_109 : decode cX12_production 109 = .ok (.bipush 7, 2) := by decide +kernel
theorem dX12_production_111 : decode cX12_production 111 = .ok (.invokevirtual 305, 3) := by decide +kernel
theorem dX12_production_114 : decode cX12_production 114 = .ok (.ireturn, 1) := by decide +kernel
theorem dX12_production_115 : decode cX12_production 115 = .ok (.iconst 0, 1) := by decide +kernel
theorem dX12_production_116 : decode cX12_production 116 = .ok (.istore_n 3, 1) := by decide +kernel
theorem dX12_production_117 : decode cX12_production 117 = .ok (.iconst 0, 1) := by decide +kernel
theorem dX12_production_118 : decode cX12_production 118 = .ok (.istore 4, 2) := by decide +kernel
theorem dX12_production_120 : decode cX12_production 120 = .ok (.iload 4, 2) := by decide +kernel
theorem dX12_production_122 : decode cX12_production 122 = .ok (.bipush 32, 2) := by decide +kernel
theorem dX12_production_124 : decode cX12_production 124 = .ok (.if_icmp .ge 28, 3) := by decide +kernel
theorem dX12_production_127 : decode cX12_production 127 = .ok (.iload_n 3, 1) := by decide +kernel
theorem dX12_production_128 : decode cX12_production 128 = .ok (.aload_n 0, 1) := by decide +kernel
theorem dX12_production_129 : decode cX12_production 129 = .ok (.getfield 13, 3) := by decide +kernel
theorem dX12_production_132 : decode cX12_production 132 = .ok (.sipush 1232, 3) := by decide +kernel
theorem dX12_production_135 : decode cX12_production 135 = .ok (.bipush 32, 2) := by decide +kernel
theorem dX12_production_137 : decode cX12_production 137 = .ok (.iload_n 1, 1) := by decide +kernel
theorem dX12_production_138 : decode cX12_production 138 = .ok (.imul, 1) := by decide +kernel
theorem dX12_production_139 : decode cX12_production 139 = .ok (.iadd, 1) := by decide +kernel
theorem dX12_production_140 : decode cX12_production 140 = .ok (.iload 4, 2) := by decide +kernel
theorem dX12_production_142 : decode cX12_production 142 = .ok (.iadd, 1) := by decide +kernel
theorem dX12_production_143 : decode cX12_production 143 = .ok (.iaload, 1) := by decide +kernel
theorem dX12_production_144 : decode cX12_production 144 = .ok (.iadd, 1) := by decide +kernel
theorem dX12_production_145 : decode cX12_production 145 = .ok (.istore_n 3, 1) := by decide +kernel
theorem dX12_production_146 : decode cX12_production 146 = .ok (.iinc 4 1, 3) := by decide +kernel
theorem dX12_production_149 : decode cX12_production 149 = .ok (.goto (-29), 3) := by decide +kernel
theorem dX12_production_152 : decode cX12_production 152 = .ok (.aload_n 0, 1) := by decide +kernel
theorem dX12_production_153 : decode cX12_production 153 = .ok (.iload_n 3, 1) := by decide +kernel
theorem dX12_production_154 : decode cX12_production 154 = .ok (.invokevirtual 328, 3) := by decide +kernel
theorem dX12_production_157 : decode cX12_production 157 = .ok (.ireturn, 1) := by decide +kernel
theorem dX12_hangs_0 : decode cX12_hangs 0 = .ok (.iload 4, 2) := by decide +kernel
theorem dX12_hangs_2 : decode cX12_hangs 2 = .ok (.iconst 0, 1) := by decide +kernel
theorem dX12_hangs_3 : decode cX12_hangs 3 = .ok (.iconst 2, 1) := by decide +kernel
theorem dX12_hangs_4 : decode cX12_hangs 4 = .ok (.invokestatic 246, 3) := by decide +kernel
theorem dX12_hangs_7 : decode cX12_hangs 7 = .ok (.ifCond .ne 9, 3) := by decide +kernel
theorem dX12_hangs_10 : decode cX12_hangs 10 = .ok (.aload_n 0, 1) := by decide +kernel
theorem dX12_hangs_11 : decode cX12_hangs 11 = .ok (.iconst 1, 1) := by decide +kernel
theorem dX12_hangs_12 : decode cX12_hangs 12 = .ok (.invokevirtual 305, 3) := by decide +kernel
theorem dX12_hangs_15 : decode cX12_hangs 15 = .ok (.ireturn, 1) := by decide +kernel
theorem dX12_hangs_16 : decode cX12_hangs 16 = .ok (.aload_n 0, 1) := by decide +kernel
theorem dX12_hangs_17 : decode cX12_hangs 17 = .ok (.iload_n 1, 1) := by decide +kernel
theorem dX12_hangs_18 : decode cX12_hangs 18 = .ok (.iload_n 2, 1) := by decide +kernel
theorem dX12_hangs_19 : decode cX12_hangs 19 = .ok (.invokevirtual 401, 3) := by decide +kernel
theorem dX12_hangs_22 : decode cX12_hangs 22 = .ok (.ifCond .eq 12, 3) := by decide +kernel
theorem dX12_hangs_25 : decode cX12_hangs 25 = .ok (.aload_n 0, 1) := by decide +kernel
theorem dX12_hangs_26 : decode cX12_hangs 26 = .ok (.iload_n 1, 1) := by decide +kernel
theorem dX12_hangs_27 : decode cX12_hangs 27 = .ok (.iload_n 3, 1) := by decide +kernel
theorem dX12_hangs_28 : decode cX12_hangs 28 = .ok (.invokevirtual 401, 3) := by decide +kernel
theorem dX12_hangs_31 : decode cX12_hangs 31 = .ok (.ifCond .ne 9, 3) := by decide +kernel
theorem dX12_hangs_34 : decode cX12_hangs 34 = .ok (.aload_n 0, 1) := by decide +kernel
theorem dX12_hangs_35 : decode cX12_hangs 35 = .ok (.iconst 4, 1) := by decide +kernel
theorem dX12_hangs_36 : decode cX12_hangs 36 = .ok (.invokevirtual 305, 3) := by decide +kernel
theorem dX12_hangs_39 : decode cX12_hangs 39 = .ok (.ireturn, 1) := by decide +kernel
theorem dX12_hangs_40 : decode cX12_hangs 40 = .ok (.iload 4, 2) := by decide +kernel
theorem dX12_hangs_42 : decode cX12_hangs 42 = .ok (.iconst 2, 1) := by decide +kernel
theorem dX12_hangs_43 : decode cX12_hangs 43 = .ok (.if_icmp .ne 18, 3) := by decide +kernel
theorem dX12_hangs_46 : decode cX12_hangs 46 = .ok (.aload_n 0, 1) := by decide +kernel
theorem dX12_hangs_47 : decode cX12_hangs 47 = .ok (.iload_n 1, 1) := by decide +kernel
theorem dX12_hangs_48 : decode cX12_hangs 48 = .ok (.invokevirtual 447, 3) := by decide +kernel
theorem dX12_hangs_51 : decode cX12_hangs 51 = .ok (.ifCond .eq 10, 3) := by decide +kernel
theorem dX12_hangs_54 : decode cX12_hangs 54 = .ok (.aload_n 0, 1) := by decide +kernel
theorem dX12_hangs_55 : decode cX12_hangs 55 = .ok (.bipush 7, 2) := by decide +kernel
theorem dX12_hangs_57 : decode cX12_hangs 57 = .ok (.invokevirtual 305, 3) := by decide +kernel
theorem dX12_hangs_60 : decode cX12_hangs 60 = .ok (.ireturn, 1) := by decide +kernel
theorem dX12_hangs_61 : decode cX12_hangs 61 = .ok (.iload 4, 2) := by decide +kernel
theorem dX12_hangs_63 : decode cX12_hangs 63 = .ok (.ifCond .ne 11, 3) := by decide +kernel
theorem dX12_hangs_66 : decode cX12_hangs 66 = .ok (.aload_n 0, 1) := by decide +kernel
theorem dX12_hangs_67 : decode cX12_hangs 67 = .ok (.iload_n 1, 1) := by decide +kernel
theorem dX12_hangs_68 : decode cX12_hangs 68 = .ok (.invokevirtual 347, 3) := by decide +kernel
theorem dX12_hangs_71 : decode cX12_hangs 71 = .ok (.goto 22, 3) := by decide +kernel
theorem dX12_hangs_74 : decode cX12_hangs 74 = .ok (.iload 4, 2) := by decide +kernel
theorem dX12_hangs_76 : decode cX12_hangs 76 = .ok (.iconst 1, 1) := by decide +kernel
theorem dX12_hangs_77 : decode cX12_hangs 77 = .ok (.if_icmp .ne 11, 3) := by decide +kernel
theorem dX12_hangs_80 : decode cX12_hangs 80 = .ok (.aload_n 0, 1) := by decide +kernel
theorem dX12_hangs_81 : decode cX12_hangs 81 = .ok (.iload_n 1, 1) := by decide +kernel
theorem dX12_hangs_82 : decode cX12_hangs 82 = .ok (.invokevirtual 356, 3) := by decide +kernel
theorem dX12_hangs_85 : decode cX12_hangs 85 = .ok (.goto 8, 3) := by decide +kernel
theorem dX12_hangs_88 : decode cX12_hangs 88 = .ok (.aload_n 0, 1) := by decide +kernel
theorem dX12_hangs_89 : decode cX12_hangs 89 = .ok (.iload_n 1, 1) := by decide +kernel
theorem dX12_hangs_90 : decode cX12_hangs 90 = .ok (.invokevirtual 395, 3) := by decide +kernel
theorem dX12_hangs_93 : decode cX12_hangs 93 = .ok (.aload_n 0, 1) := by decide +kernel
theorem dX12_hangs_94 : decode cX12_hangs 94 = .ok (.aload_n 0, 1) := by decide +kernel
theorem dX12_hangs_95 : decode cX12_hangs 95 = .ok (.getfield 36, 3) := by decide +kernel
theorem dX12_hangs_98 : decode cX12_hangs 98 = .ok (.iload_n 2, 1) := by decide +kernel
theorem dX12_hangs_99 : decode cX12_hangs 99 = .ok (.iaload, 1) := by decide +kernel
theorem dX12_hangs_100 : decode cX12_hangs 100 = .ok (.iload_n 3, 1) := by decide +kernel
theorem dX12_hangs_101 : decode cX12_hangs 101 = .ok (.invokestatic 344, 3) := by decide +kernel
theorem dX12_hangs_104 : decode cX12_hangs 104 = .ok (.ifCond .eq 7, 3) := by decide +kernel
theorem dX12_hangs_107 : decode cX12_hangs 107 = .ok (.iconst 1, 1) := by decide +kernel
theorem dX12_hangs_108 : decode cX12_hangs 108 = .ok (.goto 4, 3) := by decide +kernel
theorem dX12_hangs_111 : decode cX12_hangs 111 = .ok (.iconst 0, 1) := by decide +kernel
theorem dX12_hangs_112 : decode cX12_hangs 112 = .ok (.invokevirtual 328, 3) := by decide +kernel
theorem dX12_hangs_115 : decode cX12_hangs 115 = .ok (.ireturn, 1) := by decide +kernel
theorem dX12_induced_0 : decode cX12_induced 0 = .ok (.aload_n 0, 1) := by decide +kernel
theorem dX12_induced_1 : decode cX12_induced 1 = .ok (.iload_n 1, 1) := by decide +kernel
theorem dX12_induced_2 : decode cX12_induced 2 = .ok (.iload_n 2, 1) := by decide +kernel
theorem dX12_induced_3 : decode cX12_induced 3 = .ok (.invokevirtual 450, 3) := by decide +kernel
theorem dX12_induced_6 : decode cX12_induced 6 = .ok (.ifCond .eq 42, 3) := by decide +kernel
theorem dX12_induced_9 : decode cX12_induced 9 = .ok (.aload_n 0, 1) := by decide +kernel
theorem dX12_induced_10 : decode cX12_induced 10 = .ok (.iload_n 1, 1) := by decide +kernel
theorem dX12_induced_11 : decode cX12_induced 11 = .ok (.iload_n 3, 1) := by decide +kernel
theorem dX12_induced_12 : decode cX12_induced 12 = .ok (.invokevirtual 450, 3) := by decide +kernel
theorem dX12_induced_15 : decode cX12_induced 15 = .ok (.ifCond .eq 33, 3) := by decide +kernel
theorem dX12_induced_18 : decode cX12_induced 18 = .ok (.aload_n 0, 1) := by decide +kernel
theorem dX12_induced_19 : decode cX12_induced 19 = .ok (.aload_n 0, 1) := by decide +kernel
theorem dX12_induced_20 : decode cX12_induced 20 = .ok (.getfield 33, 3) := by decide +kernel
theorem dX12_induced_23 : decode cX12_induced 23 = .ok (.bipush 8, 2) := by decide +kernel
theorem dX12_induced_25 : decode cX12_induced 25 = .ok (.iload_n 1, 1) := by decide +kernel
theorem dX12_induced_26 : decode cX12_induced 26 = .ok (.imul, 1) := by decide +kernel
theorem dX12_induced_27 : decode cX12_induced 27 = .ok (.iload_n 2, 1) := by decide +kernel
theorem dX12_induced_28 : decode cX12_induced 28 = .ok (.iadd, 1) := by decide +kernel
theorem dX12_induced_29 : decode cX12_induced 29 = .ok (.iaload, 1) := by decide +kernel
theorem dX12_induced_30 : decode cX12_induced 30 = .ok (.iload_n 3, 1) := by decide +kernel
theorem dX12_induced_31 : decode cX12_induced 31 = .ok (.invokestatic 344, 3) := by decide +kernel
theorem dX12_induced_34 : decode cX12_induced 34 = .ok (.ifCond .eq 7, 3) := by decide +kernel
theorem dX12_induced_37 : decode cX12_induced 37 = .ok (.iconst 1, 1) := by decide +kernel
theorem dX12_induced_38 : decode cX12_induced 38 = .ok (.goto 4, 3) := by decide +kernel
theorem dX12_induced_41 : decode cX12_induced 41 = .ok (.iconst 0, 1) := by decide +kernel
theorem dX12_induced_42 : decode cX12_induced 42 = .ok (.invokevirtual 328, 3) := by decide +kernel
theorem dX12_induced_45 : decode cX12_induced 45 = .ok (.goto 8, 3) := by decide +kernel
theorem dX12_induced_48 : decode cX12_induced 48 = .ok (.aload_n 0, 1) := by decide +kernel
theorem dX12_induced_49 : decode cX12_induced 49 = .ok (.iconst 4, 1) := by decide +kernel
theorem dX12_induced_50 : decode cX12_induced 50 = .ok (.invokevirtual 305, 3) := by decide +kernel
theorem dX12_induced_53 : decode cX12_induced 53 = .ok (.ireturn, 1) := by decide +kernel
theorem dX12_circle_0 : decode cX12_circle 0 = .ok (.iload_n 1, 1) := by decide +kernel
theorem dX12_circle_1 : decode cX12_circle 1 = .ok (.iconst (-1), 1) := by decide +kernel
theorem dX12_circle_2 : decode cX12_circle 2 = .ok (.if_icmp .ge 9, 3) := by decide +kernel
theorem dX12_circle_5 : decode cX12_circle 5 = .ok (.aload_n 0, 1) := by decide +kernel
theorem dX12_circle_6 : decode cX12_circle 6 = .ok (.iconst 1, 1) := by decide +kernel
theorem dX12_circle_7 : decode cX12_circle 7 = .ok (.invokevirtual 305, 3) := by decide +kernel
theorem dX12_circle_10 : decode cX12_circle 10 = .ok (.ireturn, 1) := by decide +kernel
theorem dX12_circle_11 : decode cX12_circle 11 = .ok (.aload_n 0, 1) := by decide +kernel
theorem dX12_circle_12 : decode cX12_circle 12 = .ok (.getfield 318, 3) := by decide +kernel
theorem dX12_circle_15 : decode cX12_circle 15 = .ok (.ifCond .ne 9, 3) := by decide +kernel
theorem dX12_circle_18 : decode cX12_circle 18 = .ok (.aload_n 0, 1) := by decide +kernel
theorem dX12_circle_19 : decode cX12_circle 19 = .ok (.iconst 2, 1) := by decide +kernel
theorem dX12_circle_20 : decode cX12_circle 20 = .ok (.invokevirtual 305, 3) := by decide +kernel
theorem dX12_circle_23 : decode cX12_circle 23 = .ok (.ireturn, 1) := by decide +kernel
theorem dX12_circle_24 : decode cX12_circle 24 = .ok (.aload_n 0, 1) := by decide +kernel
theorem dX12_circle_25 : decode cX12_circle 25 = .ok (.invokevirtual 453, 3) := by decide +kernel
theorem dX12_circle_28 : decode cX12_circle 28 = .ok (.istore_n 2, 1) := by decide +kernel
theorem dX12_circle_29 : decode cX12_circle 29 = .ok (.iload_n 2, 1) := by decide +kernel
theorem dX12_circle_30 : decode cX12_circle 30 = .ok (.iconst (-1), 1) := by decide +kernel
theorem dX12_circle_31 : decode cX12_circle 31 = .ok (.if_icmp .ne 10, 3) := by decide +kernel
theorem dX12_circle_34 : decode cX12_circle 34 = .ok (.aload_n 0, 1) := by decide +kernel
theorem dX12_circle_35 : decode cX12_circle 35 = .ok (.bipush 7, 2) := by decide +kernel
theorem dX12_circle_37 : decode cX12_circle 37 = .ok (.invokevirtual 305, 3) := by decide +kernel
theorem dX12_circle_40 : decode cX12_circle 40 = .ok (.ireturn, 1) := by decide +kernel
theorem dX12_circle_41 : decode cX12_circle 41 = .ok (.iload_n 1, 1) := by decide +kernel
theorem dX12_circle_42 : decode cX12_circle 42 = .ok (.iconst (-1), 1) := by decide +kernel
theorem dX12_circle_43 : decode cX12_circle 43 = .ok (.if_icmp .ne 9, 3) := by decide +kernel
theorem dX12_circle_46 : decode cX12_circle 46 = .ok (.aload_n 0, 1) := by decide +kernel
theorem dX12_circle_47 : decode cX12_circle 47 = .ok (.iload_n 2, 1) := by decide +kernel
theorem dX12_circle_48 : decode cX12_circle 48 = .ok (.invokevirtual 328, 3) := by decide +kernel
theorem dX12_circle_51 : decode cX12_circle 51 = .ok (.ireturn, 1) := by decide +kernel
theorem dX12_circle_52 : decode cX12_circle 52 = .ok (.iload_n 1, 1) := by decide +kernel
theorem dX12_circle_53 : decode cX12_circle 53 = .ok (.aload_n 0, 1) := by decide +kernel
theorem dX12_circle_54 : decode cX12_circle 54 = .ok (.getfield 373, 3) := by decide +kernel
theorem dX12_circle_57 : decode cX12_circle 57 = .ok (.if_icmp .ge 16, 3) := by decide +kernel
theorem dX12_circle_60 : decode cX12_circle 60 = .ok (.aload_n 0, 1) := by decide +kernel
theorem dX12_circle_61 : decode cX12_circle 61 = .ok (.aload_n 0, 1) := by decide +kernel
theorem dX12_circle_62 : decode cX12_circle 62 = .ok (.getfield 45, 3) := by decide +kernel
theorem dX12_circle_65 : decode cX12_circle 65 = .ok (.iload_n 1, 1) := by decide +kernel
theorem dX12_circle_66 : decode cX12_circle 66 = .ok (.iaload, 1) := by decide +kernel
theorem dX12_circle_67 : decode cX12_circle 67 = .ok (.invokevirtual 328, 3) := by decide +kernel
theorem dX12_circle_70 : decode cX12_circle 70 = .ok (.goto 9, 3) := by decide +kernel
theorem dX12_circle_73 : decode cX12_circle 73 = .ok (.aload_n 0, 1) := by decide +kernel
theorem dX12_circle_74 : decode cX12_circle 74 = .ok (.bipush 7, 2) := by decide +kernel
theorem dX12_circle_76 : decode cX12_circle 76 = .ok (.invokevirtual 305, 3) := by decide +kernel
theorem dX12_circle_79 : decode cX12_circle 79 = .ok (.ireturn, 1) := by decide +kernel
theorem dX12_visit_0 : decode cX12_visit 0 = .ok (.aload_n 0, 1) := by decide +kernel
theorem dX12_visit_1 : decode cX12_visit 1 = .ok (.iload_n 1, 1) := by decide +kernel
theorem dX12_visit_2 : decode cX12_visit 2 = .ok (.iload_n 2, 1) := by decide +kernel
theorem dX12_visit_3 : decode cX12_visit 3 = .ok (.invokevirtual 450, 3) := by decide +kernel
theorem dX12_visit_6 : decode cX12_visit 6 = .ok (.ifCond .ne 9, 3) := by decide +kernel
theorem dX12_visit_9 : decode cX12_visit 9 = .ok (.aload_n 0, 1) := by decide +kernel
theorem dX12_visit_10 : decode cX12_visit 10 = .ok (.iconst 4, 1) := by decide +kernel
theorem dX12_visit_11 : decode cX12_visit 11 = .ok (.invokevirtual 305, 3) := by decide +kernel
theorem dX12_visit_14 : decode cX12_visit 14 = .ok (.ireturn, 1) := by decide +kernel
theorem dX12_visit_15 : decode cX12_visit 15 = .ok (.aload_n 0, 1) := by decide +kernel
theorem dX12_visit_16 : decode cX12_visit 16 = .ok (.iload_n 1, 1) := by decide +kernel
theorem dX12_visit_17 : decode cX12_visit 17 = .ok (.invokevirtual 359, 3) := by decide +kernel
theorem dX12_visit_20 : decode cX12_visit 20 = .ok (.ifCond .eq 10, 3) := by decide +kernel
theorem dX12_visit_23 : decode cX12_visit 23 = .ok (.aload_n 0, 1) := by decide +kernel
theorem dX12_visit_24 : decode cX12_visit 24 = .ok (.bipush 7, 2) := by decide +kernel
theorem dX12_visit_26 : decode cX12_visit 26 = .ok (.invokevirtual 305, 3) := by decide +kernel
theorem dX12_visit_29 : decode cX12_visit 29 = .ok (.ireturn, 1) := by decide +kernel
theorem dX12_visit_30 : decode cX12_visit 30 = .ok (.aload_n 0, 1) := by decide +kernel
theorem dX12_visit_31 : decode cX12_visit 31 = .ok (.iload_n 1, 1) := by decide +kernel
theorem dX12_visit_32 : decode cX12_visit 32 = .ok (.invokevirtual 386, 3) := by decide +kernel
theorem dX12_visit_35 : decode cX12_visit 35 = .ok (.aload_n 0, 1) := by decide +kernel
theorem dX12_visit_36 : decode cX12_visit 36 = .ok (.aload_n 0, 1) := by decide +kernel
theorem dX12_visit_37 : decode cX12_visit 37 = .ok (.getfield 51, 3) := by decide +kernel
theorem dX12_visit_40 : decode cX12_visit 40 = .ok (.bipush 8, 2) := by decide +kernel
theorem dX12_visit_42 : decode cX12_visit 42 = .ok (.iload_n 1, 1) := by decide +kernel
theorem dX12_visit_43 : decode cX12_visit 43 = .ok (.imul, 1) := by decide +kernel
theorem dX12_visit_44 : decode cX12_visit 44 = .ok (.iload_n 2, 1) := by decide +kernel
theorem dX12_visit_45 : decode cX12_visit 45 = .ok (.iadd, 1) := by decide +kernel
theorem dX12_visit_46 : decode cX12_visit 46 = .ok (.iaload, 1) := by decide +kernel
theorem dX12_visit_47 : decode cX12_visit 47 = .ok (.invokevirtual 328, 3) := by decide +kernel
theorem dX12_visit_50 : decode cX12_visit 50 = .ok (.ireturn, 1) := by decide +kernel
theorem dX12_ordered_0 : decode cX12_ordered 0 = .ok (.iload_n 1, 1) := by decide +kernel
theorem dX12_ordered_1 : decode cX12_ordered 1 = .ok (.iconst 0, 1) := by decide +kernel
theorem dX12_ordered_2 : decode cX12_ordered 2 = .ok (.iconst 1, 1) := by decide +kernel
theorem dX12_ordered_3 : decode cX12_ordered 3 = .ok (.invokestatic 246, 3) := by decide +kernel
theorem dX12_ordered_6 : decode cX12_ordered 6 = .ok (.ifCond .ne 9, 3) := by decide +kernel
theorem dX12_ordered_9 : decode cX12_ordered 9 = .ok (.aload_n 0, 1) := by decide +kernel
theorem dX12_ordered_10 : decode cX12_ordered 10 = .ok (.iconst 1, 1) := by decide +kernel
theorem dX12_ordered_11 : decode cX12_ordered 11 = .ok (.invokevirtual 305, 3) := by decide +kernel
theorem dX12_ordered_14 : decode cX12_ordered 14 = .ok (.ireturn, 1) := by decide +kernel
theorem dX12_ordered_15 : decode cX12_ordered 15 = .ok (.aload_n 0, 1) := by decide +kernel
theorem dX12_ordered_16 : decode cX12_ordered 16 = .ok (.getfield 318, 3) := by decide +kernel
theorem dX12_ordered_19 : decode cX12_ordered 19 = .ok (.ifCond .ne 9, 3) := by decide +kernel
theorem dX12_ordered_22 : decode cX12_ordered 22 = .ok (.aload_n 0, 1) := by decide +kernel
theorem dX12_ordered_23 : decode cX12_ordered 23 = .ok (.iconst 2, 1) := by decide +kernel
theorem dX12_ordered_24 : decode cX12_ordered 24 = .ok (.invokevirtual 305, 3) := by decide +kernel
theorem dX12_ordered_27 : decode cX12_ordered 27 = .ok (.ireturn, 1) := by decide +kernel
theorem dX12_ordered_28 : decode cX12_ordered 28 = .ok (.aload_n 0, 1) := by decide +kernel
theorem dX12_ordered_29 : decode cX12_ordered 29 = .ok (.invokevirtual 456, 3) := by decide +kernel
theorem dX12_ordered_32 : decode cX12_ordered 32 = .ok (.istore_n 2, 1) := by decide +kernel
theorem dX12_ordered_33 : decode cX12_ordered 33 = .ok (.iload_n 1, 1) := by decide +kernel
theorem dX12_ordered_34 : decode cX12_ordered 34 = .ok (.ifCond .ne 18, 3) := by decide +kernel
theorem dX12_ordered_37 : decode cX12_ordered 37 = .ok (.aload_n 0, 1) := by decide +kernel
theorem dX12_ordered_38 : decode cX12_ordered 38 = .ok (.iload_n 2, 1) := by decide +kernel
theorem dX12_ordered_39 : decode cX12_ordered 39 = .ok (.iconst (-1), 1) := by decide +kernel
theorem dX12_ordered_40 : decode cX12_ordered 40 = .ok (.if_icmp .ne 7, 3) := by decide +kernel
theorem dX12_ordered_43 : decode cX12_ordered 43 = .ok (.iconst 1, 1) := by decide +kernel
theorem dX12_ordered_44 : decode cX12_ordered 44 = .ok (.goto 4, 3) := by decide +kernel
theorem dX12_ordered_47 : decode cX12_ordered 47 = .ok (.iconst 0, 1) := by decide +kernel
theorem dX12_ordered_48 : decode cX12_ordered 48 = .ok (.invokevirtual 328, 3) := by decide +kernel
theorem dX12_ordered_51 : decode cX12_ordered 51 = .ok (.ireturn, 1) := by decide +kernel
theorem dX12_ordered_52 : decode cX12_ordered 52 = .ok (.iload_n 2, 1) := by decide +kernel
theorem dX12_ordered_53 : decode cX12_ordered 53 = .ok (.iconst (-1), 1) := by decide +kernel
theorem dX12_ordered_54 : decode cX12_ordered 54 = .ok (.if_icmp .ne 12, 3) := by decide +kernel
theorem dX12_ordered_57 : decode cX12_ordered 57 = .ok (.aload_n 0, 1) := by decide +kernel
theorem dX12_ordered_58 : decode cX12_ordered 58 = .ok (.bipush 7, 2) := by decide +kernel
theorem dX12_ordered_60 : decode cX12_ordered 60 = .ok (.invokevirtual 305, 3) := by decide +kernel
theorem dX12_ordered_63 : decode cX12_ordered 63 = .ok (.goto 8, 3) := by decide +kernel
theorem dX12_ordered_66 : decode cX12_ordered 66 = .ok (.aload_n 0, 1) := by decide +kernel
theorem dX12_ordered_67 : decode cX12_ordered 67 = .ok (.iload_n 2, 1) := by decide +kernel
theorem dX12_ordered_68 : decode cX12_ordered 68 = .ok (.invokevirtual 328, 3) := by decide +kernel
theorem dX12_ordered_71 : decode cX12_ordered 71 = .ok (.ireturn, 1) := by decide +kernel
theorem dX12_plan_0 : decode cX12_plan 0 = .ok (.iload_n 2, 1) := by decide +kernel
theorem dX12_plan_1 : decode cX12_plan 1 = .ok (.iconst (-1), 1) := by decide +kernel
theorem dX12_plan_2 : decode cX12_plan 2 = .ok (.if_icmp .ge 9, 3) := by decide +kernel
theorem dX12_plan_5 : decode cX12_plan 5 = .ok (.aload_n 0, 1) := by decide +kernel
theorem dX12_plan_6 : decode cX12_plan 6 = .ok (.iconst 1, 1) := by decide +kernel
theorem dX12_plan_7 : decode cX12_plan 7 = .ok (.invokevirtual 305, 3) := by decide +kernel
theorem dX12_plan_10 : decode cX12_plan 10 = .ok (.ireturn, 1) := by decide +kernel
theorem dX12_plan_11 : decode cX12_plan 11 = .ok (.aload_n 0, 1) := by decide +kernel
theorem dX12_plan_12 : decode cX12_plan 12 = .ok (.iload_n 1, 1) := by decide +kernel
theorem dX12_plan_13 : decode cX12_plan 13 = .ok (.invokevirtual 337, 3) := by decide +kernel
theorem dX12_plan_16 : decode cX12_plan 16 = .ok (.ifCond .ne 9, 3) := by decide +kernel
theorem dX12_plan_19 : decode cX12_plan 19 = .ok (.aload_n 0, 1) := by decide +kernel
theorem dX12_plan_20 : decode cX12_plan 20 = .ok (.iconst 4, 1) := by decide +kernel
theorem dX12_plan_21 : decode cX12_plan 21 = .ok (.invokevirtual 305, 3) := by decide +kernel
theorem dX12_plan_24 : decode cX12_plan 24 = .ok (.ireturn, 1) := by decide +kernel
theorem dX12_plan_25 : decode cX12_plan 25 = .ok (.aload_n 0, 1) := by decide +kernel
theorem dX12_plan_26 : decode cX12_plan 26 = .ok (.invokevirtual 456, 3) := by decide +kernel
theorem dX12_plan_29 : decode cX12_plan 29 = .ok (.iconst (-1), 1) := by decide +kernel
theorem dX12_plan_30 : decode cX12_plan 30 = .ok (.if_icmp .eq 9, 3) := by decide +kernel
theorem dX12_plan_33 : decode cX12_plan 33 = .ok (.aload_n 0, 1) := by decide +kernel
theorem dX12_plan_34 : decode cX12_plan 34 = .ok (.iconst 5, 1) := by decide +kernel
theorem dX12_plan_35 : decode cX12_plan 35 = .ok (.invokevirtual 305, 3) := by decide +kernel
theorem dX12_plan_38 : decode cX12_plan 38 = .ok (.ireturn, 1) := by decide +kernel
theorem dX12_plan_39 : decode cX12_plan 39 = .ok (.aload_n 0, 1) := by decide +kernel
theorem dX12_plan_40 : decode cX12_plan 40 = .ok (.iload_n 1, 1) := by decide +kernel
theorem dX12_plan_41 : decode cX12_plan 41 = .ok (.invokevirtual 459, 3) := by decide +kernel
theorem dX12_plan_44 : decode cX12_plan 44 = .ok (.iload_n 2, 1) := by decide +kernel
theorem dX12_plan_45 : decode cX12_plan 45 = .ok (.iconst (-1), 1) := by decide +kernel
theorem dX12_plan_46 : decode cX12_plan 46 = .ok (.if_icmp .ne 12, 3) := by decide +kernel
theorem dX12_plan_49 : decode cX12_plan 49 = .ok (.aload_n 0, 1) := by decide +kernel
theorem dX12_plan_50 : decode cX12_plan 50 = .ok (.aload_n 0, 1) := by decide +kernel
theorem dX12_plan_51 : decode cX12_plan 51 = .ok (.getfield 398, 3) := by decide +kernel
theorem dX12_plan_54 : decode cX12_plan 54 = .ok (.invokevirtual 328, 3) := by decide +kernel
theorem dX12_plan_57 : decode cX12_plan 57 = .ok (.ireturn, 1) := by decide +kernel
theorem dX12_plan_58 : decode cX12_plan 58 = .ok (.iload_n 2, 1) := by decide +kernel
theorem dX12_plan_59 : decode cX12_plan 59 = .ok (.aload_n 0, 1) := by decide +kernel
theorem dX12_plan_60 : decode cX12_plan 60 = .ok (.getfield 398, 3) := by decide +kernel
theorem dX12_plan_63 : decode cX12_plan 63 = .ok (.if_icmp .ge 16, 3) := by decide +kernel
theorem dX12_plan_66 : decode cX12_plan 66 = .ok (.aload_n 0, 1) := by decide +kernel
theorem dX12_plan_67 : decode cX12_plan 67 = .ok (.aload_n 0, 1) := by decide +kernel
theorem dX12_plan_68 : decode cX12_plan 68 = .ok (.getfield 57, 3) := by decide +kernel
theorem dX12_plan_71 : decode cX12_plan 71 = .ok (.iload_n 2, 1) := by decide +kernel
theorem dX12_plan_72 : decode cX12_plan 72 = .ok (.iaload, 1) := by decide +kernel
theorem dX12_plan_73 : decode cX12_plan 73 = .ok (.invokevirtual 328, 3) := by decide +kernel
theorem dX12_plan_76 : decode cX12_plan 76 = .ok (.goto 9, 3) := by decide +kernel
theorem dX12_plan_79 : decode cX12_plan 79 = .ok (.aload_n 0, 1) := by decide +kernel
theorem dX12_plan_80 : decode cX12_plan 80 = .ok (.bipush 7, 2) := by decide +kernel
theorem dX12_plan_82 : decode cX12_plan 82 = .ok (.invokevirtual 305, 3) := by decide +kernel
theorem dX12_plan_85 : decode cX12_plan 85 = .ok (.ireturn, 1) := by decide +kernel
theorem dX12_real_0 : decode cX12_real 0 = .ok (.iload_n 1, 1) := by decide +kernel
theorem dX12_real_1 : decode cX12_real 1 = .ok (.iconst 0, 1) := by decide +kernel
theorem dX12_real_2 : decode cX12_real 2 = .ok (.iconst 3, 1) := by decide +kernel
theorem dX12_real_3 : decode cX12_real 3 = .ok (.invokestatic 246, 3) := by decide +kernel
theorem dX12_real_6 : decode cX12_real 6 = .ok (.ifCond .ne 9, 3) := by decide +kernel
theorem dX12_real_9 : decode cX12_real 9 = .ok (.aload_n 0, 1) := by decide +kernel
theorem dX12_real_10 : decode cX12_real 10 = .ok (.iconst 1, 1) := by decide +kernel
theorem dX12_real_11 : decode cX12_real 11 = .ok (.invokevirtual 305, 3) := by decide +kernel
theorem dX12_real_14 : decode cX12_real 14 = .ok (.ireturn, 1) := by decide +kernel
theorem dX12_real_15 : decode cX12_real 15 = .ok (.aload_n 0, 1) := by decide +kernel
theorem dX12_real_16 : decode cX12_real 16 = .ok (.getfield 318, 3) := by decide +kernel
theorem dX12_real_19 : decode cX12_real 19 = .ok (.ifCond .ne 9, 3) := by decide +kernel
theorem dX12_real_22 : decode cX12_real 22 = .ok (.aload_n 0, 1) := by decide +kernel
theorem dX12_real_23 : decode cX12_real 23 = .ok (.iconst 2, 1) := by decide +kernel
theorem dX12_real_24 : decode cX12_real 24 = .ok (.invokevirtual 305, 3) := by decide +kernel
theorem dX12_real_27 : decode cX12_real 27 = .ok (.ireturn, 1) := by decide +kernel
theorem dX12_real_28 : decode cX12_real 28 = .ok (.aload_n 0, 1) := by decide +kernel
theorem dX12_real_29 : decode cX12_real 29 = .ok (.iconst 1, 1) := by decide +kernel
theorem dX12_real_30 : decode cX12_real 30 = .ok (.invokevirtual 462, 3) := by decide +kernel
theorem dX12_real_33 : decode cX12_real 33 = .ok (.aload_n 0, 1) := by decide +kernel
theorem dX12_real_34 : decode cX12_real 34 = .ok (.getfield 423, 3) := by decide +kernel
theorem dX12_real_37 : decode cX12_real 37 = .ok (.ifCond .eq 10, 3) := by decide +kernel
theorem dX12_real_40 : decode cX12_real 40 = .ok (.aload_n 0, 1) := by decide +kernel
theorem dX12_real_41 : decode cX12_real 41 = .ok (.bipush 6, 2) := by decide +kernel
theorem dX12_real_43 : decode cX12_real 43 = .ok (.invokevirtual 305, 3) := by decide +kernel
theorem dX12_real_46 : decode cX12_real 46 = .ok (.ireturn, 1) := by decide +kernel
theorem dX12_real_47 : decode cX12_real 47 = .ok (.iload_n 1, 1) := by decide +kernel
theorem dX12_real_48 : decode cX12_real 48 = .ok (.ifCond .ne 20, 3) := by decide +kernel
theorem dX12_real_51 : decode cX12_real 51 = .ok (.aload_n 0, 1) := by decide +kernel
theorem dX12_real_52 : decode cX12_real 52 = .ok (.aload_n 0, 1) := by decide +kernel
theorem dX12_real_53 : decode cX12_real 53 = .ok (.getfield 426, 3) := by decide +kernel
theorem dX12_real_56 : decode cX12_real 56 = .ok (.ifCond .le 7, 3) := by decide +kernel
theorem dX12_real_59 : decode cX12_real 59 = .ok (.iconst 1, 1) := by decide +kernel
theorem dX12_real_60 : decode cX12_real 60 = .ok (.goto 4, 3) := by decide +kernel
theorem dX12_real_63 : decode cX12_real 63 = .ok (.iconst 0, 1) := by decide +kernel
theorem dX12_real_64 : decode cX12_real 64 = .ok (.invokevirtual 328, 3) := by decide +kernel
theorem dX12_real_67 : decode cX12_real 67 = .ok (.ireturn, 1) := by decide +kernel
theorem dX12_real_68 : decode cX12_real 68 = .ok (.iload_n 1, 1) := by decide +kernel
theorem dX12_real_69 : decode cX12_real 69 = .ok (.iconst 1, 1) := by decide +kernel
theorem dX12_real_70 : decode cX12_real 70 = .ok (.if_icmp .ne 28, 3) := by decide +kernel
theorem dX12_real_73 : decode cX12_real 73 = .ok (.aload_n 0, 1) := by decide +kernel
theorem dX12_real_74 : decode cX12_real 74 = .ok (.getfield 426, 3) := by decide +kernel
theorem dX12_real_77 : decode cX12_real 77 = .ok (.ifCond .le 14, 3) := by decide +kernel
theorem dX12_real_80 : decode cX12_real 80 = .ok (.aload_n 0, 1) := by decide +kernel
theorem dX12_real_81 : decode cX12_real 81 = .ok (.aload_n 0, 1) := by decide +kernel
theorem dX12_real_82 : decode cX12_real 82 = .ok (.getfield 426, 3) := by decide +kernel
theorem dX12_real_85 : decode cX12_real 85 = .ok (.invokevirtual 328, 3) := by decide +kernel
theorem dX12_real_88 : decode cX12_real 88 = .ok (.goto 9, 3) := by decide +kernel
theorem dX12_real_91 : decode cX12_real 91 = .ok (.aload_n 0, 1) := by decide +kernel
theorem dX12_real_92 : decode cX12_real 92 = .ok (.bipush 7, 2) := by decide +kernel
theorem dX12_real_94 : decode cX12_real 94 = .ok (.invokevirtual 305, 3) := by decide +kernel
theorem dX12_real_97 : decode cX12_real 97 = .ok (.ireturn, 1) := by decide +kernel
theorem dX12_real_98 : decode cX12_real 98 = .ok (.iload_n 1, 1) := by decide +kernel
theorem dX12_real_99 : decode cX12_real 99 = .ok (.iconst 2, 1) := by decide +kernel
theorem dX12_real_100 : decode cX12_real 100 = .ok (.if_icmp .ne 12, 3) := by decide +kernel
theorem dX12_real_103 : decode cX12_real 103 = .ok (.aload_n 0, 1) := by decide +kernel
theorem dX12_real_104 : decode cX12_real 104 = .ok (.aload_n 0, 1) := by decide +kernel
theorem dX12_real_105 : decode cX12_real 105 = .ok (.getfield 429, 3) := by decide +kernel
theorem dX12_real_108 : decode cX12_real 108 = .ok (.invokevirtual 328, 3) := by decide +kernel
theorem dX12_real_111 : decode cX12_real 111 = .ok (.ireturn, 1) := by decide +kernel
theorem dX12_real_112 : decode cX12_real 112 = .ok (.iconst 0, 1) := by decide +kernel
theorem dX12_real_113 : decode cX12_real 113 = .ok (.istore_n 2, 1) := by decide +kernel
theorem dX12_real_114 : decode cX12_real 114 = .ok (.iconst 0, 1) := by decide +kernel
theorem dX12_real_115 : decode cX12_real 115 = .ok (.istore_n 3, 1) := by decide +kernel
theorem dX12_real_116 : decode cX12_real 116 = .ok (.iload_n 3, 1) := by decide +kernel
theorem dX12_real_117 : decode cX12_real 117 = .ok (.bipush 8, 2) := by decide +kernel
theorem dX12_real_119 : decode cX12_real 119 = .ok (.if_icmp .ge 18, 3) := by decide +kernel
theorem dX12_real_122 : decode cX12_real 122 = .ok (.iload_n 2, 1) := by decide +kernel
theorem dX12_real_123 : decode cX12_real 123 = .ok (.aload_n 0, 1) := by decide +kernel
theorem dX12_real_124 : decode cX12_real 124 = .ok (.getfield 66, 3) := by decide +kernel
theorem dX12_real_127 : decode cX12_real 127 = .ok (.iload_n 3, 1) := by decide +kernel
theorem dX12_real_128 : decode cX12_real 128 = .ok (.iaload, 1) := by decide +kernel
theorem dX12_real_129 : decode cX12_real 129 = .ok (.iadd, 1) := by decide +kernel
theorem dX12_real_130 : decode cX12_real 130 = .ok (.istore_n 2, 1) := by decide +kernel
theorem dX12_real_131 : decode cX12_real 131 = .ok (.iinc 3 1, 3) := by decide +kernel
theorem dX12_real_134 : decode cX12_real 134 = .ok (.goto (-18), 3) := by decide +kernel
theorem dX12_real_137 : decode cX12_real 137 = .ok (.aload_n 0, 1) := by decide +kernel
theorem dX12_real_138 : decode cX12_real 138 = .ok (.iload_n 2, 1) := by decide +kernel
theorem dX12_real_139 : decode cX12_real 139 = .ok (.invokevirtual 328, 3) := by decide +kernel
theorem dX12_real_142 : decode cX12_real 142 = .ok (.ireturn, 1) := by decide +kernel
theorem dX12_shades_0 : decode cX12_shades 0 = .ok (.aload_n 0, 1) := by decide +kernel
theorem dX12_shades_1 : decode cX12_shades 1 = .ok (.iload_n 1, 1) := by decide +kernel
theorem dX12_shades_2 : decode cX12_shades 2 = .ok (.invokevirtual 331, 3) := by decide +kernel
theorem dX12_shades_5 : decode cX12_shades 5 = .ok (.ifCond .ne 9, 3) := by decide +kernel
theorem dX12_shades_8 : decode cX12_shades 8 = .ok (.aload_n 0, 1) := by decide +kernel
theorem dX12_shades_9 : decode cX12_shades 9 = .ok (.iconst 4, 1) := by decide +kernel
theorem dX12_shades_10 : decode cX12_shades 10 = .ok (.invokevirtual 305, 3) := by decide +kernel
theorem dX12_shades_13 : decode cX12_shades 13 = .ok (.ireturn, 1) := by decide +kernel
theorem dX12_shades_14 : decode cX12_shades 14 = .ok (.aload_n 0, 1) := by decide +kernel
theorem dX12_shades_15 : decode cX12_shades 15 = .ok (.iconst 0, 1) := by decide +kernel
theorem dX12_shades_16 : decode cX12_shades 16 = .ok (.invokevirtual 462, 3) := by decide +kernel
theorem dX12_shades_19 : decode cX12_shades 19 = .ok (.aload_n 0, 1) := by decide +kernel
theorem dX12_shades_20 : decode cX12_shades 20 = .ok (.getfield 423, 3) := by decide +kernel
theorem dX12_shades_23 : decode cX12_shades 23 = .ok (.ifCond .eq 12, 3) := by decide +kernel
theorem dX12_shades_26 : decode cX12_shades 26 = .ok (.aload_n 0, 1) := by decide +kernel
theorem dX12_shades_27 : decode cX12_shades 27 = .ok (.bipush 6, 2) := by decide +kernel
theorem dX12_shades_29 : decode cX12_shades 29 = .ok (.invokevirtual 305, 3) := by decide +kernel
theorem dX12_shades_32 : decode cX12_shades 32 = .ok (.goto 13, 3) := by decide +kernel
theorem dX12_shades_35 : decode cX12_shades 35 = .ok (.aload_n 0, 1) := by decide +kernel
theorem dX12_shades_36 : decode cX12_shades 36 = .ok (.aload_n 0, 1) := by decide +kernel
theorem dX12_shades_37 : decode cX12_shades 37 = .ok (.getfield 66, 3) := by decide +kernel
theorem dX12_shades_40 : decode cX12_shades 40 = .ok (.iload_n 1, 1) := by decide +kernel
theorem dX12_shades_41 : decode cX12_shades 41 = .ok (.iaload, 1) := by decide +kernel
theorem dX12_shades_42 : decode cX12_shades 42 = .ok (.invokevirtual 328, 3) := by decide +kernel
theorem dX12_shades_45 : decode cX12_shades 45 = .ok (.ireturn, 1) := by decide +kernel
theorem dX12_readNode_0 : decode cX12_readNode 0 = .ok (.aload_n 0, 1) := by decide +kernel
theorem dX12_readNode_1 : decode cX12_readNode 1 = .ok (.invokevirtual 224, 3) := by decide +kernel
theorem dX12_readNode_4 : decode cX12_readNode 4 = .ok (.ifCond .ne 9, 3) := by decide +kernel
theorem dX12_readNode_7 : decode cX12_readNode 7 = .ok (.aload_n 0, 1) := by decide +kernel
theorem dX12_readNode_8 : decode cX12_readNode 8 = .ok (.iconst 2, 1) := by decide +kernel
theorem dX12_readNode_9 : decode cX12_readNode 9 = .ok (.invokevirtual 218, 3) := by decide +kernel
theorem dX12_readNode_12 : decode cX12_readNode 12 = .ok (.ireturn, 1) := by decide +kernel
theorem dX12_readNode_13 : decode cX12_readNode 13 = .ok (.aload_n 0, 1) := by decide +kernel
theorem dX12_readNode_14 : decode cX12_readNode 14 = .ok (.getfield 19, 3) := by decide +kernel
theorem dX12_readNode_17 : decode cX12_readNode 17 = .ok (.bipush 8, 2) := by decide +kernel
theorem dX12_readNode_19 : decode cX12_readNode 19 = .ok (.aload_n 0, 1) := by decide +kernel
theorem dX12_readNode_20 : decode cX12_readNode 20 = .ok (.getfield 13, 3) := by decide +kernel
theorem dX12_readNode_23 : decode cX12_readNode 23 = .ok (.iconst 1, 1) := by decide +kernel
theorem dX12_readNode_24 : decode cX12_readNode 24 = .ok (.iaload, 1) := by decide +kernel
theorem dX12_readNode_25 : decode cX12_readNode 25 = .ok (.aload_n 0, 1) := by decide +kernel
theorem dX12_readNode_26 : decode cX12_readNode 26 = .ok (.getfield 181, 3) := by decide +kernel
theorem dX12_readNode_29 : decode cX12_readNode 29 = .ok (.invokestatic 232, 3) := by decide +kernel
theorem dX12_readNode_32 : decode cX12_readNode 32 = .ok (.istore 4, 2) := by decide +kernel
theorem dX12_readNode_34 : decode cX12_readNode 34 = .ok (.iload 4, 2) := by decide +kernel
theorem dX12_readNode_36 : decode cX12_readNode 36 = .ok (.iconst (-1), 1) := by decide +kernel
theorem dX12_readNode_37 : decode cX12_readNode 37 = .ok (.if_icmp .ne 9, 3) := by decide +kernel
theorem dX12_readNode_40 : decode cX12_readNode 40 = .ok (.aload_n 0, 1) := by decide +kernel
theorem dX12_readNode_41 : decode cX12_readNode 41 = .ok (.iconst 3, 1) := by decide +kernel
theorem dX12_readNode_42 : decode cX12_readNode 42 = .ok (.invokevirtual 218, 3) := by decide +kernel
theorem dX12_readNode_45 : decode cX12_readNode 45 = .ok (.ireturn, 1) := by decide +kernel
theorem dX12_readNode_46 : decode cX12_readNode 46 = .ok (.aload_n 0, 1) := by decide +kernel
theorem dX12_readNode_47 : decode cX12_readNode 47 = .ok (.getfield 466, 3) := by decide +kernel
theorem dX12_readNode_50 : decode cX12_readNode 50 = .ok (.aload_n 0, 1) := by decide +kernel
theorem dX12_readNode_51 : decode cX12_readNode 51 = .ok (.getfield 469, 3) := by decide +kernel
theorem dX12_readNode_54 : decode cX12_readNode 54 = .ok (.iadd, 1) := by decide +kernel
theorem dX12_readNode_55 : decode cX12_readNode 55 = .ok (.bipush 40, 2) := by decide +kernel
theorem dX12_readNode_57 : decode cX12_readNode 57 = .ok (.if_icmp .eq 9, 3) := by decide +kernel
theorem dX12_readNode_60 : decode cX12_readNode 60 = .ok (.iload_n 2, 1) := by decide +kernel
theorem dX12_readNode_61 : decode cX12_readNode 61 = .ok (.bipush 12, 2) := by decide +kernel
theorem dX12_readNode_63 : decode cX12_readNode 63 = .ok (.if_icmp .le 10, 3) := by decide +kernel
theorem dX12_readNode_66 : decode cX12_readNode 66 = .ok (.aload_n 0, 1) := by decide +kernel
theorem dX12_readNode_67 : decode cX12_readNode 67 = .ok (.bipush 6, 2) := by decide +kernel
theorem dX12_readNode_69 : decode cX12_readNode 69 = .ok (.invokevirtual 218, 3) := by decide +kernel
theorem dX12_readNode_72 : decode cX12_readNode 72 = .ok (.ireturn, 1) := by decide +kernel
theorem dX12_readNode_73 : decode cX12_readNode 73 = .ok (.iload_n 1, 1) := by decide +kernel
theorem dX12_readNode_74 : decode cX12_readNode 74 = .ok (.iconst (-1), 1) := by decide +kernel
theorem dX12_readNode_75 : decode cX12_readNode 75 = .ok (.if_icmp .eq 24, 3) := by decide +kernel
theorem dX12_readNode_78 : decode cX12_readNode 78 = .ok (.aload_n 0, 1) := by decide +kernel
theorem dX12_readNode_79 : decode cX12_readNode 79 = .ok (.getfield 13, 3) := by decide +kernel
theorem dX12_readNode_82 : decode cX12_readNode 82 = .ok (.bipush 20, 2) := by decide +kernel
theorem dX12_readNode_84 : decode cX12_readNode 84 = .ok (.iload 4, 2) := by decide +kernel
theorem dX12_readNode_86 : decode cX12_readNode 86 = .ok (.iadd, 1) := by decide +kernel
theorem dX12_readNode_87 : decode cX12_readNode 87 = .ok (.iaload, 1) := by decide +kernel
theorem dX12_readNode_88 : decode cX12_readNode 88 = .ok (.iload_n 1, 1) := by decide +kernel
theorem dX12_readNode_89 : decode cX12_readNode 89 = .ok (.if_icmp .eq 10, 3) := by decide +kernel
theorem dX12_readNode_92 : decode cX12_readNode 92 = .ok (.aload_n 0, 1) := by decide +kernel
theorem dX12_readNode_93 : decode cX12_readNode 93 = .ok (.bipush 7, 2) := by decide +kernel
theorem dX12_readNode_95 : decode cX12_readNode 95 = .ok (.invokevirtual 218, 3) := by decide +kernel
theorem dX12_readNode_98 : decode cX12_readNode 98 = .ok (.ireturn, 1) := by decide +kernel
theorem dX12_readNode_99 : decode cX12_readNode 99 = .ok (.aload_n 0, 1) := by decide +kernel
theorem dX12_readNode_100 : decode cX12_readNode 100 = .ok (.getfield 469, 3) := by decide +kernel
theorem dX12_readNode_103 : decode cX12_readNode 103 = .ok (.istore 5, 2) := by decide +kernel
theorem dX12_readNode_105 : decode cX12_readNode 105 = .ok (.aload_n 0, 1) := by decide +kernel
theorem dX12_readNode_106 : decode cX12_readNode 106 = .ok (.dup, 1) := by decide +kernel
theorem dX12_readNode_107 : decode cX12_readNode 107 = .ok (.getfield 469, 3) := by decide +kernel
theorem dX12_readNode_110 : decode cX12_readNode 110 = .ok (.iconst 1, 1) := by decide +kernel
theorem dX12_readNode_111 : decode cX12_readNode 111 = .ok (.iadd, 1) := by decide +kernel
theorem dX12_readNode_112 : decode cX12_readNode 112 = .ok (.putfield 469, 3) := by decide +kernel
theorem dX12_readNode_115 : decode cX12_readNode 115 = .ok (.aload_n 0, 1) := by decide +kernel
theorem dX12_readNode_116 : decode cX12_readNode 116 = .ok (.getfield 84, 3) := by decide +kernel
theorem dX12_readNode_119 : decode cX12_readNode 119 = .ok (.iload 5, 2) := by decide +kernel
theorem dX12_readNode_121 : decode cX12_readNode 121 = .ok (.iload 4, 2) := by decide +kernel
theorem dX12_readNode_123 : decode cX12_readNode 123 = .ok (.iastore, 1) := by decide +kernel
theorem dX12_readNode_124 : decode cX12_readNode 124 = .ok (.aload_n 0, 1) := by decide +kernel
theorem dX12_readNode_125 : decode cX12_readNode 125 = .ok (.getfield 90, 3) := by decide +kernel
theorem dX12_readNode_128 : decode cX12_readNode 128 = .ok (.iload 5, 2) := by decide +kernel
theorem dX12_readNode_130 : decode cX12_readNode 130 = .ok (.iload_n 3, 1) := by decide +kernel
theorem dX12_readNode_131 : decode cX12_readNode 131 = .ok (.iastore, 1) := by decide +kernel
theorem dX12_readNode_132 : decode cX12_readNode 132 = .ok (.aload_n 0, 1) := by decide +kernel
theorem dX12_readNode_133 : decode cX12_readNode 133 = .ok (.getfield 87, 3) := by decide +kernel
theorem dX12_readNode_136 : decode cX12_readNode 136 = .ok (.iload 5, 2) := by decide +kernel
theorem dX12_readNode_138 : decode cX12_readNode 138 = .ok (.iconst 0, 1) := by decide +kernel
theorem dX12_readNode_139 : decode cX12_readNode 139 = .ok (.iastore, 1) := by decide +kernel
theorem dX12_readNode_140 : decode cX12_readNode 140 = .ok (.aload_n 0, 1) := by decide +kernel
theorem dX12_readNode_141 : decode cX12_readNode 141 = .ok (.invokevirtual 221, 3) := by decide +kernel
theorem dX12_readNode_144 : decode cX12_readNode 144 = .ok (.aload_n 0, 1) := by decide +kernel
theorem dX12_readNode_145 : decode cX12_readNode 145 = .ok (.getfield 174, 3) := by decide +kernel
theorem dX12_readNode_148 : decode cX12_readNode 148 = .ok (.iconst 3, 1) := by decide +kernel
theorem dX12_readNode_149 : decode cX12_readNode 149 = .ok (.if_icmp .ne 18, 3) := by decide +kernel
theorem dX12_readNode_152 : decode cX12_readNode 152 = .ok (.aload_n 0, 1) := by decide +kernel
theorem dX12_readNode_153 : decode cX12_readNode 153 = .ok (.getfield 87, 3) := by decide +kernel
theorem dX12_readNode_156 : decode cX12_readNode 156 = .ok (.iload 5, 2) := by decide +kernel
theorem dX12_readNode_158 : decode cX12_readNode 158 = .ok (.aload_n 0, 1) := by decide +kernel
theorem dX12_readNode_159 : decode cX12_readNode 159 = .ok (.getfield 192, 3) := by decide +kernel
theorem dX12_readNode_162 : decode cX12_readNode 162 = .ok (.iastore, 1) := by decide +kernel
theorem dX12_readNode_163 : decode cX12_readNode 163 = .ok (.aload_n 0, 1) := by decide +kernel
theorem dX12_readNode_164 : decode cX12_readNode 164 = .ok (.invokevirtual 221, 3) := by decide +kernel
theorem dX12_readNode_167 : decode cX12_readNode 167 = .ok (.iconst 0, 1) := by decide +kernel
theorem dX12_readNode_168 : decode cX12_readNode 168 = .ok (.istore 6, 2) := by decide +kernel
theorem dX12_readNode_170 : decode cX12_readNode 170 = .ok (.iload 6, 2) := by decide +kernel
theorem dX12_readNode_172 : decode cX12_readNode 172 = .ok (.aload_n 0, 1) := by decide +kernel
theorem dX12_readNode_173 : decode cX12_readNode 173 = .ok (.getfield 13, 3) := by decide +kernel
theorem dX12_readNode_176 : decode cX12_readNode 176 = .ok (.bipush 32, 2) := by decide +kernel
theorem dX12_readNode_178 : decode cX12_readNode 178 = .ok (.iload 4, 2) := by decide +kernel
theorem dX12_readNode_180 : decode cX12_readNode 180 = .ok (.iadd, 1) := by decide +kernel
theorem dX12_readNode_181 : decode cX12_readNode 181 = .ok (.iaload, 1) := by decide +kernel
theorem dX12_readNode_182 : decode cX12_readNode 182 = .ok (.if_icmp .ge 57, 3) := by decide +kernel
theorem dX12_readNode_185 : decode cX12_readNode 185 = .ok (.aload_n 0, 1) := by decide +kernel
theorem dX12_readNode_186 : decode cX12_readNode 186 = .ok (.iload 6, 2) := by decide +kernel
theorem dX12_readNode_188 : decode cX12_readNode 188 = .ok (.ifCond .ne 8, 3) := by decide +kernel
theorem dX12_readNode_191 : decode cX12_readNode 191 = .ok (.bipush 40, 2) := by decide +kernel
theorem dX12_readNode_193 : decode cX12_readNode 193 = .ok (.goto 5, 3) := by decide +kernel
theorem dX12_readNode_196 : decode cX12_readNode 196 = .ok (.bipush 44, 2) := by decide +kernel
theorem dX12_readNode_198 : decode cX12_readNode 198 = .ok (.invokevirtual 243, 3) := by decide +kernel
theorem dX12_readNode_201 : decode cX12_readNode 201 = .ok (.ifCond .eq 30, 3) := by decide +kernel
theorem dX12_readNode_204 : decode cX12_readNode 204 = .ok (.aload_n 0, 1) := by decide +kernel
theorem dX12_readNode_205 : decode cX12_readNode 205 = .ok (.aload_n 0, 1) := by decide +kernel
theorem dX12_readNode_206 : decode cX12_readNode 206 = .ok (.getfield 13, 3) := by decide +kernel
theorem dX12_readNode_209 : decode cX12_readNode 209 = .ok (.bipush 44, 2) := by decide +kernel
theorem dX12_readNode_211 : decode cX12_readNode 211 = .ok (.iconst 3, 1) := by decide +kernel
theorem dX12_readNode_212 : decode cX12_readNode 212 = .ok (.iload 4, 2) := by decide +kernel
theorem dX12_readNode_214 : decode cX12_readNode 214 = .ok (.imul, 1) := by decide +kernel
theorem dX12_readNode_215 : decode cX12_readNode 215 = .ok (.iadd, 1) := by decide +kernel
theorem dX12_readNode_216 : decode cX12_readNode 216 = .ok (.iload 6, 2) := by decide +kernel
theorem dX12_readNode_218 : decode cX12_readNode 218 = .ok (.iadd, 1) := by decide +kernel
theorem dX12_readNode_219 : decode cX12_readNode 219 = .ok (.iaload, 1) := by decide +kernel
theorem dX12_readNode_220 : decode cX12_readNode 220 = .ok (.iload_n 2, 1) := by decide +kernel
theorem dX12_readNode_221 : decode cX12_readNode 221 = .ok (.iconst 1, 1) := by decide +kernel
theorem dX12_readNode_222 : decode cX12_readNode 222 = .ok (.iadd, 1) := by decide +kernel
theorem dX12_readNode_223 : decode cX12_readNode 223 = .ok (.iload 5, 2) := by decide +kernel
theorem dX12_readNode_225 : decode cX12_readNode 225 = .ok (.invokevirtual 472, 3) := by decide +kernel
theorem dX12_readNode_228 : decode cX12_readNode 228 = .ok (.ifCond .ne 5, 3) := by decide +kernel
theorem dX12_readNode_231 : decode cX12_readNode 231 = .ok (.iconst 0, 1) := by decide +kernel
theorem dX12_readNode_232 : decode cX12_readNode 232 = .ok (.ireturn, 1) := by decide +kernel
theorem dX12_readNode_233 : decode cX12_readNode 233 = .ok (.iinc 6 1, 3) := by decide +kernel
theorem dX12_readNode_236 : decode cX12_readNode 236 = .ok (.goto (-66), 3) := by decide +kernel
theorem dX12_readNode_239 : decode cX12_readNode 239 = .ok (.aload_n 0, 1) := by decide +kernel
theorem dX12_readNode_240 : decode cX12_readNode 240 = .ok (.getfield 13, 3) := by decide +kernel
theorem dX12_readNode_243 : decode cX12_readNode 243 = .ok (.bipush 32, 2) := by decide +kernel
theorem dX12_readNode_245 : decode cX12_readNode 245 = .ok (.iload 4, 2) := by decide +kernel
theorem dX12_readNode_247 : decode cX12_readNode 247 = .ok (.iadd, 1) := by decide +kernel
theorem dX12_readNode_248 : decode cX12_readNode 248 = .ok (.iaload, 1) := by decide +kernel
theorem dX12_readNode_249 : decode cX12_readNode 249 = .ok (.ifCond .eq 12, 3) := by decide +kernel
theorem dX12_readNode_252 : decode cX12_readNode 252 = .ok (.aload_n 0, 1) := by decide +kernel
theorem dX12_readNode_253 : decode cX12_readNode 253 = .ok (.bipush 41, 2) := by decide +kernel
theorem dX12_readNode_255 : decode cX12_readNode 255 = .ok (.invokevirtual 243, 3) := by decide +kernel
theorem dX12_readNode_258 : decode cX12_readNode 258 = .ok (.ifCond .eq 7, 3) := by decide +kernel
theorem dX12_readNode_261 : decode cX12_readNode 261 = .ok (.iconst 1, 1) := by decide +kernel
theorem dX12_readNode_262 : decode cX12_readNode 262 = .ok (.goto 4, 3) := by decide +kernel
theorem dX12_readNode_265 : decode cX12_readNode 265 = .ok (.iconst 0, 1) := by decide +kernel
theorem dX12_readNode_266 : decode cX12_readNode 266 = .ok (.ireturn, 1) := by decide +kernel
theorem dX12_readTree_0 : decode cX12_readTree 0 = .ok (.aload_n 0, 1) := by decide +kernel
theorem dX12_readTree_1 : decode cX12_readTree 1 = .ok (.iload_n 1, 1) := by decide +kernel
theorem dX12_readTree_2 : decode cX12_readTree 2 = .ok (.invokevirtual 308, 3) := by decide +kernel
theorem dX12_readTree_5 : decode cX12_readTree 5 = .ok (.aload_n 0, 1) := by decide +kernel
theorem dX12_readTree_6 : decode cX12_readTree 6 = .ok (.iconst 0, 1) := by decide +kernel
theorem dX12_readTree_7 : decode cX12_readTree 7 = .ok (.putfield 469, 3) := by decide +kernel
theorem dX12_readTree_10 : decode cX12_readTree 10 = .ok (.aload_n 0, 1) := by decide +kernel
theorem dX12_readTree_11 : decode cX12_readTree 11 = .ok (.iload_n 2, 1) := by decide +kernel
theorem dX12_readTree_12 : decode cX12_readTree 12 = .ok (.iload_n 3, 1) := by decide +kernel
theorem dX12_readTree_13 : decode cX12_readTree 13 = .ok (.iconst (-1), 1) := by decide +kernel
theorem dX12_readTree_14 : decode cX12_readTree 14 = .ok (.invokevirtual 472, 3) := by decide +kernel
theorem dX12_readTree_17 : decode cX12_readTree 17 = .ok (.ifCond .eq 22, 3) := by decide +kernel
theorem dX12_readTree_20 : decode cX12_readTree 20 = .ok (.aload_n 0, 1) := by decide +kernel
theorem dX12_readTree_21 : decode cX12_readTree 21 = .ok (.getfield 174, 3) := by decide +kernel
theorem dX12_readTree_24 : decode cX12_readTree 24 = .ok (.ifCond .eq 11, 3) := by decide +kernel
theorem dX12_readTree_27 : decode cX12_readTree 27 = .ok (.aload_n 0, 1) := by decide +kernel
theorem dX12_readTree_28 : decode cX12_readTree 28 = .ok (.iconst 2, 1) := by decide +kernel
theorem dX12_readTree_29 : decode cX12_readTree 29 = .ok (.invokevirtual 218, 3) := by decide +kernel
theorem dX12_readTree_32 : decode cX12_readTree 32 = .ok (.ifCond .eq 7, 3) := by decide +kernel
theorem dX12_readTree_35 : decode cX12_readTree 35 = .ok (.iconst 1, 1) := by decide +kernel
theorem dX12_readTree_36 : decode cX12_readTree 36 = .ok (.goto 4, 3) := by decide +kernel
theorem dX12_readTree_39 : decode cX12_readTree 39 = .ok (.iconst 0, 1) := by decide +kernel
theorem dX12_readTree_40 : decode cX12_readTree 40 = .ok (.ireturn, 1) := by decide +kernel
theorem dX12_tree_0 : decode cX12_tree 0 = .ok (.iload_n 1, 1) := by decide +kernel
theorem dX12_tree_1 : decode cX12_tree 1 = .ok (.iconst 0, 1) := by decide +kernel
theorem dX12_tree_2 : decode cX12_tree 2 = .ok (.aload_n 0, 1) := by decide +kernel
theorem dX12_tree_3 : decode cX12_tree 3 = .ok (.getfield 154, 3) := by decide +kernel
theorem dX12_tree_6 : decode cX12_tree 6 = .ok (.invokestatic 246, 3) := by decide +kernel
theorem dX12_tree_9 : decode cX12_tree 9 = .ok (.ifCond .ne 9, 3) := by decide +kernel
theorem dX12_tree_12 : decode cX12_tree 12 = .ok (.aload_n 0, 1) := by decide +kernel
theorem dX12_tree_13 : decode cX12_tree 13 = .ok (.iconst 1, 1) := by decide +kernel
theorem dX12_tree_14 : decode cX12_tree 14 = .ok (.invokevirtual 305, 3) := by decide +kernel
theorem dX12_tree_17 : decode cX12_tree 17 = .ok (.ireturn, 1) := by decide +kernel
theorem dX12_tree_18 : decode cX12_tree 18 = .ok (.aload_n 0, 1) := by decide +kernel
theorem dX12_tree_19 : decode cX12_tree 19 = .ok (.getfield 318, 3) := by decide +kernel
theorem dX12_tree_22 : decode cX12_tree 22 = .ok (.ifCond .ne 9, 3) := by decide +kernel
theorem dX12_tree_25 : decode cX12_tree 25 = .ok (.aload_n 0, 1) := by decide +kernel
theorem dX12_tree_26 : decode cX12_tree 26 = .ok (.iconst 2, 1) := by decide +kernel
theorem dX12_tree_27 : decode cX12_tree 27 = .ok (.invokevirtual 305, 3) := by decide +kernel
theorem dX12_tree_30 : decode cX12_tree 30 = .ok (.ireturn, 1) := by decide +kernel
theorem dX12_tree_31 : decode cX12_tree 31 = .ok (.aload_n 0, 1) := by decide +kernel
theorem dX12_tree_32 : decode cX12_tree 32 = .ok (.iconst 0, 1) := by decide +kernel
theorem dX12_tree_33 : decode cX12_tree 33 = .ok (.putfield 466, 3) := by decide +kernel
theorem dX12_tree_36 : decode cX12_tree 36 = .ok (.aload_n 0, 1) := by decide +kernel
theorem dX12_tree_37 : decode cX12_tree 37 = .ok (.aload_n 0, 1) := by decide +kernel
theorem dX12_tree_38 : decode cX12_tree 38 = .ok (.iload_n 1, 1) := by decide +kernel
theorem dX12_tree_39 : decode cX12_tree 39 = .ok (.iconst (-1), 1) := by decide +kernel
theorem dX12_tree_40 : decode cX12_tree 40 = .ok (.iconst 1, 1) := by decide +kernel
theorem dX12_tree_41 : decode cX12_tree 41 = .ok (.invokevirtual 475, 3) := by decide +kernel
theorem dX12_tree_44 : decode cX12_tree 44 = .ok (.invokevirtual 314, 3) := by decide +kernel
theorem dX12_tree_47 : decode cX12_tree 47 = .ok (.ifCond .le 10, 3) := by decide +kernel
theorem dX12_tree_50 : decode cX12_tree 50 = .ok (.aload_n 0, 1) := by decide +kernel
theorem dX12_tree_51 : decode cX12_tree 51 = .ok (.bipush 9, 2) := by decide +kernel
theorem dX12_tree_53 : decode cX12_tree 53 = .ok (.invokevirtual 305, 3) := by decide +kernel
theorem dX12_tree_56 : decode cX12_tree 56 = .ok (.ireturn, 1) := by decide +kernel
theorem dX12_tree_57 : decode cX12_tree 57 = .ok (.aload_n 0, 1) := by decide +kernel
theorem dX12_tree_58 : decode cX12_tree 58 = .ok (.aload_n 0, 1) := by decide +kernel
theorem dX12_tree_59 : decode cX12_tree 59 = .ok (.getfield 469, 3) := by decide +kernel
theorem dX12_tree_62 : decode cX12_tree 62 = .ok (.putfield 322, 3) := by decide +kernel
theorem dX12_tree_65 : decode cX12_tree 65 = .ok (.iconst 0, 1) := by decide +kernel
theorem dX12_tree_66 : decode cX12_tree 66 = .ok (.istore_n 2, 1) := by decide +kernel
theorem dX12_tree_67 : decode cX12_tree 67 = .ok (.iload_n 2, 1) := by decide +kernel
theorem dX12_tree_68 : decode cX12_tree 68 = .ok (.aload_n 0, 1) := by decide +kernel
theorem dX12_tree_69 : decode cX12_tree 69 = .ok (.getfield 322, 3) := by decide +kernel
theorem dX12_tree_72 : decode cX12_tree 72 = .ok (.if_icmp .ge 45, 3) := by decide +kernel
theorem dX12_tree_75 : decode cX12_tree 75 = .ok (.aload_n 0, 1) := by decide +kernel
theorem dX12_tree_76 : decode cX12_tree 76 = .ok (.getfield 75, 3) := by decide +kernel
theorem dX12_tree_79 : decode cX12_tree 79 = .ok (.iload_n 2, 1) := by decide +kernel
theorem dX12_tree_80 : decode cX12_tree 80 = .ok (.aload_n 0, 1) := by decide +kernel
theorem dX12_tree_81 : decode cX12_tree 81 = .ok (.getfield 84, 3) := by decide +kernel
theorem dX12_tree_84 : decode cX12_tree 84 = .ok (.iload_n 2, 1) := by decide +kernel
theorem dX12_tree_85 : decode cX12_tree 85 = .ok (.iaload, 1) := by decide +kernel
theorem dX12_tree_86 : decode cX12_tree 86 = .ok (.iastore, 1) := by decide +kernel
theorem dX12_tree_87 : decode cX12_tree 87 = .ok (.aload_n 0, 1) := by decide +kernel
theorem dX12_tree_88 : decode cX12_tree 88 = .ok (.getfield 78, 3) := by decide +kernel
theorem dX12_tree_91 : decode cX12_tree 91 = .ok (.iload_n 2, 1) := by decide +kernel
theorem dX12_tree_92 : decode cX12_tree 92 = .ok (.aload_n 0, 1) := by decide +kernel
theorem dX12_tree_93 : decode cX12_tree 93 = .ok (.getfield 87, 3) := by decide +kernel
theorem dX12_tree_96 : decode cX12_tree 96 = .ok (.iload_n 2, 1) := by decide +kernel
theorem dX12_tree_97 : decode cX12_tree 97 = .ok (.iaload, 1) := by decide +kernel
theorem dX12_tree_98 : decode cX12_tree 98 = .ok (.iastore, 1) := by decide +kernel
theorem dX12_tree_99 : decode cX12_tree 99 = .ok (.aload_n 0, 1) := by decide +kernel
theorem dX12_tree_100 : decode cX12_tree 100 = .ok (.getfield 81, 3) := by decide +kernel
theorem dX12_tree_103 : decode cX12_tree 103 = .ok (.iload_n 2, 1) := by decide +kernel
theorem dX12_tree_104 : decode cX12_tree 104 = .ok (.aload_n 0, 1) := by decide +kernel
theorem dX12_tree_105 : decode cX12_tree 105 = .ok (.getfield 90, 3) := by decide +kernel
theorem dX12_tree_108 : decode cX12_tree 108 = .ok (.iload_n 2, 1) := by decide +kernel
theorem dX12_tree_109 : decode cX12_tree 109 = .ok (.iaload, 1) := by decide +kernel
theorem dX12_tree_110 : decode cX12_tree 110 = .ok (.iastore, 1) := by decide +kernel
theorem dX12_tree_111 : decode cX12_tree 111 = .ok (.iinc 2 1, 3) := by decide +kernel
theorem dX12_tree_114 : decode cX12_tree 114 = .ok (.goto (-47), 3) := by decide +kernel
theorem dX12_tree_117 : decode cX12_tree 117 = .ok (.iconst 0, 1) := by decide +kernel
theorem dX12_tree_118 : decode cX12_tree 118 = .ok (.istore_n 2, 1) := by decide +kernel
theorem dX12_tree_119 : decode cX12_tree 119 = .ok (.iload_n 2, 1) := by decide +kernel
theorem dX12_tree_120 : decode cX12_tree 120 = .ok (.iconst 4, 1) := by decide +kernel
theorem dX12_tree_121 : decode cX12_tree 121 = .ok (.if_icmp .ge 16, 3) := by decide +kernel
theorem dX12_tree_124 : decode cX12_tree 124 = .ok (.aload_n 0, 1) := by decide +kernel
theorem dX12_tree_125 : decode cX12_tree 125 = .ok (.getfield 93, 3) := by decide +kernel
theorem dX12_tree_128 : decode cX12_tree 128 = .ok (.iload_n 2, 1) := by decide +kernel
theorem dX12_tree_129 : decode cX12_tree 129 = .ok (.iconst 0, 1) := by decide +kernel
theorem dX12_tree_130 : decode cX12_tree 130 = .ok (.iastore, 1) := by decide +kernel
theorem dX12_tree_131 : decode cX12_tree 131 = .ok (.iinc 2 1, 3) := by decide +kernel
theorem dX12_tree_134 : decode cX12_tree 134 = .ok (.goto (-15), 3) := by decide +kernel
theorem dX12_tree_137 : decode cX12_tree 137 = .ok (.aload_n 0, 1) := by decide +kernel
theorem dX12_tree_138 : decode cX12_tree 138 = .ok (.iconst 0, 1) := by decide +kernel
theorem dX12_tree_139 : decode cX12_tree 139 = .ok (.putfield 478, 3) := by decide +kernel
theorem dX12_tree_142 : decode cX12_tree 142 = .ok (.aload_n 0, 1) := by decide +kernel
theorem dX12_tree_143 : decode cX12_tree 143 = .ok (.invokevirtual 481, 3) := by decide +kernel
theorem dX12_tree_146 : decode cX12_tree 146 = .ok (.aload_n 0, 1) := by decide +kernel
theorem dX12_tree_147 : decode cX12_tree 147 = .ok (.aload_n 0, 1) := by decide +kernel
theorem dX12_tree_148 : decode cX12_tree 148 = .ok (.getfield 322, 3) := by decide +kernel
theorem dX12_tree_151 : decode cX12_tree 151 = .ok (.invokevirtual 328, 3) := by decide +kernel
theorem dX12_tree_154 : decode cX12_tree 154 = .ok (.ireturn, 1) := by decide +kernel
theorem dX12_isNode_0 : decode cX12_isNode 0 = .ok (.iload_n 1, 1) := by decide +kernel
theorem dX12_isNode_1 : decode cX12_isNode 1 = .ok (.iconst 0, 1) := by decide +kernel
theorem dX12_isNode_2 : decode cX12_isNode 2 = .ok (.aload_n 0, 1) := by decide +kernel
theorem dX12_isNode_3 : decode cX12_isNode 3 = .ok (.getfield 322, 3) := by decide +kernel
theorem dX12_isNode_6 : decode cX12_isNode 6 = .ok (.iconst 1, 1) := by decide +kernel
theorem dX12_isNode_7 : decode cX12_isNode 7 = .ok (.isub, 1) := by decide +kernel
theorem dX12_isNode_8 : decode cX12_isNode 8 = .ok (.invokestatic 246, 3) := by decide +kernel
theorem dX12_isNode_11 : decode cX12_isNode 11 = .ok (.ireturn, 1) := by decide +kernel
theorem dX12_symbolOf_0 : decode cX12_symbolOf 0 = .ok (.aload_n 0, 1) := by decide +kernel
theorem dX12_symbolOf_1 : decode cX12_symbolOf 1 = .ok (.getfield 13, 3) := by decide +kernel
theorem dX12_symbolOf_4 : decode cX12_symbolOf 4 = .ok (.bipush 20, 2) := by decide +kernel
theorem dX12_symbolOf_6 : decode cX12_symbolOf 6 = .ok (.aload_n 0, 1) := by decide +kernel
theorem dX12_symbolOf_7 : decode cX12_symbolOf 7 = .ok (.getfield 75, 3) := by decide +kernel
theorem dX12_symbolOf_10 : decode cX12_symbolOf 10 = .ok (.iload_n 1, 1) := by decide +kernel
theorem dX12_symbolOf_11 : decode cX12_symbolOf 11 = .ok (.iaload, 1) := by decide +kernel
theorem dX12_symbolOf_12 : decode cX12_symbolOf 12 = .ok (.iadd, 1) := by decide +kernel
theorem dX12_symbolOf_13 : decode cX12_symbolOf 13 = .ok (.iaload, 1) := by decide +kernel
theorem dX12_symbolOf_14 : decode cX12_symbolOf 14 = .ok (.ireturn, 1) := by decide +kernel
theorem dX12_isInstance_0 : decode cX12_isInstance 0 = .ok (.aload_n 0, 1) := by decide +kernel
theorem dX12_isInstance_1 : decode cX12_isInstance 1 = .ok (.iload_n 1, 1) := by decide +kernel
theorem dX12_isInstance_2 : decode cX12_isInstance 2 = .ok (.invokevirtual 484, 3) := by decide +kernel
theorem dX12_isInstance_5 : decode cX12_isInstance 5 = .ok (.ifCond .eq 26, 3) := by decide +kernel
theorem dX12_isInstance_8 : decode cX12_isInstance 8 = .ok (.iload_n 2, 1) := by decide +kernel
theorem dX12_isInstance_9 : decode cX12_isInstance 9 = .ok (.iconst 0, 1) := by decide +kernel
theorem dX12_isInstance_10 : decode cX12_isInstance 10 = .ok (.aload_n 0, 1) := by decide +kernel
theorem dX12_isInstance_11 : decode cX12_isInstance 11 = .ok (.aload_n 0, 1) := by decide +kernel
theorem dX12_isInstance_12 : decode cX12_isInstance 12 = .ok (.iload_n 1, 1) := by decide +kernel
theorem dX12_isInstance_13 : decode cX12_isInstance 13 = .ok (.invokevirtual 487, 3) := by decide +kernel
theorem dX12_isInstance_16 : decode cX12_isInstance 16 = .ok (.invokevirtual 334, 3) := by decide +kernel
theorem dX12_isInstance_19 : decode cX12_isInstance 19 = .ok (.iconst 1, 1) := by decide +kernel
theorem dX12_isInstance_20 : decode cX12_isInstance 20 = .ok (.isub, 1) := by decide +kernel
theorem dX12_isInstance_21 : decode cX12_isInstance 21 = .ok (.invokestatic 246, 3) := by decide +kernel
theorem dX12_isInstance_24 : decode cX12_isInstance 24 = .ok (.ifCond .eq 7, 3) := by decide +kernel
theorem dX12_isInstance_27 : decode cX12_isInstance 27 = .ok (.iconst 1, 1) := by decide +kernel
theorem dX12_isInstance_28 : decode cX12_isInstance 28 = .ok (.goto 4, 3) := by decide +kernel
theorem dX12_isInstance_31 : decode cX12_isInstance 31 = .ok (.iconst 0, 1) := by decide +kernel
theorem dX12_isInstance_32 : decode cX12_isInstance 32 = .ok (.ireturn, 1) := by decide +kernel
theorem dX12_sizeOf_0 : decode cX12_sizeOf 0 = .ok (.iconst 1, 1) := by decide +kernel
theorem dX12_sizeOf_1 : decode cX12_sizeOf 1 = .ok (.istore_n 2, 1) := by decide +kernel
theorem dX12_sizeOf_2 : decode cX12_sizeOf 2 = .ok (.iload_n 1, 1) := by decide +kernel
theorem dX12_sizeOf_3 : decode cX12_sizeOf 3 = .ok (.iload_n 2, 1) := by decide +kernel
theorem dX12_sizeOf_4 : decode cX12_sizeOf 4 = .ok (.iadd, 1) := by decide +kernel
theorem dX12_sizeOf_5 : decode cX12_sizeOf 5 = .ok (.aload_n 0, 1) := by decide +kernel
theorem dX12_sizeOf_6 : decode cX12_sizeOf 6 = .ok (.getfield 322, 3) := by decide +kernel
theorem dX12_sizeOf_9 : decode cX12_sizeOf 9 = .ok (.if_icmp .ge 21, 3) := by decide +kernel
theorem dX12_sizeOf_12 : decode cX12_sizeOf 12 = .ok (.aload_n 0, 1) := by decide +kernel
theorem dX12_sizeOf_13 : decode cX12_sizeOf 13 = .ok (.getfield 81, 3) := by decide +kernel
theorem dX12_sizeOf_16 : decode cX12_sizeOf 16 = .ok (.iload_n 1, 1) := by decide +kernel
theorem dX12_sizeOf_17 : decode cX12_sizeOf 17 = .ok (.iload_n 2, 1) := by decide +kernel
theorem dX12_sizeOf_18 : decode cX12_sizeOf 18 = .ok (.iadd, 1) := by decide +kernel
theorem dX12_sizeOf_19 : decode cX12_sizeOf 19 = .ok (.iaload, 1) := by decide +kernel
theorem dX12_sizeOf_20 : decode cX12_sizeOf 20 = .ok (.iload_n 1, 1) := by decide +kernel
theorem dX12_sizeOf_21 : decode cX12_sizeOf 21 = .ok (.if_icmp .lt 9, 3) := by decide +kernel
theorem dX12_sizeOf_24 : decode cX12_sizeOf 24 = .ok (.iinc 2 1, 3) := by decide +kernel
theorem dX12_sizeOf_27 : decode cX12_sizeOf 27 = .ok (.goto (-25), 3) := by decide +kernel
theorem dX12_sizeOf_30 : decode cX12_sizeOf 30 = .ok (.iload_n 2, 1) := by decide +kernel
theorem dX12_sizeOf_31 : decode cX12_sizeOf 31 = .ok (.ireturn, 1) := by decide +kernel
theorem dX12_depthOf_0 : decode cX12_depthOf 0 = .ok (.aload_n 0, 1) := by decide +kernel
theorem dX12_depthOf_1 : decode cX12_depthOf 1 = .ok (.getfield 81, 3) := by decide +kernel
theorem dX12_depthOf_4 : decode cX12_depthOf 4 = .ok (.iload_n 1, 1) := by decide +kernel
theorem dX12_depthOf_5 : decode cX12_depthOf 5 = .ok (.iaload, 1) := by decide +kernel
theorem dX12_depthOf_6 : decode cX12_depthOf 6 = .ok (.iconst (-1), 1) := by decide +kernel
theorem dX12_depthOf_7 : decode cX12_depthOf 7 = .ok (.if_icmp .ne 7, 3) := by decide +kernel
theorem dX12_depthOf_10 : decode cX12_depthOf 10 = .ok (.iconst 0, 1) := by decide +kernel
theorem dX12_depthOf_11 : decode cX12_depthOf 11 = .ok (.goto 15, 3) := by decide +kernel
theorem dX12_depthOf_14 : decode cX12_depthOf 14 = .ok (.aload_n 0, 1) := by decide +kernel
theorem dX12_depthOf_15 : decode cX12_depthOf 15 = .ok (.aload_n 0, 1) := by decide +kernel
theorem dX12_depthOf_16 : decode cX12_depthOf 16 = .ok (.getfield 81, 3) := by decide +kernel
theorem dX12_depthOf_19 : decode cX12_depthOf 19 = .ok (.iload_n 1, 1) := by decide +kernel
theorem dX12_depthOf_20 : decode cX12_depthOf 20 = .ok (.iaload, 1) := by decide +kernel
theorem dX12_depthOf_21 : decode cX12_depthOf 21 = .ok (.invokevirtual 490, 3) := by decide +kernel
theorem dX12_depthOf_24 : decode cX12_depthOf 24 = .ok (.iconst 1, 1) := by decide +kernel
theorem dX12_depthOf_25 : decode cX12_depthOf 25 = .ok (.iadd, 1) := by decide +kernel
theorem dX12_depthOf_26 : decode cX12_depthOf 26 = .ok (.ireturn, 1) := by decide +kernel
theorem dX12_child_0 : decode cX12_child 0 = .ok (.iload_n 2, 1) := by decide +kernel
theorem dX12_child_1 : decode cX12_child 1 = .ok (.istore_n 3, 1) := by decide +kernel
theorem dX12_child_2 : decode cX12_child 2 = .ok (.iload_n 1, 1) := by decide +kernel
theorem dX12_child_3 : decode cX12_child 3 = .ok (.iconst 1, 1) := by decide +kernel
theorem dX12_child_4 : decode cX12_child 4 = .ok (.iadd, 1) := by decide +kernel
theorem dX12_child_5 : decode cX12_child 5 = .ok (.istore 4, 2) := by decide +kernel
theorem dX12_child_7 : decode cX12_child 7 = .ok (.iload 4, 2) := by decide +kernel
theorem dX12_child_9 : decode cX12_child 9 = .ok (.aload_n 0, 1) := by decide +kernel
theorem dX12_child_10 : decode cX12_child 10 = .ok (.getfield 322, 3) := by decide +kernel
theorem dX12_child_13 : decode cX12_child 13 = .ok (.if_icmp .ge 33, 3) := by decide +kernel
theorem dX12_child_16 : decode cX12_child 16 = .ok (.aload_n 0, 1) := by decide +kernel
theorem dX12_child_17 : decode cX12_child 17 = .ok (.getfield 81, 3) := by decide +kernel
theorem dX12_child_20 : decode cX12_child 20 = .ok (.iload 4, 2) := by decide +kernel
theorem dX12_child_22 : decode cX12_child 22 = .ok (.iaload, 1) := by decide +kernel
theorem dX12_child_23 : decode cX12_child 23 = .ok (.iload_n 1, 1) := by decide +kernel
theorem dX12_child_24 : decode cX12_child 24 = .ok (.if_icmp .eq 6, 3) := by decide +kernel
theorem dX12_child_27 : decode cX12_child 27 = .ok (.goto 13, 3) := by decide +kernel
theorem dX12_child_30 : decode cX12_child 30 = .ok (.iload_n 3, 1) := by decide +kernel
theorem dX12_child_31 : decode cX12_child 31 = .ok (.ifCond .ne 6, 3) := by decide +kernel
theorem dX12_child_34 : decode cX12_child 34 = .ok (.iload 4, 2) := by decide +kernel
theorem dX12_child_36 : decode cX12_child 36 = .ok (.ireturn, 1) := by decide +kernel
theorem dX12_child_37 : decode cX12_child 37 = .ok (.iinc 3 (-1), 3) := by decide +kernel
theorem dX12_child_40 : decode cX12_child 40 = .ok (.iinc 4 1, 3) := by decide +kernel
theorem dX12_child_43 : decode cX12_child 43 = .ok (.goto (-36), 3) := by decide +kernel
theorem dX12_child_46 : decode cX12_child 46 = .ok (.iconst (-1), 1) := by decide +kernel
theorem dX12_child_47 : decode cX12_child 47 = .ok (.ireturn, 1) := by decide +kernel
theorem dX12_positionOf_0 : decode cX12_positionOf 0 = .ok (.iconst 1, 1) := by decide +kernel
theorem dX12_positionOf_1 : decode cX12_positionOf 1 = .ok (.istore_n 2, 1) := by decide +kernel
theorem dX12_positionOf_2 : decode cX12_positionOf 2 = .ok (.aload_n 0, 1) := by decide +kernel
theorem dX12_positionOf_3 : decode cX12_positionOf 3 = .ok (.getfield 81, 3) := by decide +kernel
theorem dX12_positionOf_6 : decode cX12_positionOf 6 = .ok (.iload_n 1, 1) := by decide +kernel
theorem dX12_positionOf_7 : decode cX12_positionOf 7 = .ok (.iaload, 1) := by decide +kernel
theorem dX12_positionOf_8 : decode cX12_positionOf 8 = .ok (.iconst 1, 1) := by decide +kernel
theorem dX12_positionOf_9 : decode cX12_positionOf 9 = .ok (.iadd, 1) := by decide +kernel
theorem dX12_positionOf_10 : decode cX12_positionOf 10 = .ok (.istore_n 3, 1) := by decide +kernel
theorem dX12_positionOf_11 : decode cX12_positionOf 11 = .ok (.iload_n 3, 1) := by decide +kernel
theorem dX12_positionOf_12 : decode cX12_positionOf 12 = .ok (.iload_n 1, 1) := by decide +kernel
