theorem dX3_init_0 : decode cX3_init 0 = .ok (.aload_n 0, 1) := by decide +kernel
theorem dX3_init_1 : decode cX3_init 1 = .ok (.invokespecial 3, 3) := by decide +kernel
theorem dX3_init_4 : decode cX3_init 4 = .ok (.aload_n 0, 1) := by decide +kernel
theorem dX3_init_5 : decode cX3_init 5 = .ok (.bipush 64, 2) := by decide +kernel
theorem dX3_init_7 : decode cX3_init 7 = .ok (.newarray .int, 2) := by decide +kernel
theorem dX3_init_9 : decode cX3_init 9 = .ok (.putfield 9, 3) := by decide +kernel
theorem dX3_init_12 : decode cX3_init 12 = .ok (.aload_n 0, 1) := by decide +kernel
theorem dX3_init_13 : decode cX3_init 13 = .ok (.sipush 384, 3) := by decide +kernel
theorem dX3_init_16 : decode cX3_init 16 = .ok (.newarray .int, 2) := by decide +kernel
theorem dX3_init_18 : decode cX3_init 18 = .ok (.putfield 15, 3) := by decide +kernel
theorem dX3_init_21 : decode cX3_init 21 = .ok (.return_, 1) := by decide +kernel
theorem dX3_find_0 : decode cX3_find 0 = .ok (.aload_n 0, 1) := by decide +kernel
theorem dX3_find_1 : decode cX3_find 1 = .ok (.getfield 9, 3) := by decide +kernel
theorem dX3_find_4 : decode cX3_find 4 = .ok (.iconst 0, 1) := by decide +kernel
theorem dX3_find_5 : decode cX3_find 5 = .ok (.invokestatic 18, 3) := by decide +kernel
theorem dX3_find_8 : decode cX3_find 8 = .ok (.iconst 1, 1) := by decide +kernel
theorem dX3_find_9 : decode cX3_find 9 = .ok (.istore_n 2, 1) := by decide +kernel
theorem dX3_find_10 : decode cX3_find 10 = .ok (.iconst 0, 1) := by decide +kernel
theorem dX3_find_11 : decode cX3_find 11 = .ok (.istore_n 3, 1) := by decide +kernel
theorem dX3_find_12 : decode cX3_find 12 = .ok (.iload_n 3, 1) := by decide +kernel
theorem dX3_find_13 : decode cX3_find 13 = .ok (.sipush 512, 3) := by decide +kernel
theorem dX3_find_16 : decode cX3_find 16 = .ok (.if_icmp .gt 72, 3) := by decide +kernel
theorem dX3_find_19 : decode cX3_find 19 = .ok (.iload_n 2, 1) := by decide +kernel
theorem dX3_find_20 : decode cX3_find 20 = .ok (.ifCond .eq 68, 3) := by decide +kernel
theorem dX3_find_23 : decode cX3_find 23 = .ok (.iconst 0, 1) := by decide +kernel
theorem dX3_find_24 : decode cX3_find 24 = .ok (.istore_n 2, 1) := by decide +kernel
theorem dX3_find_25 : decode cX3_find 25 = .ok (.iconst 0, 1) := by decide +kernel
theorem dX3_find_26 : decode cX3_find 26 = .ok (.istore 4, 2) := by decide +kernel
theorem dX3_find_28 : decode cX3_find 28 = .ok (.iload 4, 2) := by decide +kernel
theorem dX3_find_30 : decode cX3_find 30 = .ok (.aload_n 1, 1) := by decide +kernel
theorem dX3_find_31 : decode cX3_find 31 = .ok (.getfield 24, 3) := by decide +kernel
theorem dX3_find_34 : decode cX3_find 34 = .ok (.if_icmp .ge 48, 3) := by decide +kernel
theorem dX3_find_37 : decode cX3_find 37 = .ok (.aload_n 0, 1) := by decide +kernel
theorem dX3_find_38 : decode cX3_find 38 = .ok (.aload_n 1, 1) := by decide +kernel
theorem dX3_find_39 : decode cX3_find 39 = .ok (.iload 4, 2) := by decide +kernel
theorem dX3_find_41 : decode cX3_find 41 = .ok (.invokevirtual 30, 3) := by decide +kernel
theorem dX3_find_44 : decode cX3_find 44 = .ok (.aload_n 0, 1) := by decide +kernel
theorem dX3_find_45 : decode cX3_find 45 = .ok (.getfield 15, 3) := by decide +kernel
theorem dX3_find_48 : decode cX3_find 48 = .ok (.bipush 32, 2) := by decide +kernel
theorem dX3_find_50 : decode cX3_find 50 = .ok (.iload 4, 2) := by decide +kernel
theorem dX3_find_52 : decode cX3_find 52 = .ok (.imul, 1) := by decide +kernel
theorem dX3_find_53 : decode cX3_find 53 = .ok (.bipush 8, 2) := by decide +kernel
theorem dX3_find_55 : decode cX3_find 55 = .ok (.aload_n 1, 1) := by decide +kernel
theorem dX3_find_56 : decode cX3_find 56 = .ok (.getfield 34, 3) := by decide +kernel
theorem dX3_find_59 : decode cX3_find 59 = .ok (.iload 4, 2) := by decide +kernel
theorem dX3_find_61 : decode cX3_find 61 = .ok (.iaload, 1) := by decide +kernel
theorem dX3_find_62 : decode cX3_find 62 = .ok (.imul, 1) := by decide +kernel
theorem dX3_find_63 : decode cX3_find 63 = .ok (.invokestatic 37, 3) := by decide +kernel
theorem dX3_find_66 : decode cX3_find 66 = .ok (.iload_n 2, 1) := by decide +kernel
theorem dX3_find_67 : decode cX3_find 67 = .ok (.aload_n 0, 1) := by decide +kernel
theorem dX3_find_68 : decode cX3_find 68 = .ok (.aload_n 1, 1) := by decide +kernel
theorem dX3_find_69 : decode cX3_find 69 = .ok (.iload 4, 2) := by decide +kernel
theorem dX3_find_71 : decode cX3_find 71 = .ok (.invokevirtual 41, 3) := by decide +kernel
theorem dX3_find_74 : decode cX3_find 74 = .ok (.ior, 1) := by decide +kernel
theorem dX3_find_75 : decode cX3_find 75 = .ok (.istore_n 2, 1) := by decide +kernel
theorem dX3_find_76 : decode cX3_find 76 = .ok (.iinc 4 1, 3) := by decide +kernel
theorem dX3_find_79 : decode cX3_find 79 = .ok (.goto (-51), 3) := by decide +kernel
theorem dX3_find_82 : decode cX3_find 82 = .ok (.iinc 3 1, 3) := by decide +kernel
theorem dX3_find_85 : decode cX3_find 85 = .ok (.goto (-73), 3) := by decide +kernel
theorem dX3_find_88 : decode cX3_find 88 = .ok (.aload_n 0, 1) := by decide +kernel
theorem dX3_find_89 : decode cX3_find 89 = .ok (.aload_n 1, 1) := by decide +kernel
theorem dX3_find_90 : decode cX3_find 90 = .ok (.invokevirtual 45, 3) := by decide +kernel
theorem dX3_find_93 : decode cX3_find 93 = .ok (.return_, 1) := by decide +kernel
theorem dX3_close_0 : decode cX3_close 0 = .ok (.iconst 0, 1) := by decide +kernel
theorem dX3_close_1 : decode cX3_close 1 = .ok (.istore_n 3, 1) := by decide +kernel
theorem dX3_close_2 : decode cX3_close 2 = .ok (.iload_n 3, 1) := by decide +kernel
theorem dX3_close_3 : decode cX3_close 3 = .ok (.iload_n 2, 1) := by decide +kernel
theorem dX3_close_4 : decode cX3_close 4 = .ok (.if_icmp .ge 60, 3) := by decide +kernel
theorem dX3_close_7 : decode cX3_close 7 = .ok (.aload_n 0, 1) := by decide +kernel
theorem dX3_close_8 : decode cX3_close 8 = .ok (.iload_n 1, 1) := by decide +kernel
theorem dX3_close_9 : decode cX3_close 9 = .ok (.iload_n 3, 1) := by decide +kernel
theorem dX3_close_10 : decode cX3_close 10 = .ok (.iadd, 1) := by decide +kernel
theorem dX3_close_11 : decode cX3_close 11 = .ok (.iaload, 1) := by decide +kernel
theorem dX3_close_12 : decode cX3_close 12 = .ok (.istore 4, 2) := by decide +kernel
theorem dX3_close_14 : decode cX3_close 14 = .ok (.iconst 0, 1) := by decide +kernel
theorem dX3_close_15 : decode cX3_close 15 = .ok (.istore 5, 2) := by decide +kernel
theorem dX3_close_17 : decode cX3_close 17 = .ok (.iload 5, 2) := by decide +kernel
theorem dX3_close_19 : decode cX3_close 19 = .ok (.iload_n 2, 1) := by decide +kernel
theorem dX3_close_20 : decode cX3_close 20 = .ok (.if_icmp .ge 38, 3) := by decide +kernel
theorem dX3_close_23 : decode cX3_close 23 = .ok (.iload 4, 2) := by decide +kernel
theorem dX3_close_25 : decode cX3_close 25 = .ok (.ifCond .eq 33, 3) := by decide +kernel
theorem dX3_close_28 : decode cX3_close 28 = .ok (.aload_n 0, 1) := by decide +kernel
theorem dX3_close_29 : decode cX3_close 29 = .ok (.iload_n 1, 1) := by decide +kernel
theorem dX3_close_30 : decode cX3_close 30 = .ok (.iload 5, 2) := by decide +kernel
theorem dX3_close_32 : decode cX3_close 32 = .ok (.iadd, 1) := by decide +kernel
theorem dX3_close_33 : decode cX3_close 33 = .ok (.iaload, 1) := by decide +kernel
theorem dX3_close_34 : decode cX3_close 34 = .ok (.iload_n 3, 1) := by decide +kernel
theorem dX3_close_35 : decode cX3_close 35 = .ok (.iushr, 1) := by decide +kernel
theorem dX3_close_36 : decode cX3_close 36 = .ok (.iconst 1, 1) := by decide +kernel
theorem dX3_close_37 : decode cX3_close 37 = .ok (.iand, 1) := by decide +kernel
theorem dX3_close_38 : decode cX3_close 38 = .ok (.ifCond .eq 14, 3) := by decide +kernel
theorem dX3_close_41 : decode cX3_close 41 = .ok (.aload_n 0, 1) := by decide +kernel
theorem dX3_close_42 : decode cX3_close 42 = .ok (.iload_n 1, 1) := by decide +kernel
theorem dX3_close_43 : decode cX3_close 43 = .ok (.iload 5, 2) := by decide +kernel
theorem dX3_close_45 : decode cX3_close 45 = .ok (.iadd, 1) := by decide +kernel
theorem dX3_close_46 : decode cX3_close 46 = .ok (.dup2, 1) := by decide +kernel
theorem dX3_close_47 : decode cX3_close 47 = .ok (.iaload, 1) := by decide +kernel
theorem dX3_close_48 : decode cX3_close 48 = .ok (.iload 4, 2) := by decide +kernel
theorem dX3_close_50 : decode cX3_close 50 = .ok (.ior, 1) := by decide +kernel
theorem dX3_close_51 : decode cX3_close 51 = .ok (.iastore, 1) := by decide +kernel
theorem dX3_close_52 : decode cX3_close 52 = .ok (.iinc 5 1, 3) := by decide +kernel
theorem dX3_close_55 : decode cX3_close 55 = .ok (.goto (-38), 3) := by decide +kernel
theorem dX3_close_58 : decode cX3_close 58 = .ok (.iinc 3 1, 3) := by decide +kernel
theorem dX3_close_61 : decode cX3_close 61 = .ok (.goto (-59), 3) := by decide +kernel
theorem dX3_close_64 : decode cX3_close 64 = .ok (.return_, 1) := by decide +kernel
theorem dX3_layRows_0 : decode cX3_layRows 0 = .ok (.iconst 0, 1) := by decide +kernel
theorem dX3_layRows_1 : decode cX3_layRows 1 = .ok (.istore_n 3, 1) := by decide +kernel
theorem dX3_layRows_2 : decode cX3_layRows 2 = .ok (.iload_n 3, 1) := by decide +kernel
theorem dX3_layRows_3 : decode cX3_layRows 3 = .ok (.bipush 8, 2) := by decide +kernel
theorem dX3_layRows_5 : decode cX3_layRows 5 = .ok (.aload_n 1, 1) := by decide +kernel
theorem dX3_layRows_6 : decode cX3_layRows 6 = .ok (.getfield 34, 3) := by decide +kernel
theorem dX3_layRows_9 : decode cX3_layRows 9 = .ok (.iload_n 2, 1) := by decide +kernel
theorem dX3_layRows_10 : decode cX3_layRows 10 = .ok (.iaload, 1) := by decide +kernel
theorem dX3_layRows_11 : decode cX3_layRows 11 = .ok (.imul, 1) := by decide +kernel
theorem dX3_layRows_12 : decode cX3_layRows 12 = .ok (.if_icmp .ge 68, 3) := by decide +kernel
theorem dX3_layRows_15 : decode cX3_layRows 15 = .ok (.iload_n 3, 1) := by decide +kernel
theorem dX3_layRows_16 : decode cX3_layRows 16 = .ok (.bipush 8, 2) := by decide +kernel
theorem dX3_layRows_18 : decode cX3_layRows 18 = .ok (.idiv, 1) := by decide +kernel
theorem dX3_layRows_19 : decode cX3_layRows 19 = .ok (.istore 4, 2) := by decide +kernel
theorem dX3_layRows_21 : decode cX3_layRows 21 = .ok (.aload_n 0, 1) := by decide +kernel
theorem dX3_layRows_22 : decode cX3_layRows 22 = .ok (.getfield 9, 3) := by decide +kernel
theorem dX3_layRows_25 : decode cX3_layRows 25 = .ok (.bipush 8, 2) := by decide +kernel
theorem dX3_layRows_27 : decode cX3_layRows 27 = .ok (.aload_n 1, 1) := by decide +kernel
theorem dX3_layRows_28 : decode cX3_layRows 28 = .ok (.iload_n 2, 1) := by decide +kernel
theorem dX3_layRows_29 : decode cX3_layRows 29 = .ok (.iload 4, 2) := by decide +kernel
theorem dX3_layRows_31 : decode cX3_layRows 31 = .ok (.invokevirtual 49, 3) := by decide +kernel
theorem dX3_layRows_34 : decode cX3_layRows 34 = .ok (.imul, 1) := by decide +kernel
theorem dX3_layRows_35 : decode cX3_layRows 35 = .ok (.iload_n 3, 1) := by decide +kernel
theorem dX3_layRows_36 : decode cX3_layRows 36 = .ok (.bipush 8, 2) := by decide +kernel
theorem dX3_layRows_38 : decode cX3_layRows 38 = .ok (.irem, 1) := by decide +kernel
theorem dX3_layRows_39 : decode cX3_layRows 39 = .ok (.iadd, 1) := by decide +kernel
theorem dX3_layRows_40 : decode cX3_layRows 40 = .ok (.iaload, 1) := by decide +kernel
theorem dX3_layRows_41 : decode cX3_layRows 41 = .ok (.istore 5, 2) := by decide +kernel
theorem dX3_layRows_43 : decode cX3_layRows 43 = .ok (.aload_n 0, 1) := by decide +kernel
theorem dX3_layRows_44 : decode cX3_layRows 44 = .ok (.getfield 15, 3) := by decide +kernel
theorem dX3_layRows_47 : decode cX3_layRows 47 = .ok (.bipush 32, 2) := by decide +kernel
theorem dX3_layRows_49 : decode cX3_layRows 49 = .ok (.iload_n 2, 1) := by decide +kernel
theorem dX3_layRows_50 : decode cX3_layRows 50 = .ok (.imul, 1) := by decide +kernel
theorem dX3_layRows_51 : decode cX3_layRows 51 = .ok (.iload_n 3, 1) := by decide +kernel
theorem dX3_layRows_52 : decode cX3_layRows 52 = .ok (.iadd, 1) := by decide +kernel
theorem dX3_layRows_53 : decode cX3_layRows 53 = .ok (.aload_n 1, 1) := by decide +kernel
theorem dX3_layRows_54 : decode cX3_layRows 54 = .ok (.getfield 53, 3) := by decide +kernel
theorem dX3_layRows_57 : decode cX3_layRows 57 = .ok (.bipush 32, 2) := by decide +kernel
theorem dX3_layRows_59 : decode cX3_layRows 59 = .ok (.iload_n 2, 1) := by decide +kernel
theorem dX3_layRows_60 : decode cX3_layRows 60 = .ok (.imul, 1) := by decide +kernel
theorem dX3_layRows_61 : decode cX3_layRows 61 = .ok (.iload_n 3, 1) := by decide +kernel
theorem dX3_layRows_62 : decode cX3_layRows 62 = .ok (.iadd, 1) := by decide +kernel
theorem dX3_layRows_63 : decode cX3_layRows 63 = .ok (.iaload, 1) := by decide +kernel
theorem dX3_layRows_64 : decode cX3_layRows 64 = .ok (.iload 5, 2) := by decide +kernel
theorem dX3_layRows_66 : decode cX3_layRows 66 = .ok (.bipush 8, 2) := by decide +kernel
theorem dX3_layRows_68 : decode cX3_layRows 68 = .ok (.iload 4, 2) := by decide +kernel
theorem dX3_layRows_70 : decode cX3_layRows 70 = .ok (.imul, 1) := by decide +kernel
theorem dX3_layRows_71 : decode cX3_layRows 71 = .ok (.ishl, 1) := by decide +kernel
theorem dX3_layRows_72 : decode cX3_layRows 72 = .ok (.ior, 1) := by decide +kernel
theorem dX3_layRows_73 : decode cX3_layRows 73 = .ok (.iastore, 1) := by decide +kernel
theorem dX3_layRows_74 : decode cX3_layRows 74 = .ok (.iinc 3 1, 3) := by decide +kernel
theorem dX3_layRows_77 : decode cX3_layRows 77 = .ok (.goto (-75), 3) := by decide +kernel
theorem dX3_layRows_80 : decode cX3_layRows 80 = .ok (.return_, 1) := by decide +kernel
theorem dX3_gather_0 : decode cX3_gather 0 = .ok (.iconst 0, 1) := by decide +kernel
theorem dX3_gather_1 : decode cX3_gather 1 = .ok (.istore_n 3, 1) := by decide +kernel
theorem dX3_gather_2 : decode cX3_gather 2 = .ok (.iconst 0, 1) := by decide +kernel
theorem dX3_gather_3 : decode cX3_gather 3 = .ok (.istore 4, 2) := by decide +kernel
theorem dX3_gather_5 : decode cX3_gather 5 = .ok (.iload 4, 2) := by decide +kernel
theorem dX3_gather_7 : decode cX3_gather 7 = .ok (.bipush 8, 2) := by decide +kernel
theorem dX3_gather_9 : decode cX3_gather 9 = .ok (.aload_n 1, 1) := by decide +kernel
theorem dX3_gather_10 : decode cX3_gather 10 = .ok (.getfield 34, 3) := by decide +kernel
theorem dX3_gather_13 : decode cX3_gather 13 = .ok (.iload_n 2, 1) := by decide +kernel
theorem dX3_gather_14 : decode cX3_gather 14 = .ok (.iaload, 1) := by decide +kernel
theorem dX3_gather_15 : decode cX3_gather 15 = .ok (.imul, 1) := by decide +kernel
theorem dX3_gather_16 : decode cX3_gather 16 = .ok (.if_icmp .ge 95, 3) := by decide +kernel
theorem dX3_gather_19 : decode cX3_gather 19 = .ok (.iload 4, 2) := by decide +kernel
theorem dX3_gather_21 : decode cX3_gather 21 = .ok (.bipush 8, 2) := by decide +kernel
theorem dX3_gather_23 : decode cX3_gather 23 = .ok (.idiv, 1) := by decide +kernel
theorem dX3_gather_24 : decode cX3_gather 24 = .ok (.istore 5, 2) := by decide +kernel
theorem dX3_gather_26 : decode cX3_gather 26 = .ok (.bipush 8, 2) := by decide +kernel
theorem dX3_gather_28 : decode cX3_gather 28 = .ok (.aload_n 1, 1) := by decide +kernel
theorem dX3_gather_29 : decode cX3_gather 29 = .ok (.iload_n 2, 1) := by decide +kernel
theorem dX3_gather_30 : decode cX3_gather 30 = .ok (.iload 5, 2) := by decide +kernel
theorem dX3_gather_32 : decode cX3_gather 32 = .ok (.invokevirtual 49, 3) := by decide +kernel
theorem dX3_gather_35 : decode cX3_gather 35 = .ok (.imul, 1) := by decide +kernel
theorem dX3_gather_36 : decode cX3_gather 36 = .ok (.iload 4, 2) := by decide +kernel
theorem dX3_gather_38 : decode cX3_gather 38 = .ok (.bipush 8, 2) := by decide +kernel
theorem dX3_gather_40 : decode cX3_gather 40 = .ok (.irem, 1) := by decide +kernel
theorem dX3_gather_41 : decode cX3_gather 41 = .ok (.iadd, 1) := by decide +kernel
theorem dX3_gather_42 : decode cX3_gather 42 = .ok (.istore 6, 2) := by decide +kernel
theorem dX3_gather_44 : decode cX3_gather 44 = .ok (.aload_n 0, 1) := by decide +kernel
theorem dX3_gather_45 : decode cX3_gather 45 = .ok (.getfield 9, 3) := by decide +kernel
theorem dX3_gather_48 : decode cX3_gather 48 = .ok (.iload 6, 2) := by decide +kernel
theorem dX3_gather_50 : decode cX3_gather 50 = .ok (.iaload, 1) := by decide +kernel
theorem dX3_gather_51 : decode cX3_gather 51 = .ok (.aload_n 0, 1) := by decide +kernel
theorem dX3_gather_52 : decode cX3_gather 52 = .ok (.getfield 15, 3) := by decide +kernel
theorem dX3_gather_55 : decode cX3_gather 55 = .ok (.bipush 32, 2) := by decide +kernel
theorem dX3_gather_57 : decode cX3_gather 57 = .ok (.iload_n 2, 1) := by decide +kernel
theorem dX3_gather_58 : decode cX3_gather 58 = .ok (.imul, 1) := by decide +kernel
theorem dX3_gather_59 : decode cX3_gather 59 = .ok (.iload 4, 2) := by decide +kernel
theorem dX3_gather_61 : decode cX3_gather 61 = .ok (.iadd, 1) := by decide +kernel
theorem dX3_gather_62 : decode cX3_gather 62 = .ok (.iaload, 1) := by decide +kernel
theorem dX3_gather_63 : decode cX3_gather 63 = .ok (.bipush 8, 2) := by decide +kernel
theorem dX3_gather_65 : decode cX3_gather 65 = .ok (.iload 5, 2) := by decide +kernel
theorem dX3_gather_67 : decode cX3_gather 67 = .ok (.imul, 1) := by decide +kernel
theorem dX3_gather_68 : decode cX3_gather 68 = .ok (.iushr, 1) := by decide +kernel
theorem dX3_gather_69 : decode cX3_gather 69 = .ok (.sipush 255, 3) := by decide +kernel
theorem dX3_gather_72 : decode cX3_gather 72 = .ok (.iand, 1) := by decide +kernel
theorem dX3_gather_73 : decode cX3_gather 73 = .ok (.ior, 1) := by decide +kernel
theorem dX3_gather_74 : decode cX3_gather 74 = .ok (.istore 7, 2) := by decide +kernel
theorem dX3_gather_76 : decode cX3_gather 76 = .ok (.iload_n 3, 1) := by decide +kernel
theorem dX3_gather_77 : decode cX3_gather 77 = .ok (.iload 7, 2) := by decide +kernel
theorem dX3_gather_79 : decode cX3_gather 79 = .ok (.aload_n 0, 1) := by decide +kernel
theorem dX3_gather_80 : decode cX3_gather 80 = .ok (.getfield 9, 3) := by decide +kernel
theorem dX3_gather_83 : decode cX3_gather 83 = .ok (.iload 6, 2) := by decide +kernel
theorem dX3_gather_85 : decode cX3_gather 85 = .ok (.iaload, 1) := by decide +kernel
theorem dX3_gather_86 : decode cX3_gather 86 = .ok (.if_icmp .eq 7, 3) := by decide +kernel
theorem dX3_gather_89 : decode cX3_gather 89 = .ok (.iconst 1, 1) := by decide +kernel
theorem dX3_gather_90 : decode cX3_gather 90 = .ok (.goto 4, 3) := by decide +kernel
theorem dX3_gather_93 : decode cX3_gather 93 = .ok (.iconst 0, 1) := by decide +kernel
theorem dX3_gather_94 : decode cX3_gather 94 = .ok (.ior, 1) := by decide +kernel
theorem dX3_gather_95 : decode cX3_gather 95 = .ok (.istore_n 3, 1) := by decide +kernel
theorem dX3_gather_96 : decode cX3_gather 96 = .ok (.aload_n 0, 1) := by decide +kernel
theorem dX3_gather_97 : decode cX3_gather 97 = .ok (.getfield 9, 3) := by decide +kernel
theorem dX3_gather_100 : decode cX3_gather 100 = .ok (.iload 6, 2) := by decide +kernel
theorem dX3_gather_102 : decode cX3_gather 102 = .ok (.iload 7, 2) := by decide +kernel
theorem dX3_gather_104 : decode cX3_gather 104 = .ok (.iastore, 1) := by decide +kernel
theorem dX3_gather_105 : decode cX3_gather 105 = .ok (.iinc 4 1, 3) := by decide +kernel
theorem dX3_gather_108 : decode cX3_gather 108 = .ok (.goto (-103), 3) := by decide +kernel
theorem dX3_gather_111 : decode cX3_gather 111 = .ok (.iload_n 3, 1) := by decide +kernel
theorem dX3_gather_112 : decode cX3_gather 112 = .ok (.ireturn, 1) := by decide +kernel
theorem dX3_firstRound_0 : decode cX3_firstRound 0 = .ok (.iconst 0, 1) := by decide +kernel
theorem dX3_firstRound_1 : decode cX3_firstRound 1 = .ok (.istore_n 3, 1) := by decide +kernel
theorem dX3_firstRound_2 : decode cX3_firstRound 2 = .ok (.iload_n 3, 1) := by decide +kernel
theorem dX3_firstRound_3 : decode cX3_firstRound 3 = .ok (.iload_n 2, 1) := by decide +kernel
theorem dX3_firstRound_4 : decode cX3_firstRound 4 = .ok (.if_icmp .ge 23, 3) := by decide +kernel
theorem dX3_firstRound_7 : decode cX3_firstRound 7 = .ok (.aload_n 0, 1) := by decide +kernel
theorem dX3_firstRound_8 : decode cX3_firstRound 8 = .ok (.iload_n 1, 1) := by decide +kernel
theorem dX3_firstRound_9 : decode cX3_firstRound 9 = .ok (.iload_n 3, 1) := by decide +kernel
theorem dX3_firstRound_10 : decode cX3_firstRound 10 = .ok (.iadd, 1) := by decide +kernel
theorem dX3_firstRound_11 : decode cX3_firstRound 11 = .ok (.iaload, 1) := by decide +kernel
theorem dX3_firstRound_12 : decode cX3_firstRound 12 = .ok (.iload_n 3, 1) := by decide +kernel
theorem dX3_firstRound_13 : decode cX3_firstRound 13 = .ok (.iushr, 1) := by decide +kernel
theorem dX3_firstRound_14 : decode cX3_firstRound 14 = .ok (.iconst 1, 1) := by decide +kernel
theorem dX3_firstRound_15 : decode cX3_firstRound 15 = .ok (.iand, 1) := by decide +kernel
theorem dX3_firstRound_16 : decode cX3_firstRound 16 = .ok (.ifCond .eq 5, 3) := by decide +kernel
theorem dX3_firstRound_19 : decode cX3_firstRound 19 = .ok (.iload_n 3, 1) := by decide +kernel
theorem dX3_firstRound_20 : decode cX3_firstRound 20 = .ok (.ireturn, 1) := by decide +kernel
theorem dX3_firstRound_21 : decode cX3_firstRound 21 = .ok (.iinc 3 1, 3) := by decide +kernel
theorem dX3_firstRound_24 : decode cX3_firstRound 24 = .ok (.goto (-22), 3) := by decide +kernel
theorem dX3_firstRound_27 : decode cX3_firstRound 27 = .ok (.iconst (-1), 1) := by decide +kernel
theorem dX3_firstRound_28 : decode cX3_firstRound 28 = .ok (.ireturn, 1) := by decide +kernel
theorem dX3_findCircle_0 : decode cX3_findCircle 0 = .ok (.aload_n 0, 1) := by decide +kernel
theorem dX3_findCircle_1 : decode cX3_findCircle 1 = .ok (.iconst (-1), 1) := by decide +kernel
theorem dX3_findCircle_2 : decode cX3_findCircle 2 = .ok (.putfield 56, 3) := by decide +kernel
theorem dX3_findCircle_5 : decode cX3_findCircle 5 = .ok (.iconst 0, 1) := by decide +kernel
theorem dX3_findCircle_6 : decode cX3_findCircle 6 = .ok (.istore_n 2, 1) := by decide +kernel
theorem dX3_findCircle_7 : decode cX3_findCircle 7 = .ok (.iload_n 2, 1) := by decide +kernel
theorem dX3_findCircle_8 : decode cX3_findCircle 8 = .ok (.aload_n 1, 1) := by decide +kernel
theorem dX3_findCircle_9 : decode cX3_findCircle 9 = .ok (.getfield 24, 3) := by decide +kernel
theorem dX3_findCircle_12 : decode cX3_findCircle 12 = .ok (.if_icmp .ge 46, 3) := by decide +kernel
theorem dX3_findCircle_15 : decode cX3_findCircle 15 = .ok (.aload_n 0, 1) := by decide +kernel
theorem dX3_findCircle_16 : decode cX3_findCircle 16 = .ok (.getfield 56, 3) := by decide +kernel
theorem dX3_findCircle_19 : decode cX3_findCircle 19 = .ok (.iconst (-1), 1) := by decide +kernel
theorem dX3_findCircle_20 : decode cX3_findCircle 20 = .ok (.if_icmp .ne 38, 3) := by decide +kernel
theorem dX3_findCircle_23 : decode cX3_findCircle 23 = .ok (.aload_n 0, 1) := by decide +kernel
theorem dX3_findCircle_24 : decode cX3_findCircle 24 = .ok (.iload_n 2, 1) := by decide +kernel
theorem dX3_findCircle_25 : decode cX3_findCircle 25 = .ok (.putfield 59, 3) := by decide +kernel
theorem dX3_findCircle_28 : decode cX3_findCircle 28 = .ok (.aload_n 0, 1) := by decide +kernel
theorem dX3_findCircle_29 : decode cX3_findCircle 29 = .ok (.aload_n 0, 1) := by decide +kernel
theorem dX3_findCircle_30 : decode cX3_findCircle 30 = .ok (.getfield 15, 3) := by decide +kernel
theorem dX3_findCircle_33 : decode cX3_findCircle 33 = .ok (.bipush 32, 2) := by decide +kernel
theorem dX3_findCircle_35 : decode cX3_findCircle 35 = .ok (.iload_n 2, 1) := by decide +kernel
theorem dX3_findCircle_36 : decode cX3_findCircle 36 = .ok (.imul, 1) := by decide +kernel
theorem dX3_findCircle_37 : decode cX3_findCircle 37 = .ok (.bipush 8, 2) := by decide +kernel
theorem dX3_findCircle_39 : decode cX3_findCircle 39 = .ok (.aload_n 1, 1) := by decide +kernel
theorem dX3_findCircle_40 : decode cX3_findCircle 40 = .ok (.getfield 34, 3) := by decide +kernel
theorem dX3_findCircle_43 : decode cX3_findCircle 43 = .ok (.iload_n 2, 1) := by decide +kernel
theorem dX3_findCircle_44 : decode cX3_findCircle 44 = .ok (.iaload, 1) := by decide +kernel
theorem dX3_findCircle_45 : decode cX3_findCircle 45 = .ok (.imul, 1) := by decide +kernel
theorem dX3_findCircle_46 : decode cX3_findCircle 46 = .ok (.invokestatic 62, 3) := by decide +kernel
theorem dX3_findCircle_49 : decode cX3_findCircle 49 = .ok (.putfield 56, 3) := by decide +kernel
theorem dX3_findCircle_52 : decode cX3_findCircle 52 = .ok (.iinc 2 1, 3) := by decide +kernel
theorem dX3_findCircle_55 : decode cX3_findCircle 55 = .ok (.goto (-48), 3) := by decide +kernel
theorem dX3_findCircle_58 : decode cX3_findCircle 58 = .ok (.return_, 1) := by decide +kernel
theorem dX4_init_0 : decode cX4_init 0 = .ok (.aload_n 0, 1) := by decide +kernel
theorem dX4_init_1 : decode cX4_init 1 = .ok (.invokespecial 3, 3) := by decide +kernel
theorem dX4_init_4 : decode cX4_init 4 = .ok (.aload_n 0, 1) := by decide +kernel
theorem dX4_init_5 : decode cX4_init 5 = .ok (.sipush 320, 3) := by decide +kernel
theorem dX4_init_8 : decode cX4_init 8 = .ok (.newarray .int, 2) := by decide +kernel
theorem dX4_init_10 : decode cX4_init 10 = .ok (.putfield 9, 3) := by decide +kernel
theorem dX4_init_13 : decode cX4_init 13 = .ok (.aload_n 0, 1) := by decide +kernel
theorem dX4_init_14 : decode cX4_init 14 = .ok (.sipush 321, 3) := by decide +kernel
theorem dX4_init_17 : decode cX4_init 17 = .ok (.newarray .int, 2) := by decide +kernel
theorem dX4_init_19 : decode cX4_init 19 = .ok (.putfield 15, 3) := by decide +kernel
theorem dX4_init_22 : decode cX4_init 22 = .ok (.aload_n 0, 1) := by decide +kernel
theorem dX4_init_23 : decode cX4_init 23 = .ok (.sipush 320, 3) := by decide +kernel
theorem dX4_init_26 : decode cX4_init 26 = .ok (.newarray .int, 2) := by decide +kernel
theorem dX4_init_28 : decode cX4_init 28 = .ok (.putfield 18, 3) := by decide +kernel
theorem dX4_init_31 : decode cX4_init 31 = .ok (.aload_n 0, 1) := by decide +kernel
theorem dX4_init_32 : decode cX4_init 32 = .ok (.sipush 320, 3) := by decide +kernel
theorem dX4_init_35 : decode cX4_init 35 = .ok (.newarray .boolean, 2) := by decide +kernel
theorem dX4_init_37 : decode cX4_init 37 = .ok (.putfield 21, 3) := by decide +kernel
theorem dX4_init_40 : decode cX4_init 40 = .ok (.aload_n 0, 1) := by decide +kernel
theorem dX4_init_41 : decode cX4_init 41 = .ok (.sipush 320, 3) := by decide +kernel
theorem dX4_init_44 : decode cX4_init 44 = .ok (.newarray .int, 2) := by decide +kernel
theorem dX4_init_46 : decode cX4_init 46 = .ok (.putfield 25, 3) := by decide +kernel
theorem dX4_init_49 : decode cX4_init 49 = .ok (.aload_n 0, 1) := by decide +kernel
theorem dX4_init_50 : decode cX4_init 50 = .ok (.sipush 320, 3) := by decide +kernel
theorem dX4_init_53 : decode cX4_init 53 = .ok (.newarray .int, 2) := by decide +kernel
theorem dX4_init_55 : decode cX4_init 55 = .ok (.putfield 28, 3) := by decide +kernel
theorem dX4_init_58 : decode cX4_init 58 = .ok (.aload_n 0, 1) := by decide +kernel
theorem dX4_init_59 : decode cX4_init 59 = .ok (.sipush 320, 3) := by decide +kernel
theorem dX4_init_62 : decode cX4_init 62 = .ok (.newarray .int, 2) := by decide +kernel
theorem dX4_init_64 : decode cX4_init 64 = .ok (.putfield 31, 3) := by decide +kernel
theorem dX4_init_67 : decode cX4_init 67 = .ok (.aload_n 0, 1) := by decide +kernel
theorem dX4_init_68 : decode cX4_init 68 = .ok (.sipush 320, 3) := by decide +kernel
theorem dX4_init_71 : decode cX4_init 71 = .ok (.newarray .int, 2) := by decide +kernel
theorem dX4_init_73 : decode cX4_init 73 = .ok (.putfield 34, 3) := by decide +kernel
theorem dX4_init_76 : decode cX4_init 76 = .ok (.aload_n 0, 1) := by decide +kernel
theorem dX4_init_77 : decode cX4_init 77 = .ok (.sipush 320, 3) := by decide +kernel
theorem dX4_init_80 : decode cX4_init 80 = .ok (.newarray .int, 2) := by decide +kernel
theorem dX4_init_82 : decode cX4_init 82 = .ok (.putfield 37, 3) := by decide +kernel
theorem dX4_init_85 : decode cX4_init 85 = .ok (.aload_n 0, 1) := by decide +kernel
theorem dX4_init_86 : decode cX4_init 86 = .ok (.sipush 320, 3) := by decide +kernel
theorem dX4_init_89 : decode cX4_init 89 = .ok (.newarray .int, 2) := by decide +kernel
theorem dX4_init_91 : decode cX4_init 91 = .ok (.putfield 40, 3) := by decide +kernel
theorem dX4_init_94 : decode cX4_init 94 = .ok (.return_, 1) := by decide +kernel
theorem dX4_size_0 : decode cX4_size 0 = .ok (.aload_n 0, 1) := by decide +kernel
theorem dX4_size_1 : decode cX4_size 1 = .ok (.getfield 15, 3) := by decide +kernel
theorem dX4_size_4 : decode cX4_size 4 = .ok (.iload_n 1, 1) := by decide +kernel
theorem dX4_size_5 : decode cX4_size 5 = .ok (.iconst 1, 1) := by decide +kernel
theorem dX4_size_6 : decode cX4_size 6 = .ok (.iadd, 1) := by decide +kernel
theorem dX4_size_7 : decode cX4_size 7 = .ok (.iaload, 1) := by decide +kernel
theorem dX4_size_8 : decode cX4_size 8 = .ok (.aload_n 0, 1) := by decide +kernel
theorem dX4_size_9 : decode cX4_size 9 = .ok (.getfield 15, 3) := by decide +kernel
theorem dX4_size_12 : decode cX4_size 12 = .ok (.iload_n 1, 1) := by decide +kernel
theorem dX4_size_13 : decode cX4_size 13 = .ok (.iaload, 1) := by decide +kernel
theorem dX4_size_14 : decode cX4_size 14 = .ok (.isub, 1) := by decide +kernel
theorem dX4_size_15 : decode cX4_size 15 = .ok (.ireturn, 1) := by decide +kernel
theorem dX4_first_0 : decode cX4_first 0 = .ok (.aload_n 0, 1) := by decide +kernel
theorem dX4_first_1 : decode cX4_first 1 = .ok (.getfield 9, 3) := by decide +kernel
theorem dX4_first_4 : decode cX4_first 4 = .ok (.aload_n 0, 1) := by decide +kernel
theorem dX4_first_5 : decode cX4_first 5 = .ok (.getfield 15, 3) := by decide +kernel
theorem dX4_first_8 : decode cX4_first 8 = .ok (.iload_n 1, 1) := by decide +kernel
theorem dX4_first_9 : decode cX4_first 9 = .ok (.iaload, 1) := by decide +kernel
theorem dX4_first_10 : decode cX4_first 10 = .ok (.iaload, 1) := by decide +kernel
theorem dX4_first_11 : decode cX4_first 11 = .ok (.ireturn, 1) := by decide +kernel
theorem dX4_member_0 : decode cX4_member 0 = .ok (.aload_n 0, 1) := by decide +kernel
theorem dX4_member_1 : decode cX4_member 1 = .ok (.getfield 9, 3) := by decide +kernel
theorem dX4_member_4 : decode cX4_member 4 = .ok (.aload_n 0, 1) := by decide +kernel
theorem dX4_member_5 : decode cX4_member 5 = .ok (.getfield 15, 3) := by decide +kernel
theorem dX4_member_8 : decode cX4_member 8 = .ok (.iload_n 1, 1) := by decide +kernel
theorem dX4_member_9 : decode cX4_member 9 = .ok (.iaload, 1) := by decide +kernel
theorem dX4_member_10 : decode cX4_member 10 = .ok (.iload_n 2, 1) := by decide +kernel
theorem dX4_member_11 : decode cX4_member 11 = .ok (.iadd, 1) := by decide +kernel
theorem dX4_member_12 : decode cX4_member 12 = .ok (.iaload, 1) := by decide +kernel
theorem dX4_member_13 : decode cX4_member 13 = .ok (.ireturn, 1) := by decide +kernel
theorem dX4_find_0 : decode cX4_find 0 = .ok (.aload_n 0, 1) := by decide +kernel
theorem dX4_find_1 : decode cX4_find 1 = .ok (.aload_n 1, 1) := by decide +kernel
theorem dX4_find_2 : decode cX4_find 2 = .ok (.putfield 43, 3) := by decide +kernel
theorem dX4_find_5 : decode cX4_find 5 = .ok (.aload_n 0, 1) := by decide +kernel
theorem dX4_find_6 : decode cX4_find 6 = .ok (.iconst 0, 1) := by decide +kernel
theorem dX4_find_7 : decode cX4_find 7 = .ok (.putfield 47, 3) := by decide +kernel
theorem dX4_find_10 : decode cX4_find 10 = .ok (.aload_n 0, 1) := by decide +kernel
theorem dX4_find_11 : decode cX4_find 11 = .ok (.iconst 0, 1) := by decide +kernel
theorem dX4_find_12 : decode cX4_find 12 = .ok (.putfield 51, 3) := by decide +kernel
theorem dX4_find_15 : decode cX4_find 15 = .ok (.aload_n 0, 1) := by decide +kernel
theorem dX4_find_16 : decode cX4_find 16 = .ok (.iconst 0, 1) := by decide +kernel
theorem dX4_find_17 : decode cX4_find 17 = .ok (.putfield 54, 3) := by decide +kernel
theorem dX4_find_20 : decode cX4_find 20 = .ok (.aload_n 0, 1) := by decide +kernel
theorem dX4_find_21 : decode cX4_find 21 = .ok (.iconst 0, 1) := by decide +kernel
theorem dX4_find_22 : decode cX4_find 22 = .ok (.putfield 57, 3) := by decide +kernel
theorem dX4_find_25 : decode cX4_find 25 = .ok (.aload_n 0, 1) := by decide +kernel
theorem dX4_find_26 : decode cX4_find 26 = .ok (.getfield 15, 3) := by decide +kernel
theorem dX4_find_29 : decode cX4_find 29 = .ok (.iconst 0, 1) := by decide +kernel
theorem dX4_find_30 : decode cX4_find 30 = .ok (.iconst 0, 1) := by decide +kernel
theorem dX4_find_31 : decode cX4_find 31 = .ok (.iastore, 1) := by decide +kernel
theorem dX4_find_32 : decode cX4_find 32 = .ok (.aload_n 0, 1) := by decide +kernel
theorem dX4_find_33 : decode cX4_find 33 = .ok (.getfield 25, 3) := by decide +kernel
theorem dX4_find_36 : decode cX4_find 36 = .ok (.iconst 0, 1) := by decide +kernel
theorem dX4_find_37 : decode cX4_find 37 = .ok (.invokestatic 60, 3) := by decide +kernel
theorem dX4_find_40 : decode cX4_find 40 = .ok (.aload_n 0, 1) := by decide +kernel
theorem dX4_find_41 : decode cX4_find 41 = .ok (.getfield 18, 3) := by decide +kernel
theorem dX4_find_44 : decode cX4_find 44 = .ok (.iconst (-1), 1) := by decide +kernel
theorem dX4_find_45 : decode cX4_find 45 = .ok (.invokestatic 60, 3) := by decide +kernel
theorem dX4_find_48 : decode cX4_find 48 = .ok (.iconst 0, 1) := by decide +kernel
theorem dX4_find_49 : decode cX4_find 49 = .ok (.istore_n 2, 1) := by decide +kernel
theorem dX4_find_50 : decode cX4_find 50 = .ok (.iload_n 2, 1) := by decide +kernel
theorem dX4_find_51 : decode cX4_find 51 = .ok (.bipush 8, 2) := by decide +kernel
theorem dX4_find_53 : decode cX4_find 53 = .ok (.aload_n 0, 1) := by decide +kernel
theorem dX4_find_54 : decode cX4_find 54 = .ok (.getfield 43, 3) := by decide +kernel
theorem dX4_find_57 : decode cX4_find 57 = .ok (.getfield 66, 3) := by decide +kernel
theorem dX4_find_60 : decode cX4_find 60 = .ok (.imul, 1) := by decide +kernel
theorem dX4_find_61 : decode cX4_find 61 = .ok (.if_icmp .ge 41, 3) := by decide +kernel
theorem dX4_find_64 : decode cX4_find 64 = .ok (.aload_n 0, 1) := by decide +kernel
theorem dX4_find_65 : decode cX4_find 65 = .ok (.getfield 43, 3) := by decide +kernel
theorem dX4_find_68 : decode cX4_find 68 = .ok (.iload_n 2, 1) := by decide +kernel
theorem dX4_find_69 : decode cX4_find 69 = .ok (.bipush 8, 2) := by decide +kernel
theorem dX4_find_71 : decode cX4_find 71 = .ok (.idiv, 1) := by decide +kernel
theorem dX4_find_72 : decode cX4_find 72 = .ok (.iload_n 2, 1) := by decide +kernel
theorem dX4_find_73 : decode cX4_find 73 = .ok (.bipush 8, 2) := by decide +kernel
theorem dX4_find_75 : decode cX4_find 75 = .ok (.irem, 1) := by decide +kernel
theorem dX4_find_76 : decode cX4_find 76 = .ok (.invokevirtual 71, 3) := by decide +kernel
theorem dX4_find_79 : decode cX4_find 79 = .ok (.ifCond .eq 17, 3) := by decide +kernel
theorem dX4_find_82 : decode cX4_find 82 = .ok (.aload_n 0, 1) := by decide +kernel
theorem dX4_find_83 : decode cX4_find 83 = .ok (.getfield 25, 3) := by decide +kernel
theorem dX4_find_86 : decode cX4_find 86 = .ok (.iload_n 2, 1) := by decide +kernel
theorem dX4_find_87 : decode cX4_find 87 = .ok (.iaload, 1) := by decide +kernel
theorem dX4_find_88 : decode cX4_find 88 = .ok (.ifCond .ne 8, 3) := by decide +kernel
theorem dX4_find_91 : decode cX4_find 91 = .ok (.aload_n 0, 1) := by decide +kernel
theorem dX4_find_92 : decode cX4_find 92 = .ok (.iload_n 2, 1) := by decide +kernel
theorem dX4_find_93 : decode cX4_find 93 = .ok (.invokevirtual 75, 3) := by decide +kernel
theorem dX4_find_96 : decode cX4_find 96 = .ok (.iinc 2 1, 3) := by decide +kernel
theorem dX4_find_99 : decode cX4_find 99 = .ok (.goto (-49), 3) := by decide +kernel
theorem dX4_find_102 : decode cX4_find 102 = .ok (.return_, 1) := by decide +kernel
theorem dX4_explore_0 : decode cX4_explore 0 = .ok (.aload_n 0, 1) := by decide +kernel
theorem dX4_explore_1 : decode cX4_explore 1 = .ok (.iconst 0, 1) := by decide +kernel
theorem dX4_explore_2 : decode cX4_explore 2 = .ok (.putfield 79, 3) := by decide +kernel
theorem dX4_explore_5 : decode cX4_explore 5 = .ok (.aload_n 0, 1) := by decide +kernel
theorem dX4_explore_6 : decode cX4_explore 6 = .ok (.iload_n 1, 1) := by decide +kernel
theorem dX4_explore_7 : decode cX4_explore 7 = .ok (.invokevirtual 82, 3) := by decide +kernel
theorem dX4_explore_10 : decode cX4_explore 10 = .ok (.iconst 0, 1) := by decide +kernel
theorem dX4_explore_11 : decode cX4_explore 11 = .ok (.istore_n 2, 1) := by decide +kernel
theorem dX4_explore_12 : decode cX4_explore 12 = .ok (.iload_n 2, 1) := by decide +kernel
theorem dX4_explore_13 : decode cX4_explore 13 = .ok (.sipush 10880, 3) := by decide +kernel
theorem dX4_explore_16 : decode cX4_explore 16 = .ok (.if_icmp .ge 98, 3) := by decide +kernel
theorem dX4_explore_19 : decode cX4_explore 19 = .ok (.aload_n 0, 1) := by decide +kernel
theorem dX4_explore_20 : decode cX4_explore 20 = .ok (.getfield 79, 3) := by decide +kernel
theorem dX4_explore_23 : decode cX4_explore 23 = .ok (.ifCond .le 91, 3) := by decide +kernel
theorem dX4_explore_26 : decode cX4_explore 26 = .ok (.aload_n 0, 1) := by decide +kernel
theorem dX4_explore_27 : decode cX4_explore 27 = .ok (.getfield 34, 3) := by decide +kernel
theorem dX4_explore_30 : decode cX4_explore 30 = .ok (.aload_n 0, 1) := by decide +kernel
theorem dX4_explore_31 : decode cX4_explore 31 = .ok (.getfield 79, 3) := by decide +kernel
theorem dX4_explore_34 : decode cX4_explore 34 = .ok (.iconst 1, 1) := by decide +kernel
theorem dX4_explore_35 : decode cX4_explore 35 = .ok (.isub, 1) := by decide +kernel
theorem dX4_explore_36 : decode cX4_explore 36 = .ok (.iaload, 1) := by decide +kernel
theorem dX4_explore_37 : decode cX4_explore 37 = .ok (.istore_n 3, 1) := by decide +kernel
theorem dX4_explore_38 : decode cX4_explore 38 = .ok (.aload_n 0, 1) := by decide +kernel
theorem dX4_explore_39 : decode cX4_explore 39 = .ok (.getfield 37, 3) := by decide +kernel
theorem dX4_explore_42 : decode cX4_explore 42 = .ok (.aload_n 0, 1) := by decide +kernel
theorem dX4_explore_43 : decode cX4_explore 43 = .ok (.getfield 79, 3) := by decide +kernel
theorem dX4_explore_46 : decode cX4_explore 46 = .ok (.iconst 1, 1) := by decide +kernel
theorem dX4_explore_47 : decode cX4_explore 47 = .ok (.isub, 1) := by decide +kernel
theorem dX4_explore_48 : decode cX4_explore 48 = .ok (.iaload, 1) := by decide +kernel
theorem dX4_explore_49 : decode cX4_explore 49 = .ok (.istore 4, 2) := by decide +kernel
theorem dX4_explore_51 : decode cX4_explore 51 = .ok (.iload 4, 2) := by decide +kernel
theorem dX4_explore_53 : decode cX4_explore 53 = .ok (.ifCond .ne 11, 3) := by decide +kernel
theorem dX4_explore_56 : decode cX4_explore 56 = .ok (.aload_n 0, 1) := by decide +kernel
theorem dX4_explore_57 : decode cX4_explore 57 = .ok (.iload_n 3, 1) := by decide +kernel
theorem dX4_explore_58 : decode cX4_explore 58 = .ok (.invokevirtual 85, 3) := by decide +kernel
theorem dX4_explore_61 : decode cX4_explore 61 = .ok (.goto 47, 3) := by decide +kernel
theorem dX4_explore_64 : decode cX4_explore 64 = .ok (.aload_n 0, 1) := by decide +kernel
theorem dX4_explore_65 : decode cX4_explore 65 = .ok (.getfield 37, 3) := by decide +kernel
theorem dX4_explore_68 : decode cX4_explore 68 = .ok (.aload_n 0, 1) := by decide +kernel
theorem dX4_explore_69 : decode cX4_explore 69 = .ok (.getfield 79, 3) := by decide +kernel
theorem dX4_explore_72 : decode cX4_explore 72 = .ok (.iconst 1, 1) := by decide +kernel
theorem dX4_explore_73 : decode cX4_explore 73 = .ok (.isub, 1) := by decide +kernel
theorem dX4_explore_74 : decode cX4_explore 74 = .ok (.iload 4, 2) := by decide +kernel
theorem dX4_explore_76 : decode cX4_explore 76 = .ok (.iload 4, 2) := by decide +kernel
theorem dX4_explore_78 : decode cX4_explore 78 = .ok (.iconst 1, 1) := by decide +kernel
theorem dX4_explore_79 : decode cX4_explore 79 = .ok (.isub, 1) := by decide +kernel
theorem dX4_explore_80 : decode cX4_explore 80 = .ok (.iand, 1) := by decide +kernel
theorem dX4_explore_81 : decode cX4_explore 81 = .ok (.iastore, 1) := by decide +kernel
theorem dX4_explore_82 : decode cX4_explore 82 = .ok (.aload_n 0, 1) := by decide +kernel
theorem dX4_explore_83 : decode cX4_explore 83 = .ok (.iload_n 3, 1) := by decide +kernel
theorem dX4_explore_84 : decode cX4_explore 84 = .ok (.aload_n 0, 1) := by decide +kernel
theorem dX4_explore_85 : decode cX4_explore 85 = .ok (.getfield 43, 3) := by decide +kernel
theorem dX4_explore_88 : decode cX4_explore 88 = .ok (.aload_n 0, 1) := by decide +kernel
theorem dX4_explore_89 : decode cX4_explore 89 = .ok (.getfield 43, 3) := by decide +kernel
theorem dX4_explore_92 : decode cX4_explore 92 = .ok (.getfield 88, 3) := by decide +kernel
theorem dX4_explore_95 : decode cX4_explore 95 = .ok (.iload_n 3, 1) := by decide +kernel
theorem dX4_explore_96 : decode cX4_explore 96 = .ok (.iaload, 1) := by decide +kernel
theorem dX4_explore_97 : decode cX4_explore 97 = .ok (.iload 4, 2) := by decide +kernel
theorem dX4_explore_99 : decode cX4_explore 99 = .ok (.invokestatic 91, 3) := by decide +kernel
theorem dX4_explore_102 : decode cX4_explore 102 = .ok (.invokevirtual 97, 3) := by decide +kernel
theorem dX4_explore_105 : decode cX4_explore 105 = .ok (.invokevirtual 101, 3) := by decide +kernel
theorem dX4_explore_108 : decode cX4_explore 108 = .ok (.iinc 2 1, 3) := by decide +kernel
theorem dX4_explore_111 : decode cX4_explore 111 = .ok (.goto (-99), 3) := by decide +kernel
theorem dX4_explore_114 : decode cX4_explore 114 = .ok (.return_, 1) := by decide +kernel
theorem dX4_enter_0 : decode cX4_enter 0 = .ok (.aload_n 0, 1) := by decide +kernel
theorem dX4_enter_1 : decode cX4_enter 1 = .ok (.dup, 1) := by decide +kernel
theorem dX4_enter_2 : decode cX4_enter 2 = .ok (.getfield 57, 3) := by decide +kernel
theorem dX4_enter_5 : decode cX4_enter 5 = .ok (.iconst 1, 1) := by decide +kernel
theorem dX4_enter_6 : decode cX4_enter 6 = .ok (.iadd, 1) := by decide +kernel
theorem dX4_enter_7 : decode cX4_enter 7 = .ok (.putfield 57, 3) := by decide +kernel
theorem dX4_enter_10 : decode cX4_enter 10 = .ok (.aload_n 0, 1) := by decide +kernel
theorem dX4_enter_11 : decode cX4_enter 11 = .ok (.getfield 25, 3) := by decide +kernel
theorem dX4_enter_14 : decode cX4_enter 14 = .ok (.iload_n 1, 1) := by decide +kernel
theorem dX4_enter_15 : decode cX4_enter 15 = .ok (.aload_n 0, 1) := by decide +kernel
theorem dX4_enter_16 : decode cX4_enter 16 = .ok (.getfield 57, 3) := by decide +kernel
theorem dX4_enter_19 : decode cX4_enter 19 = .ok (.iastore, 1) := by decide +kernel
theorem dX4_enter_20 : decode cX4_enter 20 = .ok (.aload_n 0, 1) := by decide +kernel
theorem dX4_enter_21 : decode cX4_enter 21 = .ok (.getfield 28, 3) := by decide +kernel
theorem dX4_enter_24 : decode cX4_enter 24 = .ok (.iload_n 1, 1) := by decide +kernel
theorem dX4_enter_25 : decode cX4_enter 25 = .ok (.aload_n 0, 1) := by decide +kernel
theorem dX4_enter_26 : decode cX4_enter 26 = .ok (.getfield 57, 3) := by decide +kernel
theorem dX4_enter_29 : decode cX4_enter 29 = .ok (.iastore, 1) := by decide +kernel
theorem dX4_enter_30 : decode cX4_enter 30 = .ok (.aload_n 0, 1) := by decide +kernel
theorem dX4_enter_31 : decode cX4_enter 31 = .ok (.getfield 31, 3) := by decide +kernel
theorem dX4_enter_34 : decode cX4_enter 34 = .ok (.aload_n 0, 1) := by decide +kernel
theorem dX4_enter_35 : decode cX4_enter 35 = .ok (.getfield 54, 3) := by decide +kernel
theorem dX4_enter_38 : decode cX4_enter 38 = .ok (.iload_n 1, 1) := by decide +kernel
theorem dX4_enter_39 : decode cX4_enter 39 = .ok (.iastore, 1) := by decide +kernel
theorem dX4_enter_40 : decode cX4_enter 40 = .ok (.aload_n 0, 1) := by decide +kernel
theorem dX4_enter_41 : decode cX4_enter 41 = .ok (.dup, 1) := by decide +kernel
theorem dX4_enter_42 : decode cX4_enter 42 = .ok (.getfield 54, 3) := by decide +kernel
theorem dX4_enter_45 : decode cX4_enter 45 = .ok (.iconst 1, 1) := by decide +kernel
theorem dX4_enter_46 : decode cX4_enter 46 = .ok (.iadd, 1) := by decide +kernel
theorem dX4_enter_47 : decode cX4_enter 47 = .ok (.putfield 54, 3) := by decide +kernel
theorem dX4_enter_50 : decode cX4_enter 50 = .ok (.aload_n 0, 1) := by decide +kernel
theorem dX4_enter_51 : decode cX4_enter 51 = .ok (.getfield 34, 3) := by decide +kernel
theorem dX4_enter_54 : decode cX4_enter 54 = .ok (.aload_n 0, 1) := by decide +kernel
theorem dX4_enter_55 : decode cX4_enter 55 = .ok (.getfield 79, 3) := by decide +kernel
theorem dX4_enter_58 : decode cX4_enter 58 = .ok (.iload_n 1, 1) := by decide +kernel
theorem dX4_enter_59 : decode cX4_enter 59 = .ok (.iastore, 1) := by decide +kernel
theorem dX4_enter_60 : decode cX4_enter 60 = .ok (.aload_n 0, 1) := by decide +kernel
theorem dX4_enter_61 : decode cX4_enter 61 = .ok (.getfield 37, 3) := by decide +kernel
theorem dX4_enter_64 : decode cX4_enter 64 = .ok (.aload_n 0, 1) := by decide +kernel
theorem dX4_enter_65 : decode cX4_enter 65 = .ok (.getfield 79, 3) := by decide +kernel
theorem dX4_enter_68 : decode cX4_enter 68 = .ok (.aload_n 0, 1) := by decide +kernel
theorem dX4_enter_69 : decode cX4_enter 69 = .ok (.getfield 43, 3) := by decide +kernel
theorem dX4_enter_72 : decode cX4_enter 72 = .ok (.getfield 105, 3) := by decide +kernel
theorem dX4_enter_75 : decode cX4_enter 75 = .ok (.iload_n 1, 1) := by decide +kernel
theorem dX4_enter_76 : decode cX4_enter 76 = .ok (.iaload, 1) := by decide +kernel
theorem dX4_enter_77 : decode cX4_enter 77 = .ok (.iastore, 1) := by decide +kernel
theorem dX4_enter_78 : decode cX4_enter 78 = .ok (.aload_n 0, 1) := by decide +kernel
theorem dX4_enter_79 : decode cX4_enter 79 = .ok (.dup, 1) := by decide +kernel
theorem dX4_enter_80 : decode cX4_enter 80 = .ok (.getfield 79, 3) := by decide +kernel
theorem dX4_enter_83 : decode cX4_enter 83 = .ok (.iconst 1, 1) := by decide +kernel
theorem dX4_enter_84 : decode cX4_enter 84 = .ok (.iadd, 1) := by decide +kernel
theorem dX4_enter_85 : decode cX4_enter 85 = .ok (.putfield 79, 3) := by decide +kernel
theorem dX4_enter_88 : decode cX4_enter 88 = .ok (.return_, 1) := by decide +kernel
theorem dX4_look_0 : decode cX4_look 0 = .ok (.aload_n 0, 1) := by decide +kernel
theorem dX4_look_1 : decode cX4_look 1 = .ok (.getfield 25, 3) := by decide +kernel
theorem dX4_look_4 : decode cX4_look 4 = .ok (.iload_n 2, 1) := by decide +kernel
theorem dX4_look_5 : decode cX4_look 5 = .ok (.iaload, 1) := by decide +kernel
theorem dX4_look_6 : decode cX4_look 6 = .ok (.ifCond .ne 11, 3) := by decide +kernel
theorem dX4_look_9 : decode cX4_look 9 = .ok (.aload_n 0, 1) := by decide +kernel
theorem dX4_look_10 : decode cX4_look 10 = .ok (.iload_n 2, 1) := by decide +kernel
theorem dX4_look_11 : decode cX4_look 11 = .ok (.invokevirtual 82, 3) := by decide +kernel
theorem dX4_look_14 : decode cX4_look 14 = .ok (.goto 34, 3) := by decide +kernel
theorem dX4_look_17 : decode cX4_look 17 = .ok (.aload_n 0, 1) := by decide +kernel
theorem dX4_look_18 : decode cX4_look 18 = .ok (.getfield 18, 3) := by decide +kernel
theorem dX4_look_21 : decode cX4_look 21 = .ok (.iload_n 2, 1) := by decide +kernel
theorem dX4_look_22 : decode cX4_look 22 = .ok (.iaload, 1) := by decide +kernel
theorem dX4_look_23 : decode cX4_look 23 = .ok (.iconst (-1), 1) := by decide +kernel
theorem dX4_look_24 : decode cX4_look 24 = .ok (.if_icmp .ne 24, 3) := by decide +kernel
theorem dX4_look_27 : decode cX4_look 27 = .ok (.aload_n 0, 1) := by decide +kernel
theorem dX4_look_28 : decode cX4_look 28 = .ok (.getfield 28, 3) := by decide +kernel
theorem dX4_look_31 : decode cX4_look 31 = .ok (.iload_n 1, 1) := by decide +kernel
theorem dX4_look_32 : decode cX4_look 32 = .ok (.aload_n 0, 1) := by decide +kernel
theorem dX4_look_33 : decode cX4_look 33 = .ok (.getfield 28, 3) := by decide +kernel
theorem dX4_look_36 : decode cX4_look 36 = .ok (.iload_n 1, 1) := by decide +kernel
theorem dX4_look_37 : decode cX4_look 37 = .ok (.iaload, 1) := by decide +kernel
theorem dX4_look_38 : decode cX4_look 38 = .ok (.aload_n 0, 1) := by decide +kernel
theorem dX4_look_39 : decode cX4_look 39 = .ok (.getfield 25, 3) := by decide +kernel
theorem dX4_look_42 : decode cX4_look 42 = .ok (.iload_n 2, 1) := by decide +kernel
theorem dX4_look_43 : decode cX4_look 43 = .ok (.iaload, 1) := by decide +kernel
theorem dX4_look_44 : decode cX4_look 44 = .ok (.invokestatic 108, 3) := by decide +kernel
theorem dX4_look_47 : decode cX4_look 47 = .ok (.iastore, 1) := by decide +kernel
theorem dX4_look_48 : decode cX4_look 48 = .ok (.return_, 1) := by decide +kernel
theorem dX4_leave_0 : decode cX4_leave 0 = .ok (.aload_n 0, 1) := by decide +kernel
theorem dX4_leave_1 : decode cX4_leave 1 = .ok (.dup, 1) := by decide +kernel
theorem dX4_leave_2 : decode cX4_leave 2 = .ok (.getfield 79, 3) := by decide +kernel
theorem dX4_leave_5 : decode cX4_leave 5 = .ok (.iconst 1, 1) := by decide +kernel
theorem dX4_leave_6 : decode cX4_leave 6 = .ok (.isub, 1) := by decide +kernel
theorem dX4_leave_7 : decode cX4_leave 7 = .ok (.putfield 79, 3) := by decide +kernel
theorem dX4_leave_10 : decode cX4_leave 10 = .ok (.aload_n 0, 1) := by decide +kernel
theorem dX4_leave_11 : decode cX4_leave 11 = .ok (.getfield 79, 3) := by decide +kernel
theorem dX4_leave_14 : decode cX4_leave 14 = .ok (.ifCond .le 44, 3) := by decide +kernel
theorem dX4_leave_17 : decode cX4_leave 17 = .ok (.aload_n 0, 1) := by decide +kernel
theorem dX4_leave_18 : decode cX4_leave 18 = .ok (.getfield 28, 3) := by decide +kernel
theorem dX4_leave_21 : decode cX4_leave 21 = .ok (.aload_n 0, 1) := by decide +kernel
theorem dX4_leave_22 : decode cX4_leave 22 = .ok (.getfield 34, 3) := by decide +kernel
theorem dX4_leave_25 : decode cX4_leave 25 = .ok (.aload_n 0, 1) := by decide +kernel
theorem dX4_leave_26 : decode cX4_leave 26 = .ok (.getfield 79, 3) := by decide +kernel
theorem dX4_leave_29 : decode cX4_leave 29 = .ok (.iconst 1, 1) := by decide +kernel
theorem dX4_leave_30 : decode cX4_leave 30 = .ok (.isub, 1) := by decide +kernel
theorem dX4_leave_31 : decode cX4_leave 31 = .ok (.iaload, 1) := by decide +kernel
theorem dX4_leave_32 : decode cX4_leave 32 = .ok (.aload_n 0, 1) := by decide +kernel
theorem dX4_leave_33 : decode cX4_leave 33 = .ok (.getfield 28, 3) := by decide +kernel
theorem dX4_leave_36 : decode cX4_leave 36 = .ok (.aload_n 0, 1) := by decide +kernel
theorem dX4_leave_37 : decode cX4_leave 37 = .ok (.getfield 34, 3) := by decide +kernel
theorem dX4_leave_40 : decode cX4_leave 40 = .ok (.aload_n 0, 1) := by decide +kernel
theorem dX4_leave_41 : decode cX4_leave 41 = .ok (.getfield 79, 3) := by decide +kernel
theorem dX4_leave_44 : decode cX4_leave 44 = .ok (.iconst 1, 1) := by decide +kernel
theorem dX4_leave_45 : decode cX4_leave 45 = .ok (.isub, 1) := by decide +kernel
theorem dX4_leave_46 : decode cX4_leave 46 = .ok (.iaload, 1) := by decide +kernel
theorem dX4_leave_47 : decode cX4_leave 47 = .ok (.iaload, 1) := by decide +kernel
theorem dX4_leave_48 : decode cX4_leave 48 = .ok (.aload_n 0, 1) := by decide +kernel
theorem dX4_leave_49 : decode cX4_leave 49 = .ok (.getfield 28, 3) := by decide +kernel
theorem dX4_leave_52 : decode cX4_leave 52 = .ok (.iload_n 1, 1) := by decide +kernel
theorem dX4_leave_53 : decode cX4_leave 53 = .ok (.iaload, 1) := by decide +kernel
theorem dX4_leave_54 : decode cX4_leave 54 = .ok (.invokestatic 108, 3) := by decide +kernel
theorem dX4_leave_57 : decode cX4_leave 57 = .ok (.iastore, 1) := by decide +kernel
theorem dX4_leave_58 : decode cX4_leave 58 = .ok (.aload_n 0, 1) := by decide +kernel
theorem dX4_leave_59 : decode cX4_leave 59 = .ok (.getfield 28, 3) := by decide +kernel
theorem dX4_leave_62 : decode cX4_leave 62 = .ok (.iload_n 1, 1) := by decide +kernel
theorem dX4_leave_63 : decode cX4_leave 63 = .ok (.iaload, 1) := by decide +kernel
theorem dX4_leave_64 : decode cX4_leave 64 = .ok (.aload_n 0, 1) := by decide +kernel
theorem dX4_leave_65 : decode cX4_leave 65 = .ok (.getfield 25, 3) := by decide +kernel
theorem dX4_leave_68 : decode cX4_leave 68 = .ok (.iload_n 1, 1) := by decide +kernel
theorem dX4_leave_69 : decode cX4_leave 69 = .ok (.iaload, 1) := by decide +kernel
theorem dX4_leave_70 : decode cX4_leave 70 = .ok (.if_icmp .ne 8, 3) := by decide +kernel
theorem dX4_leave_73 : decode cX4_leave 73 = .ok (.aload_n 0, 1) := by decide +kernel
theorem dX4_leave_74 : decode cX4_leave 74 = .ok (.iload_n 1, 1) := by decide +kernel
theorem dX4_leave_75 : decode cX4_leave 75 = .ok (.invokevirtual 113, 3) := by decide +kernel
theorem dX4_leave_78 : decode cX4_leave 78 = .ok (.return_, 1) := by decide +kernel
theorem dX4_bind_0 : decode cX4_bind 0 = .ok (.aload_n 0, 1) := by decide +kernel
theorem dX4_bind_1 : decode cX4_bind 1 = .ok (.getfield 15, 3) := by decide +kernel
theorem dX4_bind_4 : decode cX4_bind 4 = .ok (.aload_n 0, 1) := by decide +kernel
theorem dX4_bind_5 : decode cX4_bind 5 = .ok (.getfield 47, 3) := by decide +kernel
theorem dX4_bind_8 : decode cX4_bind 8 = .ok (.iaload, 1) := by decide +kernel
theorem dX4_bind_9 : decode cX4_bind 9 = .ok (.istore_n 2, 1) := by decide +kernel
theorem dX4_bind_10 : decode cX4_bind 10 = .ok (.iconst 1, 1) := by decide +kernel
theorem dX4_bind_11 : decode cX4_bind 11 = .ok (.istore_n 3, 1) := by decide +kernel
theorem dX4_bind_12 : decode cX4_bind 12 = .ok (.iconst 0, 1) := by decide +kernel
theorem dX4_bind_13 : decode cX4_bind 13 = .ok (.istore 4, 2) := by decide +kernel
theorem dX4_bind_15 : decode cX4_bind 15 = .ok (.iload 4, 2) := by decide +kernel
theorem dX4_bind_17 : decode cX4_bind 17 = .ok (.sipush 320, 3) := by decide +kernel
theorem dX4_bind_20 : decode cX4_bind 20 = .ok (.if_icmp .ge 83, 3) := by decide +kernel
theorem dX4_bind_23 : decode cX4_bind 23 = .ok (.iload_n 3, 1) := by decide +kernel
theorem dX4_bind_24 : decode cX4_bind 24 = .ok (.ifCond .eq 79, 3) := by decide +kernel
theorem dX4_bind_27 : decode cX4_bind 27 = .ok (.aload_n 0, 1) := by decide +kernel
theorem dX4_bind_28 : decode cX4_bind 28 = .ok (.getfield 54, 3) := by decide +kernel
theorem dX4_bind_31 : decode cX4_bind 31 = .ok (.ifCond .le 72, 3) := by decide +kernel
theorem dX4_bind_34 : decode cX4_bind 34 = .ok (.aload_n 0, 1) := by decide +kernel
theorem dX4_bind_35 : decode cX4_bind 35 = .ok (.dup, 1) := by decide +kernel
theorem dX4_bind_36 : decode cX4_bind 36 = .ok (.getfield 54, 3) := by decide +kernel
theorem dX4_bind_39 : decode cX4_bind 39 = .ok (.iconst 1, 1) := by decide +kernel
theorem dX4_bind_40 : decode cX4_bind 40 = .ok (.isub, 1) := by decide +kernel
theorem dX4_bind_41 : decode cX4_bind 41 = .ok (.putfield 54, 3) := by decide +kernel
theorem dX4_bind_44 : decode cX4_bind 44 = .ok (.aload_n 0, 1) := by decide +kernel
theorem dX4_bind_45 : decode cX4_bind 45 = .ok (.getfield 31, 3) := by decide +kernel
theorem dX4_bind_48 : decode cX4_bind 48 = .ok (.aload_n 0, 1) := by decide +kernel
theorem dX4_bind_49 : decode cX4_bind 49 = .ok (.getfield 54, 3) := by decide +kernel
theorem dX4_bind_52 : decode cX4_bind 52 = .ok (.iaload, 1) := by decide +kernel
theorem dX4_bind_53 : decode cX4_bind 53 = .ok (.istore 5, 2) := by decide +kernel
theorem dX4_bind_55 : decode cX4_bind 55 = .ok (.aload_n 0, 1) := by decide +kernel
theorem dX4_bind_56 : decode cX4_bind 56 = .ok (.getfield 18, 3) := by decide +kernel
theorem dX4_bind_59 : decode cX4_bind 59 = .ok (.iload 5, 2) := by decide +kernel
theorem dX4_bind_61 : decode cX4_bind 61 = .ok (.aload_n 0, 1) := by decide +kernel
theorem dX4_bind_62 : decode cX4_bind 62 = .ok (.getfield 47, 3) := by decide +kernel
theorem dX4_bind_65 : decode cX4_bind 65 = .ok (.iastore, 1) := by decide +kernel
theorem dX4_bind_66 : decode cX4_bind 66 = .ok (.aload_n 0, 1) := by decide +kernel
theorem dX4_bind_67 : decode cX4_bind 67 = .ok (.iload 5, 2) := by decide +kernel
theorem dX4_bind_69 : decode cX4_bind 69 = .ok (.aload_n 0, 1) := by decide +kernel
theorem dX4_bind_70 : decode cX4_bind 70 = .ok (.getfield 15, 3) := by decide +kernel
theorem dX4_bind_73 : decode cX4_bind 73 = .ok (.aload_n 0, 1) := by decide +kernel
theorem dX4_bind_74 : decode cX4_bind 74 = .ok (.getfield 47, 3) := by decide +kernel
theorem dX4_bind_77 : decode cX4_bind 77 = .ok (.iaload, 1) := by decide +kernel
theorem dX4_bind_78 : decode cX4_bind 78 = .ok (.iload_n 2, 1) := by decide +kernel
theorem dX4_bind_79 : decode cX4_bind 79 = .ok (.invokevirtual 116, 3) := by decide +kernel
theorem dX4_bind_82 : decode cX4_bind 82 = .ok (.iinc 2 1, 3) := by decide +kernel
theorem dX4_bind_85 : decode cX4_bind 85 = .ok (.iload 5, 2) := by decide +kernel
theorem dX4_bind_87 : decode cX4_bind 87 = .ok (.iload_n 1, 1) := by decide +kernel
theorem dX4_bind_88 : decode cX4_bind 88 = .ok (.if_icmp .eq 7, 3) := by decide +kernel
theorem dX4_bind_91 : decode cX4_bind 91 = .ok (.iconst 1, 1) := by decide +kernel
theorem dX4_bind_92 : decode cX4_bind 92 = .ok (.goto 4, 3) := by decide +kernel
theorem dX4_bind_95 : decode cX4_bind 95 = .ok (.iconst 0, 1) := by decide +kernel
theorem dX4_bind_96 : decode cX4_bind 96 = .ok (.istore_n 3, 1) := by decide +kernel
theorem dX4_bind_97 : decode cX4_bind 97 = .ok (.iinc 4 1, 3) := by decide +kernel
theorem dX4_bind_100 : decode cX4_bind 100 = .ok (.goto (-85), 3) := by decide +kernel
theorem dX4_bind_103 : decode cX4_bind 103 = .ok (.aload_n 0, 1) := by decide +kernel
theorem dX4_bind_104 : decode cX4_bind 104 = .ok (.getfield 21, 3) := by decide +kernel
theorem dX4_bind_107 : decode cX4_bind 107 = .ok (.aload_n 0, 1) := by decide +kernel
theorem dX4_bind_108 : decode cX4_bind 108 = .ok (.getfield 47, 3) := by decide +kernel
theorem dX4_bind_111 : decode cX4_bind 111 = .ok (.iload_n 2, 1) := by decide +kernel
theorem dX4_bind_112 : decode cX4_bind 112 = .ok (.aload_n 0, 1) := by decide +kernel
theorem dX4_bind_113 : decode cX4_bind 113 = .ok (.getfield 15, 3) := by decide +kernel
theorem dX4_bind_116 : decode cX4_bind 116 = .ok (.aload_n 0, 1) := by decide +kernel
theorem dX4_bind_117 : decode cX4_bind 117 = .ok (.getfield 47, 3) := by decide +kernel
theorem dX4_bind_120 : decode cX4_bind 120 = .ok (.iaload, 1) := by decide +kernel
theorem dX4_bind_121 : decode cX4_bind 121 = .ok (.isub, 1) := by decide +kernel
theorem dX4_bind_122 : decode cX4_bind 122 = .ok (.iconst 1, 1) := by decide +kernel
theorem dX4_bind_123 : decode cX4_bind 123 = .ok (.if_icmp .gt 11, 3) := by decide +kernel
theorem dX4_bind_126 : decode cX4_bind 126 = .ok (.aload_n 0, 1) := by decide +kernel
theorem dX4_bind_127 : decode cX4_bind 127 = .ok (.iload_n 1, 1) := by decide +kernel
theorem dX4_bind_128 : decode cX4_bind 128 = .ok (.invokevirtual 120, 3) := by decide +kernel
theorem dX4_bind_131 : decode cX4_bind 131 = .ok (.ifCond .eq 7, 3) := by decide +kernel
theorem dX4_bind_134 : decode cX4_bind 134 = .ok (.iconst 1, 1) := by decide +kernel
theorem dX4_bind_135 : decode cX4_bind 135 = .ok (.goto 4, 3) := by decide +kernel
theorem dX4_bind_138 : decode cX4_bind 138 = .ok (.iconst 0, 1) := by decide +kernel
theorem dX4_bind_139 : decode cX4_bind 139 = .ok (.bastore, 1) := by decide +kernel
theorem dX4_bind_140 : decode cX4_bind 140 = .ok (.aload_n 0, 1) := by decide +kernel
theorem dX4_bind_141 : decode cX4_bind 141 = .ok (.dup, 1) := by decide +kernel
theorem dX4_bind_142 : decode cX4_bind 142 = .ok (.getfield 51, 3) := by decide +kernel
theorem dX4_bind_145 : decode cX4_bind 145 = .ok (.aload_n 0, 1) := by decide +kernel
theorem dX4_bind_146 : decode cX4_bind 146 = .ok (.getfield 21, 3) := by decide +kernel
theorem dX4_bind_149 : decode cX4_bind 149 = .ok (.aload_n 0, 1) := by decide +kernel
theorem dX4_bind_150 : decode cX4_bind 150 = .ok (.getfield 47, 3) := by decide +kernel
theorem dX4_bind_153 : decode cX4_bind 153 = .ok (.baload, 1) := by decide +kernel
theorem dX4_bind_154 : decode cX4_bind 154 = .ok (.ifCond .eq 7, 3) := by decide +kernel
theorem dX4_bind_157 : decode cX4_bind 157 = .ok (.iconst 1, 1) := by decide +kernel
theorem dX4_bind_158 : decode cX4_bind 158 = .ok (.goto 4, 3) := by decide +kernel
theorem dX4_bind_161 : decode cX4_bind 161 = .ok (.iconst 0, 1) := by decide +kernel
theorem dX4_bind_162 : decode cX4_bind 162 = .ok (.iadd, 1) := by decide +kernel
theorem dX4_bind_163 : decode cX4_bind 163 = .ok (.putfield 51, 3) := by decide +kernel
theorem dX4_bind_166 : decode cX4_bind 166 = .ok (.aload_n 0, 1) := by decide +kernel
theorem dX4_bind_167 : decode cX4_bind 167 = .ok (.dup, 1) := by decide +kernel
theorem dX4_bind_168 : decode cX4_bind 168 = .ok (.getfield 47, 3) := by decide +kernel
theorem dX4_bind_171 : decode cX4_bind 171 = .ok (.iconst 1, 1) := by decide +kernel
theorem dX4_bind_172 : decode cX4_bind 172 = .ok (.iadd, 1) := by decide +kernel
theorem dX4_bind_173 : decode cX4_bind 173 = .ok (.putfield 47, 3) := by decide +kernel
theorem dX4_bind_176 : decode cX4_bind 176 = .ok (.aload_n 0, 1) := by decide +kernel
theorem dX4_bind_177 : decode cX4_bind 177 = .ok (.getfield 15, 3) := by decide +kernel
theorem dX4_bind_180 : decode cX4_bind 180 = .ok (.aload_n 0, 1) := by decide +kernel
theorem dX4_bind_181 : decode cX4_bind 181 = .ok (.getfield 47, 3) := by decide +kernel
theorem dX4_bind_184 : decode cX4_bind 184 = .ok (.iload_n 2, 1) := by decide +kernel
theorem dX4_bind_185 : decode cX4_bind 185 = .ok (.iastore, 1) := by decide +kernel
theorem dX4_bind_186 : decode cX4_bind 186 = .ok (.return_, 1) := by decide +kernel
theorem dX4_insert_0 : decode cX4_insert 0 = .ok (.iload_n 3, 1) := by decide +kernel
theorem dX4_insert_1 : decode cX4_insert 1 = .ok (.istore 4, 2) := by decide +kernel
theorem dX4_insert_3 : decode cX4_insert 3 = .ok (.iload 4, 2) := by decide +kernel
theorem dX4_insert_5 : decode cX4_insert 5 = .ok (.iload_n 2, 1) := by decide +kernel
theorem dX4_insert_6 : decode cX4_insert 6 = .ok (.if_icmp .le 38, 3) := by decide +kernel
theorem dX4_insert_9 : decode cX4_insert 9 = .ok (.aload_n 0, 1) := by decide +kernel
theorem dX4_insert_10 : decode cX4_insert 10 = .ok (.getfield 9, 3) := by decide +kernel
theorem dX4_insert_13 : decode cX4_insert 13 = .ok (.iload 4, 2) := by decide +kernel
theorem dX4_insert_15 : decode cX4_insert 15 = .ok (.iconst 1, 1) := by decide +kernel
theorem dX4_insert_16 : decode cX4_insert 16 = .ok (.isub, 1) := by decide +kernel
theorem dX4_insert_17 : decode cX4_insert 17 = .ok (.iaload, 1) := by decide +kernel
theorem dX4_insert_18 : decode cX4_insert 18 = .ok (.iload_n 1, 1) := by decide +kernel
theorem dX4_insert_19 : decode cX4_insert 19 = .ok (.if_icmp .le 25, 3) := by decide +kernel
theorem dX4_insert_22 : decode cX4_insert 22 = .ok (.aload_n 0, 1) := by decide +kernel
theorem dX4_insert_23 : decode cX4_insert 23 = .ok (.getfield 9, 3) := by decide +kernel
theorem dX4_insert_26 : decode cX4_insert 26 = .ok (.iload 4, 2) := by decide +kernel
theorem dX4_insert_28 : decode cX4_insert 28 = .ok (.aload_n 0, 1) := by decide +kernel
theorem dX4_insert_29 : decode cX4_insert 29 = .ok (.getfield 9, 3) := by decide +kernel
theorem dX4_insert_32 : decode cX4_insert 32 = .ok (.iload 4, 2) := by decide +kernel
theorem dX4_insert_34 : decode cX4_insert 34 = .ok (.iconst 1, 1) := by decide +kernel
theorem dX4_insert_35 : decode cX4_insert 35 = .ok (.isub, 1) := by decide +kernel
theorem dX4_insert_36 : decode cX4_insert 36 = .ok (.iaload, 1) := by decide +kernel
theorem dX4_insert_37 : decode cX4_insert 37 = .ok (.iastore, 1) := by decide +kernel
theorem dX4_insert_38 : decode cX4_insert 38 = .ok (.iinc 4 (-1), 3) := by decide +kernel
theorem dX4_insert_41 : decode cX4_insert 41 = .ok (.goto (-38), 3) := by decide +kernel
theorem dX4_insert_44 : decode cX4_insert 44 = .ok (.aload_n 0, 1) := by decide +kernel
theorem dX4_insert_45 : decode cX4_insert 45 = .ok (.getfield 9, 3) := by decide +kernel
theorem dX4_insert_48 : decode cX4_insert 48 = .ok (.iload 4, 2) := by decide +kernel
theorem dX4_insert_50 : decode cX4_insert 50 = .ok (.iload_n 1, 1) := by decide +kernel
theorem dX4_insert_51 : decode cX4_insert 51 = .ok (.iastore, 1) := by decide +kernel
theorem dX4_insert_52 : decode cX4_insert 52 = .ok (.return_, 1) := by decide +kernel
theorem dX4_hangsOnItself_0 : decode cX4_hangsOnItself 0 = .ok (.aload_n 0, 1) := by decide +kernel
theorem dX4_hangsOnItself_1 : decode cX4_hangsOnItself 1 = .ok (.getfield 43, 3) := by decide +kernel
theorem dX4_hangsOnItself_4 : decode cX4_hangsOnItself 4 = .ok (.getfield 105, 3) := by decide +kernel
theorem dX4_hangsOnItself_7 : decode cX4_hangsOnItself 7 = .ok (.iload_n 1, 1) := by decide +kernel
theorem dX4_hangsOnItself_8 : decode cX4_hangsOnItself 8 = .ok (.iaload, 1) := by decide +kernel
theorem dX4_hangsOnItself_9 : decode cX4_hangsOnItself 9 = .ok (.aload_n 0, 1) := by decide +kernel
theorem dX4_hangsOnItself_10 : decode cX4_hangsOnItself 10 = .ok (.getfield 43, 3) := by decide +kernel
theorem dX4_hangsOnItself_13 : decode cX4_hangsOnItself 13 = .ok (.getfield 124, 3) := by decide +kernel
theorem dX4_hangsOnItself_16 : decode cX4_hangsOnItself 16 = .ok (.iload_n 1, 1) := by decide +kernel
theorem dX4_hangsOnItself_17 : decode cX4_hangsOnItself 17 = .ok (.iaload, 1) := by decide +kernel
theorem dX4_hangsOnItself_18 : decode cX4_hangsOnItself 18 = .ok (.iushr, 1) := by decide +kernel
theorem dX4_hangsOnItself_19 : decode cX4_hangsOnItself 19 = .ok (.iconst 1, 1) := by decide +kernel
theorem dX4_hangsOnItself_20 : decode cX4_hangsOnItself 20 = .ok (.iand, 1) := by decide +kernel
theorem dX4_hangsOnItself_21 : decode cX4_hangsOnItself 21 = .ok (.ifCond .eq 7, 3) := by decide +kernel
theorem dX4_hangsOnItself_24 : decode cX4_hangsOnItself 24 = .ok (.iconst 1, 1) := by decide +kernel
theorem dX4_hangsOnItself_25 : decode cX4_hangsOnItself 25 = .ok (.goto 4, 3) := by decide +kernel
theorem dX4_hangsOnItself_28 : decode cX4_hangsOnItself 28 = .ok (.iconst 0, 1) := by decide +kernel
theorem dX4_hangsOnItself_29 : decode cX4_hangsOnItself 29 = .ok (.ireturn, 1) := by decide +kernel
theorem dX4_longestRow_0 : decode cX4_longestRow 0 = .ok (.iconst 0, 1) := by decide +kernel
theorem dX4_longestRow_1 : decode cX4_longestRow 1 = .ok (.istore_n 1, 1) := by decide +kernel
theorem dX4_longestRow_2 : decode cX4_longestRow 2 = .ok (.iconst 0, 1) := by decide +kernel
theorem dX4_longestRow_3 : decode cX4_longestRow 3 = .ok (.istore_n 2, 1) := by decide +kernel
theorem dX4_longestRow_4 : decode cX4_longestRow 4 = .ok (.iload_n 2, 1) := by decide +kernel
theorem dX4_longestRow_5 : decode cX4_longestRow 5 = .ok (.aload_n 0, 1) := by decide +kernel
theorem dX4_longestRow_6 : decode cX4_longestRow 6 = .ok (.getfield 47, 3) := by decide +kernel
theorem dX4_longestRow_9 : decode cX4_longestRow 9 = .ok (.if_icmp .ge 52, 3) := by decide +kernel
theorem dX4_longestRow_12 : decode cX4_longestRow 12 = .ok (.aload_n 0, 1) := by decide +kernel
theorem dX4_longestRow_13 : decode cX4_longestRow 13 = .ok (.iload_n 2, 1) := by decide +kernel
theorem dX4_longestRow_14 : decode cX4_longestRow 14 = .ok (.invokevirtual 127, 3) := by decide +kernel
theorem dX4_longestRow_17 : decode cX4_longestRow 17 = .ok (.istore_n 3, 1) := by decide +kernel
theorem dX4_longestRow_18 : decode cX4_longestRow 18 = .ok (.aload_n 0, 1) := by decide +kernel
theorem dX4_longestRow_19 : decode cX4_longestRow 19 = .ok (.getfield 40, 3) := by decide +kernel
theorem dX4_longestRow_22 : decode cX4_longestRow 22 = .ok (.iload_n 3, 1) := by decide +kernel
theorem dX4_longestRow_23 : decode cX4_longestRow 23 = .ok (.aload_n 0, 1) := by decide +kernel
theorem dX4_longestRow_24 : decode cX4_longestRow 24 = .ok (.getfield 21, 3) := by decide +kernel
theorem dX4_longestRow_27 : decode cX4_longestRow 27 = .ok (.iload_n 2, 1) := by decide +kernel
theorem dX4_longestRow_28 : decode cX4_longestRow 28 = .ok (.baload, 1) := by decide +kernel
theorem dX4_longestRow_29 : decode cX4_longestRow 29 = .ok (.ifCond .eq 7, 3) := by decide +kernel
theorem dX4_longestRow_32 : decode cX4_longestRow 32 = .ok (.iconst 0, 1) := by decide +kernel
theorem dX4_longestRow_33 : decode cX4_longestRow 33 = .ok (.goto 10, 3) := by decide +kernel
theorem dX4_longestRow_36 : decode cX4_longestRow 36 = .ok (.iconst 1, 1) := by decide +kernel
theorem dX4_longestRow_37 : decode cX4_longestRow 37 = .ok (.aload_n 0, 1) := by decide +kernel
theorem dX4_longestRow_38 : decode cX4_longestRow 38 = .ok (.iload_n 3, 1) := by decide +kernel
theorem dX4_longestRow_39 : decode cX4_longestRow 39 = .ok (.invokevirtual 130, 3) := by decide +kernel
theorem dX4_longestRow_42 : decode cX4_longestRow 42 = .ok (.iadd, 1) := by decide +kernel
theorem dX4_longestRow_43 : decode cX4_longestRow 43 = .ok (.iastore, 1) := by decide +kernel
theorem dX4_longestRow_44 : decode cX4_longestRow 44 = .ok (.iload_n 1, 1) := by decide +kernel
theorem dX4_longestRow_45 : decode cX4_longestRow 45 = .ok (.aload_n 0, 1) := by decide +kernel
theorem dX4_longestRow_46 : decode cX4_longestRow 46 = .ok (.getfield 40, 3) := by decide +kernel
theorem dX4_longestRow_49 : decode cX4_longestRow 49 = .ok (.iload_n 3, 1) := by decide +kernel
theorem dX4_longestRow_50 : decode cX4_longestRow 50 = .ok (.iaload, 1) := by decide +kernel
theorem dX4_longestRow_51 : decode cX4_longestRow 51 = .ok (.invokestatic 133, 3) := by decide +kernel
theorem dX4_longestRow_54 : decode cX4_longestRow 54 = .ok (.istore_n 1, 1) := by decide +kernel
theorem dX4_longestRow_55 : decode cX4_longestRow 55 = .ok (.iinc 2 1, 3) := by decide +kernel
theorem dX4_longestRow_58 : decode cX4_longestRow 58 = .ok (.goto (-54), 3) := by decide +kernel
theorem dX4_longestRow_61 : decode cX4_longestRow 61 = .ok (.iload_n 1, 1) := by decide +kernel
theorem dX4_longestRow_62 : decode cX4_longestRow 62 = .ok (.ireturn, 1) := by decide +kernel
theorem dX4_longestAhead_0 : decode cX4_longestAhead 0 = .ok (.iconst 0, 1) := by decide +kernel
theorem dX4_longestAhead_1 : decode cX4_longestAhead 1 = .ok (.istore_n 2, 1) := by decide +kernel
theorem dX4_longestAhead_2 : decode cX4_longestAhead 2 = .ok (.iconst 0, 1) := by decide +kernel
theorem dX4_longestAhead_3 : decode cX4_longestAhead 3 = .ok (.istore_n 3, 1) := by decide +kernel
theorem dX4_longestAhead_4 : decode cX4_longestAhead 4 = .ok (.iload_n 3, 1) := by decide +kernel
theorem dX4_longestAhead_5 : decode cX4_longestAhead 5 = .ok (.bipush 32, 2) := by decide +kernel
theorem dX4_longestAhead_7 : decode cX4_longestAhead 7 = .ok (.if_icmp .ge 75, 3) := by decide +kernel
theorem dX4_longestAhead_10 : decode cX4_longestAhead 10 = .ok (.aload_n 0, 1) := by decide +kernel
theorem dX4_longestAhead_11 : decode cX4_longestAhead 11 = .ok (.getfield 43, 3) := by decide +kernel
theorem dX4_longestAhead_14 : decode cX4_longestAhead 14 = .ok (.getfield 105, 3) := by decide +kernel
theorem dX4_longestAhead_17 : decode cX4_longestAhead 17 = .ok (.iload_n 1, 1) := by decide +kernel
theorem dX4_longestAhead_18 : decode cX4_longestAhead 18 = .ok (.iaload, 1) := by decide +kernel
theorem dX4_longestAhead_19 : decode cX4_longestAhead 19 = .ok (.iload_n 3, 1) := by decide +kernel
theorem dX4_longestAhead_20 : decode cX4_longestAhead 20 = .ok (.iushr, 1) := by decide +kernel
theorem dX4_longestAhead_21 : decode cX4_longestAhead 21 = .ok (.iconst 1, 1) := by decide +kernel
theorem dX4_longestAhead_22 : decode cX4_longestAhead 22 = .ok (.iand, 1) := by decide +kernel
theorem dX4_longestAhead_23 : decode cX4_longestAhead 23 = .ok (.ifCond .eq 53, 3) := by decide +kernel
theorem dX4_longestAhead_26 : decode cX4_longestAhead 26 = .ok (.aload_n 0, 1) := by decide +kernel
theorem dX4_longestAhead_27 : decode cX4_longestAhead 27 = .ok (.getfield 43, 3) := by decide +kernel
theorem dX4_longestAhead_30 : decode cX4_longestAhead 30 = .ok (.aload_n 0, 1) := by decide +kernel
theorem dX4_longestAhead_31 : decode cX4_longestAhead 31 = .ok (.getfield 43, 3) := by decide +kernel
theorem dX4_longestAhead_34 : decode cX4_longestAhead 34 = .ok (.getfield 88, 3) := by decide +kernel
theorem dX4_longestAhead_37 : decode cX4_longestAhead 37 = .ok (.iload_n 1, 1) := by decide +kernel
theorem dX4_longestAhead_38 : decode cX4_longestAhead 38 = .ok (.iaload, 1) := by decide +kernel
theorem dX4_longestAhead_39 : decode cX4_longestAhead 39 = .ok (.iload_n 3, 1) := by decide +kernel
theorem dX4_longestAhead_40 : decode cX4_longestAhead 40 = .ok (.invokevirtual 97, 3) := by decide +kernel
theorem dX4_longestAhead_43 : decode cX4_longestAhead 43 = .ok (.istore 4, 2) := by decide +kernel
theorem dX4_longestAhead_45 : decode cX4_longestAhead 45 = .ok (.iload_n 2, 1) := by decide +kernel
theorem dX4_longestAhead_46 : decode cX4_longestAhead 46 = .ok (.aload_n 0, 1) := by decide +kernel
theorem dX4_longestAhead_47 : decode cX4_longestAhead 47 = .ok (.getfield 21, 3) := by decide +kernel
theorem dX4_longestAhead_50 : decode cX4_longestAhead 50 = .ok (.aload_n 0, 1) := by decide +kernel
theorem dX4_longestAhead_51 : decode cX4_longestAhead 51 = .ok (.getfield 18, 3) := by decide +kernel
theorem dX4_longestAhead_54 : decode cX4_longestAhead 54 = .ok (.iload 4, 2) := by decide +kernel
theorem dX4_longestAhead_56 : decode cX4_longestAhead 56 = .ok (.iaload, 1) := by decide +kernel
theorem dX4_longestAhead_57 : decode cX4_longestAhead 57 = .ok (.baload, 1) := by decide +kernel
theorem dX4_longestAhead_58 : decode cX4_longestAhead 58 = .ok (.ifCond .eq 7, 3) := by decide +kernel
theorem dX4_longestAhead_61 : decode cX4_longestAhead 61 = .ok (.iconst 0, 1) := by decide +kernel
theorem dX4_longestAhead_62 : decode cX4_longestAhead 62 = .ok (.goto 10, 3) := by decide +kernel
theorem dX4_longestAhead_65 : decode cX4_longestAhead 65 = .ok (.aload_n 0, 1) := by decide +kernel
theorem dX4_longestAhead_66 : decode cX4_longestAhead 66 = .ok (.getfield 40, 3) := by decide +kernel
theorem dX4_longestAhead_69 : decode cX4_longestAhead 69 = .ok (.iload 4, 2) := by decide +kernel
theorem dX4_longestAhead_71 : decode cX4_longestAhead 71 = .ok (.iaload, 1) := by decide +kernel
theorem dX4_longestAhead_72 : decode cX4_longestAhead 72 = .ok (.invokestatic 133, 3) := by decide +kernel
theorem dX4_longestAhead_75 : decode cX4_longestAhead 75 = .ok (.istore_n 2, 1) := by decide +kernel
theorem dX4_longestAhead_76 : decode cX4_longestAhead 76 = .ok (.iinc 3 1, 3) := by decide +kernel
theorem dX4_longestAhead_79 : decode cX4_longestAhead 79 = .ok (.goto (-75), 3) := by decide +kernel
theorem dX4_longestAhead_82 : decode cX4_longestAhead 82 = .ok (.iload_n 2, 1) := by decide +kernel
theorem dX4_longestAhead_83 : decode cX4_longestAhead 83 = .ok (.ireturn, 1) := by decide +kernel
theorem dX5_init_0 : decode cX5_init 0 = .ok (.aload_n 0, 1) := by decide +kernel
theorem dX5_init_1 : decode cX5_init 1 = .ok (.invokespecial 3, 3) := by decide +kernel
theorem dX5_init_4 : decode cX5_init 4 = .ok (.aload_n 0, 1) := by decide +kernel
theorem dX5_init_5 : decode cX5_init 5 = .ok (.bipush 8, 2) := by decide +kernel
theorem dX5_init_7 : decode cX5_init 7 = .ok (.newarray .int, 2) := by decide +kernel
theorem dX5_init_9 : decode cX5_init 9 = .ok (.putfield 9, 3) := by decide +kernel
theorem dX5_init_12 : decode cX5_init 12 = .ok (.aload_n 0, 1) := by decide +kernel
theorem dX5_init_13 : decode cX5_init 13 = .ok (.bipush 64, 2) := by decide +kernel
theorem dX5_init_15 : decode cX5_init 15 = .ok (.newarray .int, 2) := by decide +kernel
theorem dX5_init_17 : decode cX5_init 17 = .ok (.putfield 15, 3) := by decide +kernel
theorem dX5_init_20 : decode cX5_init 20 = .ok (.aload_n 0, 1) := by decide +kernel
theorem dX5_init_21 : decode cX5_init 21 = .ok (.sipush 384, 3) := by decide +kernel
theorem dX5_init_24 : decode cX5_init 24 = .ok (.newarray .int, 2) := by decide +kernel
theorem dX5_init_26 : decode cX5_init 26 = .ok (.putfield 18, 3) := by decide +kernel
theorem dX5_init_29 : decode cX5_init 29 = .ok (.aload_n 0, 1) := by decide +kernel
theorem dX5_init_30 : decode cX5_init 30 = .ok (.sipush 432, 3) := by decide +kernel
theorem dX5_init_33 : decode cX5_init 33 = .ok (.newarray .int, 2) := by decide +kernel
theorem dX5_init_35 : decode cX5_init 35 = .ok (.putfield 21, 3) := by decide +kernel
theorem dX5_init_38 : decode cX5_init 38 = .ok (.aload_n 0, 1) := by decide +kernel
theorem dX5_init_39 : decode cX5_init 39 = .ok (.iconst 4, 1) := by decide +kernel
theorem dX5_init_40 : decode cX5_init 40 = .ok (.newarray .int, 2) := by decide +kernel
theorem dX5_init_42 : decode cX5_init 42 = .ok (.putfield 24, 3) := by decide +kernel
theorem dX5_init_45 : decode cX5_init 45 = .ok (.aload_n 0, 1) := by decide +kernel
theorem dX5_init_46 : decode cX5_init 46 = .ok (.bipush 12, 2) := by decide +kernel
theorem dX5_init_48 : decode cX5_init 48 = .ok (.newarray .int, 2) := by decide +kernel
theorem dX5_init_50 : decode cX5_init 50 = .ok (.putfield 27, 3) := by decide +kernel
theorem dX5_init_53 : decode cX5_init 53 = .ok (.aload_n 0, 1) := by decide +kernel
theorem dX5_init_54 : decode cX5_init 54 = .ok (.bipush 12, 2) := by decide +kernel
theorem dX5_init_56 : decode cX5_init 56 = .ok (.newarray .int, 2) := by decide +kernel
theorem dX5_init_58 : decode cX5_init 58 = .ok (.putfield 30, 3) := by decide +kernel
theorem dX5_init_61 : decode cX5_init 61 = .ok (.aload_n 0, 1) := by decide +kernel
theorem dX5_init_62 : decode cX5_init 62 = .ok (.bipush 12, 2) := by decide +kernel
theorem dX5_init_64 : decode cX5_init 64 = .ok (.newarray .int, 2) := by decide +kernel
theorem dX5_init_66 : decode cX5_init 66 = .ok (.putfield 33, 3) := by decide +kernel
theorem dX5_init_69 : decode cX5_init 69 = .ok (.return_, 1) := by decide +kernel
theorem dX5_find_0 : decode cX5_find 0 = .ok (.iconst 0, 1) := by decide +kernel
theorem dX5_find_1 : decode cX5_find 1 = .ok (.istore_n 3, 1) := by decide +kernel
theorem dX5_find_2 : decode cX5_find 2 = .ok (.iload_n 3, 1) := by decide +kernel
theorem dX5_find_3 : decode cX5_find 3 = .ok (.aload_n 1, 1) := by decide +kernel
theorem dX5_find_4 : decode cX5_find 4 = .ok (.getfield 36, 3) := by decide +kernel
theorem dX5_find_7 : decode cX5_find 7 = .ok (.if_icmp .ge 55, 3) := by decide +kernel
theorem dX5_find_10 : decode cX5_find 10 = .ok (.aload_n 2, 1) := by decide +kernel
theorem dX5_find_11 : decode cX5_find 11 = .ok (.getfield 42, 3) := by decide +kernel
theorem dX5_find_14 : decode cX5_find 14 = .ok (.bipush 8, 2) := by decide +kernel
theorem dX5_find_16 : decode cX5_find 16 = .ok (.iload_n 3, 1) := by decide +kernel
theorem dX5_find_17 : decode cX5_find 17 = .ok (.imul, 1) := by decide +kernel
theorem dX5_find_18 : decode cX5_find 18 = .ok (.bipush 8, 2) := by decide +kernel
theorem dX5_find_20 : decode cX5_find 20 = .ok (.invokestatic 47, 3) := by decide +kernel
theorem dX5_find_23 : decode cX5_find 23 = .ok (.iconst (-1), 1) := by decide +kernel
theorem dX5_find_24 : decode cX5_find 24 = .ok (.if_icmp .eq 7, 3) := by decide +kernel
theorem dX5_find_27 : decode cX5_find 27 = .ok (.iconst 1, 1) := by decide +kernel
theorem dX5_find_28 : decode cX5_find 28 = .ok (.goto 4, 3) := by decide +kernel
theorem dX5_find_31 : decode cX5_find 31 = .ok (.iconst 0, 1) := by decide +kernel
theorem dX5_find_32 : decode cX5_find 32 = .ok (.istore 4, 2) := by decide +kernel
theorem dX5_find_34 : decode cX5_find 34 = .ok (.aload_n 0, 1) := by decide +kernel
theorem dX5_find_35 : decode cX5_find 35 = .ok (.getfield 9, 3) := by decide +kernel
theorem dX5_find_38 : decode cX5_find 38 = .ok (.iload_n 3, 1) := by decide +kernel
theorem dX5_find_39 : decode cX5_find 39 = .ok (.iload 4, 2) := by decide +kernel
theorem dX5_find_41 : decode cX5_find 41 = .ok (.ifCond .eq 7, 3) := by decide +kernel
theorem dX5_find_44 : decode cX5_find 44 = .ok (.iconst 0, 1) := by decide +kernel
theorem dX5_find_45 : decode cX5_find 45 = .ok (.goto 10, 3) := by decide +kernel
theorem dX5_find_48 : decode cX5_find 48 = .ok (.aload_n 0, 1) := by decide +kernel
theorem dX5_find_49 : decode cX5_find 49 = .ok (.aload_n 1, 1) := by decide +kernel
theorem dX5_find_50 : decode cX5_find 50 = .ok (.aload_n 2, 1) := by decide +kernel
theorem dX5_find_51 : decode cX5_find 51 = .ok (.iload_n 3, 1) := by decide +kernel
theorem dX5_find_52 : decode cX5_find 52 = .ok (.invokevirtual 51, 3) := by decide +kernel
theorem dX5_find_55 : decode cX5_find 55 = .ok (.iastore, 1) := by decide +kernel
theorem dX5_find_56 : decode cX5_find 56 = .ok (.iinc 3 1, 3) := by decide +kernel
theorem dX5_find_59 : decode cX5_find 59 = .ok (.goto (-57), 3) := by decide +kernel
theorem dX5_find_62 : decode cX5_find 62 = .ok (.aload_n 0, 1) := by decide +kernel
theorem dX5_find_63 : decode cX5_find 63 = .ok (.iconst (-1), 1) := by decide +kernel
theorem dX5_find_64 : decode cX5_find 64 = .ok (.putfield 55, 3) := by decide +kernel
theorem dX5_find_67 : decode cX5_find 67 = .ok (.aload_n 1, 1) := by decide +kernel
theorem dX5_find_68 : decode cX5_find 68 = .ok (.getfield 58, 3) := by decide +kernel
theorem dX5_find_71 : decode cX5_find 71 = .ok (.iconst 1, 1) := by decide +kernel
theorem dX5_find_72 : decode cX5_find 72 = .ok (.isub, 1) := by decide +kernel
theorem dX5_find_73 : decode cX5_find 73 = .ok (.istore_n 3, 1) := by decide +kernel
theorem dX5_find_74 : decode cX5_find 74 = .ok (.iload_n 3, 1) := by decide +kernel
theorem dX5_find_75 : decode cX5_find 75 = .ok (.ifCond .lt 45, 3) := by decide +kernel
theorem dX5_find_78 : decode cX5_find 78 = .ok (.aload_n 0, 1) := by decide +kernel
theorem dX5_find_79 : decode cX5_find 79 = .ok (.aload_n 1, 1) := by decide +kernel
theorem dX5_find_80 : decode cX5_find 80 = .ok (.aload_n 2, 1) := by decide +kernel
theorem dX5_find_81 : decode cX5_find 81 = .ok (.iload_n 3, 1) := by decide +kernel
theorem dX5_find_82 : decode cX5_find 82 = .ok (.invokevirtual 61, 3) := by decide +kernel
theorem dX5_find_85 : decode cX5_find 85 = .ok (.aload_n 0, 1) := by decide +kernel
theorem dX5_find_86 : decode cX5_find 86 = .ok (.getfield 18, 3) := by decide +kernel
theorem dX5_find_89 : decode cX5_find 89 = .ok (.bipush 32, 2) := by decide +kernel
theorem dX5_find_91 : decode cX5_find 91 = .ok (.iload_n 3, 1) := by decide +kernel
theorem dX5_find_92 : decode cX5_find 92 = .ok (.imul, 1) := by decide +kernel
theorem dX5_find_93 : decode cX5_find 93 = .ok (.bipush 8, 2) := by decide +kernel
theorem dX5_find_95 : decode cX5_find 95 = .ok (.aload_n 1, 1) := by decide +kernel
theorem dX5_find_96 : decode cX5_find 96 = .ok (.getfield 65, 3) := by decide +kernel
theorem dX5_find_99 : decode cX5_find 99 = .ok (.iload_n 3, 1) := by decide +kernel
theorem dX5_find_100 : decode cX5_find 100 = .ok (.iaload, 1) := by decide +kernel
theorem dX5_find_101 : decode cX5_find 101 = .ok (.imul, 1) := by decide +kernel
theorem dX5_find_102 : decode cX5_find 102 = .ok (.invokestatic 47, 3) := by decide +kernel
theorem dX5_find_105 : decode cX5_find 105 = .ok (.iconst (-1), 1) := by decide +kernel
theorem dX5_find_106 : decode cX5_find 106 = .ok (.if_icmp .eq 8, 3) := by decide +kernel
theorem dX5_find_109 : decode cX5_find 109 = .ok (.aload_n 0, 1) := by decide +kernel
theorem dX5_find_110 : decode cX5_find 110 = .ok (.iload_n 3, 1) := by decide +kernel
theorem dX5_find_111 : decode cX5_find 111 = .ok (.putfield 55, 3) := by decide +kernel
theorem dX5_find_114 : decode cX5_find 114 = .ok (.iinc 3 (-1), 3) := by decide +kernel
theorem dX5_find_117 : decode cX5_find 117 = .ok (.goto (-43), 3) := by decide +kernel
theorem dX5_find_120 : decode cX5_find 120 = .ok (.iconst 0, 1) := by decide +kernel
theorem dX5_find_121 : decode cX5_find 121 = .ok (.istore_n 3, 1) := by decide +kernel
theorem dX5_find_122 : decode cX5_find 122 = .ok (.iload_n 3, 1) := by decide +kernel
theorem dX5_find_123 : decode cX5_find 123 = .ok (.aload_n 1, 1) := by decide +kernel
theorem dX5_find_124 : decode cX5_find 124 = .ok (.getfield 58, 3) := by decide +kernel
theorem dX5_find_127 : decode cX5_find 127 = .ok (.if_icmp .ge 23, 3) := by decide +kernel
theorem dX5_find_130 : decode cX5_find 130 = .ok (.aload_n 0, 1) := by decide +kernel
theorem dX5_find_131 : decode cX5_find 131 = .ok (.getfield 55, 3) := by decide +kernel
theorem dX5_find_134 : decode cX5_find 134 = .ok (.iconst (-1), 1) := by decide +kernel
theorem dX5_find_135 : decode cX5_find 135 = .ok (.if_icmp .ne 15, 3) := by decide +kernel
theorem dX5_find_138 : decode cX5_find 138 = .ok (.aload_n 0, 1) := by decide +kernel
theorem dX5_find_139 : decode cX5_find 139 = .ok (.aload_n 1, 1) := by decide +kernel
theorem dX5_find_140 : decode cX5_find 140 = .ok (.iload_n 3, 1) := by decide +kernel
theorem dX5_find_141 : decode cX5_find 141 = .ok (.invokevirtual 68, 3) := by decide +kernel
theorem dX5_find_144 : decode cX5_find 144 = .ok (.iinc 3 1, 3) := by decide +kernel
theorem dX5_find_147 : decode cX5_find 147 = .ok (.goto (-25), 3) := by decide +kernel
theorem dX5_find_150 : decode cX5_find 150 = .ok (.return_, 1) := by decide +kernel
theorem dX5_fit_0 : decode cX5_fit 0 = .ok (.iconst 0, 1) := by decide +kernel
theorem dX5_fit_1 : decode cX5_fit 1 = .ok (.istore_n 3, 1) := by decide +kernel
theorem dX5_fit_2 : decode cX5_fit 2 = .ok (.iload_n 3, 1) := by decide +kernel
theorem dX5_fit_3 : decode cX5_fit 3 = .ok (.aload_n 1, 1) := by decide +kernel
theorem dX5_fit_4 : decode cX5_fit 4 = .ok (.getfield 65, 3) := by decide +kernel
theorem dX5_fit_7 : decode cX5_fit 7 = .ok (.iload_n 2, 1) := by decide +kernel
theorem dX5_fit_8 : decode cX5_fit 8 = .ok (.iaload, 1) := by decide +kernel
theorem dX5_fit_9 : decode cX5_fit 9 = .ok (.if_icmp .ge 25, 3) := by decide +kernel
theorem dX5_fit_12 : decode cX5_fit 12 = .ok (.aload_n 0, 1) := by decide +kernel
theorem dX5_fit_13 : decode cX5_fit 13 = .ok (.getfield 9, 3) := by decide +kernel
theorem dX5_fit_16 : decode cX5_fit 16 = .ok (.aload_n 1, 1) := by decide +kernel
theorem dX5_fit_17 : decode cX5_fit 17 = .ok (.iload_n 2, 1) := by decide +kernel
theorem dX5_fit_18 : decode cX5_fit 18 = .ok (.iload_n 3, 1) := by decide +kernel
theorem dX5_fit_19 : decode cX5_fit 19 = .ok (.invokevirtual 72, 3) := by decide +kernel
theorem dX5_fit_22 : decode cX5_fit 22 = .ok (.iaload, 1) := by decide +kernel
theorem dX5_fit_23 : decode cX5_fit 23 = .ok (.ifCond .ne 5, 3) := by decide +kernel
theorem dX5_fit_26 : decode cX5_fit 26 = .ok (.iconst 0, 1) := by decide +kernel
theorem dX5_fit_27 : decode cX5_fit 27 = .ok (.ireturn, 1) := by decide +kernel
theorem dX5_fit_28 : decode cX5_fit 28 = .ok (.iinc 3 1, 3) := by decide +kernel
theorem dX5_fit_31 : decode cX5_fit 31 = .ok (.goto (-29), 3) := by decide +kernel
theorem dX5_fit_34 : decode cX5_fit 34 = .ok (.iconst 1, 1) := by decide +kernel
theorem dX5_fit_35 : decode cX5_fit 35 = .ok (.ireturn, 1) := by decide +kernel
theorem dX5_during_0 : decode cX5_during 0 = .ok (.iconst 0, 1) := by decide +kernel
theorem dX5_during_1 : decode cX5_during 1 = .ok (.istore 4, 2) := by decide +kernel
theorem dX5_during_3 : decode cX5_during 3 = .ok (.iconst 0, 1) := by decide +kernel
theorem dX5_during_4 : decode cX5_during 4 = .ok (.istore 5, 2) := by decide +kernel
theorem dX5_during_6 : decode cX5_during 6 = .ok (.iload 5, 2) := by decide +kernel
theorem dX5_during_8 : decode cX5_during 8 = .ok (.aload_n 1, 1) := by decide +kernel
theorem dX5_during_9 : decode cX5_during 9 = .ok (.getfield 76, 3) := by decide +kernel
theorem dX5_during_12 : decode cX5_during 12 = .ok (.iload_n 2, 1) := by decide +kernel
theorem dX5_during_13 : decode cX5_during 13 = .ok (.iaload, 1) := by decide +kernel
theorem dX5_during_14 : decode cX5_during 14 = .ok (.aload_n 1, 1) := by decide +kernel
theorem dX5_during_15 : decode cX5_during 15 = .ok (.getfield 79, 3) := by decide +kernel
theorem dX5_during_18 : decode cX5_during 18 = .ok (.iload_n 2, 1) := by decide +kernel
theorem dX5_during_19 : decode cX5_during 19 = .ok (.iaload, 1) := by decide +kernel
theorem dX5_during_20 : decode cX5_during 20 = .ok (.iadd, 1) := by decide +kernel
theorem dX5_during_21 : decode cX5_during 21 = .ok (.if_icmp .ge 34, 3) := by decide +kernel
theorem dX5_during_24 : decode cX5_during 24 = .ok (.aload_n 0, 1) := by decide +kernel
theorem dX5_during_25 : decode cX5_during 25 = .ok (.getfield 15, 3) := by decide +kernel
theorem dX5_during_28 : decode cX5_during 28 = .ok (.bipush 8, 2) := by decide +kernel
theorem dX5_during_30 : decode cX5_during 30 = .ok (.iload_n 2, 1) := by decide +kernel
theorem dX5_during_31 : decode cX5_during 31 = .ok (.imul, 1) := by decide +kernel
theorem dX5_during_32 : decode cX5_during 32 = .ok (.iload 5, 2) := by decide +kernel
theorem dX5_during_34 : decode cX5_during 34 = .ok (.iadd, 1) := by decide +kernel
theorem dX5_during_35 : decode cX5_during 35 = .ok (.iaload, 1) := by decide +kernel
theorem dX5_during_36 : decode cX5_during 36 = .ok (.iload_n 3, 1) := by decide +kernel
theorem dX5_during_37 : decode cX5_during 37 = .ok (.if_icmp .ne 12, 3) := by decide +kernel
theorem dX5_during_40 : decode cX5_during 40 = .ok (.iload 4, 2) := by decide +kernel
theorem dX5_during_42 : decode cX5_during 42 = .ok (.iconst 1, 1) := by decide +kernel
theorem dX5_during_43 : decode cX5_during 43 = .ok (.iload 5, 2) := by decide +kernel
theorem dX5_during_45 : decode cX5_during 45 = .ok (.ishl, 1) := by decide +kernel
theorem dX5_during_46 : decode cX5_during 46 = .ok (.ior, 1) := by decide +kernel
theorem dX5_during_47 : decode cX5_during 47 = .ok (.istore 4, 2) := by decide +kernel
theorem dX5_during_49 : decode cX5_during 49 = .ok (.iinc 5 1, 3) := by decide +kernel
theorem dX5_during_52 : decode cX5_during 52 = .ok (.goto (-46), 3) := by decide +kernel
theorem dX5_during_55 : decode cX5_during 55 = .ok (.iload 4, 2) := by decide +kernel
theorem dX5_during_57 : decode cX5_during 57 = .ok (.ireturn, 1) := by decide +kernel
theorem dX5_orderOf_0 : decode cX5_orderOf 0 = .ok (.aload_n 1, 1) := by decide +kernel
theorem dX5_orderOf_1 : decode cX5_orderOf 1 = .ok (.iload_n 3, 1) := by decide +kernel
theorem dX5_orderOf_2 : decode cX5_orderOf 2 = .ok (.invokevirtual 82, 3) := by decide +kernel
theorem dX5_orderOf_5 : decode cX5_orderOf 5 = .ok (.aload_n 1, 1) := by decide +kernel
theorem dX5_orderOf_6 : decode cX5_orderOf 6 = .ok (.iload_n 3, 1) := by decide +kernel
theorem dX5_orderOf_7 : decode cX5_orderOf 7 = .ok (.invokevirtual 86, 3) := by decide +kernel
theorem dX5_orderOf_10 : decode cX5_orderOf 10 = .ok (.ior, 1) := by decide +kernel
theorem dX5_orderOf_11 : decode cX5_orderOf 11 = .ok (.istore 4, 2) := by decide +kernel
theorem dX5_orderOf_13 : decode cX5_orderOf 13 = .ok (.iconst 0, 1) := by decide +kernel
theorem dX5_orderOf_14 : decode cX5_orderOf 14 = .ok (.istore 5, 2) := by decide +kernel
theorem dX5_orderOf_16 : decode cX5_orderOf 16 = .ok (.iconst 0, 1) := by decide +kernel
theorem dX5_orderOf_17 : decode cX5_orderOf 17 = .ok (.istore 6, 2) := by decide +kernel
theorem dX5_orderOf_19 : decode cX5_orderOf 19 = .ok (.iload 6, 2) := by decide +kernel
theorem dX5_orderOf_21 : decode cX5_orderOf 21 = .ok (.bipush 16, 2) := by decide +kernel
theorem dX5_orderOf_23 : decode cX5_orderOf 23 = .ok (.if_icmp .gt 53, 3) := by decide +kernel
theorem dX5_orderOf_26 : decode cX5_orderOf 26 = .ok (.iload 4, 2) := by decide +kernel
theorem dX5_orderOf_28 : decode cX5_orderOf 28 = .ok (.ifCond .eq 48, 3) := by decide +kernel
theorem dX5_orderOf_31 : decode cX5_orderOf 31 = .ok (.iload 6, 2) := by decide +kernel
theorem dX5_orderOf_33 : decode cX5_orderOf 33 = .ok (.iconst 2, 1) := by decide +kernel
theorem dX5_orderOf_34 : decode cX5_orderOf 34 = .ok (.irem, 1) := by decide +kernel
theorem dX5_orderOf_35 : decode cX5_orderOf 35 = .ok (.ifCond .ne 11, 3) := by decide +kernel
theorem dX5_orderOf_38 : decode cX5_orderOf 38 = .ok (.aload_n 1, 1) := by decide +kernel
theorem dX5_orderOf_39 : decode cX5_orderOf 39 = .ok (.iload_n 3, 1) := by decide +kernel
theorem dX5_orderOf_40 : decode cX5_orderOf 40 = .ok (.invokevirtual 86, 3) := by decide +kernel
theorem dX5_orderOf_43 : decode cX5_orderOf 43 = .ok (.goto 8, 3) := by decide +kernel
theorem dX5_orderOf_46 : decode cX5_orderOf 46 = .ok (.aload_n 1, 1) := by decide +kernel
theorem dX5_orderOf_47 : decode cX5_orderOf 47 = .ok (.iload_n 3, 1) := by decide +kernel
theorem dX5_orderOf_48 : decode cX5_orderOf 48 = .ok (.invokevirtual 82, 3) := by decide +kernel
theorem dX5_orderOf_51 : decode cX5_orderOf 51 = .ok (.istore 7, 2) := by decide +kernel
theorem dX5_orderOf_53 : decode cX5_orderOf 53 = .ok (.aload_n 0, 1) := by decide +kernel
theorem dX5_orderOf_54 : decode cX5_orderOf 54 = .ok (.aload_n 2, 1) := by decide +kernel
theorem dX5_orderOf_55 : decode cX5_orderOf 55 = .ok (.iload_n 3, 1) := by decide +kernel
theorem dX5_orderOf_56 : decode cX5_orderOf 56 = .ok (.iload 4, 2) := by decide +kernel
theorem dX5_orderOf_58 : decode cX5_orderOf 58 = .ok (.iload 7, 2) := by decide +kernel
theorem dX5_orderOf_60 : decode cX5_orderOf 60 = .ok (.iload 6, 2) := by decide +kernel
theorem dX5_orderOf_62 : decode cX5_orderOf 62 = .ok (.invokevirtual 89, 3) := by decide +kernel
theorem dX5_orderOf_65 : decode cX5_orderOf 65 = .ok (.istore 4, 2) := by decide +kernel
theorem dX5_orderOf_67 : decode cX5_orderOf 67 = .ok (.iinc 5 1, 3) := by decide +kernel
theorem dX5_orderOf_70 : decode cX5_orderOf 70 = .ok (.iinc 6 1, 3) := by decide +kernel
theorem dX5_orderOf_73 : decode cX5_orderOf 73 = .ok (.goto (-54), 3) := by decide +kernel
theorem dX5_orderOf_76 : decode cX5_orderOf 76 = .ok (.iconst 1, 1) := by decide +kernel
theorem dX5_orderOf_77 : decode cX5_orderOf 77 = .ok (.iload 5, 2) := by decide +kernel
theorem dX5_orderOf_79 : decode cX5_orderOf 79 = .ok (.iconst 1, 1) := by decide +kernel
theorem dX5_orderOf_80 : decode cX5_orderOf 80 = .ok (.iadd, 1) := by decide +kernel
theorem dX5_orderOf_81 : decode cX5_orderOf 81 = .ok (.iconst 2, 1) := by decide +kernel
theorem dX5_orderOf_82 : decode cX5_orderOf 82 = .ok (.idiv, 1) := by decide +kernel
theorem dX5_orderOf_83 : decode cX5_orderOf 83 = .ok (.invokestatic 93, 3) := by decide +kernel
theorem dX5_orderOf_86 : decode cX5_orderOf 86 = .ok (.istore 6, 2) := by decide +kernel
theorem dX5_orderOf_88 : decode cX5_orderOf 88 = .ok (.iconst 0, 1) := by decide +kernel
theorem dX5_orderOf_89 : decode cX5_orderOf 89 = .ok (.istore 7, 2) := by decide +kernel
theorem dX5_orderOf_91 : decode cX5_orderOf 91 = .ok (.iload 7, 2) := by decide +kernel
theorem dX5_orderOf_93 : decode cX5_orderOf 93 = .ok (.aload_n 1, 1) := by decide +kernel
theorem dX5_orderOf_94 : decode cX5_orderOf 94 = .ok (.getfield 76, 3) := by decide +kernel
theorem dX5_orderOf_97 : decode cX5_orderOf 97 = .ok (.iload_n 3, 1) := by decide +kernel
theorem dX5_orderOf_98 : decode cX5_orderOf 98 = .ok (.iaload, 1) := by decide +kernel
theorem dX5_orderOf_99 : decode cX5_orderOf 99 = .ok (.aload_n 1, 1) := by decide +kernel
theorem dX5_orderOf_100 : decode cX5_orderOf 100 = .ok (.getfield 79, 3) := by decide +kernel
theorem dX5_orderOf_103 : decode cX5_orderOf 103 = .ok (.iload_n 3, 1) := by decide +kernel
theorem dX5_orderOf_104 : decode cX5_orderOf 104 = .ok (.iaload, 1) := by decide +kernel
theorem dX5_orderOf_105 : decode cX5_orderOf 105 = .ok (.iadd, 1) := by decide +kernel
theorem dX5_orderOf_106 : decode cX5_orderOf 106 = .ok (.if_icmp .ge 38, 3) := by decide +kernel
theorem dX5_orderOf_109 : decode cX5_orderOf 109 = .ok (.aload_n 0, 1) := by decide +kernel
theorem dX5_orderOf_110 : decode cX5_orderOf 110 = .ok (.getfield 15, 3) := by decide +kernel
theorem dX5_orderOf_113 : decode cX5_orderOf 113 = .ok (.bipush 8, 2) := by decide +kernel
theorem dX5_orderOf_115 : decode cX5_orderOf 115 = .ok (.iload_n 3, 1) := by decide +kernel
theorem dX5_orderOf_116 : decode cX5_orderOf 116 = .ok (.imul, 1) := by decide +kernel
theorem dX5_orderOf_117 : decode cX5_orderOf 117 = .ok (.iload 7, 2) := by decide +kernel
theorem dX5_orderOf_119 : decode cX5_orderOf 119 = .ok (.iadd, 1) := by decide +kernel
theorem dX5_orderOf_120 : decode cX5_orderOf 120 = .ok (.iload 6, 2) := by decide +kernel
theorem dX5_orderOf_122 : decode cX5_orderOf 122 = .ok (.aload_n 0, 1) := by decide +kernel
theorem dX5_orderOf_123 : decode cX5_orderOf 123 = .ok (.getfield 15, 3) := by decide +kernel
theorem dX5_orderOf_126 : decode cX5_orderOf 126 = .ok (.bipush 8, 2) := by decide +kernel
theorem dX5_orderOf_128 : decode cX5_orderOf 128 = .ok (.iload_n 3, 1) := by decide +kernel
theorem dX5_orderOf_129 : decode cX5_orderOf 129 = .ok (.imul, 1) := by decide +kernel
theorem dX5_orderOf_130 : decode cX5_orderOf 130 = .ok (.iload 7, 2) := by decide +kernel
theorem dX5_orderOf_132 : decode cX5_orderOf 132 = .ok (.iadd, 1) := by decide +kernel
theorem dX5_orderOf_133 : decode cX5_orderOf 133 = .ok (.iaload, 1) := by decide +kernel
theorem dX5_orderOf_134 : decode cX5_orderOf 134 = .ok (.iconst 2, 1) := by decide +kernel
theorem dX5_orderOf_135 : decode cX5_orderOf 135 = .ok (.idiv, 1) := by decide +kernel
theorem dX5_orderOf_136 : decode cX5_orderOf 136 = .ok (.isub, 1) := by decide +kernel
theorem dX5_orderOf_137 : decode cX5_orderOf 137 = .ok (.iastore, 1) := by decide +kernel
theorem dX5_orderOf_138 : decode cX5_orderOf 138 = .ok (.iinc 7 1, 3) := by decide +kernel
theorem dX5_orderOf_141 : decode cX5_orderOf 141 = .ok (.goto (-50), 3) := by decide +kernel
theorem dX5_orderOf_144 : decode cX5_orderOf 144 = .ok (.iload 6, 2) := by decide +kernel
theorem dX5_orderOf_146 : decode cX5_orderOf 146 = .ok (.ireturn, 1) := by decide +kernel
theorem dX5_fill_0 : decode cX5_fill 0 = .ok (.iload_n 3, 1) := by decide +kernel
theorem dX5_fill_1 : decode cX5_fill 1 = .ok (.istore 6, 2) := by decide +kernel
theorem dX5_fill_3 : decode cX5_fill 3 = .ok (.iconst 1, 1) := by decide +kernel
theorem dX5_fill_4 : decode cX5_fill 4 = .ok (.istore 7, 2) := by decide +kernel
theorem dX5_fill_6 : decode cX5_fill 6 = .ok (.iconst 0, 1) := by decide +kernel
theorem dX5_fill_7 : decode cX5_fill 7 = .ok (.istore 8, 2) := by decide +kernel
theorem dX5_fill_9 : decode cX5_fill 9 = .ok (.iload 8, 2) := by decide +kernel
theorem dX5_fill_11 : decode cX5_fill 11 = .ok (.bipush 8, 2) := by decide +kernel
theorem dX5_fill_13 : decode cX5_fill 13 = .ok (.if_icmp .gt 87, 3) := by decide +kernel
theorem dX5_fill_16 : decode cX5_fill 16 = .ok (.iload 7, 2) := by decide +kernel
theorem dX5_fill_18 : decode cX5_fill 18 = .ok (.ifCond .eq 82, 3) := by decide +kernel
theorem dX5_fill_21 : decode cX5_fill 21 = .ok (.iconst 0, 1) := by decide +kernel
theorem dX5_fill_22 : decode cX5_fill 22 = .ok (.istore 7, 2) := by decide +kernel
theorem dX5_fill_24 : decode cX5_fill 24 = .ok (.iconst 0, 1) := by decide +kernel
theorem dX5_fill_25 : decode cX5_fill 25 = .ok (.istore 9, 2) := by decide +kernel
theorem dX5_fill_27 : decode cX5_fill 27 = .ok (.iload 9, 2) := by decide +kernel
theorem dX5_fill_29 : decode cX5_fill 29 = .ok (.bipush 8, 2) := by decide +kernel
theorem dX5_fill_31 : decode cX5_fill 31 = .ok (.if_icmp .ge 63, 3) := by decide +kernel
theorem dX5_fill_34 : decode cX5_fill 34 = .ok (.iload 6, 2) := by decide +kernel
theorem dX5_fill_36 : decode cX5_fill 36 = .ok (.iload 4, 2) := by decide +kernel
theorem dX5_fill_38 : decode cX5_fill 38 = .ok (.iand, 1) := by decide +kernel
theorem dX5_fill_39 : decode cX5_fill 39 = .ok (.iload 9, 2) := by decide +kernel
theorem dX5_fill_41 : decode cX5_fill 41 = .ok (.iushr, 1) := by decide +kernel
theorem dX5_fill_42 : decode cX5_fill 42 = .ok (.iconst 1, 1) := by decide +kernel
theorem dX5_fill_43 : decode cX5_fill 43 = .ok (.iand, 1) := by decide +kernel
theorem dX5_fill_44 : decode cX5_fill 44 = .ok (.ifCond .eq 44, 3) := by decide +kernel
theorem dX5_fill_47 : decode cX5_fill 47 = .ok (.aload_n 0, 1) := by decide +kernel
theorem dX5_fill_48 : decode cX5_fill 48 = .ok (.aload_n 1, 1) := by decide +kernel
theorem dX5_fill_49 : decode cX5_fill 49 = .ok (.iload_n 2, 1) := by decide +kernel
theorem dX5_fill_50 : decode cX5_fill 50 = .ok (.iload 6, 2) := by decide +kernel
theorem dX5_fill_52 : decode cX5_fill 52 = .ok (.iload 9, 2) := by decide +kernel
theorem dX5_fill_54 : decode cX5_fill 54 = .ok (.invokevirtual 98, 3) := by decide +kernel
theorem dX5_fill_57 : decode cX5_fill 57 = .ok (.ifCond .ne 31, 3) := by decide +kernel
theorem dX5_fill_60 : decode cX5_fill 60 = .ok (.aload_n 0, 1) := by decide +kernel
theorem dX5_fill_61 : decode cX5_fill 61 = .ok (.getfield 15, 3) := by decide +kernel
theorem dX5_fill_64 : decode cX5_fill 64 = .ok (.bipush 8, 2) := by decide +kernel
theorem dX5_fill_66 : decode cX5_fill 66 = .ok (.iload_n 2, 1) := by decide +kernel
theorem dX5_fill_67 : decode cX5_fill 67 = .ok (.imul, 1) := by decide +kernel
theorem dX5_fill_68 : decode cX5_fill 68 = .ok (.iload 9, 2) := by decide +kernel
theorem dX5_fill_70 : decode cX5_fill 70 = .ok (.iadd, 1) := by decide +kernel
theorem dX5_fill_71 : decode cX5_fill 71 = .ok (.iload 5, 2) := by decide +kernel
theorem dX5_fill_73 : decode cX5_fill 73 = .ok (.iastore, 1) := by decide +kernel
theorem dX5_fill_74 : decode cX5_fill 74 = .ok (.iload 6, 2) := by decide +kernel
theorem dX5_fill_76 : decode cX5_fill 76 = .ok (.iconst 1, 1) := by decide +kernel
theorem dX5_fill_77 : decode cX5_fill 77 = .ok (.iload 9, 2) := by decide +kernel
theorem dX5_fill_79 : decode cX5_fill 79 = .ok (.ishl, 1) := by decide +kernel
theorem dX5_fill_80 : decode cX5_fill 80 = .ok (.iconst (-1), 1) := by decide +kernel
theorem dX5_fill_81 : decode cX5_fill 81 = .ok (.ixor, 1) := by decide +kernel
theorem dX5_fill_82 : decode cX5_fill 82 = .ok (.iand, 1) := by decide +kernel
theorem dX5_fill_83 : decode cX5_fill 83 = .ok (.istore 6, 2) := by decide +kernel
theorem dX5_fill_85 : decode cX5_fill 85 = .ok (.iconst 1, 1) := by decide +kernel
theorem dX5_fill_86 : decode cX5_fill 86 = .ok (.istore 7, 2) := by decide +kernel
theorem dX5_fill_88 : decode cX5_fill 88 = .ok (.iinc 9 1, 3) := by decide +kernel
theorem dX5_fill_91 : decode cX5_fill 91 = .ok (.goto (-64), 3) := by decide +kernel
theorem dX5_fill_94 : decode cX5_fill 94 = .ok (.iinc 8 1, 3) := by decide +kernel
theorem dX5_fill_97 : decode cX5_fill 97 = .ok (.goto (-88), 3) := by decide +kernel
theorem dX5_fill_100 : decode cX5_fill 100 = .ok (.iload 6, 2) := by decide +kernel
theorem dX5_fill_102 : decode cX5_fill 102 = .ok (.ireturn, 1) := by decide +kernel
theorem dX5_isAwaited_0 : decode cX5_isAwaited 0 = .ok (.iconst 0, 1) := by decide +kernel
theorem dX5_isAwaited_1 : decode cX5_isAwaited 1 = .ok (.istore 5, 2) := by decide +kernel
theorem dX5_isAwaited_3 : decode cX5_isAwaited 3 = .ok (.iload 5, 2) := by decide +kernel
theorem dX5_isAwaited_5 : decode cX5_isAwaited 5 = .ok (.bipush 8, 2) := by decide +kernel
theorem dX5_isAwaited_7 : decode cX5_isAwaited 7 = .ok (.if_icmp .ge 40, 3) := by decide +kernel
theorem dX5_isAwaited_10 : decode cX5_isAwaited 10 = .ok (.iload_n 3, 1) := by decide +kernel
theorem dX5_isAwaited_11 : decode cX5_isAwaited 11 = .ok (.iload 5, 2) := by decide +kernel
theorem dX5_isAwaited_13 : decode cX5_isAwaited 13 = .ok (.iushr, 1) := by decide +kernel
theorem dX5_isAwaited_14 : decode cX5_isAwaited 14 = .ok (.iconst 1, 1) := by decide +kernel
theorem dX5_isAwaited_15 : decode cX5_isAwaited 15 = .ok (.iand, 1) := by decide +kernel
theorem dX5_isAwaited_16 : decode cX5_isAwaited 16 = .ok (.ifCond .eq 25, 3) := by decide +kernel
theorem dX5_isAwaited_19 : decode cX5_isAwaited 19 = .ok (.aload_n 1, 1) := by decide +kernel
theorem dX5_isAwaited_20 : decode cX5_isAwaited 20 = .ok (.getfield 42, 3) := by decide +kernel
theorem dX5_isAwaited_23 : decode cX5_isAwaited 23 = .ok (.bipush 8, 2) := by decide +kernel
theorem dX5_isAwaited_25 : decode cX5_isAwaited 25 = .ok (.iload_n 2, 1) := by decide +kernel
theorem dX5_isAwaited_26 : decode cX5_isAwaited 26 = .ok (.imul, 1) := by decide +kernel
theorem dX5_isAwaited_27 : decode cX5_isAwaited 27 = .ok (.iload 5, 2) := by decide +kernel
theorem dX5_isAwaited_29 : decode cX5_isAwaited 29 = .ok (.iadd, 1) := by decide +kernel
theorem dX5_isAwaited_30 : decode cX5_isAwaited 30 = .ok (.iaload, 1) := by decide +kernel
theorem dX5_isAwaited_31 : decode cX5_isAwaited 31 = .ok (.iload 4, 2) := by decide +kernel
theorem dX5_isAwaited_33 : decode cX5_isAwaited 33 = .ok (.iushr, 1) := by decide +kernel
theorem dX5_isAwaited_34 : decode cX5_isAwaited 34 = .ok (.iconst 1, 1) := by decide +kernel
theorem dX5_isAwaited_35 : decode cX5_isAwaited 35 = .ok (.iand, 1) := by decide +kernel
theorem dX5_isAwaited_36 : decode cX5_isAwaited 36 = .ok (.ifCond .eq 5, 3) := by decide +kernel
theorem dX5_isAwaited_39 : decode cX5_isAwaited 39 = .ok (.iconst 1, 1) := by decide +kernel
theorem dX5_isAwaited_40 : decode cX5_isAwaited 40 = .ok (.ireturn, 1) := by decide +kernel
theorem dX5_isAwaited_41 : decode cX5_isAwaited 41 = .ok (.iinc 5 1, 3) := by decide +kernel
theorem dX5_isAwaited_44 : decode cX5_isAwaited 44 = .ok (.goto (-41), 3) := by decide +kernel
theorem dX5_isAwaited_47 : decode cX5_isAwaited 47 = .ok (.iconst 0, 1) := by decide +kernel
theorem dX5_isAwaited_48 : decode cX5_isAwaited 48 = .ok (.ireturn, 1) := by decide +kernel
theorem dX5_widen_0 : decode cX5_widen 0 = .ok (.iconst 0, 1) := by decide +kernel
theorem dX5_widen_1 : decode cX5_widen 1 = .ok (.istore 4, 2) := by decide +kernel
theorem dX5_widen_3 : decode cX5_widen 3 = .ok (.iload 4, 2) := by decide +kernel
theorem dX5_widen_5 : decode cX5_widen 5 = .ok (.bipush 8, 2) := by decide +kernel
theorem dX5_widen_7 : decode cX5_widen 7 = .ok (.aload_n 1, 1) := by decide +kernel
theorem dX5_widen_8 : decode cX5_widen 8 = .ok (.getfield 65, 3) := by decide +kernel
theorem dX5_widen_11 : decode cX5_widen 11 = .ok (.iload_n 3, 1) := by decide +kernel
theorem dX5_widen_12 : decode cX5_widen 12 = .ok (.iaload, 1) := by decide +kernel
theorem dX5_widen_13 : decode cX5_widen 13 = .ok (.imul, 1) := by decide +kernel
theorem dX5_widen_14 : decode cX5_widen 14 = .ok (.if_icmp .ge 121, 3) := by decide +kernel
theorem dX5_widen_17 : decode cX5_widen 17 = .ok (.iload 4, 2) := by decide +kernel
theorem dX5_widen_19 : decode cX5_widen 19 = .ok (.bipush 8, 2) := by decide +kernel
theorem dX5_widen_21 : decode cX5_widen 21 = .ok (.idiv, 1) := by decide +kernel
theorem dX5_widen_22 : decode cX5_widen 22 = .ok (.istore 5, 2) := by decide +kernel
theorem dX5_widen_24 : decode cX5_widen 24 = .ok (.aload_n 1, 1) := by decide +kernel
theorem dX5_widen_25 : decode cX5_widen 25 = .ok (.iload_n 3, 1) := by decide +kernel
theorem dX5_widen_26 : decode cX5_widen 26 = .ok (.iload 5, 2) := by decide +kernel
theorem dX5_widen_28 : decode cX5_widen 28 = .ok (.invokevirtual 72, 3) := by decide +kernel
theorem dX5_widen_31 : decode cX5_widen 31 = .ok (.istore 6, 2) := by decide +kernel
theorem dX5_widen_33 : decode cX5_widen 33 = .ok (.aload_n 0, 1) := by decide +kernel
theorem dX5_widen_34 : decode cX5_widen 34 = .ok (.getfield 9, 3) := by decide +kernel
theorem dX5_widen_37 : decode cX5_widen 37 = .ok (.iload 6, 2) := by decide +kernel
theorem dX5_widen_39 : decode cX5_widen 39 = .ok (.iaload, 1) := by decide +kernel
theorem dX5_widen_40 : decode cX5_widen 40 = .ok (.ifCond .le 30, 3) := by decide +kernel
theorem dX5_widen_43 : decode cX5_widen 43 = .ok (.iload 4, 2) := by decide +kernel
theorem dX5_widen_45 : decode cX5_widen 45 = .ok (.bipush 8, 2) := by decide +kernel
theorem dX5_widen_47 : decode cX5_widen 47 = .ok (.irem, 1) := by decide +kernel
theorem dX5_widen_48 : decode cX5_widen 48 = .ok (.aload_n 1, 1) := by decide +kernel
theorem dX5_widen_49 : decode cX5_widen 49 = .ok (.getfield 76, 3) := by decide +kernel
theorem dX5_widen_52 : decode cX5_widen 52 = .ok (.iload 6, 2) := by decide +kernel
theorem dX5_widen_54 : decode cX5_widen 54 = .ok (.iaload, 1) := by decide +kernel
theorem dX5_widen_55 : decode cX5_widen 55 = .ok (.aload_n 1, 1) := by decide +kernel
theorem dX5_widen_56 : decode cX5_widen 56 = .ok (.getfield 79, 3) := by decide +kernel
theorem dX5_widen_59 : decode cX5_widen 59 = .ok (.iload 6, 2) := by decide +kernel
theorem dX5_widen_61 : decode cX5_widen 61 = .ok (.iaload, 1) := by decide +kernel
theorem dX5_widen_62 : decode cX5_widen 62 = .ok (.iadd, 1) := by decide +kernel
theorem dX5_widen_63 : decode cX5_widen 63 = .ok (.if_icmp .ge 7, 3) := by decide +kernel
theorem dX5_widen_66 : decode cX5_widen 66 = .ok (.iconst 1, 1) := by decide +kernel
theorem dX5_widen_67 : decode cX5_widen 67 = .ok (.goto 4, 3) := by decide +kernel
theorem dX5_widen_70 : decode cX5_widen 70 = .ok (.iconst 0, 1) := by decide +kernel
theorem dX5_widen_71 : decode cX5_widen 71 = .ok (.istore 7, 2) := by decide +kernel
theorem dX5_widen_73 : decode cX5_widen 73 = .ok (.iload 7, 2) := by decide +kernel
theorem dX5_widen_75 : decode cX5_widen 75 = .ok (.ifCond .eq 18, 3) := by decide +kernel
theorem dX5_widen_78 : decode cX5_widen 78 = .ok (.aload_n 0, 1) := by decide +kernel
theorem dX5_widen_79 : decode cX5_widen 79 = .ok (.aload_n 1, 1) := by decide +kernel
theorem dX5_widen_80 : decode cX5_widen 80 = .ok (.iload 6, 2) := by decide +kernel
theorem dX5_widen_82 : decode cX5_widen 82 = .ok (.iload 4, 2) := by decide +kernel
theorem dX5_widen_84 : decode cX5_widen 84 = .ok (.bipush 8, 2) := by decide +kernel
theorem dX5_widen_86 : decode cX5_widen 86 = .ok (.irem, 1) := by decide +kernel
theorem dX5_widen_87 : decode cX5_widen 87 = .ok (.invokevirtual 102, 3) := by decide +kernel
theorem dX5_widen_90 : decode cX5_widen 90 = .ok (.goto 4, 3) := by decide +kernel
theorem dX5_widen_93 : decode cX5_widen 93 = .ok (.iconst 0, 1) := by decide +kernel
theorem dX5_widen_94 : decode cX5_widen 94 = .ok (.istore 8, 2) := by decide +kernel
theorem dX5_widen_96 : decode cX5_widen 96 = .ok (.aload_n 0, 1) := by decide +kernel
theorem dX5_widen_97 : decode cX5_widen 97 = .ok (.getfield 18, 3) := by decide +kernel
theorem dX5_widen_100 : decode cX5_widen 100 = .ok (.bipush 32, 2) := by decide +kernel
theorem dX5_widen_102 : decode cX5_widen 102 = .ok (.iload_n 3, 1) := by decide +kernel
theorem dX5_widen_103 : decode cX5_widen 103 = .ok (.imul, 1) := by decide +kernel
theorem dX5_widen_104 : decode cX5_widen 104 = .ok (.iload 4, 2) := by decide +kernel
theorem dX5_widen_106 : decode cX5_widen 106 = .ok (.iadd, 1) := by decide +kernel
theorem dX5_widen_107 : decode cX5_widen 107 = .ok (.aload_n 2, 1) := by decide +kernel
theorem dX5_widen_108 : decode cX5_widen 108 = .ok (.getfield 106, 3) := by decide +kernel
theorem dX5_widen_111 : decode cX5_widen 111 = .ok (.bipush 32, 2) := by decide +kernel
theorem dX5_widen_113 : decode cX5_widen 113 = .ok (.iload_n 3, 1) := by decide +kernel
theorem dX5_widen_114 : decode cX5_widen 114 = .ok (.imul, 1) := by decide +kernel
theorem dX5_widen_115 : decode cX5_widen 115 = .ok (.iload 4, 2) := by decide +kernel
theorem dX5_widen_117 : decode cX5_widen 117 = .ok (.iadd, 1) := by decide +kernel
theorem dX5_widen_118 : decode cX5_widen 118 = .ok (.iaload, 1) := by decide +kernel
theorem dX5_widen_119 : decode cX5_widen 119 = .ok (.iload 8, 2) := by decide +kernel
theorem dX5_widen_121 : decode cX5_widen 121 = .ok (.bipush 8, 2) := by decide +kernel
theorem dX5_widen_123 : decode cX5_widen 123 = .ok (.iload 5, 2) := by decide +kernel
theorem dX5_widen_125 : decode cX5_widen 125 = .ok (.imul, 1) := by decide +kernel
theorem dX5_widen_126 : decode cX5_widen 126 = .ok (.ishl, 1) := by decide +kernel
theorem dX5_widen_127 : decode cX5_widen 127 = .ok (.ior, 1) := by decide +kernel
theorem dX5_widen_128 : decode cX5_widen 128 = .ok (.iastore, 1) := by decide +kernel
theorem dX5_widen_129 : decode cX5_widen 129 = .ok (.iinc 4 1, 3) := by decide +kernel
theorem dX5_widen_132 : decode cX5_widen 132 = .ok (.goto (-129), 3) := by decide +kernel
theorem dX5_widen_135 : decode cX5_widen 135 = .ok (.aload_n 0, 1) := by decide +kernel
theorem dX5_widen_136 : decode cX5_widen 136 = .ok (.getfield 18, 3) := by decide +kernel
theorem dX5_widen_139 : decode cX5_widen 139 = .ok (.bipush 32, 2) := by decide +kernel
theorem dX5_widen_141 : decode cX5_widen 141 = .ok (.iload_n 3, 1) := by decide +kernel
theorem dX5_widen_142 : decode cX5_widen 142 = .ok (.imul, 1) := by decide +kernel
theorem dX5_widen_143 : decode cX5_widen 143 = .ok (.bipush 8, 2) := by decide +kernel
theorem dX5_widen_145 : decode cX5_widen 145 = .ok (.aload_n 1, 1) := by decide +kernel
theorem dX5_widen_146 : decode cX5_widen 146 = .ok (.getfield 65, 3) := by decide +kernel
theorem dX5_widen_149 : decode cX5_widen 149 = .ok (.iload_n 3, 1) := by decide +kernel
theorem dX5_widen_150 : decode cX5_widen 150 = .ok (.iaload, 1) := by decide +kernel
theorem dX5_widen_151 : decode cX5_widen 151 = .ok (.imul, 1) := by decide +kernel
theorem dX5_widen_152 : decode cX5_widen 152 = .ok (.invokestatic 109, 3) := by decide +kernel
theorem dX5_widen_155 : decode cX5_widen 155 = .ok (.return_, 1) := by decide +kernel
theorem dX5_aheadOf_0 : decode cX5_aheadOf 0 = .ok (.iconst 0, 1) := by decide +kernel
theorem dX5_aheadOf_1 : decode cX5_aheadOf 1 = .ok (.istore 4, 2) := by decide +kernel
theorem dX5_aheadOf_3 : decode cX5_aheadOf 3 = .ok (.aload_n 0, 1) := by decide +kernel
theorem dX5_aheadOf_4 : decode cX5_aheadOf 4 = .ok (.getfield 15, 3) := by decide +kernel
theorem dX5_aheadOf_7 : decode cX5_aheadOf 7 = .ok (.bipush 8, 2) := by decide +kernel
theorem dX5_aheadOf_9 : decode cX5_aheadOf 9 = .ok (.iload_n 2, 1) := by decide +kernel
theorem dX5_aheadOf_10 : decode cX5_aheadOf 10 = .ok (.imul, 1) := by decide +kernel
theorem dX5_aheadOf_11 : decode cX5_aheadOf 11 = .ok (.iload_n 3, 1) := by decide +kernel
theorem dX5_aheadOf_12 : decode cX5_aheadOf 12 = .ok (.iadd, 1) := by decide +kernel
theorem dX5_aheadOf_13 : decode cX5_aheadOf 13 = .ok (.iaload, 1) := by decide +kernel
theorem dX5_aheadOf_14 : decode cX5_aheadOf 14 = .ok (.istore 5, 2) := by decide +kernel
theorem dX5_aheadOf_16 : decode cX5_aheadOf 16 = .ok (.iconst 0, 1) := by decide +kernel
theorem dX5_aheadOf_17 : decode cX5_aheadOf 17 = .ok (.istore 6, 2) := by decide +kernel
theorem dX5_aheadOf_19 : decode cX5_aheadOf 19 = .ok (.iload 6, 2) := by decide +kernel
theorem dX5_aheadOf_21 : decode cX5_aheadOf 21 = .ok (.aload_n 1, 1) := by decide +kernel
theorem dX5_aheadOf_22 : decode cX5_aheadOf 22 = .ok (.getfield 76, 3) := by decide +kernel
theorem dX5_aheadOf_25 : decode cX5_aheadOf 25 = .ok (.iload_n 2, 1) := by decide +kernel
theorem dX5_aheadOf_26 : decode cX5_aheadOf 26 = .ok (.iaload, 1) := by decide +kernel
theorem dX5_aheadOf_27 : decode cX5_aheadOf 27 = .ok (.aload_n 1, 1) := by decide +kernel
theorem dX5_aheadOf_28 : decode cX5_aheadOf 28 = .ok (.getfield 79, 3) := by decide +kernel
theorem dX5_aheadOf_31 : decode cX5_aheadOf 31 = .ok (.iload_n 2, 1) := by decide +kernel
theorem dX5_aheadOf_32 : decode cX5_aheadOf 32 = .ok (.iaload, 1) := by decide +kernel
theorem dX5_aheadOf_33 : decode cX5_aheadOf 33 = .ok (.iadd, 1) := by decide +kernel
theorem dX5_aheadOf_34 : decode cX5_aheadOf 34 = .ok (.if_icmp .ge 67, 3) := by decide +kernel
theorem dX5_aheadOf_37 : decode cX5_aheadOf 37 = .ok (.aload_n 0, 1) := by decide +kernel
theorem dX5_aheadOf_38 : decode cX5_aheadOf 38 = .ok (.getfield 15, 3) := by decide +kernel
theorem dX5_aheadOf_41 : decode cX5_aheadOf 41 = .ok (.bipush 8, 2) := by decide +kernel
theorem dX5_aheadOf_43 : decode cX5_aheadOf 43 = .ok (.iload_n 2, 1) := by decide +kernel
theorem dX5_aheadOf_44 : decode cX5_aheadOf 44 = .ok (.imul, 1) := by decide +kernel
theorem dX5_aheadOf_45 : decode cX5_aheadOf 45 = .ok (.iload 6, 2) := by decide +kernel
theorem dX5_aheadOf_47 : decode cX5_aheadOf 47 = .ok (.iadd, 1) := by decide +kernel
theorem dX5_aheadOf_48 : decode cX5_aheadOf 48 = .ok (.iaload, 1) := by decide +kernel
theorem dX5_aheadOf_49 : decode cX5_aheadOf 49 = .ok (.istore 7, 2) := by decide +kernel
theorem dX5_aheadOf_51 : decode cX5_aheadOf 51 = .ok (.iload 7, 2) := by decide +kernel
theorem dX5_aheadOf_53 : decode cX5_aheadOf 53 = .ok (.iload 5, 2) := by decide +kernel
theorem dX5_aheadOf_55 : decode cX5_aheadOf 55 = .ok (.if_icmp .lt 31, 3) := by decide +kernel
theorem dX5_aheadOf_58 : decode cX5_aheadOf 58 = .ok (.iload 7, 2) := by decide +kernel
theorem dX5_aheadOf_60 : decode cX5_aheadOf 60 = .ok (.iload 5, 2) := by decide +kernel
theorem dX5_aheadOf_62 : decode cX5_aheadOf 62 = .ok (.if_icmp .ne 33, 3) := by decide +kernel
theorem dX5_aheadOf_65 : decode cX5_aheadOf 65 = .ok (.iload_n 3, 1) := by decide +kernel
theorem dX5_aheadOf_66 : decode cX5_aheadOf 66 = .ok (.aload_n 1, 1) := by decide +kernel
theorem dX5_aheadOf_67 : decode cX5_aheadOf 67 = .ok (.getfield 76, 3) := by decide +kernel
theorem dX5_aheadOf_70 : decode cX5_aheadOf 70 = .ok (.iload_n 2, 1) := by decide +kernel
theorem dX5_aheadOf_71 : decode cX5_aheadOf 71 = .ok (.iaload, 1) := by decide +kernel
theorem dX5_aheadOf_72 : decode cX5_aheadOf 72 = .ok (.if_icmp .lt 23, 3) := by decide +kernel
theorem dX5_aheadOf_75 : decode cX5_aheadOf 75 = .ok (.iload 6, 2) := by decide +kernel
theorem dX5_aheadOf_77 : decode cX5_aheadOf 77 = .ok (.aload_n 1, 1) := by decide +kernel
theorem dX5_aheadOf_78 : decode cX5_aheadOf 78 = .ok (.getfield 76, 3) := by decide +kernel
theorem dX5_aheadOf_81 : decode cX5_aheadOf 81 = .ok (.iload_n 2, 1) := by decide +kernel
theorem dX5_aheadOf_82 : decode cX5_aheadOf 82 = .ok (.iaload, 1) := by decide +kernel
theorem dX5_aheadOf_83 : decode cX5_aheadOf 83 = .ok (.if_icmp .ge 12, 3) := by decide +kernel
theorem dX5_aheadOf_86 : decode cX5_aheadOf 86 = .ok (.iload 4, 2) := by decide +kernel
theorem dX5_aheadOf_88 : decode cX5_aheadOf 88 = .ok (.iconst 1, 1) := by decide +kernel
theorem dX5_aheadOf_89 : decode cX5_aheadOf 89 = .ok (.iload 6, 2) := by decide +kernel
theorem dX5_aheadOf_91 : decode cX5_aheadOf 91 = .ok (.ishl, 1) := by decide +kernel
theorem dX5_aheadOf_92 : decode cX5_aheadOf 92 = .ok (.ior, 1) := by decide +kernel
theorem dX5_aheadOf_93 : decode cX5_aheadOf 93 = .ok (.istore 4, 2) := by decide +kernel
theorem dX5_aheadOf_95 : decode cX5_aheadOf 95 = .ok (.iinc 6 1, 3) := by decide +kernel
theorem dX5_aheadOf_98 : decode cX5_aheadOf 98 = .ok (.goto (-79), 3) := by decide +kernel
theorem dX5_aheadOf_101 : decode cX5_aheadOf 101 = .ok (.iload 4, 2) := by decide +kernel
theorem dX5_aheadOf_103 : decode cX5_aheadOf 103 = .ok (.ireturn, 1) := by decide +kernel
theorem dX5_step_0 : decode cX5_step 0 = .ok (.iload_n 2, 1) := by decide +kernel
theorem dX5_step_1 : decode cX5_step 1 = .ok (.ifCond .lt 23, 3) := by decide +kernel
theorem dX5_step_4 : decode cX5_step 4 = .ok (.iload_n 2, 1) := by decide +kernel
theorem dX5_step_5 : decode cX5_step 5 = .ok (.bipush 36, 2) := by decide +kernel
theorem dX5_step_7 : decode cX5_step 7 = .ok (.if_icmp .ge 17, 3) := by decide +kernel
theorem dX5_step_10 : decode cX5_step 10 = .ok (.aload_n 0, 1) := by decide +kernel
theorem dX5_step_11 : decode cX5_step 11 = .ok (.getfield 21, 3) := by decide +kernel
theorem dX5_step_14 : decode cX5_step 14 = .ok (.bipush 36, 2) := by decide +kernel
theorem dX5_step_16 : decode cX5_step 16 = .ok (.iload_n 1, 1) := by decide +kernel
theorem dX5_step_17 : decode cX5_step 17 = .ok (.imul, 1) := by decide +kernel
theorem dX5_step_18 : decode cX5_step 18 = .ok (.iload_n 2, 1) := by decide +kernel
theorem dX5_step_19 : decode cX5_step 19 = .ok (.iadd, 1) := by decide +kernel
theorem dX5_step_20 : decode cX5_step 20 = .ok (.iaload, 1) := by decide +kernel
theorem dX5_step_21 : decode cX5_step 21 = .ok (.goto 4, 3) := by decide +kernel
theorem dX5_step_24 : decode cX5_step 24 = .ok (.iconst (-1), 1) := by decide +kernel
theorem dX5_step_25 : decode cX5_step 25 = .ok (.ireturn, 1) := by decide +kernel
theorem dX5_lay_0 : decode cX5_lay 0 = .ok (.aload_n 0, 1) := by decide +kernel
theorem dX5_lay_1 : decode cX5_lay 1 = .ok (.getfield 27, 3) := by decide +kernel
theorem dX5_lay_4 : decode cX5_lay 4 = .ok (.iload_n 2, 1) := by decide +kernel
theorem dX5_lay_5 : decode cX5_lay 5 = .ok (.iconst 0, 1) := by decide +kernel
theorem dX5_lay_6 : decode cX5_lay 6 = .ok (.iastore, 1) := by decide +kernel
theorem dX5_lay_7 : decode cX5_lay 7 = .ok (.aload_n 0, 1) := by decide +kernel
theorem dX5_lay_8 : decode cX5_lay 8 = .ok (.getfield 30, 3) := by decide +kernel
theorem dX5_lay_11 : decode cX5_lay 11 = .ok (.iload_n 2, 1) := by decide +kernel
theorem dX5_lay_12 : decode cX5_lay 12 = .ok (.iconst 0, 1) := by decide +kernel
theorem dX5_lay_13 : decode cX5_lay 13 = .ok (.iastore, 1) := by decide +kernel
theorem dX5_lay_14 : decode cX5_lay 14 = .ok (.aload_n 0, 1) := by decide +kernel
theorem dX5_lay_15 : decode cX5_lay 15 = .ok (.getfield 33, 3) := by decide +kernel
theorem dX5_lay_18 : decode cX5_lay 18 = .ok (.iload_n 2, 1) := by decide +kernel
theorem dX5_lay_19 : decode cX5_lay 19 = .ok (.iconst 0, 1) := by decide +kernel
theorem dX5_lay_20 : decode cX5_lay 20 = .ok (.iastore, 1) := by decide +kernel
theorem dX5_lay_21 : decode cX5_lay 21 = .ok (.aload_n 1, 1) := by decide +kernel
theorem dX5_lay_22 : decode cX5_lay 22 = .ok (.iload_n 2, 1) := by decide +kernel
theorem dX5_lay_23 : decode cX5_lay 23 = .ok (.iconst 0, 1) := by decide +kernel
theorem dX5_lay_24 : decode cX5_lay 24 = .ok (.invokevirtual 72, 3) := by decide +kernel
theorem dX5_lay_27 : decode cX5_lay 27 = .ok (.istore_n 3, 1) := by decide +kernel
theorem dX5_lay_28 : decode cX5_lay 28 = .ok (.aload_n 0, 1) := by decide +kernel
theorem dX5_lay_29 : decode cX5_lay 29 = .ok (.getfield 9, 3) := by decide +kernel
theorem dX5_lay_32 : decode cX5_lay 32 = .ok (.iload_n 3, 1) := by decide +kernel
theorem dX5_lay_33 : decode cX5_lay 33 = .ok (.iaload, 1) := by decide +kernel
theorem dX5_lay_34 : decode cX5_lay 34 = .ok (.istore 4, 2) := by decide +kernel
theorem dX5_lay_36 : decode cX5_lay 36 = .ok (.iconst 1, 1) := by decide +kernel
theorem dX5_lay_37 : decode cX5_lay 37 = .ok (.istore 5, 2) := by decide +kernel
theorem dX5_lay_39 : decode cX5_lay 39 = .ok (.aload_n 0, 1) := by decide +kernel
theorem dX5_lay_40 : decode cX5_lay 40 = .ok (.aload_n 0, 1) := by decide +kernel
theorem dX5_lay_41 : decode cX5_lay 41 = .ok (.aload_n 1, 1) := by decide +kernel
theorem dX5_lay_42 : decode cX5_lay 42 = .ok (.iload_n 3, 1) := by decide +kernel
theorem dX5_lay_43 : decode cX5_lay 43 = .ok (.iconst 1, 1) := by decide +kernel
theorem dX5_lay_44 : decode cX5_lay 44 = .ok (.invokevirtual 113, 3) := by decide +kernel
theorem dX5_lay_47 : decode cX5_lay 47 = .ok (.aload_n 1, 1) := by decide +kernel
theorem dX5_lay_48 : decode cX5_lay 48 = .ok (.iload_n 3, 1) := by decide +kernel
theorem dX5_lay_49 : decode cX5_lay 49 = .ok (.invokevirtual 82, 3) := by decide +kernel
theorem dX5_lay_52 : decode cX5_lay 52 = .ok (.iand, 1) := by decide +kernel
theorem dX5_lay_53 : decode cX5_lay 53 = .ok (.putfield 116, 3) := by decide +kernel
theorem dX5_lay_56 : decode cX5_lay 56 = .ok (.aload_n 0, 1) := by decide +kernel
theorem dX5_lay_57 : decode cX5_lay 57 = .ok (.getfield 24, 3) := by decide +kernel
theorem dX5_lay_60 : decode cX5_lay 60 = .ok (.iconst 0, 1) := by decide +kernel
theorem dX5_lay_61 : decode cX5_lay 61 = .ok (.invokestatic 119, 3) := by decide +kernel
theorem dX5_lay_64 : decode cX5_lay 64 = .ok (.iconst 0, 1) := by decide +kernel
theorem dX5_lay_65 : decode cX5_lay 65 = .ok (.istore 6, 2) := by decide +kernel
theorem dX5_lay_67 : decode cX5_lay 67 = .ok (.iload 6, 2) := by decide +kernel
theorem dX5_lay_69 : decode cX5_lay 69 = .ok (.bipush 36, 2) := by decide +kernel
theorem dX5_lay_71 : decode cX5_lay 71 = .ok (.if_icmp .ge 105, 3) := by decide +kernel
theorem dX5_lay_74 : decode cX5_lay 74 = .ok (.aload_n 0, 1) := by decide +kernel
theorem dX5_lay_75 : decode cX5_lay 75 = .ok (.aload_n 1, 1) := by decide +kernel
theorem dX5_lay_76 : decode cX5_lay 76 = .ok (.iload_n 3, 1) := by decide +kernel
theorem dX5_lay_77 : decode cX5_lay 77 = .ok (.iload 5, 2) := by decide +kernel
theorem dX5_lay_79 : decode cX5_lay 79 = .ok (.invokevirtual 113, 3) := by decide +kernel
theorem dX5_lay_82 : decode cX5_lay 82 = .ok (.aload_n 1, 1) := by decide +kernel
theorem dX5_lay_83 : decode cX5_lay 83 = .ok (.iload_n 3, 1) := by decide +kernel
theorem dX5_lay_84 : decode cX5_lay 84 = .ok (.invokevirtual 86, 3) := by decide +kernel
theorem dX5_lay_87 : decode cX5_lay 87 = .ok (.iand, 1) := by decide +kernel
theorem dX5_lay_88 : decode cX5_lay 88 = .ok (.istore 7, 2) := by decide +kernel
theorem dX5_lay_90 : decode cX5_lay 90 = .ok (.iload 5, 2) := by decide +kernel
theorem dX5_lay_92 : decode cX5_lay 92 = .ok (.iload 4, 2) := by decide +kernel
theorem dX5_lay_94 : decode cX5_lay 94 = .ok (.if_icmp .ge 55, 3) := by decide +kernel
theorem dX5_lay_97 : decode cX5_lay 97 = .ok (.iload 7, 2) := by decide +kernel
theorem dX5_lay_99 : decode cX5_lay 99 = .ok (.aload_n 0, 1) := by decide +kernel
theorem dX5_lay_100 : decode cX5_lay 100 = .ok (.getfield 116, 3) := by decide +kernel
theorem dX5_lay_103 : decode cX5_lay 103 = .ok (.iconst (-1), 1) := by decide +kernel
theorem dX5_lay_104 : decode cX5_lay 104 = .ok (.ixor, 1) := by decide +kernel
theorem dX5_lay_105 : decode cX5_lay 105 = .ok (.iand, 1) := by decide +kernel
theorem dX5_lay_106 : decode cX5_lay 106 = .ok (.ifCond .ne 43, 3) := by decide +kernel
theorem dX5_lay_109 : decode cX5_lay 109 = .ok (.aload_n 0, 1) := by decide +kernel
theorem dX5_lay_110 : decode cX5_lay 110 = .ok (.iload_n 2, 1) := by decide +kernel
theorem dX5_lay_111 : decode cX5_lay 111 = .ok (.sipush 1000, 3) := by decide +kernel
theorem dX5_lay_114 : decode cX5_lay 114 = .ok (.iload 5, 2) := by decide +kernel
theorem dX5_lay_116 : decode cX5_lay 116 = .ok (.iadd, 1) := by decide +kernel
theorem dX5_lay_117 : decode cX5_lay 117 = .ok (.invokevirtual 124, 3) := by decide +kernel
theorem dX5_lay_120 : decode cX5_lay 120 = .ok (.iinc 5 1, 3) := by decide +kernel
theorem dX5_lay_123 : decode cX5_lay 123 = .ok (.aload_n 0, 1) := by decide +kernel
theorem dX5_lay_124 : decode cX5_lay 124 = .ok (.dup, 1) := by decide +kernel
theorem dX5_lay_125 : decode cX5_lay 125 = .ok (.getfield 116, 3) := by decide +kernel
theorem dX5_lay_128 : decode cX5_lay 128 = .ok (.aload_n 0, 1) := by decide +kernel
theorem dX5_lay_129 : decode cX5_lay 129 = .ok (.aload_n 1, 1) := by decide +kernel
theorem dX5_lay_130 : decode cX5_lay 130 = .ok (.iload_n 3, 1) := by decide +kernel
theorem dX5_lay_131 : decode cX5_lay 131 = .ok (.iload 5, 2) := by decide +kernel
theorem dX5_lay_133 : decode cX5_lay 133 = .ok (.invokevirtual 113, 3) := by decide +kernel
theorem dX5_lay_136 : decode cX5_lay 136 = .ok (.aload_n 1, 1) := by decide +kernel
theorem dX5_lay_137 : decode cX5_lay 137 = .ok (.iload_n 3, 1) := by decide +kernel
theorem dX5_lay_138 : decode cX5_lay 138 = .ok (.invokevirtual 82, 3) := by decide +kernel
theorem dX5_lay_141 : decode cX5_lay 141 = .ok (.iand, 1) := by decide +kernel
theorem dX5_lay_142 : decode cX5_lay 142 = .ok (.ior, 1) := by decide +kernel
theorem dX5_lay_143 : decode cX5_lay 143 = .ok (.putfield 116, 3) := by decide +kernel
theorem dX5_lay_146 : decode cX5_lay 146 = .ok (.goto 24, 3) := by decide +kernel
theorem dX5_lay_149 : decode cX5_lay 149 = .ok (.aload_n 0, 1) := by decide +kernel
theorem dX5_lay_150 : decode cX5_lay 150 = .ok (.aload_n 1, 1) := by decide +kernel
theorem dX5_lay_151 : decode cX5_lay 151 = .ok (.iload_n 2, 1) := by decide +kernel
theorem dX5_lay_152 : decode cX5_lay 152 = .ok (.invokevirtual 128, 3) := by decide +kernel
theorem dX5_lay_155 : decode cX5_lay 155 = .ok (.ifCond .ne 15, 3) := by decide +kernel
theorem dX5_lay_158 : decode cX5_lay 158 = .ok (.aload_n 0, 1) := by decide +kernel
theorem dX5_lay_159 : decode cX5_lay 159 = .ok (.aload_n 1, 1) := by decide +kernel
theorem dX5_lay_160 : decode cX5_lay 160 = .ok (.iload_n 2, 1) := by decide +kernel
theorem dX5_lay_161 : decode cX5_lay 161 = .ok (.invokevirtual 132, 3) := by decide +kernel
theorem dX5_lay_164 : decode cX5_lay 164 = .ok (.ifCond .ne 6, 3) := by decide +kernel
theorem dX5_lay_167 : decode cX5_lay 167 = .ok (.goto 9, 3) := by decide +kernel
theorem dX5_lay_170 : decode cX5_lay 170 = .ok (.iinc 6 1, 3) := by decide +kernel
theorem dX5_lay_173 : decode cX5_lay 173 = .ok (.goto (-106), 3) := by decide +kernel
theorem dX5_lay_176 : decode cX5_lay 176 = .ok (.aload_n 0, 1) := by decide +kernel
theorem dX5_lay_177 : decode cX5_lay 177 = .ok (.iload_n 2, 1) := by decide +kernel
theorem dX5_lay_178 : decode cX5_lay 178 = .ok (.sipush 1000, 3) := by decide +kernel
theorem dX5_lay_181 : decode cX5_lay 181 = .ok (.iload 4, 2) := by decide +kernel
theorem dX5_lay_183 : decode cX5_lay 183 = .ok (.iadd, 1) := by decide +kernel
theorem dX5_lay_184 : decode cX5_lay 184 = .ok (.invokevirtual 124, 3) := by decide +kernel
theorem dX5_lay_187 : decode cX5_lay 187 = .ok (.return_, 1) := by decide +kernel
theorem dX5_add_0 : decode cX5_add 0 = .ok (.aload_n 0, 1) := by decide +kernel
theorem dX5_add_1 : decode cX5_add 1 = .ok (.getfield 27, 3) := by decide +kernel
theorem dX5_add_4 : decode cX5_add 4 = .ok (.iload_n 1, 1) := by decide +kernel
theorem dX5_add_5 : decode cX5_add 5 = .ok (.iaload, 1) := by decide +kernel
theorem dX5_add_6 : decode cX5_add 6 = .ok (.bipush 36, 2) := by decide +kernel
theorem dX5_add_8 : decode cX5_add 8 = .ok (.if_icmp .ge 30, 3) := by decide +kernel
theorem dX5_add_11 : decode cX5_add 11 = .ok (.aload_n 0, 1) := by decide +kernel
theorem dX5_add_12 : decode cX5_add 12 = .ok (.getfield 21, 3) := by decide +kernel
theorem dX5_add_15 : decode cX5_add 15 = .ok (.bipush 36, 2) := by decide +kernel
theorem dX5_add_17 : decode cX5_add 17 = .ok (.iload_n 1, 1) := by decide +kernel
theorem dX5_add_18 : decode cX5_add 18 = .ok (.imul, 1) := by decide +kernel
theorem dX5_add_19 : decode cX5_add 19 = .ok (.aload_n 0, 1) := by decide +kernel
theorem dX5_add_20 : decode cX5_add 20 = .ok (.getfield 27, 3) := by decide +kernel
theorem dX5_add_23 : decode cX5_add 23 = .ok (.iload_n 1, 1) := by decide +kernel
theorem dX5_add_24 : decode cX5_add 24 = .ok (.iaload, 1) := by decide +kernel
theorem dX5_add_25 : decode cX5_add 25 = .ok (.iadd, 1) := by decide +kernel
theorem dX5_add_26 : decode cX5_add 26 = .ok (.iload_n 2, 1) := by decide +kernel
theorem dX5_add_27 : decode cX5_add 27 = .ok (.iastore, 1) := by decide +kernel
theorem dX5_add_28 : decode cX5_add 28 = .ok (.aload_n 0, 1) := by decide +kernel
theorem dX5_add_29 : decode cX5_add 29 = .ok (.getfield 27, 3) := by decide +kernel
theorem dX5_add_32 : decode cX5_add 32 = .ok (.iload_n 1, 1) := by decide +kernel
theorem dX5_add_33 : decode cX5_add 33 = .ok (.dup2, 1) := by decide +kernel
theorem dX5_add_34 : decode cX5_add 34 = .ok (.iaload, 1) := by decide +kernel
theorem dX5_add_35 : decode cX5_add 35 = .ok (.iconst 1, 1) := by decide +kernel
theorem dX5_add_36 : decode cX5_add 36 = .ok (.iadd, 1) := by decide +kernel
theorem dX5_add_37 : decode cX5_add 37 = .ok (.iastore, 1) := by decide +kernel
theorem dX5_add_38 : decode cX5_add 38 = .ok (.return_, 1) := by decide +kernel
theorem dX5_addRule_0 : decode cX5_addRule 0 = .ok (.aload_n 1, 1) := by decide +kernel
theorem dX5_addRule_1 : decode cX5_addRule 1 = .ok (.getfield 135, 3) := by decide +kernel
theorem dX5_addRule_4 : decode cX5_addRule 4 = .ok (.iload_n 2, 1) := by decide +kernel
theorem dX5_addRule_5 : decode cX5_addRule 5 = .ok (.iaload, 1) := by decide +kernel
theorem dX5_addRule_6 : decode cX5_addRule 6 = .ok (.aload_n 0, 1) := by decide +kernel
theorem dX5_addRule_7 : decode cX5_addRule 7 = .ok (.getfield 116, 3) := by decide +kernel
theorem dX5_addRule_10 : decode cX5_addRule 10 = .ok (.iconst (-1), 1) := by decide +kernel
theorem dX5_addRule_11 : decode cX5_addRule 11 = .ok (.ixor, 1) := by decide +kernel
theorem dX5_addRule_12 : decode cX5_addRule 12 = .ok (.iand, 1) := by decide +kernel
theorem dX5_addRule_13 : decode cX5_addRule 13 = .ok (.istore_n 3, 1) := by decide +kernel
theorem dX5_addRule_14 : decode cX5_addRule 14 = .ok (.iconst 0, 1) := by decide +kernel
theorem dX5_addRule_15 : decode cX5_addRule 15 = .ok (.istore 4, 2) := by decide +kernel
theorem dX5_addRule_17 : decode cX5_addRule 17 = .ok (.iload 4, 2) := by decide +kernel
theorem dX5_addRule_19 : decode cX5_addRule 19 = .ok (.bipush 32, 2) := by decide +kernel
theorem dX5_addRule_21 : decode cX5_addRule 21 = .ok (.if_icmp .ge 75, 3) := by decide +kernel
theorem dX5_addRule_24 : decode cX5_addRule 24 = .ok (.iload_n 3, 1) := by decide +kernel
theorem dX5_addRule_25 : decode cX5_addRule 25 = .ok (.iload 4, 2) := by decide +kernel
theorem dX5_addRule_27 : decode cX5_addRule 27 = .ok (.iushr, 1) := by decide +kernel
theorem dX5_addRule_28 : decode cX5_addRule 28 = .ok (.iconst 1, 1) := by decide +kernel
theorem dX5_addRule_29 : decode cX5_addRule 29 = .ok (.iand, 1) := by decide +kernel
theorem dX5_addRule_30 : decode cX5_addRule 30 = .ok (.ifCond .eq 60, 3) := by decide +kernel
theorem dX5_addRule_33 : decode cX5_addRule 33 = .ok (.aload_n 1, 1) := by decide +kernel
theorem dX5_addRule_34 : decode cX5_addRule 34 = .ok (.getfield 138, 3) := by decide +kernel
theorem dX5_addRule_37 : decode cX5_addRule 37 = .ok (.bipush 32, 2) := by decide +kernel
theorem dX5_addRule_39 : decode cX5_addRule 39 = .ok (.iload_n 2, 1) := by decide +kernel
theorem dX5_addRule_40 : decode cX5_addRule 40 = .ok (.imul, 1) := by decide +kernel
theorem dX5_addRule_41 : decode cX5_addRule 41 = .ok (.iload 4, 2) := by decide +kernel
theorem dX5_addRule_43 : decode cX5_addRule 43 = .ok (.iadd, 1) := by decide +kernel
theorem dX5_addRule_44 : decode cX5_addRule 44 = .ok (.iaload, 1) := by decide +kernel
theorem dX5_addRule_45 : decode cX5_addRule 45 = .ok (.aload_n 0, 1) := by decide +kernel
theorem dX5_addRule_46 : decode cX5_addRule 46 = .ok (.getfield 116, 3) := by decide +kernel
theorem dX5_addRule_49 : decode cX5_addRule 49 = .ok (.iconst (-1), 1) := by decide +kernel
theorem dX5_addRule_50 : decode cX5_addRule 50 = .ok (.ixor, 1) := by decide +kernel
theorem dX5_addRule_51 : decode cX5_addRule 51 = .ok (.iand, 1) := by decide +kernel
theorem dX5_addRule_52 : decode cX5_addRule 52 = .ok (.ifCond .ne 38, 3) := by decide +kernel
theorem dX5_addRule_55 : decode cX5_addRule 55 = .ok (.aload_n 0, 1) := by decide +kernel
theorem dX5_addRule_56 : decode cX5_addRule 56 = .ok (.iload_n 2, 1) := by decide +kernel
theorem dX5_addRule_57 : decode cX5_addRule 57 = .ok (.bipush 100, 2) := by decide +kernel
theorem dX5_addRule_59 : decode cX5_addRule 59 = .ok (.iload 4, 2) := by decide +kernel
theorem dX5_addRule_61 : decode cX5_addRule 61 = .ok (.iadd, 1) := by decide +kernel
theorem dX5_addRule_62 : decode cX5_addRule 62 = .ok (.invokevirtual 124, 3) := by decide +kernel
theorem dX5_addRule_65 : decode cX5_addRule 65 = .ok (.aload_n 0, 1) := by decide +kernel
theorem dX5_addRule_66 : decode cX5_addRule 66 = .ok (.getfield 33, 3) := by decide +kernel
theorem dX5_addRule_69 : decode cX5_addRule 69 = .ok (.iload_n 2, 1) := by decide +kernel
theorem dX5_addRule_70 : decode cX5_addRule 70 = .ok (.dup2, 1) := by decide +kernel
theorem dX5_addRule_71 : decode cX5_addRule 71 = .ok (.iaload, 1) := by decide +kernel
theorem dX5_addRule_72 : decode cX5_addRule 72 = .ok (.iconst 1, 1) := by decide +kernel
theorem dX5_addRule_73 : decode cX5_addRule 73 = .ok (.iadd, 1) := by decide +kernel
theorem dX5_addRule_74 : decode cX5_addRule 74 = .ok (.iastore, 1) := by decide +kernel
theorem dX5_addRule_75 : decode cX5_addRule 75 = .ok (.aload_n 0, 1) := by decide +kernel
theorem dX5_addRule_76 : decode cX5_addRule 76 = .ok (.dup, 1) := by decide +kernel
theorem dX5_addRule_77 : decode cX5_addRule 77 = .ok (.getfield 116, 3) := by decide +kernel
theorem dX5_addRule_80 : decode cX5_addRule 80 = .ok (.iconst 1, 1) := by decide +kernel
theorem dX5_addRule_81 : decode cX5_addRule 81 = .ok (.iload 4, 2) := by decide +kernel
theorem dX5_addRule_83 : decode cX5_addRule 83 = .ok (.ishl, 1) := by decide +kernel
theorem dX5_addRule_84 : decode cX5_addRule 84 = .ok (.ior, 1) := by decide +kernel
theorem dX5_addRule_85 : decode cX5_addRule 85 = .ok (.putfield 116, 3) := by decide +kernel
theorem dX5_addRule_88 : decode cX5_addRule 88 = .ok (.iconst 1, 1) := by decide +kernel
theorem dX5_addRule_89 : decode cX5_addRule 89 = .ok (.ireturn, 1) := by decide +kernel
theorem dX5_addRule_90 : decode cX5_addRule 90 = .ok (.iinc 4 1, 3) := by decide +kernel
theorem dX5_addRule_93 : decode cX5_addRule 93 = .ok (.goto (-76), 3) := by decide +kernel
theorem dX5_addRule_96 : decode cX5_addRule 96 = .ok (.iconst 0, 1) := by decide +kernel
theorem dX5_addRule_97 : decode cX5_addRule 97 = .ok (.ireturn, 1) := by decide +kernel
theorem dX5_addVisit_0 : decode cX5_addVisit 0 = .ok (.iconst 1, 1) := by decide +kernel
theorem dX5_addVisit_1 : decode cX5_addVisit 1 = .ok (.istore_n 3, 1) := by decide +kernel
theorem dX5_addVisit_2 : decode cX5_addVisit 2 = .ok (.iload_n 3, 1) := by decide +kernel
theorem dX5_addVisit_3 : decode cX5_addVisit 3 = .ok (.aload_n 1, 1) := by decide +kernel
theorem dX5_addVisit_4 : decode cX5_addVisit 4 = .ok (.getfield 65, 3) := by decide +kernel
theorem dX5_addVisit_7 : decode cX5_addVisit 7 = .ok (.iload_n 2, 1) := by decide +kernel
theorem dX5_addVisit_8 : decode cX5_addVisit 8 = .ok (.iaload, 1) := by decide +kernel
theorem dX5_addVisit_9 : decode cX5_addVisit 9 = .ok (.if_icmp .ge 132, 3) := by decide +kernel
theorem dX5_addVisit_12 : decode cX5_addVisit 12 = .ok (.aload_n 1, 1) := by decide +kernel
theorem dX5_addVisit_13 : decode cX5_addVisit 13 = .ok (.iload_n 2, 1) := by decide +kernel
theorem dX5_addVisit_14 : decode cX5_addVisit 14 = .ok (.iload_n 3, 1) := by decide +kernel
theorem dX5_addVisit_15 : decode cX5_addVisit 15 = .ok (.invokevirtual 72, 3) := by decide +kernel
theorem dX5_addVisit_18 : decode cX5_addVisit 18 = .ok (.istore 4, 2) := by decide +kernel
theorem dX5_addVisit_20 : decode cX5_addVisit 20 = .ok (.aload_n 0, 1) := by decide +kernel
theorem dX5_addVisit_21 : decode cX5_addVisit 21 = .ok (.aload_n 1, 1) := by decide +kernel
theorem dX5_addVisit_22 : decode cX5_addVisit 22 = .ok (.iload 4, 2) := by decide +kernel
theorem dX5_addVisit_24 : decode cX5_addVisit 24 = .ok (.aload_n 0, 1) := by decide +kernel
theorem dX5_addVisit_25 : decode cX5_addVisit 25 = .ok (.getfield 24, 3) := by decide +kernel
theorem dX5_addVisit_28 : decode cX5_addVisit 28 = .ok (.iload_n 3, 1) := by decide +kernel
theorem dX5_addVisit_29 : decode cX5_addVisit 29 = .ok (.iaload, 1) := by decide +kernel
theorem dX5_addVisit_30 : decode cX5_addVisit 30 = .ok (.iconst 1, 1) := by decide +kernel
theorem dX5_addVisit_31 : decode cX5_addVisit 31 = .ok (.iadd, 1) := by decide +kernel
theorem dX5_addVisit_32 : decode cX5_addVisit 32 = .ok (.invokevirtual 113, 3) := by decide +kernel
theorem dX5_addVisit_35 : decode cX5_addVisit 35 = .ok (.istore 5, 2) := by decide +kernel
theorem dX5_addVisit_37 : decode cX5_addVisit 37 = .ok (.iload 5, 2) := by decide +kernel
theorem dX5_addVisit_39 : decode cX5_addVisit 39 = .ok (.aload_n 1, 1) := by decide +kernel
theorem dX5_addVisit_40 : decode cX5_addVisit 40 = .ok (.iload 4, 2) := by decide +kernel
theorem dX5_addVisit_42 : decode cX5_addVisit 42 = .ok (.invokevirtual 82, 3) := by decide +kernel
theorem dX5_addVisit_45 : decode cX5_addVisit 45 = .ok (.iand, 1) := by decide +kernel
theorem dX5_addVisit_46 : decode cX5_addVisit 46 = .ok (.bipush 8, 2) := by decide +kernel
theorem dX5_addVisit_48 : decode cX5_addVisit 48 = .ok (.iload_n 3, 1) := by decide +kernel
theorem dX5_addVisit_49 : decode cX5_addVisit 49 = .ok (.imul, 1) := by decide +kernel
theorem dX5_addVisit_50 : decode cX5_addVisit 50 = .ok (.ishl, 1) := by decide +kernel
theorem dX5_addVisit_51 : decode cX5_addVisit 51 = .ok (.istore 6, 2) := by decide +kernel
theorem dX5_addVisit_53 : decode cX5_addVisit 53 = .ok (.aload_n 0, 1) := by decide +kernel
theorem dX5_addVisit_54 : decode cX5_addVisit 54 = .ok (.getfield 24, 3) := by decide +kernel
theorem dX5_addVisit_57 : decode cX5_addVisit 57 = .ok (.iload_n 3, 1) := by decide +kernel
theorem dX5_addVisit_58 : decode cX5_addVisit 58 = .ok (.iaload, 1) := by decide +kernel
theorem dX5_addVisit_59 : decode cX5_addVisit 59 = .ok (.aload_n 0, 1) := by decide +kernel
theorem dX5_addVisit_60 : decode cX5_addVisit 60 = .ok (.getfield 9, 3) := by decide +kernel
theorem dX5_addVisit_63 : decode cX5_addVisit 63 = .ok (.iload 4, 2) := by decide +kernel
theorem dX5_addVisit_65 : decode cX5_addVisit 65 = .ok (.iaload, 1) := by decide +kernel
theorem dX5_addVisit_66 : decode cX5_addVisit 66 = .ok (.if_icmp .ge 69, 3) := by decide +kernel
theorem dX5_addVisit_69 : decode cX5_addVisit 69 = .ok (.iload 6, 2) := by decide +kernel
theorem dX5_addVisit_71 : decode cX5_addVisit 71 = .ok (.aload_n 0, 1) := by decide +kernel
theorem dX5_addVisit_72 : decode cX5_addVisit 72 = .ok (.getfield 116, 3) := by decide +kernel
theorem dX5_addVisit_75 : decode cX5_addVisit 75 = .ok (.iconst (-1), 1) := by decide +kernel
theorem dX5_addVisit_76 : decode cX5_addVisit 76 = .ok (.ixor, 1) := by decide +kernel
theorem dX5_addVisit_77 : decode cX5_addVisit 77 = .ok (.iand, 1) := by decide +kernel
theorem dX5_addVisit_78 : decode cX5_addVisit 78 = .ok (.ifCond .ne 57, 3) := by decide +kernel
theorem dX5_addVisit_81 : decode cX5_addVisit 81 = .ok (.aload_n 0, 1) := by decide +kernel
theorem dX5_addVisit_82 : decode cX5_addVisit 82 = .ok (.getfield 24, 3) := by decide +kernel
theorem dX5_addVisit_85 : decode cX5_addVisit 85 = .ok (.iload_n 3, 1) := by decide +kernel
theorem dX5_addVisit_86 : decode cX5_addVisit 86 = .ok (.dup2, 1) := by decide +kernel
theorem dX5_addVisit_87 : decode cX5_addVisit 87 = .ok (.iaload, 1) := by decide +kernel
theorem dX5_addVisit_88 : decode cX5_addVisit 88 = .ok (.iconst 1, 1) := by decide +kernel
theorem dX5_addVisit_89 : decode cX5_addVisit 89 = .ok (.iadd, 1) := by decide +kernel
theorem dX5_addVisit_90 : decode cX5_addVisit 90 = .ok (.iastore, 1) := by decide +kernel
theorem dX5_addVisit_91 : decode cX5_addVisit 91 = .ok (.aload_n 0, 1) := by decide +kernel
theorem dX5_addVisit_92 : decode cX5_addVisit 92 = .ok (.iload_n 2, 1) := by decide +kernel
theorem dX5_addVisit_93 : decode cX5_addVisit 93 = .ok (.bipush 10, 2) := by decide +kernel
theorem dX5_addVisit_95 : decode cX5_addVisit 95 = .ok (.iload_n 3, 1) := by decide +kernel
theorem dX5_addVisit_96 : decode cX5_addVisit 96 = .ok (.imul, 1) := by decide +kernel
theorem dX5_addVisit_97 : decode cX5_addVisit 97 = .ok (.aload_n 0, 1) := by decide +kernel
theorem dX5_addVisit_98 : decode cX5_addVisit 98 = .ok (.getfield 24, 3) := by decide +kernel
theorem dX5_addVisit_101 : decode cX5_addVisit 101 = .ok (.iload_n 3, 1) := by decide +kernel
theorem dX5_addVisit_102 : decode cX5_addVisit 102 = .ok (.iaload, 1) := by decide +kernel
theorem dX5_addVisit_103 : decode cX5_addVisit 103 = .ok (.iadd, 1) := by decide +kernel
theorem dX5_addVisit_104 : decode cX5_addVisit 104 = .ok (.invokevirtual 124, 3) := by decide +kernel
theorem dX5_addVisit_107 : decode cX5_addVisit 107 = .ok (.aload_n 0, 1) := by decide +kernel
theorem dX5_addVisit_108 : decode cX5_addVisit 108 = .ok (.getfield 30, 3) := by decide +kernel
theorem dX5_addVisit_111 : decode cX5_addVisit 111 = .ok (.iload_n 2, 1) := by decide +kernel
theorem dX5_addVisit_112 : decode cX5_addVisit 112 = .ok (.dup2, 1) := by decide +kernel
theorem dX5_addVisit_113 : decode cX5_addVisit 113 = .ok (.iaload, 1) := by decide +kernel
theorem dX5_addVisit_114 : decode cX5_addVisit 114 = .ok (.iconst 1, 1) := by decide +kernel
theorem dX5_addVisit_115 : decode cX5_addVisit 115 = .ok (.iadd, 1) := by decide +kernel
theorem dX5_addVisit_116 : decode cX5_addVisit 116 = .ok (.iastore, 1) := by decide +kernel
theorem dX5_addVisit_117 : decode cX5_addVisit 117 = .ok (.aload_n 0, 1) := by decide +kernel
theorem dX5_addVisit_118 : decode cX5_addVisit 118 = .ok (.dup, 1) := by decide +kernel
theorem dX5_addVisit_119 : decode cX5_addVisit 119 = .ok (.getfield 116, 3) := by decide +kernel
theorem dX5_addVisit_122 : decode cX5_addVisit 122 = .ok (.iload 5, 2) := by decide +kernel
theorem dX5_addVisit_124 : decode cX5_addVisit 124 = .ok (.bipush 8, 2) := by decide +kernel
theorem dX5_addVisit_126 : decode cX5_addVisit 126 = .ok (.iload_n 3, 1) := by decide +kernel
theorem dX5_addVisit_127 : decode cX5_addVisit 127 = .ok (.imul, 1) := by decide +kernel
theorem dX5_addVisit_128 : decode cX5_addVisit 128 = .ok (.ishl, 1) := by decide +kernel
theorem dX5_addVisit_129 : decode cX5_addVisit 129 = .ok (.ior, 1) := by decide +kernel
theorem dX5_addVisit_130 : decode cX5_addVisit 130 = .ok (.putfield 116, 3) := by decide +kernel
theorem dX5_addVisit_133 : decode cX5_addVisit 133 = .ok (.iconst 1, 1) := by decide +kernel
theorem dX5_addVisit_134 : decode cX5_addVisit 134 = .ok (.ireturn, 1) := by decide +kernel
theorem dX5_addVisit_135 : decode cX5_addVisit 135 = .ok (.iinc 3 1, 3) := by decide +kernel
theorem dX5_addVisit_138 : decode cX5_addVisit 138 = .ok (.goto (-136), 3) := by decide +kernel
theorem dX5_addVisit_141 : decode cX5_addVisit 141 = .ok (.iconst 0, 1) := by decide +kernel
theorem dX5_addVisit_142 : decode cX5_addVisit 142 = .ok (.ireturn, 1) := by decide +kernel
theorem dX6_init_0 : decode cX6_init 0 = .ok (.aload_n 0, 1) := by decide +kernel
theorem dX6_init_1 : decode cX6_init 1 = .ok (.invokespecial 3, 3) := by decide +kernel
theorem dX6_init_4 : decode cX6_init 4 = .ok (.aload_n 0, 1) := by decide +kernel
theorem dX6_init_5 : decode cX6_init 5 = .ok (.bipush 96, 2) := by decide +kernel
theorem dX6_init_7 : decode cX6_init 7 = .ok (.newarray .int, 2) := by decide +kernel
theorem dX6_init_9 : decode cX6_init 9 = .ok (.putfield 9, 3) := by decide +kernel
theorem dX6_init_12 : decode cX6_init 12 = .ok (.aload_n 0, 1) := by decide +kernel
theorem dX6_init_13 : decode cX6_init 13 = .ok (.bipush 8, 2) := by decide +kernel
theorem dX6_init_15 : decode cX6_init 15 = .ok (.newarray .int, 2) := by decide +kernel
theorem dX6_init_17 : decode cX6_init 17 = .ok (.putfield 15, 3) := by decide +kernel
theorem dX6_init_20 : decode cX6_init 20 = .ok (.aload_n 0, 1) := by decide +kernel
theorem dX6_init_21 : decode cX6_init 21 = .ok (.bipush 8, 2) := by decide +kernel
theorem dX6_init_23 : decode cX6_init 23 = .ok (.newarray .int, 2) := by decide +kernel
theorem dX6_init_25 : decode cX6_init 25 = .ok (.putfield 18, 3) := by decide +kernel
theorem dX6_init_28 : decode cX6_init 28 = .ok (.aload_n 0, 1) := by decide +kernel
theorem dX6_init_29 : decode cX6_init 29 = .ok (.bipush 32, 2) := by decide +kernel
theorem dX6_init_31 : decode cX6_init 31 = .ok (.newarray .int, 2) := by decide +kernel
theorem dX6_init_33 : decode cX6_init 33 = .ok (.putfield 21, 3) := by decide +kernel
theorem dX6_init_36 : decode cX6_init 36 = .ok (.aload_n 0, 1) := by decide +kernel
theorem dX6_init_37 : decode cX6_init 37 = .ok (.bipush 8, 2) := by decide +kernel
theorem dX6_init_39 : decode cX6_init 39 = .ok (.newarray .int, 2) := by decide +kernel
theorem dX6_init_41 : decode cX6_init 41 = .ok (.putfield 24, 3) := by decide +kernel
theorem dX6_init_44 : decode cX6_init 44 = .ok (.return_, 1) := by decide +kernel
theorem dX6_forget_0 : decode cX6_forget 0 = .ok (.aload_n 0, 1) := by decide +kernel
theorem dX6_forget_1 : decode cX6_forget 1 = .ok (.iconst 0, 1) := by decide +kernel
theorem dX6_forget_2 : decode cX6_forget 2 = .ok (.putfield 27, 3) := by decide +kernel
theorem dX6_forget_5 : decode cX6_forget 5 = .ok (.return_, 1) := by decide +kernel
theorem dX6_unsure_0 : decode cX6_unsure 0 = .ok (.aload_n 0, 1) := by decide +kernel
theorem dX6_unsure_1 : decode cX6_unsure 1 = .ok (.getfield 31, 3) := by decide +kernel
theorem dX6_unsure_4 : decode cX6_unsure 4 = .ok (.ifCond .eq 25, 3) := by decide +kernel
theorem dX6_unsure_7 : decode cX6_unsure 7 = .ok (.aload_n 0, 1) := by decide +kernel
theorem dX6_unsure_8 : decode cX6_unsure 8 = .ok (.getfield 34, 3) := by decide +kernel
theorem dX6_unsure_11 : decode cX6_unsure 11 = .ok (.ifCond .eq 14, 3) := by decide +kernel
theorem dX6_unsure_14 : decode cX6_unsure 14 = .ok (.aload_n 0, 1) := by decide +kernel
theorem dX6_unsure_15 : decode cX6_unsure 15 = .ok (.getfield 34, 3) := by decide +kernel
theorem dX6_unsure_18 : decode cX6_unsure 18 = .ok (.aload_n 0, 1) := by decide +kernel
theorem dX6_unsure_19 : decode cX6_unsure 19 = .ok (.getfield 38, 3) := by decide +kernel
theorem dX6_unsure_22 : decode cX6_unsure 22 = .ok (.if_icmp .ne 7, 3) := by decide +kernel
theorem dX6_unsure_25 : decode cX6_unsure 25 = .ok (.iconst 1, 1) := by decide +kernel
theorem dX6_unsure_26 : decode cX6_unsure 26 = .ok (.goto 4, 3) := by decide +kernel
theorem dX6_unsure_29 : decode cX6_unsure 29 = .ok (.iconst 0, 1) := by decide +kernel
theorem dX6_unsure_30 : decode cX6_unsure 30 = .ok (.ireturn, 1) := by decide +kernel
theorem dX6_total_0 : decode cX6_total 0 = .ok (.iconst 0, 1) := by decide +kernel
theorem dX6_total_1 : decode cX6_total 1 = .ok (.istore_n 1, 1) := by decide +kernel
theorem dX6_total_2 : decode cX6_total 2 = .ok (.iconst 0, 1) := by decide +kernel
theorem dX6_total_3 : decode cX6_total 3 = .ok (.istore_n 2, 1) := by decide +kernel
theorem dX6_total_4 : decode cX6_total 4 = .ok (.iload_n 2, 1) := by decide +kernel
theorem dX6_total_5 : decode cX6_total 5 = .ok (.bipush 8, 2) := by decide +kernel
theorem dX6_total_7 : decode cX6_total 7 = .ok (.if_icmp .ge 18, 3) := by decide +kernel
theorem dX6_total_10 : decode cX6_total 10 = .ok (.iload_n 1, 1) := by decide +kernel
theorem dX6_total_11 : decode cX6_total 11 = .ok (.aload_n 0, 1) := by decide +kernel
theorem dX6_total_12 : decode cX6_total 12 = .ok (.getfield 24, 3) := by decide +kernel
theorem dX6_total_15 : decode cX6_total 15 = .ok (.iload_n 2, 1) := by decide +kernel
theorem dX6_total_16 : decode cX6_total 16 = .ok (.iaload, 1) := by decide +kernel
theorem dX6_total_17 : decode cX6_total 17 = .ok (.iadd, 1) := by decide +kernel
theorem dX6_total_18 : decode cX6_total 18 = .ok (.istore_n 1, 1) := by decide +kernel
theorem dX6_total_19 : decode cX6_total 19 = .ok (.iinc 2 1, 3) := by decide +kernel
theorem dX6_total_22 : decode cX6_total 22 = .ok (.goto (-18), 3) := by decide +kernel
theorem dX6_total_25 : decode cX6_total 25 = .ok (.iload_n 1, 1) := by decide +kernel
theorem dX6_total_26 : decode cX6_total 26 = .ok (.ireturn, 1) := by decide +kernel
theorem dX6_seek_0 : decode cX6_seek 0 = .ok (.aload_n 0, 1) := by decide +kernel
theorem dX6_seek_1 : decode cX6_seek 1 = .ok (.getfield 27, 3) := by decide +kernel
theorem dX6_seek_4 : decode cX6_seek 4 = .ok (.ifCond .eq 4, 3) := by decide +kernel
theorem dX6_seek_7 : decode cX6_seek 7 = .ok (.return_, 1) := by decide +kernel
theorem dX6_seek_8 : decode cX6_seek 8 = .ok (.aload_n 0, 1) := by decide +kernel
theorem dX6_seek_9 : decode cX6_seek 9 = .ok (.iconst 1, 1) := by decide +kernel
theorem dX6_seek_10 : decode cX6_seek 10 = .ok (.putfield 27, 3) := by decide +kernel
theorem dX6_seek_13 : decode cX6_seek 13 = .ok (.aload_n 0, 1) := by decide +kernel
theorem dX6_seek_14 : decode cX6_seek 14 = .ok (.invokevirtual 41, 3) := by decide +kernel
theorem dX6_seek_17 : decode cX6_seek 17 = .ok (.iconst 1, 1) := by decide +kernel
theorem dX6_seek_18 : decode cX6_seek 18 = .ok (.istore_n 2, 1) := by decide +kernel
theorem dX6_seek_19 : decode cX6_seek 19 = .ok (.iconst 1, 1) := by decide +kernel
theorem dX6_seek_20 : decode cX6_seek 20 = .ok (.istore_n 3, 1) := by decide +kernel
theorem dX6_seek_21 : decode cX6_seek 21 = .ok (.iload_n 3, 1) := by decide +kernel
theorem dX6_seek_22 : decode cX6_seek 22 = .ok (.bipush 97, 2) := by decide +kernel
theorem dX6_seek_24 : decode cX6_seek 24 = .ok (.if_icmp .gt 79, 3) := by decide +kernel
theorem dX6_seek_27 : decode cX6_seek 27 = .ok (.iload_n 2, 1) := by decide +kernel
theorem dX6_seek_28 : decode cX6_seek 28 = .ok (.ifCond .eq 75, 3) := by decide +kernel
theorem dX6_seek_31 : decode cX6_seek 31 = .ok (.aload_n 0, 1) := by decide +kernel
theorem dX6_seek_32 : decode cX6_seek 32 = .ok (.getfield 31, 3) := by decide +kernel
theorem dX6_seek_35 : decode cX6_seek 35 = .ok (.ifCond .ne 68, 3) := by decide +kernel
theorem dX6_seek_38 : decode cX6_seek 38 = .ok (.aload_n 0, 1) := by decide +kernel
theorem dX6_seek_39 : decode cX6_seek 39 = .ok (.invokevirtual 44, 3) := by decide +kernel
theorem dX6_seek_42 : decode cX6_seek 42 = .ok (.istore 4, 2) := by decide +kernel
theorem dX6_seek_44 : decode cX6_seek 44 = .ok (.aload_n 0, 1) := by decide +kernel
theorem dX6_seek_45 : decode cX6_seek 45 = .ok (.aload_n 1, 1) := by decide +kernel
theorem dX6_seek_46 : decode cX6_seek 46 = .ok (.iload_n 3, 1) := by decide +kernel
theorem dX6_seek_47 : decode cX6_seek 47 = .ok (.invokevirtual 48, 3) := by decide +kernel
theorem dX6_seek_50 : decode cX6_seek 50 = .ok (.aload_n 0, 1) := by decide +kernel
theorem dX6_seek_51 : decode cX6_seek 51 = .ok (.iload_n 3, 1) := by decide +kernel
theorem dX6_seek_52 : decode cX6_seek 52 = .ok (.putfield 38, 3) := by decide +kernel
theorem dX6_seek_55 : decode cX6_seek 55 = .ok (.aload_n 0, 1) := by decide +kernel
theorem dX6_seek_56 : decode cX6_seek 56 = .ok (.getfield 52, 3) := by decide +kernel
theorem dX6_seek_59 : decode cX6_seek 59 = .ok (.ifCond .eq 23, 3) := by decide +kernel
theorem dX6_seek_62 : decode cX6_seek 62 = .ok (.aload_n 0, 1) := by decide +kernel
theorem dX6_seek_63 : decode cX6_seek 63 = .ok (.getfield 34, 3) := by decide +kernel
theorem dX6_seek_66 : decode cX6_seek 66 = .ok (.ifCond .ne 16, 3) := by decide +kernel
theorem dX6_seek_69 : decode cX6_seek 69 = .ok (.aload_n 0, 1) := by decide +kernel
theorem dX6_seek_70 : decode cX6_seek 70 = .ok (.iload_n 3, 1) := by decide +kernel
theorem dX6_seek_71 : decode cX6_seek 71 = .ok (.putfield 34, 3) := by decide +kernel
theorem dX6_seek_74 : decode cX6_seek 74 = .ok (.aload_n 0, 1) := by decide +kernel
theorem dX6_seek_75 : decode cX6_seek 75 = .ok (.aload_n 0, 1) := by decide +kernel
theorem dX6_seek_76 : decode cX6_seek 76 = .ok (.invokevirtual 44, 3) := by decide +kernel
theorem dX6_seek_79 : decode cX6_seek 79 = .ok (.putfield 55, 3) := by decide +kernel
theorem dX6_seek_82 : decode cX6_seek 82 = .ok (.aload_n 0, 1) := by decide +kernel
theorem dX6_seek_83 : decode cX6_seek 83 = .ok (.invokevirtual 44, 3) := by decide +kernel
theorem dX6_seek_86 : decode cX6_seek 86 = .ok (.iload 4, 2) := by decide +kernel
theorem dX6_seek_88 : decode cX6_seek 88 = .ok (.if_icmp .le 7, 3) := by decide +kernel
theorem dX6_seek_91 : decode cX6_seek 91 = .ok (.iconst 1, 1) := by decide +kernel
theorem dX6_seek_92 : decode cX6_seek 92 = .ok (.goto 4, 3) := by decide +kernel
theorem dX6_seek_95 : decode cX6_seek 95 = .ok (.iconst 0, 1) := by decide +kernel
theorem dX6_seek_96 : decode cX6_seek 96 = .ok (.istore_n 2, 1) := by decide +kernel
theorem dX6_seek_97 : decode cX6_seek 97 = .ok (.iinc 3 1, 3) := by decide +kernel
theorem dX6_seek_100 : decode cX6_seek 100 = .ok (.goto (-79), 3) := by decide +kernel
theorem dX6_seek_103 : decode cX6_seek 103 = .ok (.return_, 1) := by decide +kernel
theorem dX6_begin_0 : decode cX6_begin 0 = .ok (.aload_n 0, 1) := by decide +kernel
theorem dX6_begin_1 : decode cX6_begin 1 = .ok (.getfield 24, 3) := by decide +kernel
theorem dX6_begin_4 : decode cX6_begin 4 = .ok (.iconst 0, 1) := by decide +kernel
theorem dX6_begin_5 : decode cX6_begin 5 = .ok (.invokestatic 58, 3) := by decide +kernel
theorem dX6_begin_8 : decode cX6_begin 8 = .ok (.aload_n 0, 1) := by decide +kernel
theorem dX6_begin_9 : decode cX6_begin 9 = .ok (.iconst 0, 1) := by decide +kernel
theorem dX6_begin_10 : decode cX6_begin 10 = .ok (.putfield 52, 3) := by decide +kernel
theorem dX6_begin_13 : decode cX6_begin 13 = .ok (.aload_n 0, 1) := by decide +kernel
theorem dX6_begin_14 : decode cX6_begin 14 = .ok (.iconst 0, 1) := by decide +kernel
theorem dX6_begin_15 : decode cX6_begin 15 = .ok (.putfield 31, 3) := by decide +kernel
theorem dX6_begin_18 : decode cX6_begin 18 = .ok (.aload_n 0, 1) := by decide +kernel
theorem dX6_begin_19 : decode cX6_begin 19 = .ok (.iconst 0, 1) := by decide +kernel
theorem dX6_begin_20 : decode cX6_begin 20 = .ok (.putfield 34, 3) := by decide +kernel
theorem dX6_begin_23 : decode cX6_begin 23 = .ok (.return_, 1) := by decide +kernel
theorem dX6_goRound_0 : decode cX6_goRound 0 = .ok (.iconst 0, 1) := by decide +kernel
theorem dX6_goRound_1 : decode cX6_goRound 1 = .ok (.istore_n 3, 1) := by decide +kernel
theorem dX6_goRound_2 : decode cX6_goRound 2 = .ok (.iload_n 3, 1) := by decide +kernel
theorem dX6_goRound_3 : decode cX6_goRound 3 = .ok (.bipush 8, 2) := by decide +kernel
theorem dX6_goRound_5 : decode cX6_goRound 5 = .ok (.if_icmp .ge 33, 3) := by decide +kernel
theorem dX6_goRound_8 : decode cX6_goRound 8 = .ok (.aload_n 0, 1) := by decide +kernel
theorem dX6_goRound_9 : decode cX6_goRound 9 = .ok (.getfield 18, 3) := by decide +kernel
theorem dX6_goRound_12 : decode cX6_goRound 12 = .ok (.iload_n 3, 1) := by decide +kernel
theorem dX6_goRound_13 : decode cX6_goRound 13 = .ok (.aload_n 0, 1) := by decide +kernel
theorem dX6_goRound_14 : decode cX6_goRound 14 = .ok (.getfield 15, 3) := by decide +kernel
theorem dX6_goRound_17 : decode cX6_goRound 17 = .ok (.iload_n 3, 1) := by decide +kernel
theorem dX6_goRound_18 : decode cX6_goRound 18 = .ok (.iaload, 1) := by decide +kernel
theorem dX6_goRound_19 : decode cX6_goRound 19 = .ok (.iastore, 1) := by decide +kernel
theorem dX6_goRound_20 : decode cX6_goRound 20 = .ok (.aload_n 0, 1) := by decide +kernel
theorem dX6_goRound_21 : decode cX6_goRound 21 = .ok (.getfield 15, 3) := by decide +kernel
theorem dX6_goRound_24 : decode cX6_goRound 24 = .ok (.iload_n 3, 1) := by decide +kernel
theorem dX6_goRound_25 : decode cX6_goRound 25 = .ok (.aload_n 0, 1) := by decide +kernel
theorem dX6_goRound_26 : decode cX6_goRound 26 = .ok (.getfield 24, 3) := by decide +kernel
theorem dX6_goRound_29 : decode cX6_goRound 29 = .ok (.iload_n 3, 1) := by decide +kernel
theorem dX6_goRound_30 : decode cX6_goRound 30 = .ok (.iaload, 1) := by decide +kernel
theorem dX6_goRound_31 : decode cX6_goRound 31 = .ok (.iastore, 1) := by decide +kernel
theorem dX6_goRound_32 : decode cX6_goRound 32 = .ok (.iinc 3 1, 3) := by decide +kernel
theorem dX6_goRound_35 : decode cX6_goRound 35 = .ok (.goto (-33), 3) := by decide +kernel
theorem dX6_goRound_38 : decode cX6_goRound 38 = .ok (.iconst 0, 1) := by decide +kernel
theorem dX6_goRound_39 : decode cX6_goRound 39 = .ok (.istore_n 3, 1) := by decide +kernel
theorem dX6_goRound_40 : decode cX6_goRound 40 = .ok (.iload_n 3, 1) := by decide +kernel
theorem dX6_goRound_41 : decode cX6_goRound 41 = .ok (.aload_n 1, 1) := by decide +kernel
theorem dX6_goRound_42 : decode cX6_goRound 42 = .ok (.getfield 64, 3) := by decide +kernel
theorem dX6_goRound_45 : decode cX6_goRound 45 = .ok (.if_icmp .ge 40, 3) := by decide +kernel
theorem dX6_goRound_48 : decode cX6_goRound 48 = .ok (.aload_n 1, 1) := by decide +kernel
theorem dX6_goRound_49 : decode cX6_goRound 49 = .ok (.iload_n 3, 1) := by decide +kernel
theorem dX6_goRound_50 : decode cX6_goRound 50 = .ok (.invokevirtual 69, 3) := by decide +kernel
theorem dX6_goRound_53 : decode cX6_goRound 53 = .ok (.ifCond .le 12, 3) := by decide +kernel
theorem dX6_goRound_56 : decode cX6_goRound 56 = .ok (.aload_n 0, 1) := by decide +kernel
theorem dX6_goRound_57 : decode cX6_goRound 57 = .ok (.aload_n 1, 1) := by decide +kernel
theorem dX6_goRound_58 : decode cX6_goRound 58 = .ok (.iload_n 3, 1) := by decide +kernel
theorem dX6_goRound_59 : decode cX6_goRound 59 = .ok (.invokevirtual 73, 3) := by decide +kernel
theorem dX6_goRound_62 : decode cX6_goRound 62 = .ok (.goto 17, 3) := by decide +kernel
theorem dX6_goRound_65 : decode cX6_goRound 65 = .ok (.iload_n 2, 1) := by decide +kernel
theorem dX6_goRound_66 : decode cX6_goRound 66 = .ok (.iconst 1, 1) := by decide +kernel
theorem dX6_goRound_67 : decode cX6_goRound 67 = .ok (.if_icmp .ne 12, 3) := by decide +kernel
theorem dX6_goRound_70 : decode cX6_goRound 70 = .ok (.aload_n 0, 1) := by decide +kernel
theorem dX6_goRound_71 : decode cX6_goRound 71 = .ok (.aload_n 1, 1) := by decide +kernel
theorem dX6_goRound_72 : decode cX6_goRound 72 = .ok (.iload_n 3, 1) := by decide +kernel
theorem dX6_goRound_73 : decode cX6_goRound 73 = .ok (.iconst 0, 1) := by decide +kernel
theorem dX6_goRound_74 : decode cX6_goRound 74 = .ok (.iconst 0, 1) := by decide +kernel
theorem dX6_goRound_75 : decode cX6_goRound 75 = .ok (.iconst 0, 1) := by decide +kernel
theorem dX6_goRound_76 : decode cX6_goRound 76 = .ok (.invokevirtual 76, 3) := by decide +kernel
theorem dX6_goRound_79 : decode cX6_goRound 79 = .ok (.iinc 3 1, 3) := by decide +kernel
theorem dX6_goRound_82 : decode cX6_goRound 82 = .ok (.goto (-42), 3) := by decide +kernel
theorem dX6_goRound_85 : decode cX6_goRound 85 = .ok (.return_, 1) := by decide +kernel
theorem dX6_castEach_0 : decode cX6_castEach 0 = .ok (.iconst 0, 1) := by decide +kernel
theorem dX6_castEach_1 : decode cX6_castEach 1 = .ok (.istore_n 3, 1) := by decide +kernel
theorem dX6_castEach_2 : decode cX6_castEach 2 = .ok (.iload_n 3, 1) := by decide +kernel
theorem dX6_castEach_3 : decode cX6_castEach 3 = .ok (.aload_n 0, 1) := by decide +kernel
theorem dX6_castEach_4 : decode cX6_castEach 4 = .ok (.aload_n 1, 1) := by decide +kernel
theorem dX6_castEach_5 : decode cX6_castEach 5 = .ok (.iload_n 2, 1) := by decide +kernel
theorem dX6_castEach_6 : decode cX6_castEach 6 = .ok (.iconst 1, 1) := by decide +kernel
theorem dX6_castEach_7 : decode cX6_castEach 7 = .ok (.invokevirtual 80, 3) := by decide +kernel
theorem dX6_castEach_10 : decode cX6_castEach 10 = .ok (.if_icmp .ge 118, 3) := by decide +kernel
theorem dX6_castEach_13 : decode cX6_castEach 13 = .ok (.aload_n 0, 1) := by decide +kernel
theorem dX6_castEach_14 : decode cX6_castEach 14 = .ok (.getfield 31, 3) := by decide +kernel
theorem dX6_castEach_17 : decode cX6_castEach 17 = .ok (.ifCond .ne 111, 3) := by decide +kernel
theorem dX6_castEach_20 : decode cX6_castEach 20 = .ok (.iconst 0, 1) := by decide +kernel
theorem dX6_castEach_21 : decode cX6_castEach 21 = .ok (.istore 4, 2) := by decide +kernel
theorem dX6_castEach_23 : decode cX6_castEach 23 = .ok (.iload 4, 2) := by decide +kernel
theorem dX6_castEach_25 : decode cX6_castEach 25 = .ok (.aload_n 0, 1) := by decide +kernel
theorem dX6_castEach_26 : decode cX6_castEach 26 = .ok (.aload_n 1, 1) := by decide +kernel
theorem dX6_castEach_27 : decode cX6_castEach 27 = .ok (.iload_n 2, 1) := by decide +kernel
theorem dX6_castEach_28 : decode cX6_castEach 28 = .ok (.iconst 2, 1) := by decide +kernel
theorem dX6_castEach_29 : decode cX6_castEach 29 = .ok (.invokevirtual 80, 3) := by decide +kernel
theorem dX6_castEach_32 : decode cX6_castEach 32 = .ok (.if_icmp .ge 90, 3) := by decide +kernel
theorem dX6_castEach_35 : decode cX6_castEach 35 = .ok (.aload_n 0, 1) := by decide +kernel
theorem dX6_castEach_36 : decode cX6_castEach 36 = .ok (.getfield 31, 3) := by decide +kernel
theorem dX6_castEach_39 : decode cX6_castEach 39 = .ok (.ifCond .ne 83, 3) := by decide +kernel
theorem dX6_castEach_42 : decode cX6_castEach 42 = .ok (.iconst 0, 1) := by decide +kernel
theorem dX6_castEach_43 : decode cX6_castEach 43 = .ok (.istore 5, 2) := by decide +kernel
theorem dX6_castEach_45 : decode cX6_castEach 45 = .ok (.iload 5, 2) := by decide +kernel
theorem dX6_castEach_47 : decode cX6_castEach 47 = .ok (.aload_n 0, 1) := by decide +kernel
theorem dX6_castEach_48 : decode cX6_castEach 48 = .ok (.aload_n 1, 1) := by decide +kernel
theorem dX6_castEach_49 : decode cX6_castEach 49 = .ok (.iload_n 2, 1) := by decide +kernel
theorem dX6_castEach_50 : decode cX6_castEach 50 = .ok (.iconst 3, 1) := by decide +kernel
theorem dX6_castEach_51 : decode cX6_castEach 51 = .ok (.invokevirtual 80, 3) := by decide +kernel
theorem dX6_castEach_54 : decode cX6_castEach 54 = .ok (.if_icmp .ge 62, 3) := by decide +kernel
theorem dX6_castEach_57 : decode cX6_castEach 57 = .ok (.aload_n 0, 1) := by decide +kernel
theorem dX6_castEach_58 : decode cX6_castEach 58 = .ok (.getfield 31, 3) := by decide +kernel
theorem dX6_castEach_61 : decode cX6_castEach 61 = .ok (.ifCond .ne 55, 3) := by decide +kernel
theorem dX6_castEach_64 : decode cX6_castEach 64 = .ok (.aload_n 0, 1) := by decide +kernel
theorem dX6_castEach_65 : decode cX6_castEach 65 = .ok (.aload_n 1, 1) := by decide +kernel
theorem dX6_castEach_66 : decode cX6_castEach 66 = .ok (.iload_n 2, 1) := by decide +kernel
theorem dX6_castEach_67 : decode cX6_castEach 67 = .ok (.iconst 1, 1) := by decide +kernel
theorem dX6_castEach_68 : decode cX6_castEach 68 = .ok (.iload_n 3, 1) := by decide +kernel
theorem dX6_castEach_69 : decode cX6_castEach 69 = .ok (.invokevirtual 84, 3) := by decide +kernel
theorem dX6_castEach_72 : decode cX6_castEach 72 = .ok (.ifCond .ne 27, 3) := by decide +kernel
theorem dX6_castEach_75 : decode cX6_castEach 75 = .ok (.aload_n 0, 1) := by decide +kernel
theorem dX6_castEach_76 : decode cX6_castEach 76 = .ok (.aload_n 1, 1) := by decide +kernel
theorem dX6_castEach_77 : decode cX6_castEach 77 = .ok (.iload_n 2, 1) := by decide +kernel
theorem dX6_castEach_78 : decode cX6_castEach 78 = .ok (.iconst 2, 1) := by decide +kernel
theorem dX6_castEach_79 : decode cX6_castEach 79 = .ok (.iload 4, 2) := by decide +kernel
theorem dX6_castEach_81 : decode cX6_castEach 81 = .ok (.invokevirtual 84, 3) := by decide +kernel
theorem dX6_castEach_84 : decode cX6_castEach 84 = .ok (.ifCond .ne 15, 3) := by decide +kernel
theorem dX6_castEach_87 : decode cX6_castEach 87 = .ok (.aload_n 0, 1) := by decide +kernel
theorem dX6_castEach_88 : decode cX6_castEach 88 = .ok (.aload_n 1, 1) := by decide +kernel
theorem dX6_castEach_89 : decode cX6_castEach 89 = .ok (.iload_n 2, 1) := by decide +kernel
theorem dX6_castEach_90 : decode cX6_castEach 90 = .ok (.iconst 3, 1) := by decide +kernel
theorem dX6_castEach_91 : decode cX6_castEach 91 = .ok (.iload 5, 2) := by decide +kernel
theorem dX6_castEach_93 : decode cX6_castEach 93 = .ok (.invokevirtual 84, 3) := by decide +kernel
theorem dX6_castEach_96 : decode cX6_castEach 96 = .ok (.ifCond .eq 14, 3) := by decide +kernel
theorem dX6_castEach_99 : decode cX6_castEach 99 = .ok (.aload_n 0, 1) := by decide +kernel
theorem dX6_castEach_100 : decode cX6_castEach 100 = .ok (.aload_n 1, 1) := by decide +kernel
theorem dX6_castEach_101 : decode cX6_castEach 101 = .ok (.iload_n 2, 1) := by decide +kernel
theorem dX6_castEach_102 : decode cX6_castEach 102 = .ok (.iload_n 3, 1) := by decide +kernel
theorem dX6_castEach_103 : decode cX6_castEach 103 = .ok (.iload 4, 2) := by decide +kernel
theorem dX6_castEach_105 : decode cX6_castEach 105 = .ok (.iload 5, 2) := by decide +kernel
theorem dX6_castEach_107 : decode cX6_castEach 107 = .ok (.invokevirtual 76, 3) := by decide +kernel
theorem dX6_castEach_110 : decode cX6_castEach 110 = .ok (.iinc 5 1, 3) := by decide +kernel
theorem dX6_castEach_113 : decode cX6_castEach 113 = .ok (.goto (-68), 3) := by decide +kernel
theorem dX6_castEach_116 : decode cX6_castEach 116 = .ok (.iinc 4 1, 3) := by decide +kernel
theorem dX6_castEach_119 : decode cX6_castEach 119 = .ok (.goto (-96), 3) := by decide +kernel
theorem dX6_castEach_122 : decode cX6_castEach 122 = .ok (.iinc 3 1, 3) := by decide +kernel
theorem dX6_castEach_125 : decode cX6_castEach 125 = .ok (.goto (-123), 3) := by decide +kernel
theorem dX6_castEach_128 : decode cX6_castEach 128 = .ok (.return_, 1) := by decide +kernel
theorem dX6_choices_0 : decode cX6_choices 0 = .ok (.iload_n 3, 1) := by decide +kernel
theorem dX6_choices_1 : decode cX6_choices 1 = .ok (.aload_n 1, 1) := by decide +kernel
theorem dX6_choices_2 : decode cX6_choices 2 = .ok (.getfield 88, 3) := by decide +kernel
theorem dX6_choices_5 : decode cX6_choices 5 = .ok (.iload_n 2, 1) := by decide +kernel
theorem dX6_choices_6 : decode cX6_choices 6 = .ok (.iaload, 1) := by decide +kernel
theorem dX6_choices_7 : decode cX6_choices 7 = .ok (.if_icmp .ge 17, 3) := by decide +kernel
theorem dX6_choices_10 : decode cX6_choices 10 = .ok (.aload_n 0, 1) := by decide +kernel
theorem dX6_choices_11 : decode cX6_choices 11 = .ok (.getfield 15, 3) := by decide +kernel
theorem dX6_choices_14 : decode cX6_choices 14 = .ok (.aload_n 1, 1) := by decide +kernel
theorem dX6_choices_15 : decode cX6_choices 15 = .ok (.iload_n 2, 1) := by decide +kernel
theorem dX6_choices_16 : decode cX6_choices 16 = .ok (.iload_n 3, 1) := by decide +kernel
theorem dX6_choices_17 : decode cX6_choices 17 = .ok (.invokevirtual 91, 3) := by decide +kernel
theorem dX6_choices_20 : decode cX6_choices 20 = .ok (.iaload, 1) := by decide +kernel
theorem dX6_choices_21 : decode cX6_choices 21 = .ok (.goto 4, 3) := by decide +kernel
theorem dX6_choices_24 : decode cX6_choices 24 = .ok (.iconst 1, 1) := by decide +kernel
theorem dX6_choices_25 : decode cX6_choices 25 = .ok (.ireturn, 1) := by decide +kernel
theorem dX6_isNew_0 : decode cX6_isNew 0 = .ok (.iload_n 3, 1) := by decide +kernel
theorem dX6_isNew_1 : decode cX6_isNew 1 = .ok (.aload_n 1, 1) := by decide +kernel
theorem dX6_isNew_2 : decode cX6_isNew 2 = .ok (.getfield 88, 3) := by decide +kernel
theorem dX6_isNew_5 : decode cX6_isNew 5 = .ok (.iload_n 2, 1) := by decide +kernel
theorem dX6_isNew_6 : decode cX6_isNew 6 = .ok (.iaload, 1) := by decide +kernel
theorem dX6_isNew_7 : decode cX6_isNew 7 = .ok (.if_icmp .ge 23, 3) := by decide +kernel
theorem dX6_isNew_10 : decode cX6_isNew 10 = .ok (.iload 4, 2) := by decide +kernel
theorem dX6_isNew_12 : decode cX6_isNew 12 = .ok (.aload_n 0, 1) := by decide +kernel
theorem dX6_isNew_13 : decode cX6_isNew 13 = .ok (.getfield 18, 3) := by decide +kernel
theorem dX6_isNew_16 : decode cX6_isNew 16 = .ok (.aload_n 1, 1) := by decide +kernel
theorem dX6_isNew_17 : decode cX6_isNew 17 = .ok (.iload_n 2, 1) := by decide +kernel
theorem dX6_isNew_18 : decode cX6_isNew 18 = .ok (.iload_n 3, 1) := by decide +kernel
theorem dX6_isNew_19 : decode cX6_isNew 19 = .ok (.invokevirtual 91, 3) := by decide +kernel
theorem dX6_isNew_22 : decode cX6_isNew 22 = .ok (.iaload, 1) := by decide +kernel
theorem dX6_isNew_23 : decode cX6_isNew 23 = .ok (.if_icmp .lt 7, 3) := by decide +kernel
theorem dX6_isNew_26 : decode cX6_isNew 26 = .ok (.iconst 1, 1) := by decide +kernel
theorem dX6_isNew_27 : decode cX6_isNew 27 = .ok (.goto 4, 3) := by decide +kernel
theorem dX6_isNew_30 : decode cX6_isNew 30 = .ok (.iconst 0, 1) := by decide +kernel
theorem dX6_isNew_31 : decode cX6_isNew 31 = .ok (.ireturn, 1) := by decide +kernel
theorem dX6_cast_0 : decode cX6_cast 0 = .ok (.aload_n 1, 1) := by decide +kernel
theorem dX6_cast_1 : decode cX6_cast 1 = .ok (.getfield 95, 3) := by decide +kernel
theorem dX6_cast_4 : decode cX6_cast 4 = .ok (.bipush 32, 2) := by decide +kernel
theorem dX6_cast_6 : decode cX6_cast 6 = .ok (.iload_n 2, 1) := by decide +kernel
theorem dX6_cast_7 : decode cX6_cast 7 = .ok (.imul, 1) := by decide +kernel
theorem dX6_cast_8 : decode cX6_cast 8 = .ok (.aload_n 0, 1) := by decide +kernel
theorem dX6_cast_9 : decode cX6_cast 9 = .ok (.getfield 21, 3) := by decide +kernel
theorem dX6_cast_12 : decode cX6_cast 12 = .ok (.iconst 0, 1) := by decide +kernel
theorem dX6_cast_13 : decode cX6_cast 13 = .ok (.bipush 32, 2) := by decide +kernel
theorem dX6_cast_15 : decode cX6_cast 15 = .ok (.invokestatic 98, 3) := by decide +kernel
theorem dX6_cast_18 : decode cX6_cast 18 = .ok (.aload_n 0, 1) := by decide +kernel
theorem dX6_cast_19 : decode cX6_cast 19 = .ok (.aload_n 1, 1) := by decide +kernel
theorem dX6_cast_20 : decode cX6_cast 20 = .ok (.iload_n 2, 1) := by decide +kernel
theorem dX6_cast_21 : decode cX6_cast 21 = .ok (.iconst 1, 1) := by decide +kernel
theorem dX6_cast_22 : decode cX6_cast 22 = .ok (.iload_n 3, 1) := by decide +kernel
theorem dX6_cast_23 : decode cX6_cast 23 = .ok (.invokevirtual 104, 3) := by decide +kernel
theorem dX6_cast_26 : decode cX6_cast 26 = .ok (.aload_n 0, 1) := by decide +kernel
theorem dX6_cast_27 : decode cX6_cast 27 = .ok (.aload_n 1, 1) := by decide +kernel
theorem dX6_cast_28 : decode cX6_cast 28 = .ok (.iload_n 2, 1) := by decide +kernel
theorem dX6_cast_29 : decode cX6_cast 29 = .ok (.iconst 2, 1) := by decide +kernel
theorem dX6_cast_30 : decode cX6_cast 30 = .ok (.iload 4, 2) := by decide +kernel
theorem dX6_cast_32 : decode cX6_cast 32 = .ok (.invokevirtual 104, 3) := by decide +kernel
theorem dX6_cast_35 : decode cX6_cast 35 = .ok (.aload_n 0, 1) := by decide +kernel
theorem dX6_cast_36 : decode cX6_cast 36 = .ok (.aload_n 1, 1) := by decide +kernel
theorem dX6_cast_37 : decode cX6_cast 37 = .ok (.iload_n 2, 1) := by decide +kernel
theorem dX6_cast_38 : decode cX6_cast 38 = .ok (.iconst 3, 1) := by decide +kernel
theorem dX6_cast_39 : decode cX6_cast 39 = .ok (.iload 5, 2) := by decide +kernel
theorem dX6_cast_41 : decode cX6_cast 41 = .ok (.invokevirtual 104, 3) := by decide +kernel
theorem dX6_cast_44 : decode cX6_cast 44 = .ok (.aload_n 0, 1) := by decide +kernel
theorem dX6_cast_45 : decode cX6_cast 45 = .ok (.getfield 21, 3) := by decide +kernel
theorem dX6_cast_48 : decode cX6_cast 48 = .ok (.iconst 0, 1) := by decide +kernel
theorem dX6_cast_49 : decode cX6_cast 49 = .ok (.bipush 8, 2) := by decide +kernel
theorem dX6_cast_51 : decode cX6_cast 51 = .ok (.aload_n 1, 1) := by decide +kernel
theorem dX6_cast_52 : decode cX6_cast 52 = .ok (.getfield 88, 3) := by decide +kernel
theorem dX6_cast_55 : decode cX6_cast 55 = .ok (.iload_n 2, 1) := by decide +kernel
theorem dX6_cast_56 : decode cX6_cast 56 = .ok (.iaload, 1) := by decide +kernel
theorem dX6_cast_57 : decode cX6_cast 57 = .ok (.imul, 1) := by decide +kernel
theorem dX6_cast_58 : decode cX6_cast 58 = .ok (.invokestatic 108, 3) := by decide +kernel
theorem dX6_cast_61 : decode cX6_cast 61 = .ok (.aload_n 0, 1) := by decide +kernel
theorem dX6_cast_62 : decode cX6_cast 62 = .ok (.dup, 1) := by decide +kernel
theorem dX6_cast_63 : decode cX6_cast 63 = .ok (.getfield 52, 3) := by decide +kernel
theorem dX6_cast_66 : decode cX6_cast 66 = .ok (.aload_n 0, 1) := by decide +kernel
theorem dX6_cast_67 : decode cX6_cast 67 = .ok (.getfield 21, 3) := by decide +kernel
theorem dX6_cast_70 : decode cX6_cast 70 = .ok (.iconst 0, 1) := by decide +kernel
theorem dX6_cast_71 : decode cX6_cast 71 = .ok (.bipush 8, 2) := by decide +kernel
theorem dX6_cast_73 : decode cX6_cast 73 = .ok (.aload_n 1, 1) := by decide +kernel
theorem dX6_cast_74 : decode cX6_cast 74 = .ok (.getfield 88, 3) := by decide +kernel
theorem dX6_cast_77 : decode cX6_cast 77 = .ok (.iload_n 2, 1) := by decide +kernel
theorem dX6_cast_78 : decode cX6_cast 78 = .ok (.iaload, 1) := by decide +kernel
theorem dX6_cast_79 : decode cX6_cast 79 = .ok (.imul, 1) := by decide +kernel
theorem dX6_cast_80 : decode cX6_cast 80 = .ok (.invokestatic 114, 3) := by decide +kernel
theorem dX6_cast_83 : decode cX6_cast 83 = .ok (.iconst (-1), 1) := by decide +kernel
theorem dX6_cast_84 : decode cX6_cast 84 = .ok (.if_icmp .eq 7, 3) := by decide +kernel
theorem dX6_cast_87 : decode cX6_cast 87 = .ok (.iconst 1, 1) := by decide +kernel
theorem dX6_cast_88 : decode cX6_cast 88 = .ok (.goto 4, 3) := by decide +kernel
theorem dX6_cast_91 : decode cX6_cast 91 = .ok (.iconst 0, 1) := by decide +kernel
theorem dX6_cast_92 : decode cX6_cast 92 = .ok (.ior, 1) := by decide +kernel
theorem dX6_cast_93 : decode cX6_cast 93 = .ok (.putfield 52, 3) := by decide +kernel
theorem dX6_cast_96 : decode cX6_cast 96 = .ok (.aload_n 1, 1) := by decide +kernel
theorem dX6_cast_97 : decode cX6_cast 97 = .ok (.iload_n 2, 1) := by decide +kernel
theorem dX6_cast_98 : decode cX6_cast 98 = .ok (.iconst 0, 1) := by decide +kernel
theorem dX6_cast_99 : decode cX6_cast 99 = .ok (.invokevirtual 91, 3) := by decide +kernel
theorem dX6_cast_102 : decode cX6_cast 102 = .ok (.istore 6, 2) := by decide +kernel
theorem dX6_cast_104 : decode cX6_cast 104 = .ok (.iconst 0, 1) := by decide +kernel
theorem dX6_cast_105 : decode cX6_cast 105 = .ok (.istore 7, 2) := by decide +kernel
theorem dX6_cast_107 : decode cX6_cast 107 = .ok (.iconst 0, 1) := by decide +kernel
theorem dX6_cast_108 : decode cX6_cast 108 = .ok (.istore 8, 2) := by decide +kernel
theorem dX6_cast_110 : decode cX6_cast 110 = .ok (.iload 8, 2) := by decide +kernel
theorem dX6_cast_112 : decode cX6_cast 112 = .ok (.aload_n 1, 1) := by decide +kernel
theorem dX6_cast_113 : decode cX6_cast 113 = .ok (.getfield 118, 3) := by decide +kernel
theorem dX6_cast_116 : decode cX6_cast 116 = .ok (.iload 6, 2) := by decide +kernel
theorem dX6_cast_118 : decode cX6_cast 118 = .ok (.iaload, 1) := by decide +kernel
theorem dX6_cast_119 : decode cX6_cast 119 = .ok (.if_icmp .ge 41, 3) := by decide +kernel
theorem dX6_cast_122 : decode cX6_cast 122 = .ok (.iload 7, 2) := by decide +kernel
theorem dX6_cast_124 : decode cX6_cast 124 = .ok (.aload_n 0, 1) := by decide +kernel
theorem dX6_cast_125 : decode cX6_cast 125 = .ok (.getfield 21, 3) := by decide +kernel
theorem dX6_cast_128 : decode cX6_cast 128 = .ok (.aload_n 1, 1) := by decide +kernel
theorem dX6_cast_129 : decode cX6_cast 129 = .ok (.getfield 121, 3) := by decide +kernel
theorem dX6_cast_132 : decode cX6_cast 132 = .ok (.iload 6, 2) := by decide +kernel
theorem dX6_cast_134 : decode cX6_cast 134 = .ok (.iaload, 1) := by decide +kernel
theorem dX6_cast_135 : decode cX6_cast 135 = .ok (.iload 8, 2) := by decide +kernel
theorem dX6_cast_137 : decode cX6_cast 137 = .ok (.iadd, 1) := by decide +kernel
theorem dX6_cast_138 : decode cX6_cast 138 = .ok (.iaload, 1) := by decide +kernel
theorem dX6_cast_139 : decode cX6_cast 139 = .ok (.aload_n 1, 1) := by decide +kernel
theorem dX6_cast_140 : decode cX6_cast 140 = .ok (.iload 6, 2) := by decide +kernel
theorem dX6_cast_142 : decode cX6_cast 142 = .ok (.invokevirtual 124, 3) := by decide +kernel
theorem dX6_cast_145 : decode cX6_cast 145 = .ok (.iand, 1) := by decide +kernel
theorem dX6_cast_146 : decode cX6_cast 146 = .ok (.iconst 4, 1) := by decide +kernel
theorem dX6_cast_147 : decode cX6_cast 147 = .ok (.iload 8, 2) := by decide +kernel
theorem dX6_cast_149 : decode cX6_cast 149 = .ok (.imul, 1) := by decide +kernel
theorem dX6_cast_150 : decode cX6_cast 150 = .ok (.ishl, 1) := by decide +kernel
theorem dX6_cast_151 : decode cX6_cast 151 = .ok (.ior, 1) := by decide +kernel
theorem dX6_cast_152 : decode cX6_cast 152 = .ok (.istore 7, 2) := by decide +kernel
theorem dX6_cast_154 : decode cX6_cast 154 = .ok (.iinc 8 1, 3) := by decide +kernel
theorem dX6_cast_157 : decode cX6_cast 157 = .ok (.goto (-47), 3) := by decide +kernel
theorem dX6_cast_160 : decode cX6_cast 160 = .ok (.aload_n 0, 1) := by decide +kernel
theorem dX6_cast_161 : decode cX6_cast 161 = .ok (.iload 6, 2) := by decide +kernel
theorem dX6_cast_163 : decode cX6_cast 163 = .ok (.iload 7, 2) := by decide +kernel
theorem dX6_cast_165 : decode cX6_cast 165 = .ok (.invokevirtual 127, 3) := by decide +kernel
theorem dX6_cast_168 : decode cX6_cast 168 = .ok (.return_, 1) := by decide +kernel
theorem dX6_layShade_0 : decode cX6_layShade 0 = .ok (.iload_n 3, 1) := by decide +kernel
theorem dX6_layShade_1 : decode cX6_layShade 1 = .ok (.aload_n 1, 1) := by decide +kernel
theorem dX6_layShade_2 : decode cX6_layShade 2 = .ok (.getfield 88, 3) := by decide +kernel
theorem dX6_layShade_5 : decode cX6_layShade 5 = .ok (.iload_n 2, 1) := by decide +kernel
theorem dX6_layShade_6 : decode cX6_layShade 6 = .ok (.iaload, 1) := by decide +kernel
theorem dX6_layShade_7 : decode cX6_layShade 7 = .ok (.if_icmp .lt 4, 3) := by decide +kernel
theorem dX6_layShade_10 : decode cX6_layShade 10 = .ok (.return_, 1) := by decide +kernel
theorem dX6_layShade_11 : decode cX6_layShade 11 = .ok (.aload_n 1, 1) := by decide +kernel
theorem dX6_layShade_12 : decode cX6_layShade 12 = .ok (.iload_n 2, 1) := by decide +kernel
theorem dX6_layShade_13 : decode cX6_layShade 13 = .ok (.iload_n 3, 1) := by decide +kernel
theorem dX6_layShade_14 : decode cX6_layShade 14 = .ok (.invokevirtual 91, 3) := by decide +kernel
theorem dX6_layShade_17 : decode cX6_layShade 17 = .ok (.istore 5, 2) := by decide +kernel
theorem dX6_layShade_19 : decode cX6_layShade 19 = .ok (.aload_n 0, 1) := by decide +kernel
theorem dX6_layShade_20 : decode cX6_layShade 20 = .ok (.getfield 9, 3) := by decide +kernel
theorem dX6_layShade_23 : decode cX6_layShade 23 = .ok (.bipush 12, 2) := by decide +kernel
theorem dX6_layShade_25 : decode cX6_layShade 25 = .ok (.iload 5, 2) := by decide +kernel
theorem dX6_layShade_27 : decode cX6_layShade 27 = .ok (.imul, 1) := by decide +kernel
theorem dX6_layShade_28 : decode cX6_layShade 28 = .ok (.iload 4, 2) := by decide +kernel
theorem dX6_layShade_30 : decode cX6_layShade 30 = .ok (.iadd, 1) := by decide +kernel
theorem dX6_layShade_31 : decode cX6_layShade 31 = .ok (.iaload, 1) := by decide +kernel
theorem dX6_layShade_32 : decode cX6_layShade 32 = .ok (.istore 6, 2) := by decide +kernel
theorem dX6_layShade_34 : decode cX6_layShade 34 = .ok (.iconst 0, 1) := by decide +kernel
theorem dX6_layShade_35 : decode cX6_layShade 35 = .ok (.istore 7, 2) := by decide +kernel
theorem dX6_layShade_37 : decode cX6_layShade 37 = .ok (.iload 7, 2) := by decide +kernel
theorem dX6_layShade_39 : decode cX6_layShade 39 = .ok (.aload_n 1, 1) := by decide +kernel
theorem dX6_layShade_40 : decode cX6_layShade 40 = .ok (.getfield 118, 3) := by decide +kernel
theorem dX6_layShade_43 : decode cX6_layShade 43 = .ok (.iload 5, 2) := by decide +kernel
theorem dX6_layShade_45 : decode cX6_layShade 45 = .ok (.iaload, 1) := by decide +kernel
theorem dX6_layShade_46 : decode cX6_layShade 46 = .ok (.if_icmp .ge 51, 3) := by decide +kernel
theorem dX6_layShade_49 : decode cX6_layShade 49 = .ok (.iload 6, 2) := by decide +kernel
theorem dX6_layShade_51 : decode cX6_layShade 51 = .ok (.iconst 4, 1) := by decide +kernel
theorem dX6_layShade_52 : decode cX6_layShade 52 = .ok (.iload 7, 2) := by decide +kernel
theorem dX6_layShade_54 : decode cX6_layShade 54 = .ok (.imul, 1) := by decide +kernel
theorem dX6_layShade_55 : decode cX6_layShade 55 = .ok (.iushr, 1) := by decide +kernel
theorem dX6_layShade_56 : decode cX6_layShade 56 = .ok (.bipush 15, 2) := by decide +kernel
theorem dX6_layShade_58 : decode cX6_layShade 58 = .ok (.iand, 1) := by decide +kernel
theorem dX6_layShade_59 : decode cX6_layShade 59 = .ok (.istore 8, 2) := by decide +kernel
theorem dX6_layShade_61 : decode cX6_layShade 61 = .ok (.aload_n 0, 1) := by decide +kernel
theorem dX6_layShade_62 : decode cX6_layShade 62 = .ok (.getfield 21, 3) := by decide +kernel
theorem dX6_layShade_65 : decode cX6_layShade 65 = .ok (.bipush 8, 2) := by decide +kernel
theorem dX6_layShade_67 : decode cX6_layShade 67 = .ok (.iload_n 3, 1) := by decide +kernel
theorem dX6_layShade_68 : decode cX6_layShade 68 = .ok (.imul, 1) := by decide +kernel
theorem dX6_layShade_69 : decode cX6_layShade 69 = .ok (.aload_n 1, 1) := by decide +kernel
theorem dX6_layShade_70 : decode cX6_layShade 70 = .ok (.getfield 121, 3) := by decide +kernel
theorem dX6_layShade_73 : decode cX6_layShade 73 = .ok (.iload 5, 2) := by decide +kernel
theorem dX6_layShade_75 : decode cX6_layShade 75 = .ok (.iaload, 1) := by decide +kernel
theorem dX6_layShade_76 : decode cX6_layShade 76 = .ok (.iadd, 1) := by decide +kernel
theorem dX6_layShade_77 : decode cX6_layShade 77 = .ok (.iload 7, 2) := by decide +kernel
theorem dX6_layShade_79 : decode cX6_layShade 79 = .ok (.iadd, 1) := by decide +kernel
theorem dX6_layShade_80 : decode cX6_layShade 80 = .ok (.dup2, 1) := by decide +kernel
theorem dX6_layShade_81 : decode cX6_layShade 81 = .ok (.iaload, 1) := by decide +kernel
theorem dX6_layShade_82 : decode cX6_layShade 82 = .ok (.iload 8, 2) := by decide +kernel
theorem dX6_layShade_84 : decode cX6_layShade 84 = .ok (.bipush 8, 2) := by decide +kernel
theorem dX6_layShade_86 : decode cX6_layShade 86 = .ok (.iload_n 3, 1) := by decide +kernel
theorem dX6_layShade_87 : decode cX6_layShade 87 = .ok (.imul, 1) := by decide +kernel
theorem dX6_layShade_88 : decode cX6_layShade 88 = .ok (.ishl, 1) := by decide +kernel
theorem dX6_layShade_89 : decode cX6_layShade 89 = .ok (.ior, 1) := by decide +kernel
theorem dX6_layShade_90 : decode cX6_layShade 90 = .ok (.iastore, 1) := by decide +kernel
theorem dX6_layShade_91 : decode cX6_layShade 91 = .ok (.iinc 7 1, 3) := by decide +kernel
theorem dX6_layShade_94 : decode cX6_layShade 94 = .ok (.goto (-57), 3) := by decide +kernel
theorem dX6_layShade_97 : decode cX6_layShade 97 = .ok (.return_, 1) := by decide +kernel
theorem dX6_keep_0 : decode cX6_keep 0 = .ok (.iconst 0, 1) := by decide +kernel
theorem dX6_keep_1 : decode cX6_keep 1 = .ok (.istore_n 3, 1) := by decide +kernel
theorem dX6_keep_2 : decode cX6_keep 2 = .ok (.iload_n 3, 1) := by decide +kernel
theorem dX6_keep_3 : decode cX6_keep 3 = .ok (.aload_n 0, 1) := by decide +kernel
theorem dX6_keep_4 : decode cX6_keep 4 = .ok (.getfield 24, 3) := by decide +kernel
theorem dX6_keep_7 : decode cX6_keep 7 = .ok (.iload_n 1, 1) := by decide +kernel
theorem dX6_keep_8 : decode cX6_keep 8 = .ok (.iaload, 1) := by decide +kernel
theorem dX6_keep_9 : decode cX6_keep 9 = .ok (.if_icmp .ge 25, 3) := by decide +kernel
theorem dX6_keep_12 : decode cX6_keep 12 = .ok (.aload_n 0, 1) := by decide +kernel
theorem dX6_keep_13 : decode cX6_keep 13 = .ok (.getfield 9, 3) := by decide +kernel
theorem dX6_keep_16 : decode cX6_keep 16 = .ok (.bipush 12, 2) := by decide +kernel
theorem dX6_keep_18 : decode cX6_keep 18 = .ok (.iload_n 1, 1) := by decide +kernel
theorem dX6_keep_19 : decode cX6_keep 19 = .ok (.imul, 1) := by decide +kernel
theorem dX6_keep_20 : decode cX6_keep 20 = .ok (.iload_n 3, 1) := by decide +kernel
theorem dX6_keep_21 : decode cX6_keep 21 = .ok (.iadd, 1) := by decide +kernel
theorem dX6_keep_22 : decode cX6_keep 22 = .ok (.iaload, 1) := by decide +kernel
theorem dX6_keep_23 : decode cX6_keep 23 = .ok (.iload_n 2, 1) := by decide +kernel
theorem dX6_keep_24 : decode cX6_keep 24 = .ok (.if_icmp .ne 4, 3) := by decide +kernel
theorem dX6_keep_27 : decode cX6_keep 27 = .ok (.return_, 1) := by decide +kernel
theorem dX6_keep_28 : decode cX6_keep 28 = .ok (.iinc 3 1, 3) := by decide +kernel
theorem dX6_keep_31 : decode cX6_keep 31 = .ok (.goto (-29), 3) := by decide +kernel
theorem dX6_keep_34 : decode cX6_keep 34 = .ok (.aload_n 0, 1) := by decide +kernel
theorem dX6_keep_35 : decode cX6_keep 35 = .ok (.getfield 24, 3) := by decide +kernel
theorem dX6_keep_38 : decode cX6_keep 38 = .ok (.iload_n 1, 1) := by decide +kernel
theorem dX6_keep_39 : decode cX6_keep 39 = .ok (.iaload, 1) := by decide +kernel
theorem dX6_keep_40 : decode cX6_keep 40 = .ok (.bipush 12, 2) := by decide +kernel
theorem dX6_keep_42 : decode cX6_keep 42 = .ok (.if_icmp .lt 9, 3) := by decide +kernel
theorem dX6_keep_45 : decode cX6_keep 45 = .ok (.aload_n 0, 1) := by decide +kernel
theorem dX6_keep_46 : decode cX6_keep 46 = .ok (.iconst 1, 1) := by decide +kernel
theorem dX6_keep_47 : decode cX6_keep 47 = .ok (.putfield 31, 3) := by decide +kernel
theorem dX6_keep_50 : decode cX6_keep 50 = .ok (.return_, 1) := by decide +kernel
theorem dX6_keep_51 : decode cX6_keep 51 = .ok (.aload_n 0, 1) := by decide +kernel
theorem dX6_keep_52 : decode cX6_keep 52 = .ok (.getfield 9, 3) := by decide +kernel
theorem dX6_keep_55 : decode cX6_keep 55 = .ok (.bipush 12, 2) := by decide +kernel
theorem dX6_keep_57 : decode cX6_keep 57 = .ok (.iload_n 1, 1) := by decide +kernel
theorem dX6_keep_58 : decode cX6_keep 58 = .ok (.imul, 1) := by decide +kernel
theorem dX6_keep_59 : decode cX6_keep 59 = .ok (.aload_n 0, 1) := by decide +kernel
theorem dX6_keep_60 : decode cX6_keep 60 = .ok (.getfield 24, 3) := by decide +kernel
theorem dX6_keep_63 : decode cX6_keep 63 = .ok (.iload_n 1, 1) := by decide +kernel
theorem dX6_keep_64 : decode cX6_keep 64 = .ok (.iaload, 1) := by decide +kernel
theorem dX6_keep_65 : decode cX6_keep 65 = .ok (.iadd, 1) := by decide +kernel
theorem dX6_keep_66 : decode cX6_keep 66 = .ok (.iload_n 2, 1) := by decide +kernel
theorem dX6_keep_67 : decode cX6_keep 67 = .ok (.iastore, 1) := by decide +kernel
theorem dX6_keep_68 : decode cX6_keep 68 = .ok (.aload_n 0, 1) := by decide +kernel
theorem dX6_keep_69 : decode cX6_keep 69 = .ok (.getfield 24, 3) := by decide +kernel
theorem dX6_keep_72 : decode cX6_keep 72 = .ok (.iload_n 1, 1) := by decide +kernel
theorem dX6_keep_73 : decode cX6_keep 73 = .ok (.dup2, 1) := by decide +kernel
theorem dX6_keep_74 : decode cX6_keep 74 = .ok (.iaload, 1) := by decide +kernel
theorem dX6_keep_75 : decode cX6_keep 75 = .ok (.iconst 1, 1) := by decide +kernel
theorem dX6_keep_76 : decode cX6_keep 76 = .ok (.iadd, 1) := by decide +kernel
theorem dX6_keep_77 : decode cX6_keep 77 = .ok (.iastore, 1) := by decide +kernel
theorem dX6_keep_78 : decode cX6_keep 78 = .ok (.return_, 1) := by decide +kernel
