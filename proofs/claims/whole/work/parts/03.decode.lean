theorem dX0_init_0 : decode cX0_init 0 = .ok (.aload_n 0, 1) := by decide +kernel
theorem dX0_init_1 : decode cX0_init 1 = .ok (.invokespecial 3, 3) := by decide +kernel
theorem dX0_init_4 : decode cX0_init 4 = .ok (.aload_n 0, 1) := by decide +kernel
theorem dX0_init_5 : decode cX0_init 5 = .ok (.bipush 10, 2) := by decide +kernel
theorem dX0_init_7 : decode cX0_init 7 = .ok (.newarray .int, 2) := by decide +kernel
theorem dX0_init_9 : decode cX0_init 9 = .ok (.putfield 9, 3) := by decide +kernel
theorem dX0_init_12 : decode cX0_init 12 = .ok (.aload_n 0, 1) := by decide +kernel
theorem dX0_init_13 : decode cX0_init 13 = .ok (.bipush 110, 2) := by decide +kernel
theorem dX0_init_15 : decode cX0_init 15 = .ok (.newarray .int, 2) := by decide +kernel
theorem dX0_init_17 : decode cX0_init 17 = .ok (.putfield 15, 3) := by decide +kernel
theorem dX0_init_20 : decode cX0_init 20 = .ok (.aload_n 0, 1) := by decide +kernel
theorem dX0_init_21 : decode cX0_init 21 = .ok (.iconst 0, 1) := by decide +kernel
theorem dX0_init_22 : decode cX0_init 22 = .ok (.putfield 18, 3) := by decide +kernel
theorem dX0_init_25 : decode cX0_init 25 = .ok (.aload_n 0, 1) := by decide +kernel
theorem dX0_init_26 : decode cX0_init 26 = .ok (.iconst 0, 1) := by decide +kernel
theorem dX0_init_27 : decode cX0_init 27 = .ok (.putfield 22, 3) := by decide +kernel
theorem dX0_init_30 : decode cX0_init 30 = .ok (.aload_n 0, 1) := by decide +kernel
theorem dX0_init_31 : decode cX0_init 31 = .ok (.iconst 0, 1) := by decide +kernel
theorem dX0_init_32 : decode cX0_init 32 = .ok (.putfield 25, 3) := by decide +kernel
theorem dX0_init_35 : decode cX0_init 35 = .ok (.return_, 1) := by decide +kernel
theorem dX0_find_0 : decode cX0_find 0 = .ok (.iload_n 2, 1) := by decide +kernel
theorem dX0_find_1 : decode cX0_find 1 = .ok (.ifCond .lt 9, 3) := by decide +kernel
theorem dX0_find_4 : decode cX0_find 4 = .ok (.iload_n 2, 1) := by decide +kernel
theorem dX0_find_5 : decode cX0_find 5 = .ok (.bipush 7, 2) := by decide +kernel
theorem dX0_find_7 : decode cX0_find 7 = .ok (.if_icmp .le 5, 3) := by decide +kernel
theorem dX0_find_10 : decode cX0_find 10 = .ok (.iconst 0, 1) := by decide +kernel
theorem dX0_find_11 : decode cX0_find 11 = .ok (.ireturn, 1) := by decide +kernel
theorem dX0_find_12 : decode cX0_find 12 = .ok (.aload_n 0, 1) := by decide +kernel
theorem dX0_find_13 : decode cX0_find 13 = .ok (.aload_n 1, 1) := by decide +kernel
theorem dX0_find_14 : decode cX0_find 14 = .ok (.invokevirtual 28, 3) := by decide +kernel
theorem dX0_find_17 : decode cX0_find 17 = .ok (.aload_n 0, 1) := by decide +kernel
theorem dX0_find_18 : decode cX0_find 18 = .ok (.iconst 1, 1) := by decide +kernel
theorem dX0_find_19 : decode cX0_find 19 = .ok (.iconst 1, 1) := by decide +kernel
theorem dX0_find_20 : decode cX0_find 20 = .ok (.iload_n 2, 1) := by decide +kernel
theorem dX0_find_21 : decode cX0_find 21 = .ok (.invokevirtual 32, 3) := by decide +kernel
theorem dX0_find_24 : decode cX0_find 24 = .ok (.ifCond .ne 33, 3) := by decide +kernel
theorem dX0_find_27 : decode cX0_find 27 = .ok (.aload_n 0, 1) := by decide +kernel
theorem dX0_find_28 : decode cX0_find 28 = .ok (.iconst 1, 1) := by decide +kernel
theorem dX0_find_29 : decode cX0_find 29 = .ok (.iconst 2, 1) := by decide +kernel
theorem dX0_find_30 : decode cX0_find 30 = .ok (.iload_n 2, 1) := by decide +kernel
theorem dX0_find_31 : decode cX0_find 31 = .ok (.invokevirtual 32, 3) := by decide +kernel
theorem dX0_find_34 : decode cX0_find 34 = .ok (.ifCond .ne 23, 3) := by decide +kernel
theorem dX0_find_37 : decode cX0_find 37 = .ok (.aload_n 0, 1) := by decide +kernel
theorem dX0_find_38 : decode cX0_find 38 = .ok (.iconst 2, 1) := by decide +kernel
theorem dX0_find_39 : decode cX0_find 39 = .ok (.iconst 1, 1) := by decide +kernel
theorem dX0_find_40 : decode cX0_find 40 = .ok (.iload_n 2, 1) := by decide +kernel
theorem dX0_find_41 : decode cX0_find 41 = .ok (.invokevirtual 32, 3) := by decide +kernel
theorem dX0_find_44 : decode cX0_find 44 = .ok (.ifCond .ne 13, 3) := by decide +kernel
theorem dX0_find_47 : decode cX0_find 47 = .ok (.aload_n 0, 1) := by decide +kernel
theorem dX0_find_48 : decode cX0_find 48 = .ok (.iconst 2, 1) := by decide +kernel
theorem dX0_find_49 : decode cX0_find 49 = .ok (.iconst 2, 1) := by decide +kernel
theorem dX0_find_50 : decode cX0_find 50 = .ok (.iload_n 2, 1) := by decide +kernel
theorem dX0_find_51 : decode cX0_find 51 = .ok (.invokevirtual 32, 3) := by decide +kernel
theorem dX0_find_54 : decode cX0_find 54 = .ok (.ifCond .eq 7, 3) := by decide +kernel
theorem dX0_find_57 : decode cX0_find 57 = .ok (.iconst 1, 1) := by decide +kernel
theorem dX0_find_58 : decode cX0_find 58 = .ok (.goto 4, 3) := by decide +kernel
theorem dX0_find_61 : decode cX0_find 61 = .ok (.iconst 0, 1) := by decide +kernel
theorem dX0_find_62 : decode cX0_find 62 = .ok (.istore 4, 2) := by decide +kernel
theorem dX0_find_64 : decode cX0_find 64 = .ok (.iload 4, 2) := by decide +kernel
theorem dX0_find_66 : decode cX0_find 66 = .ok (.ifCond .eq 39, 3) := by decide +kernel
theorem dX0_find_69 : decode cX0_find 69 = .ok (.aload_n 3, 1) := by decide +kernel
theorem dX0_find_70 : decode cX0_find 70 = .ok (.invokevirtual 36, 3) := by decide +kernel
theorem dX0_find_73 : decode cX0_find 73 = .ok (.aload_n 0, 1) := by decide +kernel
theorem dX0_find_74 : decode cX0_find 74 = .ok (.aload_n 0, 1) := by decide +kernel
theorem dX0_find_75 : decode cX0_find 75 = .ok (.getfield 22, 3) := by decide +kernel
theorem dX0_find_78 : decode cX0_find 78 = .ok (.aload_n 3, 1) := by decide +kernel
theorem dX0_find_79 : decode cX0_find 79 = .ok (.invokevirtual 41, 3) := by decide +kernel
theorem dX0_find_82 : decode cX0_find 82 = .ok (.aload_n 3, 1) := by decide +kernel
theorem dX0_find_83 : decode cX0_find 83 = .ok (.invokevirtual 45, 3) := by decide +kernel
theorem dX0_find_86 : decode cX0_find 86 = .ok (.istore 5, 2) := by decide +kernel
theorem dX0_find_88 : decode cX0_find 88 = .ok (.aload_n 0, 1) := by decide +kernel
theorem dX0_find_89 : decode cX0_find 89 = .ok (.aload_n 0, 1) := by decide +kernel
theorem dX0_find_90 : decode cX0_find 90 = .ok (.getfield 25, 3) := by decide +kernel
theorem dX0_find_93 : decode cX0_find 93 = .ok (.aload_n 3, 1) := by decide +kernel
theorem dX0_find_94 : decode cX0_find 94 = .ok (.invokevirtual 41, 3) := by decide +kernel
theorem dX0_find_97 : decode cX0_find 97 = .ok (.aload_n 3, 1) := by decide +kernel
theorem dX0_find_98 : decode cX0_find 98 = .ok (.iconst 0, 1) := by decide +kernel
theorem dX0_find_99 : decode cX0_find 99 = .ok (.iload 5, 2) := by decide +kernel
theorem dX0_find_101 : decode cX0_find 101 = .ok (.invokevirtual 49, 3) := by decide +kernel
theorem dX0_find_104 : decode cX0_find 104 = .ok (.pop, 1) := by decide +kernel
theorem dX0_find_105 : decode cX0_find 105 = .ok (.iload 4, 2) := by decide +kernel
theorem dX0_find_107 : decode cX0_find 107 = .ok (.ireturn, 1) := by decide +kernel
theorem dX0_listWords_0 : decode cX0_listWords 0 = .ok (.aload_n 0, 1) := by decide +kernel
theorem dX0_listWords_1 : decode cX0_listWords 1 = .ok (.iconst 0, 1) := by decide +kernel
theorem dX0_listWords_2 : decode cX0_listWords 2 = .ok (.putfield 18, 3) := by decide +kernel
theorem dX0_listWords_5 : decode cX0_listWords 5 = .ok (.iconst 0, 1) := by decide +kernel
theorem dX0_listWords_6 : decode cX0_listWords 6 = .ok (.istore_n 2, 1) := by decide +kernel
theorem dX0_listWords_7 : decode cX0_listWords 7 = .ok (.iload_n 2, 1) := by decide +kernel
theorem dX0_listWords_8 : decode cX0_listWords 8 = .ok (.bipush 10, 2) := by decide +kernel
theorem dX0_listWords_10 : decode cX0_listWords 10 = .ok (.if_icmp .ge 65, 3) := by decide +kernel
theorem dX0_listWords_13 : decode cX0_listWords 13 = .ok (.aload_n 0, 1) := by decide +kernel
theorem dX0_listWords_14 : decode cX0_listWords 14 = .ok (.getfield 18, 3) := by decide +kernel
theorem dX0_listWords_17 : decode cX0_listWords 17 = .ok (.aload_n 0, 1) := by decide +kernel
theorem dX0_listWords_18 : decode cX0_listWords 18 = .ok (.getfield 9, 3) := by decide +kernel
theorem dX0_listWords_21 : decode cX0_listWords 21 = .ok (.arraylength, 1) := by decide +kernel
theorem dX0_listWords_22 : decode cX0_listWords 22 = .ok (.if_icmp .ge 53, 3) := by decide +kernel
theorem dX0_listWords_25 : decode cX0_listWords 25 = .ok (.aload_n 1, 1) := by decide +kernel
theorem dX0_listWords_26 : decode cX0_listWords 26 = .ok (.iload_n 2, 1) := by decide +kernel
theorem dX0_listWords_27 : decode cX0_listWords 27 = .ok (.iconst 2, 1) := by decide +kernel
theorem dX0_listWords_28 : decode cX0_listWords 28 = .ok (.idiv, 1) := by decide +kernel
theorem dX0_listWords_29 : decode cX0_listWords 29 = .ok (.invokevirtual 53, 3) := by decide +kernel
theorem dX0_listWords_32 : decode cX0_listWords 32 = .ok (.ifCond .eq 37, 3) := by decide +kernel
theorem dX0_listWords_35 : decode cX0_listWords 35 = .ok (.aload_n 0, 1) := by decide +kernel
theorem dX0_listWords_36 : decode cX0_listWords 36 = .ok (.getfield 9, 3) := by decide +kernel
theorem dX0_listWords_39 : decode cX0_listWords 39 = .ok (.aload_n 0, 1) := by decide +kernel
theorem dX0_listWords_40 : decode cX0_listWords 40 = .ok (.getfield 18, 3) := by decide +kernel
theorem dX0_listWords_43 : decode cX0_listWords 43 = .ok (.iload_n 2, 1) := by decide +kernel
theorem dX0_listWords_44 : decode cX0_listWords 44 = .ok (.iastore, 1) := by decide +kernel
theorem dX0_listWords_45 : decode cX0_listWords 45 = .ok (.aload_n 0, 1) := by decide +kernel
theorem dX0_listWords_46 : decode cX0_listWords 46 = .ok (.getfield 15, 3) := by decide +kernel
theorem dX0_listWords_49 : decode cX0_listWords 49 = .ok (.aload_n 0, 1) := by decide +kernel
theorem dX0_listWords_50 : decode cX0_listWords 50 = .ok (.getfield 18, 3) := by decide +kernel
theorem dX0_listWords_53 : decode cX0_listWords 53 = .ok (.aload_n 1, 1) := by decide +kernel
theorem dX0_listWords_54 : decode cX0_listWords 54 = .ok (.iload_n 2, 1) := by decide +kernel
theorem dX0_listWords_55 : decode cX0_listWords 55 = .ok (.invokevirtual 59, 3) := by decide +kernel
theorem dX0_listWords_58 : decode cX0_listWords 58 = .ok (.iastore, 1) := by decide +kernel
theorem dX0_listWords_59 : decode cX0_listWords 59 = .ok (.aload_n 0, 1) := by decide +kernel
theorem dX0_listWords_60 : decode cX0_listWords 60 = .ok (.dup, 1) := by decide +kernel
theorem dX0_listWords_61 : decode cX0_listWords 61 = .ok (.getfield 18, 3) := by decide +kernel
theorem dX0_listWords_64 : decode cX0_listWords 64 = .ok (.iconst 1, 1) := by decide +kernel
theorem dX0_listWords_65 : decode cX0_listWords 65 = .ok (.iadd, 1) := by decide +kernel
theorem dX0_listWords_66 : decode cX0_listWords 66 = .ok (.putfield 18, 3) := by decide +kernel
theorem dX0_listWords_69 : decode cX0_listWords 69 = .ok (.iinc 2 1, 3) := by decide +kernel
theorem dX0_listWords_72 : decode cX0_listWords 72 = .ok (.goto (-65), 3) := by decide +kernel
theorem dX0_listWords_75 : decode cX0_listWords 75 = .ok (.aload_n 0, 1) := by decide +kernel
theorem dX0_listWords_76 : decode cX0_listWords 76 = .ok (.getfield 18, 3) := by decide +kernel
theorem dX0_listWords_79 : decode cX0_listWords 79 = .ok (.istore_n 2, 1) := by decide +kernel
theorem dX0_listWords_80 : decode cX0_listWords 80 = .ok (.iconst 0, 1) := by decide +kernel
theorem dX0_listWords_81 : decode cX0_listWords 81 = .ok (.istore_n 3, 1) := by decide +kernel
theorem dX0_listWords_82 : decode cX0_listWords 82 = .ok (.iload_n 3, 1) := by decide +kernel
theorem dX0_listWords_83 : decode cX0_listWords 83 = .ok (.aload_n 0, 1) := by decide +kernel
theorem dX0_listWords_84 : decode cX0_listWords 84 = .ok (.getfield 18, 3) := by decide +kernel
theorem dX0_listWords_87 : decode cX0_listWords 87 = .ok (.if_icmp .ge 61, 3) := by decide +kernel
theorem dX0_listWords_90 : decode cX0_listWords 90 = .ok (.iconst 0, 1) := by decide +kernel
theorem dX0_listWords_91 : decode cX0_listWords 91 = .ok (.istore 4, 2) := by decide +kernel
theorem dX0_listWords_93 : decode cX0_listWords 93 = .ok (.iload 4, 2) := by decide +kernel
theorem dX0_listWords_95 : decode cX0_listWords 95 = .ok (.aload_n 0, 1) := by decide +kernel
theorem dX0_listWords_96 : decode cX0_listWords 96 = .ok (.getfield 18, 3) := by decide +kernel
theorem dX0_listWords_99 : decode cX0_listWords 99 = .ok (.if_icmp .ge 43, 3) := by decide +kernel
theorem dX0_listWords_102 : decode cX0_listWords 102 = .ok (.iload_n 2, 1) := by decide +kernel
theorem dX0_listWords_103 : decode cX0_listWords 103 = .ok (.aload_n 0, 1) := by decide +kernel
theorem dX0_listWords_104 : decode cX0_listWords 104 = .ok (.getfield 15, 3) := by decide +kernel
theorem dX0_listWords_107 : decode cX0_listWords 107 = .ok (.arraylength, 1) := by decide +kernel
theorem dX0_listWords_108 : decode cX0_listWords 108 = .ok (.if_icmp .ge 34, 3) := by decide +kernel
theorem dX0_listWords_111 : decode cX0_listWords 111 = .ok (.aload_n 0, 1) := by decide +kernel
theorem dX0_listWords_112 : decode cX0_listWords 112 = .ok (.getfield 15, 3) := by decide +kernel
theorem dX0_listWords_115 : decode cX0_listWords 115 = .ok (.iload_n 2, 1) := by decide +kernel
theorem dX0_listWords_116 : decode cX0_listWords 116 = .ok (.aload_n 0, 1) := by decide +kernel
theorem dX0_listWords_117 : decode cX0_listWords 117 = .ok (.getfield 15, 3) := by decide +kernel
theorem dX0_listWords_120 : decode cX0_listWords 120 = .ok (.iload_n 3, 1) := by decide +kernel
theorem dX0_listWords_121 : decode cX0_listWords 121 = .ok (.iaload, 1) := by decide +kernel
theorem dX0_listWords_122 : decode cX0_listWords 122 = .ok (.aload_n 0, 1) := by decide +kernel
theorem dX0_listWords_123 : decode cX0_listWords 123 = .ok (.getfield 15, 3) := by decide +kernel
theorem dX0_listWords_126 : decode cX0_listWords 126 = .ok (.iload 4, 2) := by decide +kernel
theorem dX0_listWords_128 : decode cX0_listWords 128 = .ok (.iaload, 1) := by decide +kernel
theorem dX0_listWords_129 : decode cX0_listWords 129 = .ok (.invokestatic 63, 3) := by decide +kernel
theorem dX0_listWords_132 : decode cX0_listWords 132 = .ok (.iastore, 1) := by decide +kernel
theorem dX0_listWords_133 : decode cX0_listWords 133 = .ok (.iinc 2 1, 3) := by decide +kernel
theorem dX0_listWords_136 : decode cX0_listWords 136 = .ok (.iinc 4 1, 3) := by decide +kernel
theorem dX0_listWords_139 : decode cX0_listWords 139 = .ok (.goto (-46), 3) := by decide +kernel
theorem dX0_listWords_142 : decode cX0_listWords 142 = .ok (.iinc 3 1, 3) := by decide +kernel
theorem dX0_listWords_145 : decode cX0_listWords 145 = .ok (.goto (-63), 3) := by decide +kernel
theorem dX0_listWords_148 : decode cX0_listWords 148 = .ok (.return_, 1) := by decide +kernel
theorem dX0_findAmong_0 : decode cX0_findAmong 0 = .ok (.aload_n 0, 1) := by decide +kernel
theorem dX0_findAmong_1 : decode cX0_findAmong 1 = .ok (.iload_n 1, 1) := by decide +kernel
theorem dX0_findAmong_2 : decode cX0_findAmong 2 = .ok (.invokevirtual 69, 3) := by decide +kernel
theorem dX0_findAmong_5 : decode cX0_findAmong 5 = .ok (.istore 4, 2) := by decide +kernel
theorem dX0_findAmong_7 : decode cX0_findAmong 7 = .ok (.iload 4, 2) := by decide +kernel
theorem dX0_findAmong_9 : decode cX0_findAmong 9 = .ok (.aload_n 0, 1) := by decide +kernel
theorem dX0_findAmong_10 : decode cX0_findAmong 10 = .ok (.iload_n 1, 1) := by decide +kernel
theorem dX0_findAmong_11 : decode cX0_findAmong 11 = .ok (.iconst 1, 1) := by decide +kernel
theorem dX0_findAmong_12 : decode cX0_findAmong 12 = .ok (.iadd, 1) := by decide +kernel
theorem dX0_findAmong_13 : decode cX0_findAmong 13 = .ok (.invokevirtual 69, 3) := by decide +kernel
theorem dX0_findAmong_16 : decode cX0_findAmong 16 = .ok (.if_icmp .ge 69, 3) := by decide +kernel
theorem dX0_findAmong_19 : decode cX0_findAmong 19 = .ok (.aload_n 0, 1) := by decide +kernel
theorem dX0_findAmong_20 : decode cX0_findAmong 20 = .ok (.iload_n 2, 1) := by decide +kernel
theorem dX0_findAmong_21 : decode cX0_findAmong 21 = .ok (.invokevirtual 69, 3) := by decide +kernel
theorem dX0_findAmong_24 : decode cX0_findAmong 24 = .ok (.istore 5, 2) := by decide +kernel
theorem dX0_findAmong_26 : decode cX0_findAmong 26 = .ok (.iload 5, 2) := by decide +kernel
theorem dX0_findAmong_28 : decode cX0_findAmong 28 = .ok (.aload_n 0, 1) := by decide +kernel
theorem dX0_findAmong_29 : decode cX0_findAmong 29 = .ok (.iload_n 2, 1) := by decide +kernel
theorem dX0_findAmong_30 : decode cX0_findAmong 30 = .ok (.iconst 1, 1) := by decide +kernel
theorem dX0_findAmong_31 : decode cX0_findAmong 31 = .ok (.iadd, 1) := by decide +kernel
theorem dX0_findAmong_32 : decode cX0_findAmong 32 = .ok (.invokevirtual 69, 3) := by decide +kernel
theorem dX0_findAmong_35 : decode cX0_findAmong 35 = .ok (.if_icmp .ge 44, 3) := by decide +kernel
theorem dX0_findAmong_38 : decode cX0_findAmong 38 = .ok (.aload_n 0, 1) := by decide +kernel
theorem dX0_findAmong_39 : decode cX0_findAmong 39 = .ok (.getfield 15, 3) := by decide +kernel
theorem dX0_findAmong_42 : decode cX0_findAmong 42 = .ok (.iload 4, 2) := by decide +kernel
theorem dX0_findAmong_44 : decode cX0_findAmong 44 = .ok (.iaload, 1) := by decide +kernel
theorem dX0_findAmong_45 : decode cX0_findAmong 45 = .ok (.aload_n 0, 1) := by decide +kernel
theorem dX0_findAmong_46 : decode cX0_findAmong 46 = .ok (.getfield 15, 3) := by decide +kernel
theorem dX0_findAmong_49 : decode cX0_findAmong 49 = .ok (.iload 5, 2) := by decide +kernel
theorem dX0_findAmong_51 : decode cX0_findAmong 51 = .ok (.iaload, 1) := by decide +kernel
theorem dX0_findAmong_52 : decode cX0_findAmong 52 = .ok (.invokestatic 72, 3) := by decide +kernel
theorem dX0_findAmong_55 : decode cX0_findAmong 55 = .ok (.iload_n 3, 1) := by decide +kernel
theorem dX0_findAmong_56 : decode cX0_findAmong 56 = .ok (.if_icmp .ne 17, 3) := by decide +kernel
theorem dX0_findAmong_59 : decode cX0_findAmong 59 = .ok (.aload_n 0, 1) := by decide +kernel
theorem dX0_findAmong_60 : decode cX0_findAmong 60 = .ok (.iload 4, 2) := by decide +kernel
theorem dX0_findAmong_62 : decode cX0_findAmong 62 = .ok (.putfield 22, 3) := by decide +kernel
theorem dX0_findAmong_65 : decode cX0_findAmong 65 = .ok (.aload_n 0, 1) := by decide +kernel
theorem dX0_findAmong_66 : decode cX0_findAmong 66 = .ok (.iload 5, 2) := by decide +kernel
theorem dX0_findAmong_68 : decode cX0_findAmong 68 = .ok (.putfield 25, 3) := by decide +kernel
theorem dX0_findAmong_71 : decode cX0_findAmong 71 = .ok (.iconst 1, 1) := by decide +kernel
theorem dX0_findAmong_72 : decode cX0_findAmong 72 = .ok (.ireturn, 1) := by decide +kernel
theorem dX0_findAmong_73 : decode cX0_findAmong 73 = .ok (.iinc 5 1, 3) := by decide +kernel
theorem dX0_findAmong_76 : decode cX0_findAmong 76 = .ok (.goto (-50), 3) := by decide +kernel
theorem dX0_findAmong_79 : decode cX0_findAmong 79 = .ok (.iinc 4 1, 3) := by decide +kernel
theorem dX0_findAmong_82 : decode cX0_findAmong 82 = .ok (.goto (-75), 3) := by decide +kernel
theorem dX0_findAmong_85 : decode cX0_findAmong 85 = .ok (.iconst 0, 1) := by decide +kernel
theorem dX0_findAmong_86 : decode cX0_findAmong 86 = .ok (.ireturn, 1) := by decide +kernel
theorem dX0_startOf_0 : decode cX0_startOf 0 = .ok (.iload_n 1, 1) := by decide +kernel
theorem dX0_startOf_1 : decode cX0_startOf 1 = .ok (.iconst 1, 1) := by decide +kernel
theorem dX0_startOf_2 : decode cX0_startOf 2 = .ok (.if_icmp .ne 5, 3) := by decide +kernel
theorem dX0_startOf_5 : decode cX0_startOf 5 = .ok (.iconst 0, 1) := by decide +kernel
theorem dX0_startOf_6 : decode cX0_startOf 6 = .ok (.ireturn, 1) := by decide +kernel
theorem dX0_startOf_7 : decode cX0_startOf 7 = .ok (.iload_n 1, 1) := by decide +kernel
theorem dX0_startOf_8 : decode cX0_startOf 8 = .ok (.iconst 2, 1) := by decide +kernel
theorem dX0_startOf_9 : decode cX0_startOf 9 = .ok (.if_icmp .ne 10, 3) := by decide +kernel
theorem dX0_startOf_12 : decode cX0_startOf 12 = .ok (.aload_n 0, 1) := by decide +kernel
theorem dX0_startOf_13 : decode cX0_startOf 13 = .ok (.getfield 18, 3) := by decide +kernel
theorem dX0_startOf_16 : decode cX0_startOf 16 = .ok (.goto 17, 3) := by decide +kernel
theorem dX0_startOf_19 : decode cX0_startOf 19 = .ok (.aload_n 0, 1) := by decide +kernel
theorem dX0_startOf_20 : decode cX0_startOf 20 = .ok (.getfield 18, 3) := by decide +kernel
theorem dX0_startOf_23 : decode cX0_startOf 23 = .ok (.aload_n 0, 1) := by decide +kernel
theorem dX0_startOf_24 : decode cX0_startOf 24 = .ok (.getfield 18, 3) := by decide +kernel
theorem dX0_startOf_27 : decode cX0_startOf 27 = .ok (.aload_n 0, 1) := by decide +kernel
theorem dX0_startOf_28 : decode cX0_startOf 28 = .ok (.getfield 18, 3) := by decide +kernel
theorem dX0_startOf_31 : decode cX0_startOf 31 = .ok (.imul, 1) := by decide +kernel
theorem dX0_startOf_32 : decode cX0_startOf 32 = .ok (.iadd, 1) := by decide +kernel
theorem dX0_startOf_33 : decode cX0_startOf 33 = .ok (.ireturn, 1) := by decide +kernel
theorem dX0_movedBy_0 : decode cX0_movedBy 0 = .ok (.iconst 0, 1) := by decide +kernel
theorem dX0_movedBy_1 : decode cX0_movedBy 1 = .ok (.istore_n 2, 1) := by decide +kernel
theorem dX0_movedBy_2 : decode cX0_movedBy 2 = .ok (.iconst 0, 1) := by decide +kernel
theorem dX0_movedBy_3 : decode cX0_movedBy 3 = .ok (.istore_n 3, 1) := by decide +kernel
theorem dX0_movedBy_4 : decode cX0_movedBy 4 = .ok (.iload_n 3, 1) := by decide +kernel
theorem dX0_movedBy_5 : decode cX0_movedBy 5 = .ok (.bipush 7, 2) := by decide +kernel
theorem dX0_movedBy_7 : decode cX0_movedBy 7 = .ok (.if_icmp .ge 41, 3) := by decide +kernel
theorem dX0_movedBy_10 : decode cX0_movedBy 10 = .ok (.iload_n 1, 1) := by decide +kernel
theorem dX0_movedBy_11 : decode cX0_movedBy 11 = .ok (.iload_n 0, 1) := by decide +kernel
theorem dX0_movedBy_12 : decode cX0_movedBy 12 = .ok (.iload_n 3, 1) := by decide +kernel
theorem dX0_movedBy_13 : decode cX0_movedBy 13 = .ok (.invokestatic 75, 3) := by decide +kernel
theorem dX0_movedBy_16 : decode cX0_movedBy 16 = .ok (.invokestatic 75, 3) := by decide +kernel
theorem dX0_movedBy_19 : decode cX0_movedBy 19 = .ok (.istore 4, 2) := by decide +kernel
theorem dX0_movedBy_21 : decode cX0_movedBy 21 = .ok (.iload_n 0, 1) := by decide +kernel
theorem dX0_movedBy_22 : decode cX0_movedBy 22 = .ok (.iload_n 1, 1) := by decide +kernel
theorem dX0_movedBy_23 : decode cX0_movedBy 23 = .ok (.iload_n 3, 1) := by decide +kernel
theorem dX0_movedBy_24 : decode cX0_movedBy 24 = .ok (.invokestatic 75, 3) := by decide +kernel
theorem dX0_movedBy_27 : decode cX0_movedBy 27 = .ok (.invokestatic 75, 3) := by decide +kernel
theorem dX0_movedBy_30 : decode cX0_movedBy 30 = .ok (.istore 5, 2) := by decide +kernel
theorem dX0_movedBy_32 : decode cX0_movedBy 32 = .ok (.iload 4, 2) := by decide +kernel
theorem dX0_movedBy_34 : decode cX0_movedBy 34 = .ok (.iload 5, 2) := by decide +kernel
theorem dX0_movedBy_36 : decode cX0_movedBy 36 = .ok (.if_icmp .eq 6, 3) := by decide +kernel
theorem dX0_movedBy_39 : decode cX0_movedBy 39 = .ok (.iinc 2 1, 3) := by decide +kernel
theorem dX0_movedBy_42 : decode cX0_movedBy 42 = .ok (.iinc 3 1, 3) := by decide +kernel
theorem dX0_movedBy_45 : decode cX0_movedBy 45 = .ok (.goto (-41), 3) := by decide +kernel
theorem dX0_movedBy_48 : decode cX0_movedBy 48 = .ok (.iload_n 2, 1) := by decide +kernel
theorem dX0_movedBy_49 : decode cX0_movedBy 49 = .ok (.ireturn, 1) := by decide +kernel
theorem dX0_writeWord_0 : decode cX0_writeWord 0 = .ok (.iload_n 1, 1) := by decide +kernel
theorem dX0_writeWord_1 : decode cX0_writeWord 1 = .ok (.ifCond .lt 25, 3) := by decide +kernel
theorem dX0_writeWord_4 : decode cX0_writeWord 4 = .ok (.iload_n 1, 1) := by decide +kernel
theorem dX0_writeWord_5 : decode cX0_writeWord 5 = .ok (.aload_n 0, 1) := by decide +kernel
theorem dX0_writeWord_6 : decode cX0_writeWord 6 = .ok (.getfield 18, 3) := by decide +kernel
theorem dX0_writeWord_9 : decode cX0_writeWord 9 = .ok (.if_icmp .ge 17, 3) := by decide +kernel
theorem dX0_writeWord_12 : decode cX0_writeWord 12 = .ok (.aload_n 2, 1) := by decide +kernel
theorem dX0_writeWord_13 : decode cX0_writeWord 13 = .ok (.aload_n 0, 1) := by decide +kernel
theorem dX0_writeWord_14 : decode cX0_writeWord 14 = .ok (.getfield 9, 3) := by decide +kernel
theorem dX0_writeWord_17 : decode cX0_writeWord 17 = .ok (.iload_n 1, 1) := by decide +kernel
theorem dX0_writeWord_18 : decode cX0_writeWord 18 = .ok (.iaload, 1) := by decide +kernel
theorem dX0_writeWord_19 : decode cX0_writeWord 19 = .ok (.invokevirtual 78, 3) := by decide +kernel
theorem dX0_writeWord_22 : decode cX0_writeWord 22 = .ok (.pop, 1) := by decide +kernel
theorem dX0_writeWord_23 : decode cX0_writeWord 23 = .ok (.goto 66, 3) := by decide +kernel
theorem dX0_writeWord_26 : decode cX0_writeWord 26 = .ok (.aload_n 0, 1) := by decide +kernel
theorem dX0_writeWord_27 : decode cX0_writeWord 27 = .ok (.getfield 18, 3) := by decide +kernel
theorem dX0_writeWord_30 : decode cX0_writeWord 30 = .ok (.ifCond .le 59, 3) := by decide +kernel
theorem dX0_writeWord_33 : decode cX0_writeWord 33 = .ok (.iload_n 1, 1) := by decide +kernel
theorem dX0_writeWord_34 : decode cX0_writeWord 34 = .ok (.aload_n 0, 1) := by decide +kernel
theorem dX0_writeWord_35 : decode cX0_writeWord 35 = .ok (.getfield 18, 3) := by decide +kernel
theorem dX0_writeWord_38 : decode cX0_writeWord 38 = .ok (.if_icmp .lt 51, 3) := by decide +kernel
theorem dX0_writeWord_41 : decode cX0_writeWord 41 = .ok (.iload_n 1, 1) := by decide +kernel
theorem dX0_writeWord_42 : decode cX0_writeWord 42 = .ok (.aload_n 0, 1) := by decide +kernel
theorem dX0_writeWord_43 : decode cX0_writeWord 43 = .ok (.iconst 3, 1) := by decide +kernel
theorem dX0_writeWord_44 : decode cX0_writeWord 44 = .ok (.invokevirtual 69, 3) := by decide +kernel
theorem dX0_writeWord_47 : decode cX0_writeWord 47 = .ok (.if_icmp .ge 42, 3) := by decide +kernel
theorem dX0_writeWord_50 : decode cX0_writeWord 50 = .ok (.iload_n 1, 1) := by decide +kernel
theorem dX0_writeWord_51 : decode cX0_writeWord 51 = .ok (.aload_n 0, 1) := by decide +kernel
theorem dX0_writeWord_52 : decode cX0_writeWord 52 = .ok (.getfield 18, 3) := by decide +kernel
theorem dX0_writeWord_55 : decode cX0_writeWord 55 = .ok (.isub, 1) := by decide +kernel
theorem dX0_writeWord_56 : decode cX0_writeWord 56 = .ok (.istore_n 3, 1) := by decide +kernel
theorem dX0_writeWord_57 : decode cX0_writeWord 57 = .ok (.aload_n 2, 1) := by decide +kernel
theorem dX0_writeWord_58 : decode cX0_writeWord 58 = .ok (.aload_n 0, 1) := by decide +kernel
theorem dX0_writeWord_59 : decode cX0_writeWord 59 = .ok (.getfield 9, 3) := by decide +kernel
theorem dX0_writeWord_62 : decode cX0_writeWord 62 = .ok (.iload_n 3, 1) := by decide +kernel
theorem dX0_writeWord_63 : decode cX0_writeWord 63 = .ok (.aload_n 0, 1) := by decide +kernel
theorem dX0_writeWord_64 : decode cX0_writeWord 64 = .ok (.getfield 18, 3) := by decide +kernel
theorem dX0_writeWord_67 : decode cX0_writeWord 67 = .ok (.idiv, 1) := by decide +kernel
theorem dX0_writeWord_68 : decode cX0_writeWord 68 = .ok (.iaload, 1) := by decide +kernel
theorem dX0_writeWord_69 : decode cX0_writeWord 69 = .ok (.invokevirtual 78, 3) := by decide +kernel
theorem dX0_writeWord_72 : decode cX0_writeWord 72 = .ok (.pop, 1) := by decide +kernel
theorem dX0_writeWord_73 : decode cX0_writeWord 73 = .ok (.aload_n 2, 1) := by decide +kernel
theorem dX0_writeWord_74 : decode cX0_writeWord 74 = .ok (.aload_n 0, 1) := by decide +kernel
theorem dX0_writeWord_75 : decode cX0_writeWord 75 = .ok (.getfield 9, 3) := by decide +kernel
theorem dX0_writeWord_78 : decode cX0_writeWord 78 = .ok (.iload_n 3, 1) := by decide +kernel
theorem dX0_writeWord_79 : decode cX0_writeWord 79 = .ok (.aload_n 0, 1) := by decide +kernel
theorem dX0_writeWord_80 : decode cX0_writeWord 80 = .ok (.getfield 18, 3) := by decide +kernel
theorem dX0_writeWord_83 : decode cX0_writeWord 83 = .ok (.irem, 1) := by decide +kernel
theorem dX0_writeWord_84 : decode cX0_writeWord 84 = .ok (.iaload, 1) := by decide +kernel
theorem dX0_writeWord_85 : decode cX0_writeWord 85 = .ok (.invokevirtual 78, 3) := by decide +kernel
theorem dX0_writeWord_88 : decode cX0_writeWord 88 = .ok (.pop, 1) := by decide +kernel
theorem dX0_writeWord_89 : decode cX0_writeWord 89 = .ok (.return_, 1) := by decide +kernel
theorem dX1_init_0 : decode cX1_init 0 = .ok (.aload_n 0, 1) := by decide +kernel
theorem dX1_init_1 : decode cX1_init 1 = .ok (.invokespecial 3, 3) := by decide +kernel
theorem dX1_init_4 : decode cX1_init 4 = .ok (.aload_n 0, 1) := by decide +kernel
theorem dX1_init_5 : decode cX1_init 5 = .ok (.ldc 9, 2) := by decide +kernel
theorem dX1_init_7 : decode cX1_init 7 = .ok (.putfield 10, 3) := by decide +kernel
theorem dX1_init_10 : decode cX1_init 10 = .ok (.return_, 1) := by decide +kernel
theorem dX1_errorIn_0 : decode cX1_errorIn 0 = .ok (.aload_n 0, 1) := by decide +kernel
theorem dX1_errorIn_1 : decode cX1_errorIn 1 = .ok (.ldc 9, 2) := by decide +kernel
theorem dX1_errorIn_3 : decode cX1_errorIn 3 = .ok (.putfield 10, 3) := by decide +kernel
theorem dX1_errorIn_6 : decode cX1_errorIn 6 = .ok (.aload_n 0, 1) := by decide +kernel
theorem dX1_errorIn_7 : decode cX1_errorIn 7 = .ok (.iconst 0, 1) := by decide +kernel
theorem dX1_errorIn_8 : decode cX1_errorIn 8 = .ok (.putfield 16, 3) := by decide +kernel
theorem dX1_errorIn_11 : decode cX1_errorIn 11 = .ok (.aload_n 0, 1) := by decide +kernel
theorem dX1_errorIn_12 : decode cX1_errorIn 12 = .ok (.iconst 0, 1) := by decide +kernel
theorem dX1_errorIn_13 : decode cX1_errorIn 13 = .ok (.putfield 19, 3) := by decide +kernel
theorem dX1_errorIn_16 : decode cX1_errorIn 16 = .ok (.iconst 0, 1) := by decide +kernel
theorem dX1_errorIn_17 : decode cX1_errorIn 17 = .ok (.istore_n 3, 1) := by decide +kernel
theorem dX1_errorIn_18 : decode cX1_errorIn 18 = .ok (.iload_n 3, 1) := by decide +kernel
theorem dX1_errorIn_19 : decode cX1_errorIn 19 = .ok (.aload_n 1, 1) := by decide +kernel
theorem dX1_errorIn_20 : decode cX1_errorIn 20 = .ok (.invokevirtual 23, 3) := by decide +kernel
theorem dX1_errorIn_23 : decode cX1_errorIn 23 = .ok (.if_icmp .ge 24, 3) := by decide +kernel
theorem dX1_errorIn_26 : decode cX1_errorIn 26 = .ok (.aload_n 0, 1) := by decide +kernel
theorem dX1_errorIn_27 : decode cX1_errorIn 27 = .ok (.aload_n 1, 1) := by decide +kernel
theorem dX1_errorIn_28 : decode cX1_errorIn 28 = .ok (.iload_n 3, 1) := by decide +kernel
theorem dX1_errorIn_29 : decode cX1_errorIn 29 = .ok (.invokevirtual 29, 3) := by decide +kernel
theorem dX1_errorIn_32 : decode cX1_errorIn 32 = .ok (.iload_n 2, 1) := by decide +kernel
theorem dX1_errorIn_33 : decode cX1_errorIn 33 = .ok (.invokevirtual 33, 3) := by decide +kernel
theorem dX1_errorIn_36 : decode cX1_errorIn 36 = .ok (.ifCond .ne 5, 3) := by decide +kernel
theorem dX1_errorIn_39 : decode cX1_errorIn 39 = .ok (.iload_n 3, 1) := by decide +kernel
theorem dX1_errorIn_40 : decode cX1_errorIn 40 = .ok (.ireturn, 1) := by decide +kernel
theorem dX1_errorIn_41 : decode cX1_errorIn 41 = .ok (.iinc 3 1, 3) := by decide +kernel
theorem dX1_errorIn_44 : decode cX1_errorIn 44 = .ok (.goto (-26), 3) := by decide +kernel
theorem dX1_errorIn_47 : decode cX1_errorIn 47 = .ok (.aload_n 0, 1) := by decide +kernel
theorem dX1_errorIn_48 : decode cX1_errorIn 48 = .ok (.getfield 19, 3) := by decide +kernel
theorem dX1_errorIn_51 : decode cX1_errorIn 51 = .ok (.ifCond .eq 10, 3) := by decide +kernel
theorem dX1_errorIn_54 : decode cX1_errorIn 54 = .ok (.aload_n 1, 1) := by decide +kernel
theorem dX1_errorIn_55 : decode cX1_errorIn 55 = .ok (.invokevirtual 23, 3) := by decide +kernel
theorem dX1_errorIn_58 : decode cX1_errorIn 58 = .ok (.goto 4, 3) := by decide +kernel
theorem dX1_errorIn_61 : decode cX1_errorIn 61 = .ok (.iconst (-1), 1) := by decide +kernel
theorem dX1_errorIn_62 : decode cX1_errorIn 62 = .ok (.ireturn, 1) := by decide +kernel
theorem dX1_effect_0 : decode cX1_effect 0 = .ok (.aload_n 0, 1) := by decide +kernel
theorem dX1_effect_1 : decode cX1_effect 1 = .ok (.getfield 10, 3) := by decide +kernel
theorem dX1_effect_4 : decode cX1_effect 4 = .ok (.ireturn, 1) := by decide +kernel
theorem dX1_accepts_0 : decode cX1_accepts 0 = .ok (.aload_n 0, 1) := by decide +kernel
theorem dX1_accepts_1 : decode cX1_accepts 1 = .ok (.getfield 19, 3) := by decide +kernel
theorem dX1_accepts_4 : decode cX1_accepts 4 = .ok (.ifCond .ne 25, 3) := by decide +kernel
theorem dX1_accepts_7 : decode cX1_accepts 7 = .ok (.aload_n 0, 1) := by decide +kernel
theorem dX1_accepts_8 : decode cX1_accepts 8 = .ok (.iconst 1, 1) := by decide +kernel
theorem dX1_accepts_9 : decode cX1_accepts 9 = .ok (.putfield 19, 3) := by decide +kernel
theorem dX1_accepts_12 : decode cX1_accepts 12 = .ok (.aload_n 0, 1) := by decide +kernel
theorem dX1_accepts_13 : decode cX1_accepts 13 = .ok (.iconst 0, 1) := by decide +kernel
theorem dX1_accepts_14 : decode cX1_accepts 14 = .ok (.putfield 37, 3) := by decide +kernel
theorem dX1_accepts_17 : decode cX1_accepts 17 = .ok (.iload_n 1, 1) := by decide +kernel
theorem dX1_accepts_18 : decode cX1_accepts 18 = .ok (.bipush 40, 2) := by decide +kernel
theorem dX1_accepts_20 : decode cX1_accepts 20 = .ok (.if_icmp .ne 7, 3) := by decide +kernel
theorem dX1_accepts_23 : decode cX1_accepts 23 = .ok (.iconst 1, 1) := by decide +kernel
theorem dX1_accepts_24 : decode cX1_accepts 24 = .ok (.goto 4, 3) := by decide +kernel
theorem dX1_accepts_27 : decode cX1_accepts 27 = .ok (.iconst 0, 1) := by decide +kernel
theorem dX1_accepts_28 : decode cX1_accepts 28 = .ok (.ireturn, 1) := by decide +kernel
theorem dX1_accepts_29 : decode cX1_accepts 29 = .ok (.iload_n 1, 1) := by decide +kernel
theorem dX1_accepts_30 : decode cX1_accepts 30 = .ok (.bipush 41, 2) := by decide +kernel
theorem dX1_accepts_32 : decode cX1_accepts 32 = .ok (.if_icmp .ne 41, 3) := by decide +kernel
theorem dX1_accepts_35 : decode cX1_accepts 35 = .ok (.aload_n 0, 1) := by decide +kernel
theorem dX1_accepts_36 : decode cX1_accepts 36 = .ok (.iconst 0, 1) := by decide +kernel
theorem dX1_accepts_37 : decode cX1_accepts 37 = .ok (.putfield 19, 3) := by decide +kernel
theorem dX1_accepts_40 : decode cX1_accepts 40 = .ok (.aload_n 0, 1) := by decide +kernel
theorem dX1_accepts_41 : decode cX1_accepts 41 = .ok (.aload_n 0, 1) := by decide +kernel
theorem dX1_accepts_42 : decode cX1_accepts 42 = .ok (.getfield 10, 3) := by decide +kernel
theorem dX1_accepts_45 : decode cX1_accepts 45 = .ok (.aload_n 0, 1) := by decide +kernel
theorem dX1_accepts_46 : decode cX1_accepts 46 = .ok (.getfield 40, 3) := by decide +kernel
theorem dX1_accepts_49 : decode cX1_accepts 49 = .ok (.aload_n 0, 1) := by decide +kernel
theorem dX1_accepts_50 : decode cX1_accepts 50 = .ok (.getfield 43, 3) := by decide +kernel
theorem dX1_accepts_53 : decode cX1_accepts 53 = .ok (.invokestatic 46, 3) := by decide +kernel
theorem dX1_accepts_56 : decode cX1_accepts 56 = .ok (.putfield 10, 3) := by decide +kernel
theorem dX1_accepts_59 : decode cX1_accepts 59 = .ok (.aload_n 0, 1) := by decide +kernel
theorem dX1_accepts_60 : decode cX1_accepts 60 = .ok (.getfield 37, 3) := by decide +kernel
theorem dX1_accepts_63 : decode cX1_accepts 63 = .ok (.iconst 2, 1) := by decide +kernel
theorem dX1_accepts_64 : decode cX1_accepts 64 = .ok (.if_icmp .lt 7, 3) := by decide +kernel
theorem dX1_accepts_67 : decode cX1_accepts 67 = .ok (.iconst 1, 1) := by decide +kernel
theorem dX1_accepts_68 : decode cX1_accepts 68 = .ok (.goto 4, 3) := by decide +kernel
theorem dX1_accepts_71 : decode cX1_accepts 71 = .ok (.iconst 0, 1) := by decide +kernel
theorem dX1_accepts_72 : decode cX1_accepts 72 = .ok (.ireturn, 1) := by decide +kernel
theorem dX1_accepts_73 : decode cX1_accepts 73 = .ok (.aload_n 0, 1) := by decide +kernel
theorem dX1_accepts_74 : decode cX1_accepts 74 = .ok (.iload_n 1, 1) := by decide +kernel
theorem dX1_accepts_75 : decode cX1_accepts 75 = .ok (.bipush 49, 2) := by decide +kernel
theorem dX1_accepts_77 : decode cX1_accepts 77 = .ok (.isub, 1) := by decide +kernel
theorem dX1_accepts_78 : decode cX1_accepts 78 = .ok (.iload_n 2, 1) := by decide +kernel
theorem dX1_accepts_79 : decode cX1_accepts 79 = .ok (.invokevirtual 52, 3) := by decide +kernel
theorem dX1_accepts_82 : decode cX1_accepts 82 = .ok (.ireturn, 1) := by decide +kernel
theorem dX1_acceptsPosition_0 : decode cX1_acceptsPosition 0 = .ok (.iload_n 1, 1) := by decide +kernel
theorem dX1_acceptsPosition_1 : decode cX1_acceptsPosition 1 = .ok (.ifCond .lt 20, 3) := by decide +kernel
theorem dX1_acceptsPosition_4 : decode cX1_acceptsPosition 4 = .ok (.iload_n 1, 1) := by decide +kernel
theorem dX1_acceptsPosition_5 : decode cX1_acceptsPosition 5 = .ok (.iload_n 2, 1) := by decide +kernel
theorem dX1_acceptsPosition_6 : decode cX1_acceptsPosition 6 = .ok (.if_icmp .ge 15, 3) := by decide +kernel
theorem dX1_acceptsPosition_9 : decode cX1_acceptsPosition 9 = .ok (.aload_n 0, 1) := by decide +kernel
theorem dX1_acceptsPosition_10 : decode cX1_acceptsPosition 10 = .ok (.getfield 16, 3) := by decide +kernel
theorem dX1_acceptsPosition_13 : decode cX1_acceptsPosition 13 = .ok (.iload_n 1, 1) := by decide +kernel
theorem dX1_acceptsPosition_14 : decode cX1_acceptsPosition 14 = .ok (.iushr, 1) := by decide +kernel
theorem dX1_acceptsPosition_15 : decode cX1_acceptsPosition 15 = .ok (.iconst 1, 1) := by decide +kernel
theorem dX1_acceptsPosition_16 : decode cX1_acceptsPosition 16 = .ok (.iand, 1) := by decide +kernel
theorem dX1_acceptsPosition_17 : decode cX1_acceptsPosition 17 = .ok (.iconst 1, 1) := by decide +kernel
theorem dX1_acceptsPosition_18 : decode cX1_acceptsPosition 18 = .ok (.if_icmp .ne 5, 3) := by decide +kernel
theorem dX1_acceptsPosition_21 : decode cX1_acceptsPosition 21 = .ok (.iconst 0, 1) := by decide +kernel
theorem dX1_acceptsPosition_22 : decode cX1_acceptsPosition 22 = .ok (.ireturn, 1) := by decide +kernel
theorem dX1_acceptsPosition_23 : decode cX1_acceptsPosition 23 = .ok (.aload_n 0, 1) := by decide +kernel
theorem dX1_acceptsPosition_24 : decode cX1_acceptsPosition 24 = .ok (.dup, 1) := by decide +kernel
theorem dX1_acceptsPosition_25 : decode cX1_acceptsPosition 25 = .ok (.getfield 16, 3) := by decide +kernel
theorem dX1_acceptsPosition_28 : decode cX1_acceptsPosition 28 = .ok (.iconst 1, 1) := by decide +kernel
theorem dX1_acceptsPosition_29 : decode cX1_acceptsPosition 29 = .ok (.iload_n 1, 1) := by decide +kernel
theorem dX1_acceptsPosition_30 : decode cX1_acceptsPosition 30 = .ok (.ishl, 1) := by decide +kernel
theorem dX1_acceptsPosition_31 : decode cX1_acceptsPosition 31 = .ok (.ior, 1) := by decide +kernel
theorem dX1_acceptsPosition_32 : decode cX1_acceptsPosition 32 = .ok (.putfield 16, 3) := by decide +kernel
theorem dX1_acceptsPosition_35 : decode cX1_acceptsPosition 35 = .ok (.aload_n 0, 1) := by decide +kernel
theorem dX1_acceptsPosition_36 : decode cX1_acceptsPosition 36 = .ok (.getfield 37, 3) := by decide +kernel
theorem dX1_acceptsPosition_39 : decode cX1_acceptsPosition 39 = .ok (.ifCond .ne 11, 3) := by decide +kernel
theorem dX1_acceptsPosition_42 : decode cX1_acceptsPosition 42 = .ok (.aload_n 0, 1) := by decide +kernel
theorem dX1_acceptsPosition_43 : decode cX1_acceptsPosition 43 = .ok (.iload_n 1, 1) := by decide +kernel
theorem dX1_acceptsPosition_44 : decode cX1_acceptsPosition 44 = .ok (.putfield 43, 3) := by decide +kernel
theorem dX1_acceptsPosition_47 : decode cX1_acceptsPosition 47 = .ok (.goto 19, 3) := by decide +kernel
theorem dX1_acceptsPosition_50 : decode cX1_acceptsPosition 50 = .ok (.aload_n 0, 1) := by decide +kernel
theorem dX1_acceptsPosition_51 : decode cX1_acceptsPosition 51 = .ok (.aload_n 0, 1) := by decide +kernel
theorem dX1_acceptsPosition_52 : decode cX1_acceptsPosition 52 = .ok (.getfield 10, 3) := by decide +kernel
theorem dX1_acceptsPosition_55 : decode cX1_acceptsPosition 55 = .ok (.aload_n 0, 1) := by decide +kernel
theorem dX1_acceptsPosition_56 : decode cX1_acceptsPosition 56 = .ok (.getfield 40, 3) := by decide +kernel
theorem dX1_acceptsPosition_59 : decode cX1_acceptsPosition 59 = .ok (.iload_n 1, 1) := by decide +kernel
theorem dX1_acceptsPosition_60 : decode cX1_acceptsPosition 60 = .ok (.invokestatic 46, 3) := by decide +kernel
theorem dX1_acceptsPosition_63 : decode cX1_acceptsPosition 63 = .ok (.putfield 10, 3) := by decide +kernel
theorem dX1_acceptsPosition_66 : decode cX1_acceptsPosition 66 = .ok (.aload_n 0, 1) := by decide +kernel
theorem dX1_acceptsPosition_67 : decode cX1_acceptsPosition 67 = .ok (.iload_n 1, 1) := by decide +kernel
theorem dX1_acceptsPosition_68 : decode cX1_acceptsPosition 68 = .ok (.putfield 40, 3) := by decide +kernel
theorem dX1_acceptsPosition_71 : decode cX1_acceptsPosition 71 = .ok (.aload_n 0, 1) := by decide +kernel
theorem dX1_acceptsPosition_72 : decode cX1_acceptsPosition 72 = .ok (.dup, 1) := by decide +kernel
theorem dX1_acceptsPosition_73 : decode cX1_acceptsPosition 73 = .ok (.getfield 37, 3) := by decide +kernel
theorem dX1_acceptsPosition_76 : decode cX1_acceptsPosition 76 = .ok (.iconst 1, 1) := by decide +kernel
theorem dX1_acceptsPosition_77 : decode cX1_acceptsPosition 77 = .ok (.iadd, 1) := by decide +kernel
theorem dX1_acceptsPosition_78 : decode cX1_acceptsPosition 78 = .ok (.putfield 37, 3) := by decide +kernel
theorem dX1_acceptsPosition_81 : decode cX1_acceptsPosition 81 = .ok (.iconst 1, 1) := by decide +kernel
theorem dX1_acceptsPosition_82 : decode cX1_acceptsPosition 82 = .ok (.ireturn, 1) := by decide +kernel
theorem dX2_init_0 : decode cX2_init 0 = .ok (.aload_n 0, 1) := by decide +kernel
theorem dX2_init_1 : decode cX2_init 1 = .ok (.invokespecial 3, 3) := by decide +kernel
theorem dX2_init_4 : decode cX2_init 4 = .ok (.aload_n 0, 1) := by decide +kernel
theorem dX2_init_5 : decode cX2_init 5 = .ok (.sipush 5040, 3) := by decide +kernel
theorem dX2_init_8 : decode cX2_init 8 = .ok (.newarray .int, 2) := by decide +kernel
theorem dX2_init_10 : decode cX2_init 10 = .ok (.putfield 9, 3) := by decide +kernel
theorem dX2_init_13 : decode cX2_init 13 = .ok (.aload_n 0, 1) := by decide +kernel
theorem dX2_init_14 : decode cX2_init 14 = .ok (.sipush 5040, 3) := by decide +kernel
theorem dX2_init_17 : decode cX2_init 17 = .ok (.newarray .int, 2) := by decide +kernel
theorem dX2_init_19 : decode cX2_init 19 = .ok (.putfield 15, 3) := by decide +kernel
theorem dX2_init_22 : decode cX2_init 22 = .ok (.aload_n 0, 1) := by decide +kernel
theorem dX2_init_23 : decode cX2_init 23 = .ok (.sipush 5041, 3) := by decide +kernel
theorem dX2_init_26 : decode cX2_init 26 = .ok (.newarray .int, 2) := by decide +kernel
theorem dX2_init_28 : decode cX2_init 28 = .ok (.putfield 18, 3) := by decide +kernel
theorem dX2_init_31 : decode cX2_init 31 = .ok (.aload_n 0, 1) := by decide +kernel
theorem dX2_init_32 : decode cX2_init 32 = .ok (.bipush 10, 2) := by decide +kernel
theorem dX2_init_34 : decode cX2_init 34 = .ok (.newarray .int, 2) := by decide +kernel
theorem dX2_init_36 : decode cX2_init 36 = .ok (.putfield 21, 3) := by decide +kernel
theorem dX2_init_39 : decode cX2_init 39 = .ok (.aload_n 0, 1) := by decide +kernel
theorem dX2_init_40 : decode cX2_init 40 = .ok (.iconst 0, 1) := by decide +kernel
theorem dX2_init_41 : decode cX2_init 41 = .ok (.putfield 24, 3) := by decide +kernel
theorem dX2_init_44 : decode cX2_init 44 = .ok (.aload_n 0, 1) := by decide +kernel
theorem dX2_init_45 : decode cX2_init 45 = .ok (.iconst 0, 1) := by decide +kernel
theorem dX2_init_46 : decode cX2_init 46 = .ok (.putfield 28, 3) := by decide +kernel
theorem dX2_init_49 : decode cX2_init 49 = .ok (.aload_n 0, 1) := by decide +kernel
theorem dX2_init_50 : decode cX2_init 50 = .ok (.iconst 0, 1) := by decide +kernel
theorem dX2_init_51 : decode cX2_init 51 = .ok (.putfield 31, 3) := by decide +kernel
theorem dX2_init_54 : decode cX2_init 54 = .ok (.return_, 1) := by decide +kernel
theorem dX2_build_0 : decode cX2_build 0 = .ok (.aload_n 0, 1) := by decide +kernel
theorem dX2_build_1 : decode cX2_build 1 = .ok (.aload_n 1, 1) := by decide +kernel
theorem dX2_build_2 : decode cX2_build 2 = .ok (.invokevirtual 34, 3) := by decide +kernel
theorem dX2_build_5 : decode cX2_build 5 = .ok (.aload_n 0, 1) := by decide +kernel
theorem dX2_build_6 : decode cX2_build 6 = .ok (.iload_n 2, 1) := by decide +kernel
theorem dX2_build_7 : decode cX2_build 7 = .ok (.invokevirtual 38, 3) := by decide +kernel
theorem dX2_build_10 : decode cX2_build 10 = .ok (.istore_n 3, 1) := by decide +kernel
theorem dX2_build_11 : decode cX2_build 11 = .ok (.aload_n 0, 1) := by decide +kernel
theorem dX2_build_12 : decode cX2_build 12 = .ok (.ldc 42, 2) := by decide +kernel
theorem dX2_build_14 : decode cX2_build 14 = .ok (.iconst 0, 1) := by decide +kernel
theorem dX2_build_15 : decode cX2_build 15 = .ok (.invokevirtual 43, 3) := by decide +kernel
theorem dX2_build_18 : decode cX2_build 18 = .ok (.iconst 0, 1) := by decide +kernel
theorem dX2_build_19 : decode cX2_build 19 = .ok (.istore 4, 2) := by decide +kernel
theorem dX2_build_21 : decode cX2_build 21 = .ok (.iconst 0, 1) := by decide +kernel
theorem dX2_build_22 : decode cX2_build 22 = .ok (.istore 5, 2) := by decide +kernel
theorem dX2_build_24 : decode cX2_build 24 = .ok (.iload 5, 2) := by decide +kernel
theorem dX2_build_26 : decode cX2_build 26 = .ok (.sipush 5040, 3) := by decide +kernel
theorem dX2_build_29 : decode cX2_build 29 = .ok (.if_icmp .ge 113, 3) := by decide +kernel
theorem dX2_build_32 : decode cX2_build 32 = .ok (.iload 4, 2) := by decide +kernel
theorem dX2_build_34 : decode cX2_build 34 = .ok (.aload_n 0, 1) := by decide +kernel
theorem dX2_build_35 : decode cX2_build 35 = .ok (.getfield 28, 3) := by decide +kernel
theorem dX2_build_38 : decode cX2_build 38 = .ok (.if_icmp .ge 104, 3) := by decide +kernel
theorem dX2_build_41 : decode cX2_build 41 = .ok (.aload_n 0, 1) := by decide +kernel
theorem dX2_build_42 : decode cX2_build 42 = .ok (.getfield 28, 3) := by decide +kernel
theorem dX2_build_45 : decode cX2_build 45 = .ok (.istore 6, 2) := by decide +kernel
theorem dX2_build_47 : decode cX2_build 47 = .ok (.iload 4, 2) := by decide +kernel
theorem dX2_build_49 : decode cX2_build 49 = .ok (.istore 7, 2) := by decide +kernel
theorem dX2_build_51 : decode cX2_build 51 = .ok (.iload 7, 2) := by decide +kernel
theorem dX2_build_53 : decode cX2_build 53 = .ok (.iload 6, 2) := by decide +kernel
theorem dX2_build_55 : decode cX2_build 55 = .ok (.if_icmp .ge 60, 3) := by decide +kernel
theorem dX2_build_58 : decode cX2_build 58 = .ok (.aload_n 0, 1) := by decide +kernel
theorem dX2_build_59 : decode cX2_build 59 = .ok (.getfield 28, 3) := by decide +kernel
theorem dX2_build_62 : decode cX2_build 62 = .ok (.iload_n 3, 1) := by decide +kernel
theorem dX2_build_63 : decode cX2_build 63 = .ok (.if_icmp .ge 52, 3) := by decide +kernel
theorem dX2_build_66 : decode cX2_build 66 = .ok (.iconst 0, 1) := by decide +kernel
theorem dX2_build_67 : decode cX2_build 67 = .ok (.istore 8, 2) := by decide +kernel
theorem dX2_build_69 : decode cX2_build 69 = .ok (.iload 8, 2) := by decide +kernel
theorem dX2_build_71 : decode cX2_build 71 = .ok (.aload_n 0, 1) := by decide +kernel
theorem dX2_build_72 : decode cX2_build 72 = .ok (.getfield 24, 3) := by decide +kernel
theorem dX2_build_75 : decode cX2_build 75 = .ok (.if_icmp .ge 34, 3) := by decide +kernel
theorem dX2_build_78 : decode cX2_build 78 = .ok (.aload_n 0, 1) := by decide +kernel
theorem dX2_build_79 : decode cX2_build 79 = .ok (.aload_n 0, 1) := by decide +kernel
theorem dX2_build_80 : decode cX2_build 80 = .ok (.getfield 15, 3) := by decide +kernel
theorem dX2_build_83 : decode cX2_build 83 = .ok (.iload 7, 2) := by decide +kernel
theorem dX2_build_85 : decode cX2_build 85 = .ok (.iaload, 1) := by decide +kernel
theorem dX2_build_86 : decode cX2_build 86 = .ok (.aload_n 0, 1) := by decide +kernel
theorem dX2_build_87 : decode cX2_build 87 = .ok (.getfield 21, 3) := by decide +kernel
theorem dX2_build_90 : decode cX2_build 90 = .ok (.iload 8, 2) := by decide +kernel
theorem dX2_build_92 : decode cX2_build 92 = .ok (.iaload, 1) := by decide +kernel
theorem dX2_build_93 : decode cX2_build 93 = .ok (.invokestatic 47, 3) := by decide +kernel
theorem dX2_build_96 : decode cX2_build 96 = .ok (.iload 5, 2) := by decide +kernel
theorem dX2_build_98 : decode cX2_build 98 = .ok (.iconst 1, 1) := by decide +kernel
theorem dX2_build_99 : decode cX2_build 99 = .ok (.iadd, 1) := by decide +kernel
theorem dX2_build_100 : decode cX2_build 100 = .ok (.invokevirtual 43, 3) := by decide +kernel
theorem dX2_build_103 : decode cX2_build 103 = .ok (.iinc 8 1, 3) := by decide +kernel
theorem dX2_build_106 : decode cX2_build 106 = .ok (.goto (-37), 3) := by decide +kernel
theorem dX2_build_109 : decode cX2_build 109 = .ok (.iinc 7 1, 3) := by decide +kernel
theorem dX2_build_112 : decode cX2_build 112 = .ok (.goto (-61), 3) := by decide +kernel
theorem dX2_build_115 : decode cX2_build 115 = .ok (.aload_n 0, 1) := by decide +kernel
theorem dX2_build_116 : decode cX2_build 116 = .ok (.getfield 18, 3) := by decide +kernel
theorem dX2_build_119 : decode cX2_build 119 = .ok (.iload 5, 2) := by decide +kernel
theorem dX2_build_121 : decode cX2_build 121 = .ok (.iconst 1, 1) := by decide +kernel
theorem dX2_build_122 : decode cX2_build 122 = .ok (.iadd, 1) := by decide +kernel
theorem dX2_build_123 : decode cX2_build 123 = .ok (.iload 6, 2) := by decide +kernel
theorem dX2_build_125 : decode cX2_build 125 = .ok (.iastore, 1) := by decide +kernel
theorem dX2_build_126 : decode cX2_build 126 = .ok (.aload_n 0, 1) := by decide +kernel
theorem dX2_build_127 : decode cX2_build 127 = .ok (.iload 5, 2) := by decide +kernel
theorem dX2_build_129 : decode cX2_build 129 = .ok (.putfield 31, 3) := by decide +kernel
theorem dX2_build_132 : decode cX2_build 132 = .ok (.iload 6, 2) := by decide +kernel
theorem dX2_build_134 : decode cX2_build 134 = .ok (.istore 4, 2) := by decide +kernel
theorem dX2_build_136 : decode cX2_build 136 = .ok (.iinc 5 1, 3) := by decide +kernel
theorem dX2_build_139 : decode cX2_build 139 = .ok (.goto (-115), 3) := by decide +kernel
theorem dX2_build_142 : decode cX2_build 142 = .ok (.return_, 1) := by decide +kernel
theorem dX2_levelOf_0 : decode cX2_levelOf 0 = .ok (.iload_n 1, 1) := by decide +kernel
theorem dX2_levelOf_1 : decode cX2_levelOf 1 = .ok (.invokestatic 53, 3) := by decide +kernel
theorem dX2_levelOf_4 : decode cX2_levelOf 4 = .ok (.istore_n 2, 1) := by decide +kernel
theorem dX2_levelOf_5 : decode cX2_levelOf 5 = .ok (.iload_n 2, 1) := by decide +kernel
theorem dX2_levelOf_6 : decode cX2_levelOf 6 = .ok (.ifCond .lt 21, 3) := by decide +kernel
theorem dX2_levelOf_9 : decode cX2_levelOf 9 = .ok (.iload_n 2, 1) := by decide +kernel
theorem dX2_levelOf_10 : decode cX2_levelOf 10 = .ok (.aload_n 0, 1) := by decide +kernel
theorem dX2_levelOf_11 : decode cX2_levelOf 11 = .ok (.getfield 9, 3) := by decide +kernel
theorem dX2_levelOf_14 : decode cX2_levelOf 14 = .ok (.arraylength, 1) := by decide +kernel
theorem dX2_levelOf_15 : decode cX2_levelOf 15 = .ok (.if_icmp .ge 12, 3) := by decide +kernel
theorem dX2_levelOf_18 : decode cX2_levelOf 18 = .ok (.aload_n 0, 1) := by decide +kernel
theorem dX2_levelOf_19 : decode cX2_levelOf 19 = .ok (.getfield 9, 3) := by decide +kernel
theorem dX2_levelOf_22 : decode cX2_levelOf 22 = .ok (.iload_n 2, 1) := by decide +kernel
theorem dX2_levelOf_23 : decode cX2_levelOf 23 = .ok (.iaload, 1) := by decide +kernel
theorem dX2_levelOf_24 : decode cX2_levelOf 24 = .ok (.goto 4, 3) := by decide +kernel
theorem dX2_levelOf_27 : decode cX2_levelOf 27 = .ok (.iconst (-1), 1) := by decide +kernel
theorem dX2_levelOf_28 : decode cX2_levelOf 28 = .ok (.ireturn, 1) := by decide +kernel
theorem dX2_size_0 : decode cX2_size 0 = .ok (.aload_n 0, 1) := by decide +kernel
theorem dX2_size_1 : decode cX2_size 1 = .ok (.getfield 28, 3) := by decide +kernel
theorem dX2_size_4 : decode cX2_size 4 = .ok (.ireturn, 1) := by decide +kernel
theorem dX2_lastLevel_0 : decode cX2_lastLevel 0 = .ok (.aload_n 0, 1) := by decide +kernel
theorem dX2_lastLevel_1 : decode cX2_lastLevel 1 = .ok (.getfield 31, 3) := by decide +kernel
theorem dX2_lastLevel_4 : decode cX2_lastLevel 4 = .ok (.ireturn, 1) := by decide +kernel
theorem dX2_sizeOfLevel_0 : decode cX2_sizeOfLevel 0 = .ok (.iload_n 1, 1) := by decide +kernel
theorem dX2_sizeOfLevel_1 : decode cX2_sizeOfLevel 1 = .ok (.ifCond .lt 29, 3) := by decide +kernel
theorem dX2_sizeOfLevel_4 : decode cX2_sizeOfLevel 4 = .ok (.iload_n 1, 1) := by decide +kernel
theorem dX2_sizeOfLevel_5 : decode cX2_sizeOfLevel 5 = .ok (.aload_n 0, 1) := by decide +kernel
theorem dX2_sizeOfLevel_6 : decode cX2_sizeOfLevel 6 = .ok (.getfield 31, 3) := by decide +kernel
theorem dX2_sizeOfLevel_9 : decode cX2_sizeOfLevel 9 = .ok (.if_icmp .gt 21, 3) := by decide +kernel
theorem dX2_sizeOfLevel_12 : decode cX2_sizeOfLevel 12 = .ok (.aload_n 0, 1) := by decide +kernel
theorem dX2_sizeOfLevel_13 : decode cX2_sizeOfLevel 13 = .ok (.getfield 18, 3) := by decide +kernel
theorem dX2_sizeOfLevel_16 : decode cX2_sizeOfLevel 16 = .ok (.iload_n 1, 1) := by decide +kernel
theorem dX2_sizeOfLevel_17 : decode cX2_sizeOfLevel 17 = .ok (.iconst 1, 1) := by decide +kernel
theorem dX2_sizeOfLevel_18 : decode cX2_sizeOfLevel 18 = .ok (.iadd, 1) := by decide +kernel
theorem dX2_sizeOfLevel_19 : decode cX2_sizeOfLevel 19 = .ok (.iaload, 1) := by decide +kernel
theorem dX2_sizeOfLevel_20 : decode cX2_sizeOfLevel 20 = .ok (.aload_n 0, 1) := by decide +kernel
theorem dX2_sizeOfLevel_21 : decode cX2_sizeOfLevel 21 = .ok (.getfield 18, 3) := by decide +kernel
theorem dX2_sizeOfLevel_24 : decode cX2_sizeOfLevel 24 = .ok (.iload_n 1, 1) := by decide +kernel
theorem dX2_sizeOfLevel_25 : decode cX2_sizeOfLevel 25 = .ok (.iaload, 1) := by decide +kernel
theorem dX2_sizeOfLevel_26 : decode cX2_sizeOfLevel 26 = .ok (.isub, 1) := by decide +kernel
theorem dX2_sizeOfLevel_27 : decode cX2_sizeOfLevel 27 = .ok (.goto 4, 3) := by decide +kernel
theorem dX2_sizeOfLevel_30 : decode cX2_sizeOfLevel 30 = .ok (.iconst 0, 1) := by decide +kernel
theorem dX2_sizeOfLevel_31 : decode cX2_sizeOfLevel 31 = .ok (.ireturn, 1) := by decide +kernel
theorem dX2_sumOfDepths_0 : decode cX2_sumOfDepths 0 = .ok (.iconst 0, 1) := by decide +kernel
theorem dX2_sumOfDepths_1 : decode cX2_sumOfDepths 1 = .ok (.istore_n 1, 1) := by decide +kernel
theorem dX2_sumOfDepths_2 : decode cX2_sumOfDepths 2 = .ok (.iconst 1, 1) := by decide +kernel
theorem dX2_sumOfDepths_3 : decode cX2_sumOfDepths 3 = .ok (.istore_n 2, 1) := by decide +kernel
theorem dX2_sumOfDepths_4 : decode cX2_sumOfDepths 4 = .ok (.iload_n 2, 1) := by decide +kernel
theorem dX2_sumOfDepths_5 : decode cX2_sumOfDepths 5 = .ok (.aload_n 0, 1) := by decide +kernel
theorem dX2_sumOfDepths_6 : decode cX2_sumOfDepths 6 = .ok (.getfield 31, 3) := by decide +kernel
theorem dX2_sumOfDepths_9 : decode cX2_sumOfDepths 9 = .ok (.if_icmp .gt 19, 3) := by decide +kernel
theorem dX2_sumOfDepths_12 : decode cX2_sumOfDepths 12 = .ok (.iload_n 1, 1) := by decide +kernel
theorem dX2_sumOfDepths_13 : decode cX2_sumOfDepths 13 = .ok (.iload_n 2, 1) := by decide +kernel
theorem dX2_sumOfDepths_14 : decode cX2_sumOfDepths 14 = .ok (.aload_n 0, 1) := by decide +kernel
theorem dX2_sumOfDepths_15 : decode cX2_sumOfDepths 15 = .ok (.iload_n 2, 1) := by decide +kernel
theorem dX2_sumOfDepths_16 : decode cX2_sumOfDepths 16 = .ok (.invokevirtual 56, 3) := by decide +kernel
theorem dX2_sumOfDepths_19 : decode cX2_sumOfDepths 19 = .ok (.imul, 1) := by decide +kernel
theorem dX2_sumOfDepths_20 : decode cX2_sumOfDepths 20 = .ok (.iadd, 1) := by decide +kernel
theorem dX2_sumOfDepths_21 : decode cX2_sumOfDepths 21 = .ok (.istore_n 1, 1) := by decide +kernel
theorem dX2_sumOfDepths_22 : decode cX2_sumOfDepths 22 = .ok (.iinc 2 1, 3) := by decide +kernel
theorem dX2_sumOfDepths_25 : decode cX2_sumOfDepths 25 = .ok (.goto (-21), 3) := by decide +kernel
theorem dX2_sumOfDepths_28 : decode cX2_sumOfDepths 28 = .ok (.iload_n 1, 1) := by decide +kernel
theorem dX2_sumOfDepths_29 : decode cX2_sumOfDepths 29 = .ok (.ireturn, 1) := by decide +kernel
theorem dX2_listTurns_0 : decode cX2_listTurns 0 = .ok (.aload_n 0, 1) := by decide +kernel
theorem dX2_listTurns_1 : decode cX2_listTurns 1 = .ok (.iconst 0, 1) := by decide +kernel
theorem dX2_listTurns_2 : decode cX2_listTurns 2 = .ok (.putfield 24, 3) := by decide +kernel
theorem dX2_listTurns_5 : decode cX2_listTurns 5 = .ok (.iconst 0, 1) := by decide +kernel
theorem dX2_listTurns_6 : decode cX2_listTurns 6 = .ok (.istore_n 2, 1) := by decide +kernel
theorem dX2_listTurns_7 : decode cX2_listTurns 7 = .ok (.iload_n 2, 1) := by decide +kernel
theorem dX2_listTurns_8 : decode cX2_listTurns 8 = .ok (.bipush 10, 2) := by decide +kernel
theorem dX2_listTurns_10 : decode cX2_listTurns 10 = .ok (.if_icmp .ge 61, 3) := by decide +kernel
theorem dX2_listTurns_13 : decode cX2_listTurns 13 = .ok (.aload_n 0, 1) := by decide +kernel
theorem dX2_listTurns_14 : decode cX2_listTurns 14 = .ok (.getfield 24, 3) := by decide +kernel
theorem dX2_listTurns_17 : decode cX2_listTurns 17 = .ok (.aload_n 0, 1) := by decide +kernel
theorem dX2_listTurns_18 : decode cX2_listTurns 18 = .ok (.getfield 21, 3) := by decide +kernel
theorem dX2_listTurns_21 : decode cX2_listTurns 21 = .ok (.arraylength, 1) := by decide +kernel
theorem dX2_listTurns_22 : decode cX2_listTurns 22 = .ok (.if_icmp .ge 49, 3) := by decide +kernel
theorem dX2_listTurns_25 : decode cX2_listTurns 25 = .ok (.aload_n 1, 1) := by decide +kernel
theorem dX2_listTurns_26 : decode cX2_listTurns 26 = .ok (.iload_n 2, 1) := by decide +kernel
theorem dX2_listTurns_27 : decode cX2_listTurns 27 = .ok (.invokevirtual 59, 3) := by decide +kernel
theorem dX2_listTurns_30 : decode cX2_listTurns 30 = .ok (.istore_n 3, 1) := by decide +kernel
theorem dX2_listTurns_31 : decode cX2_listTurns 31 = .ok (.iload_n 3, 1) := by decide +kernel
theorem dX2_listTurns_32 : decode cX2_listTurns 32 = .ok (.ldc 42, 2) := by decide +kernel
theorem dX2_listTurns_34 : decode cX2_listTurns 34 = .ok (.if_icmp .eq 31, 3) := by decide +kernel
theorem dX2_listTurns_37 : decode cX2_listTurns 37 = .ok (.aload_n 0, 1) := by decide +kernel
theorem dX2_listTurns_38 : decode cX2_listTurns 38 = .ok (.iload_n 3, 1) := by decide +kernel
theorem dX2_listTurns_39 : decode cX2_listTurns 39 = .ok (.invokevirtual 64, 3) := by decide +kernel
theorem dX2_listTurns_42 : decode cX2_listTurns 42 = .ok (.ifCond .ne 23, 3) := by decide +kernel
theorem dX2_listTurns_45 : decode cX2_listTurns 45 = .ok (.aload_n 0, 1) := by decide +kernel
theorem dX2_listTurns_46 : decode cX2_listTurns 46 = .ok (.getfield 21, 3) := by decide +kernel
theorem dX2_listTurns_49 : decode cX2_listTurns 49 = .ok (.aload_n 0, 1) := by decide +kernel
theorem dX2_listTurns_50 : decode cX2_listTurns 50 = .ok (.getfield 24, 3) := by decide +kernel
theorem dX2_listTurns_53 : decode cX2_listTurns 53 = .ok (.iload_n 3, 1) := by decide +kernel
theorem dX2_listTurns_54 : decode cX2_listTurns 54 = .ok (.iastore, 1) := by decide +kernel
theorem dX2_listTurns_55 : decode cX2_listTurns 55 = .ok (.aload_n 0, 1) := by decide +kernel
theorem dX2_listTurns_56 : decode cX2_listTurns 56 = .ok (.dup, 1) := by decide +kernel
theorem dX2_listTurns_57 : decode cX2_listTurns 57 = .ok (.getfield 24, 3) := by decide +kernel
theorem dX2_listTurns_60 : decode cX2_listTurns 60 = .ok (.iconst 1, 1) := by decide +kernel
theorem dX2_listTurns_61 : decode cX2_listTurns 61 = .ok (.iadd, 1) := by decide +kernel
theorem dX2_listTurns_62 : decode cX2_listTurns 62 = .ok (.putfield 24, 3) := by decide +kernel
theorem dX2_listTurns_65 : decode cX2_listTurns 65 = .ok (.iinc 2 1, 3) := by decide +kernel
theorem dX2_listTurns_68 : decode cX2_listTurns 68 = .ok (.goto (-61), 3) := by decide +kernel
theorem dX2_listTurns_71 : decode cX2_listTurns 71 = .ok (.return_, 1) := by decide +kernel
theorem dX2_isListed_0 : decode cX2_isListed 0 = .ok (.iconst 0, 1) := by decide +kernel
theorem dX2_isListed_1 : decode cX2_isListed 1 = .ok (.istore_n 2, 1) := by decide +kernel
theorem dX2_isListed_2 : decode cX2_isListed 2 = .ok (.iload_n 2, 1) := by decide +kernel
theorem dX2_isListed_3 : decode cX2_isListed 3 = .ok (.aload_n 0, 1) := by decide +kernel
theorem dX2_isListed_4 : decode cX2_isListed 4 = .ok (.getfield 24, 3) := by decide +kernel
theorem dX2_isListed_7 : decode cX2_isListed 7 = .ok (.if_icmp .ge 21, 3) := by decide +kernel
theorem dX2_isListed_10 : decode cX2_isListed 10 = .ok (.aload_n 0, 1) := by decide +kernel
theorem dX2_isListed_11 : decode cX2_isListed 11 = .ok (.getfield 21, 3) := by decide +kernel
theorem dX2_isListed_14 : decode cX2_isListed 14 = .ok (.iload_n 2, 1) := by decide +kernel
theorem dX2_isListed_15 : decode cX2_isListed 15 = .ok (.iaload, 1) := by decide +kernel
theorem dX2_isListed_16 : decode cX2_isListed 16 = .ok (.iload_n 1, 1) := by decide +kernel
theorem dX2_isListed_17 : decode cX2_isListed 17 = .ok (.if_icmp .ne 5, 3) := by decide +kernel
theorem dX2_isListed_20 : decode cX2_isListed 20 = .ok (.iconst 1, 1) := by decide +kernel
theorem dX2_isListed_21 : decode cX2_isListed 21 = .ok (.ireturn, 1) := by decide +kernel
theorem dX2_isListed_22 : decode cX2_isListed 22 = .ok (.iinc 2 1, 3) := by decide +kernel
theorem dX2_isListed_25 : decode cX2_isListed 25 = .ok (.goto (-23), 3) := by decide +kernel
theorem dX2_isListed_28 : decode cX2_isListed 28 = .ok (.iconst 0, 1) := by decide +kernel
theorem dX2_isListed_29 : decode cX2_isListed 29 = .ok (.ireturn, 1) := by decide +kernel
theorem dX2_clear_0 : decode cX2_clear 0 = .ok (.iconst 1, 1) := by decide +kernel
theorem dX2_clear_1 : decode cX2_clear 1 = .ok (.istore_n 2, 1) := by decide +kernel
theorem dX2_clear_2 : decode cX2_clear 2 = .ok (.iconst 2, 1) := by decide +kernel
theorem dX2_clear_3 : decode cX2_clear 3 = .ok (.istore_n 3, 1) := by decide +kernel
theorem dX2_clear_4 : decode cX2_clear 4 = .ok (.iload_n 3, 1) := by decide +kernel
theorem dX2_clear_5 : decode cX2_clear 5 = .ok (.iload_n 1, 1) := by decide +kernel
theorem dX2_clear_6 : decode cX2_clear 6 = .ok (.if_icmp .gt 19, 3) := by decide +kernel
theorem dX2_clear_9 : decode cX2_clear 9 = .ok (.iload_n 3, 1) := by decide +kernel
theorem dX2_clear_10 : decode cX2_clear 10 = .ok (.bipush 7, 2) := by decide +kernel
theorem dX2_clear_12 : decode cX2_clear 12 = .ok (.if_icmp .gt 13, 3) := by decide +kernel
theorem dX2_clear_15 : decode cX2_clear 15 = .ok (.iload_n 2, 1) := by decide +kernel
theorem dX2_clear_16 : decode cX2_clear 16 = .ok (.iload_n 3, 1) := by decide +kernel
theorem dX2_clear_17 : decode cX2_clear 17 = .ok (.imul, 1) := by decide +kernel
theorem dX2_clear_18 : decode cX2_clear 18 = .ok (.istore_n 2, 1) := by decide +kernel
theorem dX2_clear_19 : decode cX2_clear 19 = .ok (.iinc 3 1, 3) := by decide +kernel
theorem dX2_clear_22 : decode cX2_clear 22 = .ok (.goto (-18), 3) := by decide +kernel
theorem dX2_clear_25 : decode cX2_clear 25 = .ok (.iconst 0, 1) := by decide +kernel
theorem dX2_clear_26 : decode cX2_clear 26 = .ok (.istore_n 3, 1) := by decide +kernel
theorem dX2_clear_27 : decode cX2_clear 27 = .ok (.iload_n 3, 1) := by decide +kernel
theorem dX2_clear_28 : decode cX2_clear 28 = .ok (.iload_n 2, 1) := by decide +kernel
theorem dX2_clear_29 : decode cX2_clear 29 = .ok (.if_icmp .ge 25, 3) := by decide +kernel
theorem dX2_clear_32 : decode cX2_clear 32 = .ok (.iload_n 3, 1) := by decide +kernel
theorem dX2_clear_33 : decode cX2_clear 33 = .ok (.aload_n 0, 1) := by decide +kernel
theorem dX2_clear_34 : decode cX2_clear 34 = .ok (.getfield 9, 3) := by decide +kernel
theorem dX2_clear_37 : decode cX2_clear 37 = .ok (.arraylength, 1) := by decide +kernel
theorem dX2_clear_38 : decode cX2_clear 38 = .ok (.if_icmp .ge 16, 3) := by decide +kernel
theorem dX2_clear_41 : decode cX2_clear 41 = .ok (.aload_n 0, 1) := by decide +kernel
theorem dX2_clear_42 : decode cX2_clear 42 = .ok (.getfield 9, 3) := by decide +kernel
theorem dX2_clear_45 : decode cX2_clear 45 = .ok (.iload_n 3, 1) := by decide +kernel
theorem dX2_clear_46 : decode cX2_clear 46 = .ok (.iconst (-1), 1) := by decide +kernel
theorem dX2_clear_47 : decode cX2_clear 47 = .ok (.iastore, 1) := by decide +kernel
theorem dX2_clear_48 : decode cX2_clear 48 = .ok (.iinc 3 1, 3) := by decide +kernel
theorem dX2_clear_51 : decode cX2_clear 51 = .ok (.goto (-24), 3) := by decide +kernel
theorem dX2_clear_54 : decode cX2_clear 54 = .ok (.aload_n 0, 1) := by decide +kernel
theorem dX2_clear_55 : decode cX2_clear 55 = .ok (.iconst 0, 1) := by decide +kernel
theorem dX2_clear_56 : decode cX2_clear 56 = .ok (.putfield 28, 3) := by decide +kernel
theorem dX2_clear_59 : decode cX2_clear 59 = .ok (.iload_n 2, 1) := by decide +kernel
theorem dX2_clear_60 : decode cX2_clear 60 = .ok (.ireturn, 1) := by decide +kernel
theorem dX2_reach_0 : decode cX2_reach 0 = .ok (.iload_n 1, 1) := by decide +kernel
theorem dX2_reach_1 : decode cX2_reach 1 = .ok (.invokestatic 53, 3) := by decide +kernel
theorem dX2_reach_4 : decode cX2_reach 4 = .ok (.istore_n 3, 1) := by decide +kernel
theorem dX2_reach_5 : decode cX2_reach 5 = .ok (.iload_n 3, 1) := by decide +kernel
theorem dX2_reach_6 : decode cX2_reach 6 = .ok (.ifCond .lt 24, 3) := by decide +kernel
theorem dX2_reach_9 : decode cX2_reach 9 = .ok (.iload_n 3, 1) := by decide +kernel
theorem dX2_reach_10 : decode cX2_reach 10 = .ok (.aload_n 0, 1) := by decide +kernel
theorem dX2_reach_11 : decode cX2_reach 11 = .ok (.getfield 9, 3) := by decide +kernel
theorem dX2_reach_14 : decode cX2_reach 14 = .ok (.arraylength, 1) := by decide +kernel
theorem dX2_reach_15 : decode cX2_reach 15 = .ok (.if_icmp .ge 15, 3) := by decide +kernel
theorem dX2_reach_18 : decode cX2_reach 18 = .ok (.aload_n 0, 1) := by decide +kernel
theorem dX2_reach_19 : decode cX2_reach 19 = .ok (.getfield 28, 3) := by decide +kernel
theorem dX2_reach_22 : decode cX2_reach 22 = .ok (.aload_n 0, 1) := by decide +kernel
theorem dX2_reach_23 : decode cX2_reach 23 = .ok (.getfield 15, 3) := by decide +kernel
theorem dX2_reach_26 : decode cX2_reach 26 = .ok (.arraylength, 1) := by decide +kernel
theorem dX2_reach_27 : decode cX2_reach 27 = .ok (.if_icmp .lt 4, 3) := by decide +kernel
theorem dX2_reach_30 : decode cX2_reach 30 = .ok (.return_, 1) := by decide +kernel
theorem dX2_reach_31 : decode cX2_reach 31 = .ok (.aload_n 0, 1) := by decide +kernel
theorem dX2_reach_32 : decode cX2_reach 32 = .ok (.getfield 9, 3) := by decide +kernel
theorem dX2_reach_35 : decode cX2_reach 35 = .ok (.iload_n 3, 1) := by decide +kernel
theorem dX2_reach_36 : decode cX2_reach 36 = .ok (.iaload, 1) := by decide +kernel
theorem dX2_reach_37 : decode cX2_reach 37 = .ok (.iconst (-1), 1) := by decide +kernel
theorem dX2_reach_38 : decode cX2_reach 38 = .ok (.if_icmp .ne 30, 3) := by decide +kernel
theorem dX2_reach_41 : decode cX2_reach 41 = .ok (.aload_n 0, 1) := by decide +kernel
theorem dX2_reach_42 : decode cX2_reach 42 = .ok (.getfield 9, 3) := by decide +kernel
theorem dX2_reach_45 : decode cX2_reach 45 = .ok (.iload_n 3, 1) := by decide +kernel
theorem dX2_reach_46 : decode cX2_reach 46 = .ok (.iload_n 2, 1) := by decide +kernel
theorem dX2_reach_47 : decode cX2_reach 47 = .ok (.iastore, 1) := by decide +kernel
theorem dX2_reach_48 : decode cX2_reach 48 = .ok (.aload_n 0, 1) := by decide +kernel
theorem dX2_reach_49 : decode cX2_reach 49 = .ok (.getfield 15, 3) := by decide +kernel
theorem dX2_reach_52 : decode cX2_reach 52 = .ok (.aload_n 0, 1) := by decide +kernel
theorem dX2_reach_53 : decode cX2_reach 53 = .ok (.getfield 28, 3) := by decide +kernel
theorem dX2_reach_56 : decode cX2_reach 56 = .ok (.iload_n 1, 1) := by decide +kernel
theorem dX2_reach_57 : decode cX2_reach 57 = .ok (.iastore, 1) := by decide +kernel
theorem dX2_reach_58 : decode cX2_reach 58 = .ok (.aload_n 0, 1) := by decide +kernel
theorem dX2_reach_59 : decode cX2_reach 59 = .ok (.dup, 1) := by decide +kernel
theorem dX2_reach_60 : decode cX2_reach 60 = .ok (.getfield 28, 3) := by decide +kernel
theorem dX2_reach_63 : decode cX2_reach 63 = .ok (.iconst 1, 1) := by decide +kernel
theorem dX2_reach_64 : decode cX2_reach 64 = .ok (.iadd, 1) := by decide +kernel
theorem dX2_reach_65 : decode cX2_reach 65 = .ok (.putfield 28, 3) := by decide +kernel
theorem dX2_reach_68 : decode cX2_reach 68 = .ok (.return_, 1) := by decide +kernel
theorem dX3_imageOf_0 : decode cX3_imageOf 0 = .ok (.iload_n 0, 1) := by decide +kernel
theorem dX3_imageOf_1 : decode cX3_imageOf 1 = .ok (.iconst 3, 1) := by decide +kernel
theorem dX3_imageOf_2 : decode cX3_imageOf 2 = .ok (.iload_n 1, 1) := by decide +kernel
theorem dX3_imageOf_3 : decode cX3_imageOf 3 = .ok (.imul, 1) := by decide +kernel
theorem dX3_imageOf_4 : decode cX3_imageOf 4 = .ok (.iushr, 1) := by decide +kernel
theorem dX3_imageOf_5 : decode cX3_imageOf 5 = .ok (.bipush 7, 2) := by decide +kernel
theorem dX3_imageOf_7 : decode cX3_imageOf 7 = .ok (.iand, 1) := by decide +kernel
theorem dX3_imageOf_8 : decode cX3_imageOf 8 = .ok (.ireturn, 1) := by decide +kernel
theorem dX3_withImage_0 : decode cX3_withImage 0 = .ok (.iload_n 0, 1) := by decide +kernel
theorem dX3_withImage_1 : decode cX3_withImage 1 = .ok (.bipush 7, 2) := by decide +kernel
theorem dX3_withImage_3 : decode cX3_withImage 3 = .ok (.iconst 3, 1) := by decide +kernel
theorem dX3_withImage_4 : decode cX3_withImage 4 = .ok (.iload_n 1, 1) := by decide +kernel
theorem dX3_withImage_5 : decode cX3_withImage 5 = .ok (.imul, 1) := by decide +kernel
theorem dX3_withImage_6 : decode cX3_withImage 6 = .ok (.ishl, 1) := by decide +kernel
theorem dX3_withImage_7 : decode cX3_withImage 7 = .ok (.iconst (-1), 1) := by decide +kernel
theorem dX3_withImage_8 : decode cX3_withImage 8 = .ok (.ixor, 1) := by decide +kernel
theorem dX3_withImage_9 : decode cX3_withImage 9 = .ok (.iand, 1) := by decide +kernel
theorem dX3_withImage_10 : decode cX3_withImage 10 = .ok (.iload_n 2, 1) := by decide +kernel
theorem dX3_withImage_11 : decode cX3_withImage 11 = .ok (.iconst 3, 1) := by decide +kernel
theorem dX3_withImage_12 : decode cX3_withImage 12 = .ok (.iload_n 1, 1) := by decide +kernel
theorem dX3_withImage_13 : decode cX3_withImage 13 = .ok (.imul, 1) := by decide +kernel
theorem dX3_withImage_14 : decode cX3_withImage 14 = .ok (.ishl, 1) := by decide +kernel
theorem dX3_withImage_15 : decode cX3_withImage 15 = .ok (.ior, 1) := by decide +kernel
theorem dX3_withImage_16 : decode cX3_withImage 16 = .ok (.ireturn, 1) := by decide +kernel
theorem dX3_then_0 : decode cX3_then 0 = .ok (.iconst 0, 1) := by decide +kernel
theorem dX3_then_1 : decode cX3_then 1 = .ok (.istore_n 2, 1) := by decide +kernel
theorem dX3_then_2 : decode cX3_then 2 = .ok (.iconst 0, 1) := by decide +kernel
theorem dX3_then_3 : decode cX3_then 3 = .ok (.istore_n 3, 1) := by decide +kernel
theorem dX3_then_4 : decode cX3_then 4 = .ok (.iload_n 3, 1) := by decide +kernel
theorem dX3_then_5 : decode cX3_then 5 = .ok (.bipush 7, 2) := by decide +kernel
theorem dX3_then_7 : decode cX3_then 7 = .ok (.if_icmp .ge 25, 3) := by decide +kernel
theorem dX3_then_10 : decode cX3_then 10 = .ok (.iload_n 2, 1) := by decide +kernel
theorem dX3_then_11 : decode cX3_then 11 = .ok (.iload_n 1, 1) := by decide +kernel
theorem dX3_then_12 : decode cX3_then 12 = .ok (.iload_n 0, 1) := by decide +kernel
theorem dX3_then_13 : decode cX3_then 13 = .ok (.iload_n 3, 1) := by decide +kernel
theorem dX3_then_14 : decode cX3_then 14 = .ok (.invokestatic 11, 3) := by decide +kernel
theorem dX3_then_17 : decode cX3_then 17 = .ok (.invokestatic 11, 3) := by decide +kernel
theorem dX3_then_20 : decode cX3_then 20 = .ok (.iconst 3, 1) := by decide +kernel
theorem dX3_then_21 : decode cX3_then 21 = .ok (.iload_n 3, 1) := by decide +kernel
theorem dX3_then_22 : decode cX3_then 22 = .ok (.imul, 1) := by decide +kernel
theorem dX3_then_23 : decode cX3_then 23 = .ok (.ishl, 1) := by decide +kernel
theorem dX3_then_24 : decode cX3_then 24 = .ok (.ior, 1) := by decide +kernel
theorem dX3_then_25 : decode cX3_then 25 = .ok (.istore_n 2, 1) := by decide +kernel
theorem dX3_then_26 : decode cX3_then 26 = .ok (.iinc 3 1, 3) := by decide +kernel
theorem dX3_then_29 : decode cX3_then 29 = .ok (.goto (-25), 3) := by decide +kernel
theorem dX3_then_32 : decode cX3_then 32 = .ok (.iload_n 2, 1) := by decide +kernel
theorem dX3_then_33 : decode cX3_then 33 = .ok (.ireturn, 1) := by decide +kernel
theorem dX3_inverseOf_0 : decode cX3_inverseOf 0 = .ok (.iconst 0, 1) := by decide +kernel
theorem dX3_inverseOf_1 : decode cX3_inverseOf 1 = .ok (.istore_n 1, 1) := by decide +kernel
theorem dX3_inverseOf_2 : decode cX3_inverseOf 2 = .ok (.iconst 0, 1) := by decide +kernel
theorem dX3_inverseOf_3 : decode cX3_inverseOf 3 = .ok (.istore_n 2, 1) := by decide +kernel
theorem dX3_inverseOf_4 : decode cX3_inverseOf 4 = .ok (.iload_n 2, 1) := by decide +kernel
theorem dX3_inverseOf_5 : decode cX3_inverseOf 5 = .ok (.bipush 7, 2) := by decide +kernel
theorem dX3_inverseOf_7 : decode cX3_inverseOf 7 = .ok (.if_icmp .ge 21, 3) := by decide +kernel
theorem dX3_inverseOf_10 : decode cX3_inverseOf 10 = .ok (.iload_n 1, 1) := by decide +kernel
theorem dX3_inverseOf_11 : decode cX3_inverseOf 11 = .ok (.iload_n 2, 1) := by decide +kernel
theorem dX3_inverseOf_12 : decode cX3_inverseOf 12 = .ok (.iconst 3, 1) := by decide +kernel
theorem dX3_inverseOf_13 : decode cX3_inverseOf 13 = .ok (.iload_n 0, 1) := by decide +kernel
theorem dX3_inverseOf_14 : decode cX3_inverseOf 14 = .ok (.iload_n 2, 1) := by decide +kernel
theorem dX3_inverseOf_15 : decode cX3_inverseOf 15 = .ok (.invokestatic 11, 3) := by decide +kernel
theorem dX3_inverseOf_18 : decode cX3_inverseOf 18 = .ok (.imul, 1) := by decide +kernel
theorem dX3_inverseOf_19 : decode cX3_inverseOf 19 = .ok (.ishl, 1) := by decide +kernel
theorem dX3_inverseOf_20 : decode cX3_inverseOf 20 = .ok (.ior, 1) := by decide +kernel
theorem dX3_inverseOf_21 : decode cX3_inverseOf 21 = .ok (.istore_n 1, 1) := by decide +kernel
theorem dX3_inverseOf_22 : decode cX3_inverseOf 22 = .ok (.iinc 2 1, 3) := by decide +kernel
theorem dX3_inverseOf_25 : decode cX3_inverseOf 25 = .ok (.goto (-21), 3) := by decide +kernel
theorem dX3_inverseOf_28 : decode cX3_inverseOf 28 = .ok (.iload_n 1, 1) := by decide +kernel
theorem dX3_inverseOf_29 : decode cX3_inverseOf 29 = .ok (.ireturn, 1) := by decide +kernel
theorem dX3_differences_0 : decode cX3_differences 0 = .ok (.iconst 0, 1) := by decide +kernel
theorem dX3_differences_1 : decode cX3_differences 1 = .ok (.istore_n 2, 1) := by decide +kernel
theorem dX3_differences_2 : decode cX3_differences 2 = .ok (.iconst 0, 1) := by decide +kernel
theorem dX3_differences_3 : decode cX3_differences 3 = .ok (.istore_n 3, 1) := by decide +kernel
theorem dX3_differences_4 : decode cX3_differences 4 = .ok (.iload_n 3, 1) := by decide +kernel
theorem dX3_differences_5 : decode cX3_differences 5 = .ok (.bipush 7, 2) := by decide +kernel
theorem dX3_differences_7 : decode cX3_differences 7 = .ok (.if_icmp .ge 25, 3) := by decide +kernel
theorem dX3_differences_10 : decode cX3_differences 10 = .ok (.iload_n 0, 1) := by decide +kernel
theorem dX3_differences_11 : decode cX3_differences 11 = .ok (.iload_n 3, 1) := by decide +kernel
theorem dX3_differences_12 : decode cX3_differences 12 = .ok (.invokestatic 11, 3) := by decide +kernel
theorem dX3_differences_15 : decode cX3_differences 15 = .ok (.iload_n 1, 1) := by decide +kernel
theorem dX3_differences_16 : decode cX3_differences 16 = .ok (.iload_n 3, 1) := by decide +kernel
theorem dX3_differences_17 : decode cX3_differences 17 = .ok (.invokestatic 11, 3) := by decide +kernel
theorem dX3_differences_20 : decode cX3_differences 20 = .ok (.if_icmp .eq 6, 3) := by decide +kernel
theorem dX3_differences_23 : decode cX3_differences 23 = .ok (.iinc 2 1, 3) := by decide +kernel
theorem dX3_differences_26 : decode cX3_differences 26 = .ok (.iinc 3 1, 3) := by decide +kernel
theorem dX3_differences_29 : decode cX3_differences 29 = .ok (.goto (-25), 3) := by decide +kernel
theorem dX3_differences_32 : decode cX3_differences 32 = .ok (.iload_n 2, 1) := by decide +kernel
theorem dX3_differences_33 : decode cX3_differences 33 = .ok (.ireturn, 1) := by decide +kernel
theorem dX3_cycleOf_0 : decode cX3_cycleOf 0 = .ok (.iconst 1, 1) := by decide +kernel
theorem dX3_cycleOf_1 : decode cX3_cycleOf 1 = .ok (.istore_n 2, 1) := by decide +kernel
theorem dX3_cycleOf_2 : decode cX3_cycleOf 2 = .ok (.iload_n 0, 1) := by decide +kernel
theorem dX3_cycleOf_3 : decode cX3_cycleOf 3 = .ok (.iload_n 1, 1) := by decide +kernel
theorem dX3_cycleOf_4 : decode cX3_cycleOf 4 = .ok (.invokestatic 11, 3) := by decide +kernel
theorem dX3_cycleOf_7 : decode cX3_cycleOf 7 = .ok (.istore_n 3, 1) := by decide +kernel
theorem dX3_cycleOf_8 : decode cX3_cycleOf 8 = .ok (.iload_n 3, 1) := by decide +kernel
theorem dX3_cycleOf_9 : decode cX3_cycleOf 9 = .ok (.iload_n 1, 1) := by decide +kernel
theorem dX3_cycleOf_10 : decode cX3_cycleOf 10 = .ok (.if_icmp .eq 21, 3) := by decide +kernel
theorem dX3_cycleOf_13 : decode cX3_cycleOf 13 = .ok (.iload_n 2, 1) := by decide +kernel
theorem dX3_cycleOf_14 : decode cX3_cycleOf 14 = .ok (.bipush 7, 2) := by decide +kernel
theorem dX3_cycleOf_16 : decode cX3_cycleOf 16 = .ok (.if_icmp .ge 15, 3) := by decide +kernel
theorem dX3_cycleOf_19 : decode cX3_cycleOf 19 = .ok (.iload_n 0, 1) := by decide +kernel
theorem dX3_cycleOf_20 : decode cX3_cycleOf 20 = .ok (.iload_n 3, 1) := by decide +kernel
theorem dX3_cycleOf_21 : decode cX3_cycleOf 21 = .ok (.invokestatic 11, 3) := by decide +kernel
theorem dX3_cycleOf_24 : decode cX3_cycleOf 24 = .ok (.istore_n 3, 1) := by decide +kernel
theorem dX3_cycleOf_25 : decode cX3_cycleOf 25 = .ok (.iinc 2 1, 3) := by decide +kernel
theorem dX3_cycleOf_28 : decode cX3_cycleOf 28 = .ok (.goto (-20), 3) := by decide +kernel
theorem dX3_cycleOf_31 : decode cX3_cycleOf 31 = .ok (.iload_n 2, 1) := by decide +kernel
theorem dX3_cycleOf_32 : decode cX3_cycleOf 32 = .ok (.ireturn, 1) := by decide +kernel
theorem dX3_orderOf_0 : decode cX3_orderOf 0 = .ok (.iconst 1, 1) := by decide +kernel
theorem dX3_orderOf_1 : decode cX3_orderOf 1 = .ok (.istore_n 1, 1) := by decide +kernel
theorem dX3_orderOf_2 : decode cX3_orderOf 2 = .ok (.iload_n 0, 1) := by decide +kernel
theorem dX3_orderOf_3 : decode cX3_orderOf 3 = .ok (.istore_n 2, 1) := by decide +kernel
theorem dX3_orderOf_4 : decode cX3_orderOf 4 = .ok (.iload_n 2, 1) := by decide +kernel
theorem dX3_orderOf_5 : decode cX3_orderOf 5 = .ok (.ldc 15, 2) := by decide +kernel
theorem dX3_orderOf_7 : decode cX3_orderOf 7 = .ok (.if_icmp .eq 21, 3) := by decide +kernel
theorem dX3_orderOf_10 : decode cX3_orderOf 10 = .ok (.iload_n 1, 1) := by decide +kernel
theorem dX3_orderOf_11 : decode cX3_orderOf 11 = .ok (.bipush 12, 2) := by decide +kernel
theorem dX3_orderOf_13 : decode cX3_orderOf 13 = .ok (.if_icmp .ge 15, 3) := by decide +kernel
theorem dX3_orderOf_16 : decode cX3_orderOf 16 = .ok (.iload_n 2, 1) := by decide +kernel
theorem dX3_orderOf_17 : decode cX3_orderOf 17 = .ok (.iload_n 0, 1) := by decide +kernel
theorem dX3_orderOf_18 : decode cX3_orderOf 18 = .ok (.invokestatic 16, 3) := by decide +kernel
theorem dX3_orderOf_21 : decode cX3_orderOf 21 = .ok (.istore_n 2, 1) := by decide +kernel
theorem dX3_orderOf_22 : decode cX3_orderOf 22 = .ok (.iinc 1 1, 3) := by decide +kernel
theorem dX3_orderOf_25 : decode cX3_orderOf 25 = .ok (.goto (-21), 3) := by decide +kernel
theorem dX3_orderOf_28 : decode cX3_orderOf 28 = .ok (.iload_n 1, 1) := by decide +kernel
theorem dX3_orderOf_29 : decode cX3_orderOf 29 = .ok (.ireturn, 1) := by decide +kernel
theorem dX3_hasOddParity_0 : decode cX3_hasOddParity 0 = .ok (.iconst 0, 1) := by decide +kernel
theorem dX3_hasOddParity_1 : decode cX3_hasOddParity 1 = .ok (.istore_n 1, 1) := by decide +kernel
theorem dX3_hasOddParity_2 : decode cX3_hasOddParity 2 = .ok (.iconst 0, 1) := by decide +kernel
theorem dX3_hasOddParity_3 : decode cX3_hasOddParity 3 = .ok (.istore_n 2, 1) := by decide +kernel
theorem dX3_hasOddParity_4 : decode cX3_hasOddParity 4 = .ok (.iconst 0, 1) := by decide +kernel
theorem dX3_hasOddParity_5 : decode cX3_hasOddParity 5 = .ok (.istore_n 3, 1) := by decide +kernel
theorem dX3_hasOddParity_6 : decode cX3_hasOddParity 6 = .ok (.iload_n 3, 1) := by decide +kernel
theorem dX3_hasOddParity_7 : decode cX3_hasOddParity 7 = .ok (.bipush 7, 2) := by decide +kernel
theorem dX3_hasOddParity_9 : decode cX3_hasOddParity 9 = .ok (.if_icmp .ge 33, 3) := by decide +kernel
theorem dX3_hasOddParity_12 : decode cX3_hasOddParity 12 = .ok (.iload_n 0, 1) := by decide +kernel
theorem dX3_hasOddParity_13 : decode cX3_hasOddParity 13 = .ok (.iload_n 3, 1) := by decide +kernel
theorem dX3_hasOddParity_14 : decode cX3_hasOddParity 14 = .ok (.invokestatic 11, 3) := by decide +kernel
theorem dX3_hasOddParity_17 : decode cX3_hasOddParity 17 = .ok (.istore 4, 2) := by decide +kernel
theorem dX3_hasOddParity_19 : decode cX3_hasOddParity 19 = .ok (.iload_n 2, 1) := by decide +kernel
theorem dX3_hasOddParity_20 : decode cX3_hasOddParity 20 = .ok (.iload_n 1, 1) := by decide +kernel
theorem dX3_hasOddParity_21 : decode cX3_hasOddParity 21 = .ok (.iload 4, 2) := by decide +kernel
theorem dX3_hasOddParity_23 : decode cX3_hasOddParity 23 = .ok (.iushr, 1) := by decide +kernel
theorem dX3_hasOddParity_24 : decode cX3_hasOddParity 24 = .ok (.invokestatic 19, 3) := by decide +kernel
theorem dX3_hasOddParity_27 : decode cX3_hasOddParity 27 = .ok (.iadd, 1) := by decide +kernel
theorem dX3_hasOddParity_28 : decode cX3_hasOddParity 28 = .ok (.istore_n 2, 1) := by decide +kernel
theorem dX3_hasOddParity_29 : decode cX3_hasOddParity 29 = .ok (.iload_n 1, 1) := by decide +kernel
theorem dX3_hasOddParity_30 : decode cX3_hasOddParity 30 = .ok (.iconst 1, 1) := by decide +kernel
theorem dX3_hasOddParity_31 : decode cX3_hasOddParity 31 = .ok (.iload 4, 2) := by decide +kernel
theorem dX3_hasOddParity_33 : decode cX3_hasOddParity 33 = .ok (.ishl, 1) := by decide +kernel
theorem dX3_hasOddParity_34 : decode cX3_hasOddParity 34 = .ok (.ior, 1) := by decide +kernel
theorem dX3_hasOddParity_35 : decode cX3_hasOddParity 35 = .ok (.istore_n 1, 1) := by decide +kernel
theorem dX3_hasOddParity_36 : decode cX3_hasOddParity 36 = .ok (.iinc 3 1, 3) := by decide +kernel
theorem dX3_hasOddParity_39 : decode cX3_hasOddParity 39 = .ok (.goto (-33), 3) := by decide +kernel
theorem dX3_hasOddParity_42 : decode cX3_hasOddParity 42 = .ok (.iload_n 2, 1) := by decide +kernel
theorem dX3_hasOddParity_43 : decode cX3_hasOddParity 43 = .ok (.iconst 1, 1) := by decide +kernel
theorem dX3_hasOddParity_44 : decode cX3_hasOddParity 44 = .ok (.iand, 1) := by decide +kernel
theorem dX3_hasOddParity_45 : decode cX3_hasOddParity 45 = .ok (.iconst 1, 1) := by decide +kernel
theorem dX3_hasOddParity_46 : decode cX3_hasOddParity 46 = .ok (.if_icmp .ne 7, 3) := by decide +kernel
theorem dX3_hasOddParity_49 : decode cX3_hasOddParity 49 = .ok (.iconst 1, 1) := by decide +kernel
theorem dX3_hasOddParity_50 : decode cX3_hasOddParity 50 = .ok (.goto 4, 3) := by decide +kernel
theorem dX3_hasOddParity_53 : decode cX3_hasOddParity 53 = .ok (.iconst 0, 1) := by decide +kernel
theorem dX3_hasOddParity_54 : decode cX3_hasOddParity 54 = .ok (.ireturn, 1) := by decide +kernel
theorem dX3_rankOf_0 : decode cX3_rankOf 0 = .ok (.iconst 0, 1) := by decide +kernel
theorem dX3_rankOf_1 : decode cX3_rankOf 1 = .ok (.istore_n 1, 1) := by decide +kernel
theorem dX3_rankOf_2 : decode cX3_rankOf 2 = .ok (.iconst 0, 1) := by decide +kernel
theorem dX3_rankOf_3 : decode cX3_rankOf 3 = .ok (.istore_n 2, 1) := by decide +kernel
theorem dX3_rankOf_4 : decode cX3_rankOf 4 = .ok (.iconst 1, 1) := by decide +kernel
theorem dX3_rankOf_5 : decode cX3_rankOf 5 = .ok (.istore_n 3, 1) := by decide +kernel
theorem dX3_rankOf_6 : decode cX3_rankOf 6 = .ok (.iconst 0, 1) := by decide +kernel
theorem dX3_rankOf_7 : decode cX3_rankOf 7 = .ok (.istore 4, 2) := by decide +kernel
theorem dX3_rankOf_9 : decode cX3_rankOf 9 = .ok (.iload 4, 2) := by decide +kernel
theorem dX3_rankOf_11 : decode cX3_rankOf 11 = .ok (.bipush 7, 2) := by decide +kernel
theorem dX3_rankOf_13 : decode cX3_rankOf 13 = .ok (.if_icmp .ge 43, 3) := by decide +kernel
theorem dX3_rankOf_16 : decode cX3_rankOf 16 = .ok (.iload_n 0, 1) := by decide +kernel
theorem dX3_rankOf_17 : decode cX3_rankOf 17 = .ok (.iload 4, 2) := by decide +kernel
theorem dX3_rankOf_19 : decode cX3_rankOf 19 = .ok (.invokestatic 11, 3) := by decide +kernel
theorem dX3_rankOf_22 : decode cX3_rankOf 22 = .ok (.istore 5, 2) := by decide +kernel
theorem dX3_rankOf_24 : decode cX3_rankOf 24 = .ok (.iload_n 2, 1) := by decide +kernel
theorem dX3_rankOf_25 : decode cX3_rankOf 25 = .ok (.iload_n 3, 1) := by decide +kernel
theorem dX3_rankOf_26 : decode cX3_rankOf 26 = .ok (.iload_n 1, 1) := by decide +kernel
theorem dX3_rankOf_27 : decode cX3_rankOf 27 = .ok (.iload 5, 2) := by decide +kernel
theorem dX3_rankOf_29 : decode cX3_rankOf 29 = .ok (.iushr, 1) := by decide +kernel
theorem dX3_rankOf_30 : decode cX3_rankOf 30 = .ok (.invokestatic 19, 3) := by decide +kernel
theorem dX3_rankOf_33 : decode cX3_rankOf 33 = .ok (.imul, 1) := by decide +kernel
theorem dX3_rankOf_34 : decode cX3_rankOf 34 = .ok (.iadd, 1) := by decide +kernel
theorem dX3_rankOf_35 : decode cX3_rankOf 35 = .ok (.istore_n 2, 1) := by decide +kernel
theorem dX3_rankOf_36 : decode cX3_rankOf 36 = .ok (.iload_n 1, 1) := by decide +kernel
theorem dX3_rankOf_37 : decode cX3_rankOf 37 = .ok (.iconst 1, 1) := by decide +kernel
theorem dX3_rankOf_38 : decode cX3_rankOf 38 = .ok (.iload 5, 2) := by decide +kernel
theorem dX3_rankOf_40 : decode cX3_rankOf 40 = .ok (.ishl, 1) := by decide +kernel
theorem dX3_rankOf_41 : decode cX3_rankOf 41 = .ok (.ior, 1) := by decide +kernel
theorem dX3_rankOf_42 : decode cX3_rankOf 42 = .ok (.istore_n 1, 1) := by decide +kernel
theorem dX3_rankOf_43 : decode cX3_rankOf 43 = .ok (.iload_n 3, 1) := by decide +kernel
theorem dX3_rankOf_44 : decode cX3_rankOf 44 = .ok (.iload 4, 2) := by decide +kernel
theorem dX3_rankOf_46 : decode cX3_rankOf 46 = .ok (.iconst 1, 1) := by decide +kernel
theorem dX3_rankOf_47 : decode cX3_rankOf 47 = .ok (.iadd, 1) := by decide +kernel
theorem dX3_rankOf_48 : decode cX3_rankOf 48 = .ok (.imul, 1) := by decide +kernel
theorem dX3_rankOf_49 : decode cX3_rankOf 49 = .ok (.istore_n 3, 1) := by decide +kernel
theorem dX3_rankOf_50 : decode cX3_rankOf 50 = .ok (.iinc 4 1, 3) := by decide +kernel
theorem dX3_rankOf_53 : decode cX3_rankOf 53 = .ok (.goto (-44), 3) := by decide +kernel
theorem dX3_rankOf_56 : decode cX3_rankOf 56 = .ok (.iload_n 2, 1) := by decide +kernel
theorem dX3_rankOf_57 : decode cX3_rankOf 57 = .ok (.ireturn, 1) := by decide +kernel
theorem dX4_init_0 : decode cX4_init 0 = .ok (.aload_n 0, 1) := by decide +kernel
theorem dX4_init_1 : decode cX4_init 1 = .ok (.invokespecial 3, 3) := by decide +kernel
theorem dX4_init_4 : decode cX4_init 4 = .ok (.aload_n 0, 1) := by decide +kernel
theorem dX4_init_5 : decode cX4_init 5 = .ok (.bipush 10, 2) := by decide +kernel
theorem dX4_init_7 : decode cX4_init 7 = .ok (.newarray .int, 2) := by decide +kernel
theorem dX4_init_9 : decode cX4_init 9 = .ok (.putfield 9, 3) := by decide +kernel
theorem dX4_init_12 : decode cX4_init 12 = .ok (.aload_n 0, 1) := by decide +kernel
theorem dX4_init_13 : decode cX4_init 13 = .ok (.iconst 4, 1) := by decide +kernel
theorem dX4_init_14 : decode cX4_init 14 = .ok (.anewarray 15, 3) := by decide +kernel
theorem dX4_init_17 : decode cX4_init 17 = .ok (.putfield 17, 3) := by decide +kernel
theorem dX4_init_20 : decode cX4_init 20 = .ok (.aload_n 0, 1) := by decide +kernel
theorem dX4_init_21 : decode cX4_init 21 = .ok (.iconst 0, 1) := by decide +kernel
theorem dX4_init_22 : decode cX4_init 22 = .ok (.putfield 21, 3) := by decide +kernel
theorem dX4_init_25 : decode cX4_init 25 = .ok (.aload_n 0, 1) := by decide +kernel
theorem dX4_init_26 : decode cX4_init 26 = .ok (.ldc 25, 2) := by decide +kernel
theorem dX4_init_28 : decode cX4_init 28 = .ok (.putfield 26, 3) := by decide +kernel
theorem dX4_init_31 : decode cX4_init 31 = .ok (.iconst 0, 1) := by decide +kernel
theorem dX4_init_32 : decode cX4_init 32 = .ok (.istore_n 1, 1) := by decide +kernel
theorem dX4_init_33 : decode cX4_init 33 = .ok (.iload_n 1, 1) := by decide +kernel
theorem dX4_init_34 : decode cX4_init 34 = .ok (.iconst 4, 1) := by decide +kernel
theorem dX4_init_35 : decode cX4_init 35 = .ok (.if_icmp .ge 22, 3) := by decide +kernel
theorem dX4_init_38 : decode cX4_init 38 = .ok (.aload_n 0, 1) := by decide +kernel
theorem dX4_init_39 : decode cX4_init 39 = .ok (.getfield 17, 3) := by decide +kernel
theorem dX4_init_42 : decode cX4_init 42 = .ok (.iload_n 1, 1) := by decide +kernel
theorem dX4_init_43 : decode cX4_init 43 = .ok (.new 15, 3) := by decide +kernel
theorem dX4_init_46 : decode cX4_init 46 = .ok (.dup, 1) := by decide +kernel
theorem dX4_init_47 : decode cX4_init 47 = .ok (.invokespecial 29, 3) := by decide +kernel
theorem dX4_init_50 : decode cX4_init 50 = .ok (.aastore, 1) := by decide +kernel
theorem dX4_init_51 : decode cX4_init 51 = .ok (.iinc 1 1, 3) := by decide +kernel
theorem dX4_init_54 : decode cX4_init 54 = .ok (.goto (-21), 3) := by decide +kernel
theorem dX4_init_57 : decode cX4_init 57 = .ok (.aload_n 0, 1) := by decide +kernel
theorem dX4_init_58 : decode cX4_init 58 = .ok (.invokevirtual 30, 3) := by decide +kernel
theorem dX4_init_61 : decode cX4_init 61 = .ok (.return_, 1) := by decide +kernel
theorem dX4_clear_0 : decode cX4_clear 0 = .ok (.iconst 0, 1) := by decide +kernel
theorem dX4_clear_1 : decode cX4_clear 1 = .ok (.istore_n 1, 1) := by decide +kernel
theorem dX4_clear_2 : decode cX4_clear 2 = .ok (.iload_n 1, 1) := by decide +kernel
theorem dX4_clear_3 : decode cX4_clear 3 = .ok (.bipush 10, 2) := by decide +kernel
theorem dX4_clear_5 : decode cX4_clear 5 = .ok (.if_icmp .ge 17, 3) := by decide +kernel
theorem dX4_clear_8 : decode cX4_clear 8 = .ok (.aload_n 0, 1) := by decide +kernel
theorem dX4_clear_9 : decode cX4_clear 9 = .ok (.getfield 9, 3) := by decide +kernel
theorem dX4_clear_12 : decode cX4_clear 12 = .ok (.iload_n 1, 1) := by decide +kernel
theorem dX4_clear_13 : decode cX4_clear 13 = .ok (.ldc 25, 2) := by decide +kernel
theorem dX4_clear_15 : decode cX4_clear 15 = .ok (.iastore, 1) := by decide +kernel
theorem dX4_clear_16 : decode cX4_clear 16 = .ok (.iinc 1 1, 3) := by decide +kernel
theorem dX4_clear_19 : decode cX4_clear 19 = .ok (.goto (-17), 3) := by decide +kernel
theorem dX4_clear_22 : decode cX4_clear 22 = .ok (.aload_n 0, 1) := by decide +kernel
theorem dX4_clear_23 : decode cX4_clear 23 = .ok (.iconst 0, 1) := by decide +kernel
theorem dX4_clear_24 : decode cX4_clear 24 = .ok (.putfield 21, 3) := by decide +kernel
theorem dX4_clear_27 : decode cX4_clear 27 = .ok (.aload_n 0, 1) := by decide +kernel
theorem dX4_clear_28 : decode cX4_clear 28 = .ok (.ldc 25, 2) := by decide +kernel
theorem dX4_clear_30 : decode cX4_clear 30 = .ok (.putfield 26, 3) := by decide +kernel
theorem dX4_clear_33 : decode cX4_clear 33 = .ok (.iconst 0, 1) := by decide +kernel
theorem dX4_clear_34 : decode cX4_clear 34 = .ok (.istore_n 1, 1) := by decide +kernel
theorem dX4_clear_35 : decode cX4_clear 35 = .ok (.iload_n 1, 1) := by decide +kernel
theorem dX4_clear_36 : decode cX4_clear 36 = .ok (.iconst 4, 1) := by decide +kernel
theorem dX4_clear_37 : decode cX4_clear 37 = .ok (.if_icmp .ge 18, 3) := by decide +kernel
theorem dX4_clear_40 : decode cX4_clear 40 = .ok (.aload_n 0, 1) := by decide +kernel
theorem dX4_clear_41 : decode cX4_clear 41 = .ok (.getfield 17, 3) := by decide +kernel
theorem dX4_clear_44 : decode cX4_clear 44 = .ok (.iload_n 1, 1) := by decide +kernel
theorem dX4_clear_45 : decode cX4_clear 45 = .ok (.aaload, 1) := by decide +kernel
theorem dX4_clear_46 : decode cX4_clear 46 = .ok (.invokevirtual 33, 3) := by decide +kernel
theorem dX4_clear_49 : decode cX4_clear 49 = .ok (.iinc 1 1, 3) := by decide +kernel
theorem dX4_clear_52 : decode cX4_clear 52 = .ok (.goto (-17), 3) := by decide +kernel
theorem dX4_clear_55 : decode cX4_clear 55 = .ok (.return_, 1) := by decide +kernel
theorem dX4_copyFrom_0 : decode cX4_copyFrom 0 = .ok (.iconst 0, 1) := by decide +kernel
theorem dX4_copyFrom_1 : decode cX4_copyFrom 1 = .ok (.istore_n 2, 1) := by decide +kernel
theorem dX4_copyFrom_2 : decode cX4_copyFrom 2 = .ok (.iload_n 2, 1) := by decide +kernel
theorem dX4_copyFrom_3 : decode cX4_copyFrom 3 = .ok (.bipush 10, 2) := by decide +kernel
theorem dX4_copyFrom_5 : decode cX4_copyFrom 5 = .ok (.if_icmp .ge 21, 3) := by decide +kernel
theorem dX4_copyFrom_8 : decode cX4_copyFrom 8 = .ok (.aload_n 0, 1) := by decide +kernel
theorem dX4_copyFrom_9 : decode cX4_copyFrom 9 = .ok (.getfield 9, 3) := by decide +kernel
theorem dX4_copyFrom_12 : decode cX4_copyFrom 12 = .ok (.iload_n 2, 1) := by decide +kernel
theorem dX4_copyFrom_13 : decode cX4_copyFrom 13 = .ok (.aload_n 1, 1) := by decide +kernel
theorem dX4_copyFrom_14 : decode cX4_copyFrom 14 = .ok (.getfield 9, 3) := by decide +kernel
theorem dX4_copyFrom_17 : decode cX4_copyFrom 17 = .ok (.iload_n 2, 1) := by decide +kernel
theorem dX4_copyFrom_18 : decode cX4_copyFrom 18 = .ok (.iaload, 1) := by decide +kernel
theorem dX4_copyFrom_19 : decode cX4_copyFrom 19 = .ok (.iastore, 1) := by decide +kernel
theorem dX4_copyFrom_20 : decode cX4_copyFrom 20 = .ok (.iinc 2 1, 3) := by decide +kernel
theorem dX4_copyFrom_23 : decode cX4_copyFrom 23 = .ok (.goto (-21), 3) := by decide +kernel
theorem dX4_copyFrom_26 : decode cX4_copyFrom 26 = .ok (.aload_n 0, 1) := by decide +kernel
theorem dX4_copyFrom_27 : decode cX4_copyFrom 27 = .ok (.aload_n 1, 1) := by decide +kernel
theorem dX4_copyFrom_28 : decode cX4_copyFrom 28 = .ok (.getfield 21, 3) := by decide +kernel
theorem dX4_copyFrom_31 : decode cX4_copyFrom 31 = .ok (.putfield 21, 3) := by decide +kernel
theorem dX4_copyFrom_34 : decode cX4_copyFrom 34 = .ok (.aload_n 0, 1) := by decide +kernel
theorem dX4_copyFrom_35 : decode cX4_copyFrom 35 = .ok (.aload_n 1, 1) := by decide +kernel
theorem dX4_copyFrom_36 : decode cX4_copyFrom 36 = .ok (.getfield 26, 3) := by decide +kernel
theorem dX4_copyFrom_39 : decode cX4_copyFrom 39 = .ok (.putfield 26, 3) := by decide +kernel
theorem dX4_copyFrom_42 : decode cX4_copyFrom 42 = .ok (.iconst 0, 1) := by decide +kernel
theorem dX4_copyFrom_43 : decode cX4_copyFrom 43 = .ok (.istore_n 2, 1) := by decide +kernel
theorem dX4_copyFrom_44 : decode cX4_copyFrom 44 = .ok (.iload_n 2, 1) := by decide +kernel
theorem dX4_copyFrom_45 : decode cX4_copyFrom 45 = .ok (.iconst 4, 1) := by decide +kernel
theorem dX4_copyFrom_46 : decode cX4_copyFrom 46 = .ok (.if_icmp .ge 24, 3) := by decide +kernel
theorem dX4_copyFrom_49 : decode cX4_copyFrom 49 = .ok (.aload_n 0, 1) := by decide +kernel
theorem dX4_copyFrom_50 : decode cX4_copyFrom 50 = .ok (.getfield 17, 3) := by decide +kernel
theorem dX4_copyFrom_53 : decode cX4_copyFrom 53 = .ok (.iload_n 2, 1) := by decide +kernel
theorem dX4_copyFrom_54 : decode cX4_copyFrom 54 = .ok (.aaload, 1) := by decide +kernel
theorem dX4_copyFrom_55 : decode cX4_copyFrom 55 = .ok (.aload_n 1, 1) := by decide +kernel
theorem dX4_copyFrom_56 : decode cX4_copyFrom 56 = .ok (.getfield 17, 3) := by decide +kernel
theorem dX4_copyFrom_59 : decode cX4_copyFrom 59 = .ok (.iload_n 2, 1) := by decide +kernel
theorem dX4_copyFrom_60 : decode cX4_copyFrom 60 = .ok (.aaload, 1) := by decide +kernel
theorem dX4_copyFrom_61 : decode cX4_copyFrom 61 = .ok (.invokevirtual 34, 3) := by decide +kernel
theorem dX4_copyFrom_64 : decode cX4_copyFrom 64 = .ok (.iinc 2 1, 3) := by decide +kernel
theorem dX4_copyFrom_67 : decode cX4_copyFrom 67 = .ok (.goto (-23), 3) := by decide +kernel
theorem dX4_copyFrom_70 : decode cX4_copyFrom 70 = .ok (.return_, 1) := by decide +kernel
theorem dX4_places_0 : decode cX4_places 0 = .ok (.aload_n 0, 1) := by decide +kernel
theorem dX4_places_1 : decode cX4_places 1 = .ok (.getfield 26, 3) := by decide +kernel
theorem dX4_places_4 : decode cX4_places 4 = .ok (.ireturn, 1) := by decide +kernel
theorem dX4_arrange_0 : decode cX4_arrange 0 = .ok (.aload_n 0, 1) := by decide +kernel
theorem dX4_arrange_1 : decode cX4_arrange 1 = .ok (.iload_n 1, 1) := by decide +kernel
theorem dX4_arrange_2 : decode cX4_arrange 2 = .ok (.putfield 26, 3) := by decide +kernel
theorem dX4_arrange_5 : decode cX4_arrange 5 = .ok (.return_, 1) := by decide +kernel
theorem dX4_word_0 : decode cX4_word 0 = .ok (.aload_n 0, 1) := by decide +kernel
theorem dX4_word_1 : decode cX4_word 1 = .ok (.getfield 17, 3) := by decide +kernel
theorem dX4_word_4 : decode cX4_word 4 = .ok (.iload_n 1, 1) := by decide +kernel
theorem dX4_word_5 : decode cX4_word 5 = .ok (.ifCond .lt 12, 3) := by decide +kernel
theorem dX4_word_8 : decode cX4_word 8 = .ok (.iload_n 1, 1) := by decide +kernel
theorem dX4_word_9 : decode cX4_word 9 = .ok (.iconst 4, 1) := by decide +kernel
theorem dX4_word_10 : decode cX4_word 10 = .ok (.if_icmp .ge 7, 3) := by decide +kernel
theorem dX4_word_13 : decode cX4_word 13 = .ok (.iload_n 1, 1) := by decide +kernel
theorem dX4_word_14 : decode cX4_word 14 = .ok (.goto 4, 3) := by decide +kernel
theorem dX4_word_17 : decode cX4_word 17 = .ok (.iconst 0, 1) := by decide +kernel
theorem dX4_word_18 : decode cX4_word 18 = .ok (.aaload, 1) := by decide +kernel
theorem dX4_word_19 : decode cX4_word 19 = .ok (.areturn, 1) := by decide +kernel
theorem dX4_isDefined_0 : decode cX4_isDefined 0 = .ok (.aload_n 0, 1) := by decide +kernel
theorem dX4_isDefined_1 : decode cX4_isDefined 1 = .ok (.getfield 21, 3) := by decide +kernel
theorem dX4_isDefined_4 : decode cX4_isDefined 4 = .ok (.iload_n 1, 1) := by decide +kernel
theorem dX4_isDefined_5 : decode cX4_isDefined 5 = .ok (.iushr, 1) := by decide +kernel
theorem dX4_isDefined_6 : decode cX4_isDefined 6 = .ok (.iconst 1, 1) := by decide +kernel
theorem dX4_isDefined_7 : decode cX4_isDefined 7 = .ok (.iand, 1) := by decide +kernel
theorem dX4_isDefined_8 : decode cX4_isDefined 8 = .ok (.iconst 1, 1) := by decide +kernel
theorem dX4_isDefined_9 : decode cX4_isDefined 9 = .ok (.if_icmp .ne 7, 3) := by decide +kernel
theorem dX4_isDefined_12 : decode cX4_isDefined 12 = .ok (.iconst 1, 1) := by decide +kernel
theorem dX4_isDefined_13 : decode cX4_isDefined 13 = .ok (.goto 4, 3) := by decide +kernel
theorem dX4_isDefined_16 : decode cX4_isDefined 16 = .ok (.iconst 0, 1) := by decide +kernel
theorem dX4_isDefined_17 : decode cX4_isDefined 17 = .ok (.ireturn, 1) := by decide +kernel
theorem dX4_defineMove_0 : decode cX4_defineMove 0 = .ok (.iload_n 1, 1) := by decide +kernel
theorem dX4_defineMove_1 : decode cX4_defineMove 1 = .ok (.ifCond .lt 8, 3) := by decide +kernel
theorem dX4_defineMove_4 : decode cX4_defineMove 4 = .ok (.iload_n 1, 1) := by decide +kernel
theorem dX4_defineMove_5 : decode cX4_defineMove 5 = .ok (.iconst 5, 1) := by decide +kernel
theorem dX4_defineMove_6 : decode cX4_defineMove 6 = .ok (.if_icmp .lt 4, 3) := by decide +kernel
theorem dX4_defineMove_9 : decode cX4_defineMove 9 = .ok (.return_, 1) := by decide +kernel
theorem dX4_defineMove_10 : decode cX4_defineMove 10 = .ok (.aload_n 0, 1) := by decide +kernel
theorem dX4_defineMove_11 : decode cX4_defineMove 11 = .ok (.getfield 9, 3) := by decide +kernel
theorem dX4_defineMove_14 : decode cX4_defineMove 14 = .ok (.iconst 2, 1) := by decide +kernel
theorem dX4_defineMove_15 : decode cX4_defineMove 15 = .ok (.iload_n 1, 1) := by decide +kernel
theorem dX4_defineMove_16 : decode cX4_defineMove 16 = .ok (.imul, 1) := by decide +kernel
theorem dX4_defineMove_17 : decode cX4_defineMove 17 = .ok (.iload_n 2, 1) := by decide +kernel
theorem dX4_defineMove_18 : decode cX4_defineMove 18 = .ok (.iastore, 1) := by decide +kernel
theorem dX4_defineMove_19 : decode cX4_defineMove 19 = .ok (.aload_n 0, 1) := by decide +kernel
theorem dX4_defineMove_20 : decode cX4_defineMove 20 = .ok (.getfield 9, 3) := by decide +kernel
theorem dX4_defineMove_23 : decode cX4_defineMove 23 = .ok (.iconst 2, 1) := by decide +kernel
theorem dX4_defineMove_24 : decode cX4_defineMove 24 = .ok (.iload_n 1, 1) := by decide +kernel
theorem dX4_defineMove_25 : decode cX4_defineMove 25 = .ok (.imul, 1) := by decide +kernel
theorem dX4_defineMove_26 : decode cX4_defineMove 26 = .ok (.iconst 1, 1) := by decide +kernel
theorem dX4_defineMove_27 : decode cX4_defineMove 27 = .ok (.iadd, 1) := by decide +kernel
theorem dX4_defineMove_28 : decode cX4_defineMove 28 = .ok (.iload_n 2, 1) := by decide +kernel
theorem dX4_defineMove_29 : decode cX4_defineMove 29 = .ok (.invokestatic 38, 3) := by decide +kernel
theorem dX4_defineMove_32 : decode cX4_defineMove 32 = .ok (.iastore, 1) := by decide +kernel
theorem dX4_defineMove_33 : decode cX4_defineMove 33 = .ok (.aload_n 0, 1) := by decide +kernel
theorem dX4_defineMove_34 : decode cX4_defineMove 34 = .ok (.dup, 1) := by decide +kernel
theorem dX4_defineMove_35 : decode cX4_defineMove 35 = .ok (.getfield 21, 3) := by decide +kernel
theorem dX4_defineMove_38 : decode cX4_defineMove 38 = .ok (.iconst 1, 1) := by decide +kernel
theorem dX4_defineMove_39 : decode cX4_defineMove 39 = .ok (.iload_n 1, 1) := by decide +kernel
theorem dX4_defineMove_40 : decode cX4_defineMove 40 = .ok (.ishl, 1) := by decide +kernel
theorem dX4_defineMove_41 : decode cX4_defineMove 41 = .ok (.ior, 1) := by decide +kernel
theorem dX4_defineMove_42 : decode cX4_defineMove 42 = .ok (.putfield 21, 3) := by decide +kernel
theorem dX4_defineMove_45 : decode cX4_defineMove 45 = .ok (.return_, 1) := by decide +kernel
theorem dX4_definesNamesIn_0 : decode cX4_definesNamesIn 0 = .ok (.iconst 0, 1) := by decide +kernel
theorem dX4_definesNamesIn_1 : decode cX4_definesNamesIn 1 = .ok (.istore_n 2, 1) := by decide +kernel
theorem dX4_definesNamesIn_2 : decode cX4_definesNamesIn 2 = .ok (.iload_n 2, 1) := by decide +kernel
theorem dX4_definesNamesIn_3 : decode cX4_definesNamesIn 3 = .ok (.aload_n 1, 1) := by decide +kernel
theorem dX4_definesNamesIn_4 : decode cX4_definesNamesIn 4 = .ok (.invokevirtual 44, 3) := by decide +kernel
theorem dX4_definesNamesIn_7 : decode cX4_definesNamesIn 7 = .ok (.if_icmp .ge 35, 3) := by decide +kernel
theorem dX4_definesNamesIn_10 : decode cX4_definesNamesIn 10 = .ok (.aload_n 1, 1) := by decide +kernel
theorem dX4_definesNamesIn_11 : decode cX4_definesNamesIn 11 = .ok (.iload_n 2, 1) := by decide +kernel
theorem dX4_definesNamesIn_12 : decode cX4_definesNamesIn 12 = .ok (.invokevirtual 50, 3) := by decide +kernel
theorem dX4_definesNamesIn_15 : decode cX4_definesNamesIn 15 = .ok (.istore_n 3, 1) := by decide +kernel
theorem dX4_definesNamesIn_16 : decode cX4_definesNamesIn 16 = .ok (.iload_n 3, 1) := by decide +kernel
theorem dX4_definesNamesIn_17 : decode cX4_definesNamesIn 17 = .ok (.invokestatic 54, 3) := by decide +kernel
theorem dX4_definesNamesIn_20 : decode cX4_definesNamesIn 20 = .ok (.ifCond .eq 16, 3) := by decide +kernel
theorem dX4_definesNamesIn_23 : decode cX4_definesNamesIn 23 = .ok (.aload_n 0, 1) := by decide +kernel
theorem dX4_definesNamesIn_24 : decode cX4_definesNamesIn 24 = .ok (.iload_n 3, 1) := by decide +kernel
theorem dX4_definesNamesIn_25 : decode cX4_definesNamesIn 25 = .ok (.bipush 97, 2) := by decide +kernel
theorem dX4_definesNamesIn_27 : decode cX4_definesNamesIn 27 = .ok (.isub, 1) := by decide +kernel
theorem dX4_definesNamesIn_28 : decode cX4_definesNamesIn 28 = .ok (.invokevirtual 58, 3) := by decide +kernel
theorem dX4_definesNamesIn_31 : decode cX4_definesNamesIn 31 = .ok (.ifCond .ne 5, 3) := by decide +kernel
theorem dX4_definesNamesIn_34 : decode cX4_definesNamesIn 34 = .ok (.iconst 0, 1) := by decide +kernel
theorem dX4_definesNamesIn_35 : decode cX4_definesNamesIn 35 = .ok (.ireturn, 1) := by decide +kernel
theorem dX4_definesNamesIn_36 : decode cX4_definesNamesIn 36 = .ok (.iinc 2 1, 3) := by decide +kernel
theorem dX4_definesNamesIn_39 : decode cX4_definesNamesIn 39 = .ok (.goto (-37), 3) := by decide +kernel
theorem dX4_definesNamesIn_42 : decode cX4_definesNamesIn 42 = .ok (.iconst 1, 1) := by decide +kernel
theorem dX4_definesNamesIn_43 : decode cX4_definesNamesIn 43 = .ok (.ireturn, 1) := by decide +kernel
theorem dX4_effectOfLetter_0 : decode cX4_effectOfLetter 0 = .ok (.iload_n 1, 1) := by decide +kernel
theorem dX4_effectOfLetter_1 : decode cX4_effectOfLetter 1 = .ok (.ifCond .lt 18, 3) := by decide +kernel
theorem dX4_effectOfLetter_4 : decode cX4_effectOfLetter 4 = .ok (.iload_n 1, 1) := by decide +kernel
theorem dX4_effectOfLetter_5 : decode cX4_effectOfLetter 5 = .ok (.bipush 10, 2) := by decide +kernel
theorem dX4_effectOfLetter_7 : decode cX4_effectOfLetter 7 = .ok (.if_icmp .ge 12, 3) := by decide +kernel
theorem dX4_effectOfLetter_10 : decode cX4_effectOfLetter 10 = .ok (.aload_n 0, 1) := by decide +kernel
theorem dX4_effectOfLetter_11 : decode cX4_effectOfLetter 11 = .ok (.getfield 9, 3) := by decide +kernel
theorem dX4_effectOfLetter_14 : decode cX4_effectOfLetter 14 = .ok (.iload_n 1, 1) := by decide +kernel
theorem dX4_effectOfLetter_15 : decode cX4_effectOfLetter 15 = .ok (.iaload, 1) := by decide +kernel
theorem dX4_effectOfLetter_16 : decode cX4_effectOfLetter 16 = .ok (.goto 5, 3) := by decide +kernel
theorem dX4_effectOfLetter_19 : decode cX4_effectOfLetter 19 = .ok (.ldc 25, 2) := by decide +kernel
theorem dX4_effectOfLetter_21 : decode cX4_effectOfLetter 21 = .ok (.ireturn, 1) := by decide +kernel
theorem dX4_effectOfWord_0 : decode cX4_effectOfWord 0 = .ok (.aload_n 0, 1) := by decide +kernel
theorem dX4_effectOfWord_1 : decode cX4_effectOfWord 1 = .ok (.iload_n 1, 1) := by decide +kernel
theorem dX4_effectOfWord_2 : decode cX4_effectOfWord 2 = .ok (.invokevirtual 62, 3) := by decide +kernel
theorem dX4_effectOfWord_5 : decode cX4_effectOfWord 5 = .ok (.astore_n 2, 1) := by decide +kernel
theorem dX4_effectOfWord_6 : decode cX4_effectOfWord 6 = .ok (.ldc 25, 2) := by decide +kernel
theorem dX4_effectOfWord_8 : decode cX4_effectOfWord 8 = .ok (.istore_n 3, 1) := by decide +kernel
theorem dX4_effectOfWord_9 : decode cX4_effectOfWord 9 = .ok (.iconst 0, 1) := by decide +kernel
theorem dX4_effectOfWord_10 : decode cX4_effectOfWord 10 = .ok (.istore 4, 2) := by decide +kernel
theorem dX4_effectOfWord_12 : decode cX4_effectOfWord 12 = .ok (.iload 4, 2) := by decide +kernel
theorem dX4_effectOfWord_14 : decode cX4_effectOfWord 14 = .ok (.aload_n 2, 1) := by decide +kernel
theorem dX4_effectOfWord_15 : decode cX4_effectOfWord 15 = .ok (.invokevirtual 66, 3) := by decide +kernel
theorem dX4_effectOfWord_18 : decode cX4_effectOfWord 18 = .ok (.if_icmp .ge 24, 3) := by decide +kernel
theorem dX4_effectOfWord_21 : decode cX4_effectOfWord 21 = .ok (.iload_n 3, 1) := by decide +kernel
theorem dX4_effectOfWord_22 : decode cX4_effectOfWord 22 = .ok (.aload_n 0, 1) := by decide +kernel
theorem dX4_effectOfWord_23 : decode cX4_effectOfWord 23 = .ok (.aload_n 2, 1) := by decide +kernel
theorem dX4_effectOfWord_24 : decode cX4_effectOfWord 24 = .ok (.iload 4, 2) := by decide +kernel
theorem dX4_effectOfWord_26 : decode cX4_effectOfWord 26 = .ok (.invokevirtual 67, 3) := by decide +kernel
theorem dX4_effectOfWord_29 : decode cX4_effectOfWord 29 = .ok (.invokevirtual 69, 3) := by decide +kernel
theorem dX4_effectOfWord_32 : decode cX4_effectOfWord 32 = .ok (.invokestatic 72, 3) := by decide +kernel
theorem dX4_effectOfWord_35 : decode cX4_effectOfWord 35 = .ok (.istore_n 3, 1) := by decide +kernel
theorem dX4_effectOfWord_36 : decode cX4_effectOfWord 36 = .ok (.iinc 4 1, 3) := by decide +kernel
theorem dX4_effectOfWord_39 : decode cX4_effectOfWord 39 = .ok (.goto (-27), 3) := by decide +kernel
theorem dX4_effectOfWord_42 : decode cX4_effectOfWord 42 = .ok (.iload_n 3, 1) := by decide +kernel
theorem dX4_effectOfWord_43 : decode cX4_effectOfWord 43 = .ok (.ireturn, 1) := by decide +kernel
theorem dX4_spread_0 : decode cX4_spread 0 = .ok (.iload_n 1, 1) := by decide +kernel
theorem dX4_spread_1 : decode cX4_spread 1 = .ok (.istore_n 2, 1) := by decide +kernel
theorem dX4_spread_2 : decode cX4_spread 2 = .ok (.iconst 0, 1) := by decide +kernel
theorem dX4_spread_3 : decode cX4_spread 3 = .ok (.istore_n 3, 1) := by decide +kernel
theorem dX4_spread_4 : decode cX4_spread 4 = .ok (.iload_n 3, 1) := by decide +kernel
theorem dX4_spread_5 : decode cX4_spread 5 = .ok (.bipush 10, 2) := by decide +kernel
theorem dX4_spread_7 : decode cX4_spread 7 = .ok (.if_icmp .ge 51, 3) := by decide +kernel
theorem dX4_spread_10 : decode cX4_spread 10 = .ok (.iconst 0, 1) := by decide +kernel
theorem dX4_spread_11 : decode cX4_spread 11 = .ok (.istore 4, 2) := by decide +kernel
theorem dX4_spread_13 : decode cX4_spread 13 = .ok (.iload 4, 2) := by decide +kernel
theorem dX4_spread_15 : decode cX4_spread 15 = .ok (.bipush 7, 2) := by decide +kernel
theorem dX4_spread_17 : decode cX4_spread 17 = .ok (.if_icmp .ge 35, 3) := by decide +kernel
theorem dX4_spread_20 : decode cX4_spread 20 = .ok (.iload_n 1, 1) := by decide +kernel
theorem dX4_spread_21 : decode cX4_spread 21 = .ok (.iload 4, 2) := by decide +kernel
theorem dX4_spread_23 : decode cX4_spread 23 = .ok (.iushr, 1) := by decide +kernel
theorem dX4_spread_24 : decode cX4_spread 24 = .ok (.iconst 1, 1) := by decide +kernel
theorem dX4_spread_25 : decode cX4_spread 25 = .ok (.iand, 1) := by decide +kernel
theorem dX4_spread_26 : decode cX4_spread 26 = .ok (.iconst 1, 1) := by decide +kernel
theorem dX4_spread_27 : decode cX4_spread 27 = .ok (.if_icmp .ne 19, 3) := by decide +kernel
theorem dX4_spread_30 : decode cX4_spread 30 = .ok (.iload_n 2, 1) := by decide +kernel
theorem dX4_spread_31 : decode cX4_spread 31 = .ok (.iconst 1, 1) := by decide +kernel
theorem dX4_spread_32 : decode cX4_spread 32 = .ok (.aload_n 0, 1) := by decide +kernel
theorem dX4_spread_33 : decode cX4_spread 33 = .ok (.getfield 9, 3) := by decide +kernel
theorem dX4_spread_36 : decode cX4_spread 36 = .ok (.iload_n 3, 1) := by decide +kernel
theorem dX4_spread_37 : decode cX4_spread 37 = .ok (.iaload, 1) := by decide +kernel
theorem dX4_spread_38 : decode cX4_spread 38 = .ok (.iload 4, 2) := by decide +kernel
theorem dX4_spread_40 : decode cX4_spread 40 = .ok (.invokestatic 76, 3) := by decide +kernel
theorem dX4_spread_43 : decode cX4_spread 43 = .ok (.ishl, 1) := by decide +kernel
theorem dX4_spread_44 : decode cX4_spread 44 = .ok (.ior, 1) := by decide +kernel
theorem dX4_spread_45 : decode cX4_spread 45 = .ok (.istore_n 2, 1) := by decide +kernel
theorem dX4_spread_46 : decode cX4_spread 46 = .ok (.iinc 4 1, 3) := by decide +kernel
theorem dX4_spread_49 : decode cX4_spread 49 = .ok (.goto (-36), 3) := by decide +kernel
theorem dX4_spread_52 : decode cX4_spread 52 = .ok (.iinc 3 1, 3) := by decide +kernel
theorem dX4_spread_55 : decode cX4_spread 55 = .ok (.goto (-51), 3) := by decide +kernel
theorem dX4_spread_58 : decode cX4_spread 58 = .ok (.iload_n 2, 1) := by decide +kernel
theorem dX4_spread_59 : decode cX4_spread 59 = .ok (.ireturn, 1) := by decide +kernel
theorem dX5_init_0 : decode cX5_init 0 = .ok (.aload_n 0, 1) := by decide +kernel
theorem dX5_init_1 : decode cX5_init 1 = .ok (.invokespecial 3, 3) := by decide +kernel
theorem dX5_init_4 : decode cX5_init 4 = .ok (.aload_n 0, 1) := by decide +kernel
theorem dX5_init_5 : decode cX5_init 5 = .ok (.bipush 40, 2) := by decide +kernel
theorem dX5_init_7 : decode cX5_init 7 = .ok (.newarray .char, 2) := by decide +kernel
theorem dX5_init_9 : decode cX5_init 9 = .ok (.putfield 9, 3) := by decide +kernel
theorem dX5_init_12 : decode cX5_init 12 = .ok (.aload_n 0, 1) := by decide +kernel
theorem dX5_init_13 : decode cX5_init 13 = .ok (.iconst 0, 1) := by decide +kernel
theorem dX5_init_14 : decode cX5_init 14 = .ok (.putfield 15, 3) := by decide +kernel
theorem dX5_init_17 : decode cX5_init 17 = .ok (.return_, 1) := by decide +kernel
theorem dX5_length_0 : decode cX5_length 0 = .ok (.aload_n 0, 1) := by decide +kernel
theorem dX5_length_1 : decode cX5_length 1 = .ok (.getfield 15, 3) := by decide +kernel
theorem dX5_length_4 : decode cX5_length 4 = .ok (.ireturn, 1) := by decide +kernel
theorem dX5_at_0 : decode cX5_at 0 = .ok (.iload_n 1, 1) := by decide +kernel
theorem dX5_at_1 : decode cX5_at 1 = .ok (.ifCond .lt 20, 3) := by decide +kernel
theorem dX5_at_4 : decode cX5_at 4 = .ok (.iload_n 1, 1) := by decide +kernel
theorem dX5_at_5 : decode cX5_at 5 = .ok (.aload_n 0, 1) := by decide +kernel
theorem dX5_at_6 : decode cX5_at 6 = .ok (.getfield 15, 3) := by decide +kernel
theorem dX5_at_9 : decode cX5_at 9 = .ok (.if_icmp .ge 12, 3) := by decide +kernel
theorem dX5_at_12 : decode cX5_at 12 = .ok (.aload_n 0, 1) := by decide +kernel
theorem dX5_at_13 : decode cX5_at 13 = .ok (.getfield 9, 3) := by decide +kernel
theorem dX5_at_16 : decode cX5_at 16 = .ok (.iload_n 1, 1) := by decide +kernel
theorem dX5_at_17 : decode cX5_at 17 = .ok (.caload, 1) := by decide +kernel
theorem dX5_at_18 : decode cX5_at 18 = .ok (.goto 4, 3) := by decide +kernel
theorem dX5_at_21 : decode cX5_at 21 = .ok (.iconst 0, 1) := by decide +kernel
theorem dX5_at_22 : decode cX5_at 22 = .ok (.ireturn, 1) := by decide +kernel
theorem dX5_add_0 : decode cX5_add 0 = .ok (.aload_n 0, 1) := by decide +kernel
theorem dX5_add_1 : decode cX5_add 1 = .ok (.getfield 15, 3) := by decide +kernel
theorem dX5_add_4 : decode cX5_add 4 = .ok (.aload_n 0, 1) := by decide +kernel
theorem dX5_add_5 : decode cX5_add 5 = .ok (.getfield 9, 3) := by decide +kernel
theorem dX5_add_8 : decode cX5_add 8 = .ok (.arraylength, 1) := by decide +kernel
theorem dX5_add_9 : decode cX5_add 9 = .ok (.if_icmp .lt 5, 3) := by decide +kernel
theorem dX5_add_12 : decode cX5_add 12 = .ok (.iconst 0, 1) := by decide +kernel
theorem dX5_add_13 : decode cX5_add 13 = .ok (.ireturn, 1) := by decide +kernel
theorem dX5_add_14 : decode cX5_add 14 = .ok (.aload_n 0, 1) := by decide +kernel
theorem dX5_add_15 : decode cX5_add 15 = .ok (.getfield 9, 3) := by decide +kernel
theorem dX5_add_18 : decode cX5_add 18 = .ok (.aload_n 0, 1) := by decide +kernel
theorem dX5_add_19 : decode cX5_add 19 = .ok (.getfield 15, 3) := by decide +kernel
theorem dX5_add_22 : decode cX5_add 22 = .ok (.iload_n 1, 1) := by decide +kernel
theorem dX5_add_23 : decode cX5_add 23 = .ok (.castore, 1) := by decide +kernel
theorem dX5_add_24 : decode cX5_add 24 = .ok (.aload_n 0, 1) := by decide +kernel
theorem dX5_add_25 : decode cX5_add 25 = .ok (.dup, 1) := by decide +kernel
theorem dX5_add_26 : decode cX5_add 26 = .ok (.getfield 15, 3) := by decide +kernel
theorem dX5_add_29 : decode cX5_add 29 = .ok (.iconst 1, 1) := by decide +kernel
theorem dX5_add_30 : decode cX5_add 30 = .ok (.iadd, 1) := by decide +kernel
theorem dX5_add_31 : decode cX5_add 31 = .ok (.putfield 15, 3) := by decide +kernel
theorem dX5_add_34 : decode cX5_add 34 = .ok (.iconst 1, 1) := by decide +kernel
theorem dX5_add_35 : decode cX5_add 35 = .ok (.ireturn, 1) := by decide +kernel
theorem dX5_clear_0 : decode cX5_clear 0 = .ok (.aload_n 0, 1) := by decide +kernel
theorem dX5_clear_1 : decode cX5_clear 1 = .ok (.iconst 0, 1) := by decide +kernel
theorem dX5_clear_2 : decode cX5_clear 2 = .ok (.putfield 15, 3) := by decide +kernel
theorem dX5_clear_5 : decode cX5_clear 5 = .ok (.return_, 1) := by decide +kernel
theorem dX5_isName_0 : decode cX5_isName 0 = .ok (.iload_n 0, 1) := by decide +kernel
theorem dX5_isName_1 : decode cX5_isName 1 = .ok (.bipush 97, 2) := by decide +kernel
theorem dX5_isName_3 : decode cX5_isName 3 = .ok (.if_icmp .lt 13, 3) := by decide +kernel
theorem dX5_isName_6 : decode cX5_isName 6 = .ok (.iload_n 0, 1) := by decide +kernel
theorem dX5_isName_7 : decode cX5_isName 7 = .ok (.bipush 102, 2) := by decide +kernel
theorem dX5_isName_9 : decode cX5_isName 9 = .ok (.if_icmp .ge 7, 3) := by decide +kernel
theorem dX5_isName_12 : decode cX5_isName 12 = .ok (.iconst 1, 1) := by decide +kernel
theorem dX5_isName_13 : decode cX5_isName 13 = .ok (.goto 4, 3) := by decide +kernel
theorem dX5_isName_16 : decode cX5_isName 16 = .ok (.iconst 0, 1) := by decide +kernel
theorem dX5_isName_17 : decode cX5_isName 17 = .ok (.ireturn, 1) := by decide +kernel
theorem dX6_init_0 : decode cX6_init 0 = .ok (.aload_n 0, 1) := by decide +kernel
theorem dX6_init_1 : decode cX6_init 1 = .ok (.invokespecial 3, 3) := by decide +kernel
theorem dX6_init_4 : decode cX6_init 4 = .ok (.aload_n 0, 1) := by decide +kernel
theorem dX6_init_5 : decode cX6_init 5 = .ok (.sipush 200, 3) := by decide +kernel
theorem dX6_init_8 : decode cX6_init 8 = .ok (.newarray .int, 2) := by decide +kernel
theorem dX6_init_10 : decode cX6_init 10 = .ok (.putfield 9, 3) := by decide +kernel
theorem dX6_init_13 : decode cX6_init 13 = .ok (.aload_n 0, 1) := by decide +kernel
theorem dX6_init_14 : decode cX6_init 14 = .ok (.iconst 0, 1) := by decide +kernel
theorem dX6_init_15 : decode cX6_init 15 = .ok (.putfield 15, 3) := by decide +kernel
theorem dX6_init_18 : decode cX6_init 18 = .ok (.return_, 1) := by decide +kernel
theorem dX6_length_0 : decode cX6_length 0 = .ok (.aload_n 0, 1) := by decide +kernel
theorem dX6_length_1 : decode cX6_length 1 = .ok (.getfield 15, 3) := by decide +kernel
theorem dX6_length_4 : decode cX6_length 4 = .ok (.ireturn, 1) := by decide +kernel
theorem dX6_at_0 : decode cX6_at 0 = .ok (.iload_n 1, 1) := by decide +kernel
theorem dX6_at_1 : decode cX6_at 1 = .ok (.ifCond .lt 20, 3) := by decide +kernel
theorem dX6_at_4 : decode cX6_at 4 = .ok (.iload_n 1, 1) := by decide +kernel
theorem dX6_at_5 : decode cX6_at 5 = .ok (.aload_n 0, 1) := by decide +kernel
theorem dX6_at_6 : decode cX6_at 6 = .ok (.getfield 15, 3) := by decide +kernel
theorem dX6_at_9 : decode cX6_at 9 = .ok (.if_icmp .ge 12, 3) := by decide +kernel
theorem dX6_at_12 : decode cX6_at 12 = .ok (.aload_n 0, 1) := by decide +kernel
theorem dX6_at_13 : decode cX6_at 13 = .ok (.getfield 9, 3) := by decide +kernel
theorem dX6_at_16 : decode cX6_at 16 = .ok (.iload_n 1, 1) := by decide +kernel
theorem dX6_at_17 : decode cX6_at 17 = .ok (.iaload, 1) := by decide +kernel
theorem dX6_at_18 : decode cX6_at 18 = .ok (.goto 4, 3) := by decide +kernel
theorem dX6_at_21 : decode cX6_at 21 = .ok (.iconst 0, 1) := by decide +kernel
theorem dX6_at_22 : decode cX6_at 22 = .ok (.ireturn, 1) := by decide +kernel
theorem dX6_clear_0 : decode cX6_clear 0 = .ok (.aload_n 0, 1) := by decide +kernel
theorem dX6_clear_1 : decode cX6_clear 1 = .ok (.iconst 0, 1) := by decide +kernel
theorem dX6_clear_2 : decode cX6_clear 2 = .ok (.putfield 15, 3) := by decide +kernel
theorem dX6_clear_5 : decode cX6_clear 5 = .ok (.return_, 1) := by decide +kernel
theorem dX6_copyFrom_0 : decode cX6_copyFrom 0 = .ok (.aload_n 0, 1) := by decide +kernel
theorem dX6_copyFrom_1 : decode cX6_copyFrom 1 = .ok (.iconst 0, 1) := by decide +kernel
theorem dX6_copyFrom_2 : decode cX6_copyFrom 2 = .ok (.putfield 15, 3) := by decide +kernel
theorem dX6_copyFrom_5 : decode cX6_copyFrom 5 = .ok (.aload_n 0, 1) := by decide +kernel
theorem dX6_copyFrom_6 : decode cX6_copyFrom 6 = .ok (.aload_n 1, 1) := by decide +kernel
theorem dX6_copyFrom_7 : decode cX6_copyFrom 7 = .ok (.invokevirtual 19, 3) := by decide +kernel
theorem dX6_copyFrom_10 : decode cX6_copyFrom 10 = .ok (.pop, 1) := by decide +kernel
theorem dX6_copyFrom_11 : decode cX6_copyFrom 11 = .ok (.return_, 1) := by decide +kernel
theorem dX6_add_0 : decode cX6_add 0 = .ok (.aload_n 0, 1) := by decide +kernel
theorem dX6_add_1 : decode cX6_add 1 = .ok (.getfield 15, 3) := by decide +kernel
theorem dX6_add_4 : decode cX6_add 4 = .ok (.aload_n 0, 1) := by decide +kernel
theorem dX6_add_5 : decode cX6_add 5 = .ok (.getfield 9, 3) := by decide +kernel
theorem dX6_add_8 : decode cX6_add 8 = .ok (.arraylength, 1) := by decide +kernel
theorem dX6_add_9 : decode cX6_add 9 = .ok (.if_icmp .lt 5, 3) := by decide +kernel
theorem dX6_add_12 : decode cX6_add 12 = .ok (.iconst 0, 1) := by decide +kernel
theorem dX6_add_13 : decode cX6_add 13 = .ok (.ireturn, 1) := by decide +kernel
theorem dX6_add_14 : decode cX6_add 14 = .ok (.aload_n 0, 1) := by decide +kernel
theorem dX6_add_15 : decode cX6_add 15 = .ok (.getfield 9, 3) := by decide +kernel
theorem dX6_add_18 : decode cX6_add 18 = .ok (.aload_n 0, 1) := by decide +kernel
theorem dX6_add_19 : decode cX6_add 19 = .ok (.getfield 15, 3) := by decide +kernel
theorem dX6_add_22 : decode cX6_add 22 = .ok (.iload_n 1, 1) := by decide +kernel
theorem dX6_add_23 : decode cX6_add 23 = .ok (.iastore, 1) := by decide +kernel
theorem dX6_add_24 : decode cX6_add 24 = .ok (.aload_n 0, 1) := by decide +kernel
theorem dX6_add_25 : decode cX6_add 25 = .ok (.dup, 1) := by decide +kernel
theorem dX6_add_26 : decode cX6_add 26 = .ok (.getfield 15, 3) := by decide +kernel
theorem dX6_add_29 : decode cX6_add 29 = .ok (.iconst 1, 1) := by decide +kernel
theorem dX6_add_30 : decode cX6_add 30 = .ok (.iadd, 1) := by decide +kernel
theorem dX6_add_31 : decode cX6_add 31 = .ok (.putfield 15, 3) := by decide +kernel
theorem dX6_add_34 : decode cX6_add 34 = .ok (.iconst 1, 1) := by decide +kernel
theorem dX6_add_35 : decode cX6_add 35 = .ok (.ireturn, 1) := by decide +kernel
theorem dX6_addAll_0 : decode cX6_addAll 0 = .ok (.aload_n 0, 1) := by decide +kernel
theorem dX6_addAll_1 : decode cX6_addAll 1 = .ok (.aload_n 1, 1) := by decide +kernel
theorem dX6_addAll_2 : decode cX6_addAll 2 = .ok (.iconst 0, 1) := by decide +kernel
theorem dX6_addAll_3 : decode cX6_addAll 3 = .ok (.aload_n 1, 1) := by decide +kernel
theorem dX6_addAll_4 : decode cX6_addAll 4 = .ok (.invokevirtual 23, 3) := by decide +kernel
theorem dX6_addAll_7 : decode cX6_addAll 7 = .ok (.invokevirtual 26, 3) := by decide +kernel
theorem dX6_addAll_10 : decode cX6_addAll 10 = .ok (.ireturn, 1) := by decide +kernel
theorem dX6_addInverseOf_0 : decode cX6_addInverseOf 0 = .ok (.aload_n 0, 1) := by decide +kernel
theorem dX6_addInverseOf_1 : decode cX6_addInverseOf 1 = .ok (.aload_n 1, 1) := by decide +kernel
theorem dX6_addInverseOf_2 : decode cX6_addInverseOf 2 = .ok (.iconst 0, 1) := by decide +kernel
theorem dX6_addInverseOf_3 : decode cX6_addInverseOf 3 = .ok (.aload_n 1, 1) := by decide +kernel
theorem dX6_addInverseOf_4 : decode cX6_addInverseOf 4 = .ok (.invokevirtual 23, 3) := by decide +kernel
theorem dX6_addInverseOf_7 : decode cX6_addInverseOf 7 = .ok (.invokevirtual 30, 3) := by decide +kernel
theorem dX6_addInverseOf_10 : decode cX6_addInverseOf 10 = .ok (.ireturn, 1) := by decide +kernel
theorem dX6_repeatFrom_0 : decode cX6_repeatFrom 0 = .ok (.aload_n 0, 1) := by decide +kernel
theorem dX6_repeatFrom_1 : decode cX6_repeatFrom 1 = .ok (.getfield 15, 3) := by decide +kernel
theorem dX6_repeatFrom_4 : decode cX6_repeatFrom 4 = .ok (.istore_n 3, 1) := by decide +kernel
theorem dX6_repeatFrom_5 : decode cX6_repeatFrom 5 = .ok (.iconst 1, 1) := by decide +kernel
theorem dX6_repeatFrom_6 : decode cX6_repeatFrom 6 = .ok (.istore 4, 2) := by decide +kernel
theorem dX6_repeatFrom_8 : decode cX6_repeatFrom 8 = .ok (.iconst 1, 1) := by decide +kernel
theorem dX6_repeatFrom_9 : decode cX6_repeatFrom 9 = .ok (.istore 5, 2) := by decide +kernel
theorem dX6_repeatFrom_11 : decode cX6_repeatFrom 11 = .ok (.iload 4, 2) := by decide +kernel
theorem dX6_repeatFrom_13 : decode cX6_repeatFrom 13 = .ok (.ifCond .eq 24, 3) := by decide +kernel
theorem dX6_repeatFrom_16 : decode cX6_repeatFrom 16 = .ok (.iload 5, 2) := by decide +kernel
theorem dX6_repeatFrom_18 : decode cX6_repeatFrom 18 = .ok (.iload_n 2, 1) := by decide +kernel
theorem dX6_repeatFrom_19 : decode cX6_repeatFrom 19 = .ok (.if_icmp .ge 18, 3) := by decide +kernel
theorem dX6_repeatFrom_22 : decode cX6_repeatFrom 22 = .ok (.aload_n 0, 1) := by decide +kernel
theorem dX6_repeatFrom_23 : decode cX6_repeatFrom 23 = .ok (.aload_n 0, 1) := by decide +kernel
theorem dX6_repeatFrom_24 : decode cX6_repeatFrom 24 = .ok (.iload_n 1, 1) := by decide +kernel
theorem dX6_repeatFrom_25 : decode cX6_repeatFrom 25 = .ok (.iload_n 3, 1) := by decide +kernel
theorem dX6_repeatFrom_26 : decode cX6_repeatFrom 26 = .ok (.invokevirtual 26, 3) := by decide +kernel
theorem dX6_repeatFrom_29 : decode cX6_repeatFrom 29 = .ok (.istore 4, 2) := by decide +kernel
theorem dX6_repeatFrom_31 : decode cX6_repeatFrom 31 = .ok (.iinc 5 1, 3) := by decide +kernel
theorem dX6_repeatFrom_34 : decode cX6_repeatFrom 34 = .ok (.goto (-23), 3) := by decide +kernel
theorem dX6_repeatFrom_37 : decode cX6_repeatFrom 37 = .ok (.iload 4, 2) := by decide +kernel
theorem dX6_repeatFrom_39 : decode cX6_repeatFrom 39 = .ok (.ireturn, 1) := by decide +kernel
theorem dX6_closeCommutator_0 : decode cX6_closeCommutator 0 = .ok (.aload_n 0, 1) := by decide +kernel
theorem dX6_closeCommutator_1 : decode cX6_closeCommutator 1 = .ok (.getfield 15, 3) := by decide +kernel
theorem dX6_closeCommutator_4 : decode cX6_closeCommutator 4 = .ok (.istore_n 3, 1) := by decide +kernel
theorem dX6_closeCommutator_5 : decode cX6_closeCommutator 5 = .ok (.aload_n 0, 1) := by decide +kernel
theorem dX6_closeCommutator_6 : decode cX6_closeCommutator 6 = .ok (.aload_n 0, 1) := by decide +kernel
theorem dX6_closeCommutator_7 : decode cX6_closeCommutator 7 = .ok (.iload_n 1, 1) := by decide +kernel
theorem dX6_closeCommutator_8 : decode cX6_closeCommutator 8 = .ok (.iload_n 2, 1) := by decide +kernel
theorem dX6_closeCommutator_9 : decode cX6_closeCommutator 9 = .ok (.invokevirtual 30, 3) := by decide +kernel
theorem dX6_closeCommutator_12 : decode cX6_closeCommutator 12 = .ok (.ifCond .eq 17, 3) := by decide +kernel
theorem dX6_closeCommutator_15 : decode cX6_closeCommutator 15 = .ok (.aload_n 0, 1) := by decide +kernel
theorem dX6_closeCommutator_16 : decode cX6_closeCommutator 16 = .ok (.aload_n 0, 1) := by decide +kernel
theorem dX6_closeCommutator_17 : decode cX6_closeCommutator 17 = .ok (.iload_n 2, 1) := by decide +kernel
theorem dX6_closeCommutator_18 : decode cX6_closeCommutator 18 = .ok (.iload_n 3, 1) := by decide +kernel
theorem dX6_closeCommutator_19 : decode cX6_closeCommutator 19 = .ok (.invokevirtual 30, 3) := by decide +kernel
theorem dX6_closeCommutator_22 : decode cX6_closeCommutator 22 = .ok (.ifCond .eq 7, 3) := by decide +kernel
theorem dX6_closeCommutator_25 : decode cX6_closeCommutator 25 = .ok (.iconst 1, 1) := by decide +kernel
theorem dX6_closeCommutator_26 : decode cX6_closeCommutator 26 = .ok (.goto 4, 3) := by decide +kernel
theorem dX6_closeCommutator_29 : decode cX6_closeCommutator 29 = .ok (.iconst 0, 1) := by decide +kernel
theorem dX6_closeCommutator_30 : decode cX6_closeCommutator 30 = .ok (.ireturn, 1) := by decide +kernel
theorem dX6_invertFrom_0 : decode cX6_invertFrom 0 = .ok (.iload_n 1, 1) := by decide +kernel
theorem dX6_invertFrom_1 : decode cX6_invertFrom 1 = .ok (.ifCond .ge 4, 3) := by decide +kernel
theorem dX6_invertFrom_4 : decode cX6_invertFrom 4 = .ok (.return_, 1) := by decide +kernel
theorem dX6_invertFrom_5 : decode cX6_invertFrom 5 = .ok (.aload_n 0, 1) := by decide +kernel
theorem dX6_invertFrom_6 : decode cX6_invertFrom 6 = .ok (.getfield 15, 3) := by decide +kernel
theorem dX6_invertFrom_9 : decode cX6_invertFrom 9 = .ok (.iconst 1, 1) := by decide +kernel
theorem dX6_invertFrom_10 : decode cX6_invertFrom 10 = .ok (.isub, 1) := by decide +kernel
theorem dX6_invertFrom_11 : decode cX6_invertFrom 11 = .ok (.istore_n 2, 1) := by decide +kernel
theorem dX6_invertFrom_12 : decode cX6_invertFrom 12 = .ok (.iload_n 1, 1) := by decide +kernel
theorem dX6_invertFrom_13 : decode cX6_invertFrom 13 = .ok (.istore_n 3, 1) := by decide +kernel
theorem dX6_invertFrom_14 : decode cX6_invertFrom 14 = .ok (.iload_n 3, 1) := by decide +kernel
theorem dX6_invertFrom_15 : decode cX6_invertFrom 15 = .ok (.iload_n 2, 1) := by decide +kernel
theorem dX6_invertFrom_16 : decode cX6_invertFrom 16 = .ok (.if_icmp .gt 44, 3) := by decide +kernel
theorem dX6_invertFrom_19 : decode cX6_invertFrom 19 = .ok (.aload_n 0, 1) := by decide +kernel
theorem dX6_invertFrom_20 : decode cX6_invertFrom 20 = .ok (.getfield 9, 3) := by decide +kernel
theorem dX6_invertFrom_23 : decode cX6_invertFrom 23 = .ok (.iload_n 2, 1) := by decide +kernel
theorem dX6_invertFrom_24 : decode cX6_invertFrom 24 = .ok (.iaload, 1) := by decide +kernel
theorem dX6_invertFrom_25 : decode cX6_invertFrom 25 = .ok (.iconst 1, 1) := by decide +kernel
theorem dX6_invertFrom_26 : decode cX6_invertFrom 26 = .ok (.ixor, 1) := by decide +kernel
theorem dX6_invertFrom_27 : decode cX6_invertFrom 27 = .ok (.istore 4, 2) := by decide +kernel
theorem dX6_invertFrom_29 : decode cX6_invertFrom 29 = .ok (.aload_n 0, 1) := by decide +kernel
theorem dX6_invertFrom_30 : decode cX6_invertFrom 30 = .ok (.getfield 9, 3) := by decide +kernel
theorem dX6_invertFrom_33 : decode cX6_invertFrom 33 = .ok (.iload_n 2, 1) := by decide +kernel
theorem dX6_invertFrom_34 : decode cX6_invertFrom 34 = .ok (.aload_n 0, 1) := by decide +kernel
theorem dX6_invertFrom_35 : decode cX6_invertFrom 35 = .ok (.getfield 9, 3) := by decide +kernel
theorem dX6_invertFrom_38 : decode cX6_invertFrom 38 = .ok (.iload_n 3, 1) := by decide +kernel
theorem dX6_invertFrom_39 : decode cX6_invertFrom 39 = .ok (.iaload, 1) := by decide +kernel
theorem dX6_invertFrom_40 : decode cX6_invertFrom 40 = .ok (.iconst 1, 1) := by decide +kernel
theorem dX6_invertFrom_41 : decode cX6_invertFrom 41 = .ok (.ixor, 1) := by decide +kernel
theorem dX6_invertFrom_42 : decode cX6_invertFrom 42 = .ok (.iastore, 1) := by decide +kernel
theorem dX6_invertFrom_43 : decode cX6_invertFrom 43 = .ok (.aload_n 0, 1) := by decide +kernel
theorem dX6_invertFrom_44 : decode cX6_invertFrom 44 = .ok (.getfield 9, 3) := by decide +kernel
theorem dX6_invertFrom_47 : decode cX6_invertFrom 47 = .ok (.iload_n 3, 1) := by decide +kernel
theorem dX6_invertFrom_48 : decode cX6_invertFrom 48 = .ok (.iload 4, 2) := by decide +kernel
theorem dX6_invertFrom_50 : decode cX6_invertFrom 50 = .ok (.iastore, 1) := by decide +kernel
theorem dX6_invertFrom_51 : decode cX6_invertFrom 51 = .ok (.iinc 2 (-1), 3) := by decide +kernel
theorem dX6_invertFrom_54 : decode cX6_invertFrom 54 = .ok (.iinc 3 1, 3) := by decide +kernel
theorem dX6_invertFrom_57 : decode cX6_invertFrom 57 = .ok (.goto (-43), 3) := by decide +kernel
theorem dX6_invertFrom_60 : decode cX6_invertFrom 60 = .ok (.return_, 1) := by decide +kernel
theorem dX6_addPart_0 : decode cX6_addPart 0 = .ok (.iconst 1, 1) := by decide +kernel
theorem dX6_addPart_1 : decode cX6_addPart 1 = .ok (.istore 4, 2) := by decide +kernel
theorem dX6_addPart_3 : decode cX6_addPart 3 = .ok (.iload_n 2, 1) := by decide +kernel
theorem dX6_addPart_4 : decode cX6_addPart 4 = .ok (.istore 5, 2) := by decide +kernel
theorem dX6_addPart_6 : decode cX6_addPart 6 = .ok (.iload 4, 2) := by decide +kernel
theorem dX6_addPart_8 : decode cX6_addPart 8 = .ok (.ifCond .eq 27, 3) := by decide +kernel
theorem dX6_addPart_11 : decode cX6_addPart 11 = .ok (.iload 5, 2) := by decide +kernel
theorem dX6_addPart_13 : decode cX6_addPart 13 = .ok (.iload_n 3, 1) := by decide +kernel
theorem dX6_addPart_14 : decode cX6_addPart 14 = .ok (.if_icmp .ge 21, 3) := by decide +kernel
theorem dX6_addPart_17 : decode cX6_addPart 17 = .ok (.aload_n 0, 1) := by decide +kernel
theorem dX6_addPart_18 : decode cX6_addPart 18 = .ok (.aload_n 1, 1) := by decide +kernel
theorem dX6_addPart_19 : decode cX6_addPart 19 = .ok (.iload 5, 2) := by decide +kernel
theorem dX6_addPart_21 : decode cX6_addPart 21 = .ok (.invokevirtual 33, 3) := by decide +kernel
theorem dX6_addPart_24 : decode cX6_addPart 24 = .ok (.invokevirtual 37, 3) := by decide +kernel
theorem dX6_addPart_27 : decode cX6_addPart 27 = .ok (.istore 4, 2) := by decide +kernel
theorem dX6_addPart_29 : decode cX6_addPart 29 = .ok (.iinc 5 1, 3) := by decide +kernel
theorem dX6_addPart_32 : decode cX6_addPart 32 = .ok (.goto (-26), 3) := by decide +kernel
theorem dX6_addPart_35 : decode cX6_addPart 35 = .ok (.iload 4, 2) := by decide +kernel
theorem dX6_addPart_37 : decode cX6_addPart 37 = .ok (.ireturn, 1) := by decide +kernel
theorem dX6_addInverseOfPart_0 : decode cX6_addInverseOfPart 0 = .ok (.iconst 1, 1) := by decide +kernel
theorem dX6_addInverseOfPart_1 : decode cX6_addInverseOfPart 1 = .ok (.istore 4, 2) := by decide +kernel
theorem dX6_addInverseOfPart_3 : decode cX6_addInverseOfPart 3 = .ok (.iload_n 3, 1) := by decide +kernel
theorem dX6_addInverseOfPart_4 : decode cX6_addInverseOfPart 4 = .ok (.iconst 1, 1) := by decide +kernel
theorem dX6_addInverseOfPart_5 : decode cX6_addInverseOfPart 5 = .ok (.isub, 1) := by decide +kernel
theorem dX6_addInverseOfPart_6 : decode cX6_addInverseOfPart 6 = .ok (.istore 5, 2) := by decide +kernel
theorem dX6_addInverseOfPart_8 : decode cX6_addInverseOfPart 8 = .ok (.iload 4, 2) := by decide +kernel
theorem dX6_addInverseOfPart_10 : decode cX6_addInverseOfPart 10 = .ok (.ifCond .eq 29, 3) := by decide +kernel
theorem dX6_addInverseOfPart_13 : decode cX6_addInverseOfPart 13 = .ok (.iload 5, 2) := by decide +kernel
theorem dX6_addInverseOfPart_15 : decode cX6_addInverseOfPart 15 = .ok (.iload_n 2, 1) := by decide +kernel
theorem dX6_addInverseOfPart_16 : decode cX6_addInverseOfPart 16 = .ok (.if_icmp .lt 23, 3) := by decide +kernel
theorem dX6_addInverseOfPart_19 : decode cX6_addInverseOfPart 19 = .ok (.aload_n 0, 1) := by decide +kernel
theorem dX6_addInverseOfPart_20 : decode cX6_addInverseOfPart 20 = .ok (.aload_n 1, 1) := by decide +kernel
theorem dX6_addInverseOfPart_21 : decode cX6_addInverseOfPart 21 = .ok (.iload 5, 2) := by decide +kernel
theorem dX6_addInverseOfPart_23 : decode cX6_addInverseOfPart 23 = .ok (.invokevirtual 33, 3) := by decide +kernel
theorem dX6_addInverseOfPart_26 : decode cX6_addInverseOfPart 26 = .ok (.iconst 1, 1) := by decide +kernel
theorem dX6_addInverseOfPart_27 : decode cX6_addInverseOfPart 27 = .ok (.ixor, 1) := by decide +kernel
theorem dX6_addInverseOfPart_28 : decode cX6_addInverseOfPart 28 = .ok (.invokevirtual 37, 3) := by decide +kernel
theorem dX6_addInverseOfPart_31 : decode cX6_addInverseOfPart 31 = .ok (.istore 4, 2) := by decide +kernel
theorem dX6_addInverseOfPart_33 : decode cX6_addInverseOfPart 33 = .ok (.iinc 5 (-1), 3) := by decide +kernel
theorem dX6_addInverseOfPart_36 : decode cX6_addInverseOfPart 36 = .ok (.goto (-28), 3) := by decide +kernel
theorem dX6_addInverseOfPart_39 : decode cX6_addInverseOfPart 39 = .ok (.iload 4, 2) := by decide +kernel
theorem dX6_addInverseOfPart_41 : decode cX6_addInverseOfPart 41 = .ok (.ireturn, 1) := by decide +kernel
theorem dX7_init_0 : decode cX7_init 0 = .ok (.aload_n 0, 1) := by decide +kernel
theorem dX7_init_1 : decode cX7_init 1 = .ok (.invokespecial 3, 3) := by decide +kernel
theorem dX7_init_4 : decode cX7_init 4 = .ok (.aload_n 0, 1) := by decide +kernel
theorem dX7_init_5 : decode cX7_init 5 = .ok (.bipush 6, 2) := by decide +kernel
theorem dX7_init_7 : decode cX7_init 7 = .ok (.newarray .char, 2) := by decide +kernel
theorem dX7_init_9 : decode cX7_init 9 = .ok (.putfield 9, 3) := by decide +kernel
theorem dX7_init_12 : decode cX7_init 12 = .ok (.return_, 1) := by decide +kernel
theorem dX7_errorIn_0 : decode cX7_errorIn 0 = .ok (.aload_n 0, 1) := by decide +kernel
theorem dX7_errorIn_1 : decode cX7_errorIn 1 = .ok (.iconst 0, 1) := by decide +kernel
theorem dX7_errorIn_2 : decode cX7_errorIn 2 = .ok (.putfield 15, 3) := by decide +kernel
theorem dX7_errorIn_5 : decode cX7_errorIn 5 = .ok (.aload_n 0, 1) := by decide +kernel
theorem dX7_errorIn_6 : decode cX7_errorIn 6 = .ok (.iconst 0, 1) := by decide +kernel
theorem dX7_errorIn_7 : decode cX7_errorIn 7 = .ok (.putfield 19, 3) := by decide +kernel
theorem dX7_errorIn_10 : decode cX7_errorIn 10 = .ok (.iconst 0, 1) := by decide +kernel
theorem dX7_errorIn_11 : decode cX7_errorIn 11 = .ok (.istore_n 2, 1) := by decide +kernel
theorem dX7_errorIn_12 : decode cX7_errorIn 12 = .ok (.iload_n 2, 1) := by decide +kernel
theorem dX7_errorIn_13 : decode cX7_errorIn 13 = .ok (.aload_n 1, 1) := by decide +kernel
theorem dX7_errorIn_14 : decode cX7_errorIn 14 = .ok (.invokevirtual 22, 3) := by decide +kernel
theorem dX7_errorIn_17 : decode cX7_errorIn 17 = .ok (.if_icmp .ge 23, 3) := by decide +kernel
theorem dX7_errorIn_20 : decode cX7_errorIn 20 = .ok (.aload_n 0, 1) := by decide +kernel
theorem dX7_errorIn_21 : decode cX7_errorIn 21 = .ok (.aload_n 1, 1) := by decide +kernel
theorem dX7_errorIn_22 : decode cX7_errorIn 22 = .ok (.iload_n 2, 1) := by decide +kernel
theorem dX7_errorIn_23 : decode cX7_errorIn 23 = .ok (.invokevirtual 28, 3) := by decide +kernel
theorem dX7_errorIn_26 : decode cX7_errorIn 26 = .ok (.invokevirtual 32, 3) := by decide +kernel
theorem dX7_errorIn_29 : decode cX7_errorIn 29 = .ok (.ifCond .ne 5, 3) := by decide +kernel
theorem dX7_errorIn_32 : decode cX7_errorIn 32 = .ok (.iload_n 2, 1) := by decide +kernel
theorem dX7_errorIn_33 : decode cX7_errorIn 33 = .ok (.ireturn, 1) := by decide +kernel
theorem dX7_errorIn_34 : decode cX7_errorIn 34 = .ok (.iinc 2 1, 3) := by decide +kernel
theorem dX7_errorIn_37 : decode cX7_errorIn 37 = .ok (.goto (-25), 3) := by decide +kernel
theorem dX7_errorIn_40 : decode cX7_errorIn 40 = .ok (.aload_n 0, 1) := by decide +kernel
theorem dX7_errorIn_41 : decode cX7_errorIn 41 = .ok (.getfield 15, 3) := by decide +kernel
theorem dX7_errorIn_44 : decode cX7_errorIn 44 = .ok (.ifCond .le 10, 3) := by decide +kernel
theorem dX7_errorIn_47 : decode cX7_errorIn 47 = .ok (.aload_n 1, 1) := by decide +kernel
theorem dX7_errorIn_48 : decode cX7_errorIn 48 = .ok (.invokevirtual 22, 3) := by decide +kernel
theorem dX7_errorIn_51 : decode cX7_errorIn 51 = .ok (.goto 4, 3) := by decide +kernel
theorem dX7_errorIn_54 : decode cX7_errorIn 54 = .ok (.iconst (-1), 1) := by decide +kernel
theorem dX7_errorIn_55 : decode cX7_errorIn 55 = .ok (.ireturn, 1) := by decide +kernel
theorem dX7_accepts_0 : decode cX7_accepts 0 = .ok (.iload_n 1, 1) := by decide +kernel
theorem dX7_accepts_1 : decode cX7_accepts 1 = .ok (.invokestatic 36, 3) := by decide +kernel
theorem dX7_accepts_4 : decode cX7_accepts 4 = .ok (.ifCond .eq 10, 3) := by decide +kernel
theorem dX7_accepts_7 : decode cX7_accepts 7 = .ok (.aload_n 0, 1) := by decide +kernel
theorem dX7_accepts_8 : decode cX7_accepts 8 = .ok (.iconst 2, 1) := by decide +kernel
theorem dX7_accepts_9 : decode cX7_accepts 9 = .ok (.putfield 19, 3) := by decide +kernel
theorem dX7_accepts_12 : decode cX7_accepts 12 = .ok (.iconst 1, 1) := by decide +kernel
theorem dX7_accepts_13 : decode cX7_accepts 13 = .ok (.ireturn, 1) := by decide +kernel
theorem dX7_accepts_14 : decode cX7_accepts 14 = .ok (.iload_n 1, 1) := by decide +kernel
theorem dX7_accepts_15 : decode cX7_accepts 15 = .ok (.bipush 40, 2) := by decide +kernel
theorem dX7_accepts_17 : decode cX7_accepts 17 = .ok (.if_icmp .eq 9, 3) := by decide +kernel
theorem dX7_accepts_20 : decode cX7_accepts 20 = .ok (.iload_n 1, 1) := by decide +kernel
theorem dX7_accepts_21 : decode cX7_accepts 21 = .ok (.bipush 60, 2) := by decide +kernel
theorem dX7_accepts_23 : decode cX7_accepts 23 = .ok (.if_icmp .ne 9, 3) := by decide +kernel
theorem dX7_accepts_26 : decode cX7_accepts 26 = .ok (.aload_n 0, 1) := by decide +kernel
theorem dX7_accepts_27 : decode cX7_accepts 27 = .ok (.iload_n 1, 1) := by decide +kernel
theorem dX7_accepts_28 : decode cX7_accepts 28 = .ok (.invokevirtual 39, 3) := by decide +kernel
theorem dX7_accepts_31 : decode cX7_accepts 31 = .ok (.ireturn, 1) := by decide +kernel
theorem dX7_accepts_32 : decode cX7_accepts 32 = .ok (.iload_n 1, 1) := by decide +kernel
theorem dX7_accepts_33 : decode cX7_accepts 33 = .ok (.bipush 41, 2) := by decide +kernel
theorem dX7_accepts_35 : decode cX7_accepts 35 = .ok (.if_icmp .ne 10, 3) := by decide +kernel
theorem dX7_accepts_38 : decode cX7_accepts 38 = .ok (.aload_n 0, 1) := by decide +kernel
theorem dX7_accepts_39 : decode cX7_accepts 39 = .ok (.bipush 40, 2) := by decide +kernel
theorem dX7_accepts_41 : decode cX7_accepts 41 = .ok (.invokevirtual 42, 3) := by decide +kernel
theorem dX7_accepts_44 : decode cX7_accepts 44 = .ok (.ireturn, 1) := by decide +kernel
theorem dX7_accepts_45 : decode cX7_accepts 45 = .ok (.iload_n 1, 1) := by decide +kernel
theorem dX7_accepts_46 : decode cX7_accepts 46 = .ok (.bipush 62, 2) := by decide +kernel
theorem dX7_accepts_48 : decode cX7_accepts 48 = .ok (.if_icmp .ne 10, 3) := by decide +kernel
theorem dX7_accepts_51 : decode cX7_accepts 51 = .ok (.aload_n 0, 1) := by decide +kernel
theorem dX7_accepts_52 : decode cX7_accepts 52 = .ok (.bipush 44, 2) := by decide +kernel
theorem dX7_accepts_54 : decode cX7_accepts 54 = .ok (.invokevirtual 42, 3) := by decide +kernel
theorem dX7_accepts_57 : decode cX7_accepts 57 = .ok (.ireturn, 1) := by decide +kernel
theorem dX7_accepts_58 : decode cX7_accepts 58 = .ok (.iload_n 1, 1) := by decide +kernel
theorem dX7_accepts_59 : decode cX7_accepts 59 = .ok (.bipush 44, 2) := by decide +kernel
theorem dX7_accepts_61 : decode cX7_accepts 61 = .ok (.if_icmp .ne 27, 3) := by decide +kernel
theorem dX7_accepts_64 : decode cX7_accepts 64 = .ok (.aload_n 0, 1) := by decide +kernel
theorem dX7_accepts_65 : decode cX7_accepts 65 = .ok (.bipush 60, 2) := by decide +kernel
theorem dX7_accepts_67 : decode cX7_accepts 67 = .ok (.invokevirtual 42, 3) := by decide +kernel
theorem dX7_accepts_70 : decode cX7_accepts 70 = .ok (.ifCond .eq 16, 3) := by decide +kernel
theorem dX7_accepts_73 : decode cX7_accepts 73 = .ok (.aload_n 0, 1) := by decide +kernel
theorem dX7_accepts_74 : decode cX7_accepts 74 = .ok (.bipush 44, 2) := by decide +kernel
theorem dX7_accepts_76 : decode cX7_accepts 76 = .ok (.invokevirtual 39, 3) := by decide +kernel
theorem dX7_accepts_79 : decode cX7_accepts 79 = .ok (.ifCond .eq 7, 3) := by decide +kernel
theorem dX7_accepts_82 : decode cX7_accepts 82 = .ok (.iconst 1, 1) := by decide +kernel
theorem dX7_accepts_83 : decode cX7_accepts 83 = .ok (.goto 4, 3) := by decide +kernel
theorem dX7_accepts_86 : decode cX7_accepts 86 = .ok (.iconst 0, 1) := by decide +kernel
theorem dX7_accepts_87 : decode cX7_accepts 87 = .ok (.ireturn, 1) := by decide +kernel
theorem dX7_accepts_88 : decode cX7_accepts 88 = .ok (.iload_n 1, 1) := by decide +kernel
theorem dX7_accepts_89 : decode cX7_accepts 89 = .ok (.bipush 39, 2) := by decide +kernel
theorem dX7_accepts_91 : decode cX7_accepts 91 = .ok (.if_icmp .ne 24, 3) := by decide +kernel
theorem dX7_accepts_94 : decode cX7_accepts 94 = .ok (.aload_n 0, 1) := by decide +kernel
theorem dX7_accepts_95 : decode cX7_accepts 95 = .ok (.getfield 19, 3) := by decide +kernel
theorem dX7_accepts_98 : decode cX7_accepts 98 = .ok (.iconst 2, 1) := by decide +kernel
theorem dX7_accepts_99 : decode cX7_accepts 99 = .ok (.if_icmp .ne 7, 3) := by decide +kernel
theorem dX7_accepts_102 : decode cX7_accepts 102 = .ok (.iconst 1, 1) := by decide +kernel
theorem dX7_accepts_103 : decode cX7_accepts 103 = .ok (.goto 4, 3) := by decide +kernel
theorem dX7_accepts_106 : decode cX7_accepts 106 = .ok (.iconst 0, 1) := by decide +kernel
theorem dX7_accepts_107 : decode cX7_accepts 107 = .ok (.istore_n 2, 1) := by decide +kernel
theorem dX7_accepts_108 : decode cX7_accepts 108 = .ok (.aload_n 0, 1) := by decide +kernel
theorem dX7_accepts_109 : decode cX7_accepts 109 = .ok (.iconst 1, 1) := by decide +kernel
theorem dX7_accepts_110 : decode cX7_accepts 110 = .ok (.putfield 19, 3) := by decide +kernel
theorem dX7_accepts_113 : decode cX7_accepts 113 = .ok (.iload_n 2, 1) := by decide +kernel
theorem dX7_accepts_114 : decode cX7_accepts 114 = .ok (.ireturn, 1) := by decide +kernel
theorem dX7_accepts_115 : decode cX7_accepts 115 = .ok (.aload_n 0, 1) := by decide +kernel
theorem dX7_accepts_116 : decode cX7_accepts 116 = .ok (.getfield 19, 3) := by decide +kernel
theorem dX7_accepts_119 : decode cX7_accepts 119 = .ok (.ifCond .eq 19, 3) := by decide +kernel
theorem dX7_accepts_122 : decode cX7_accepts 122 = .ok (.iload_n 1, 1) := by decide +kernel
theorem dX7_accepts_123 : decode cX7_accepts 123 = .ok (.bipush 50, 2) := by decide +kernel
theorem dX7_accepts_125 : decode cX7_accepts 125 = .ok (.if_icmp .lt 13, 3) := by decide +kernel
theorem dX7_accepts_128 : decode cX7_accepts 128 = .ok (.iload_n 1, 1) := by decide +kernel
theorem dX7_accepts_129 : decode cX7_accepts 129 = .ok (.bipush 57, 2) := by decide +kernel
theorem dX7_accepts_131 : decode cX7_accepts 131 = .ok (.if_icmp .gt 7, 3) := by decide +kernel
theorem dX7_accepts_134 : decode cX7_accepts 134 = .ok (.iconst 1, 1) := by decide +kernel
theorem dX7_accepts_135 : decode cX7_accepts 135 = .ok (.goto 4, 3) := by decide +kernel
theorem dX7_accepts_138 : decode cX7_accepts 138 = .ok (.iconst 0, 1) := by decide +kernel
theorem dX7_accepts_139 : decode cX7_accepts 139 = .ok (.istore_n 2, 1) := by decide +kernel
theorem dX7_accepts_140 : decode cX7_accepts 140 = .ok (.aload_n 0, 1) := by decide +kernel
theorem dX7_accepts_141 : decode cX7_accepts 141 = .ok (.iconst 0, 1) := by decide +kernel
theorem dX7_accepts_142 : decode cX7_accepts 142 = .ok (.putfield 19, 3) := by decide +kernel
theorem dX7_accepts_145 : decode cX7_accepts 145 = .ok (.iload_n 2, 1) := by decide +kernel
theorem dX7_accepts_146 : decode cX7_accepts 146 = .ok (.ireturn, 1) := by decide +kernel
theorem dX7_begins_0 : decode cX7_begins 0 = .ok (.aload_n 0, 1) := by decide +kernel
theorem dX7_begins_1 : decode cX7_begins 1 = .ok (.getfield 15, 3) := by decide +kernel
theorem dX7_begins_4 : decode cX7_begins 4 = .ok (.ifCond .lt 15, 3) := by decide +kernel
theorem dX7_begins_7 : decode cX7_begins 7 = .ok (.aload_n 0, 1) := by decide +kernel
theorem dX7_begins_8 : decode cX7_begins 8 = .ok (.getfield 15, 3) := by decide +kernel
theorem dX7_begins_11 : decode cX7_begins 11 = .ok (.aload_n 0, 1) := by decide +kernel
theorem dX7_begins_12 : decode cX7_begins 12 = .ok (.getfield 9, 3) := by decide +kernel
theorem dX7_begins_15 : decode cX7_begins 15 = .ok (.arraylength, 1) := by decide +kernel
theorem dX7_begins_16 : decode cX7_begins 16 = .ok (.if_icmp .lt 5, 3) := by decide +kernel
theorem dX7_begins_19 : decode cX7_begins 19 = .ok (.iconst 0, 1) := by decide +kernel
theorem dX7_begins_20 : decode cX7_begins 20 = .ok (.ireturn, 1) := by decide +kernel
theorem dX7_begins_21 : decode cX7_begins 21 = .ok (.aload_n 0, 1) := by decide +kernel
theorem dX7_begins_22 : decode cX7_begins 22 = .ok (.getfield 9, 3) := by decide +kernel
theorem dX7_begins_25 : decode cX7_begins 25 = .ok (.aload_n 0, 1) := by decide +kernel
theorem dX7_begins_26 : decode cX7_begins 26 = .ok (.getfield 15, 3) := by decide +kernel
theorem dX7_begins_29 : decode cX7_begins 29 = .ok (.iload_n 1, 1) := by decide +kernel
theorem dX7_begins_30 : decode cX7_begins 30 = .ok (.castore, 1) := by decide +kernel
theorem dX7_begins_31 : decode cX7_begins 31 = .ok (.aload_n 0, 1) := by decide +kernel
theorem dX7_begins_32 : decode cX7_begins 32 = .ok (.dup, 1) := by decide +kernel
theorem dX7_begins_33 : decode cX7_begins 33 = .ok (.getfield 15, 3) := by decide +kernel
theorem dX7_begins_36 : decode cX7_begins 36 = .ok (.iconst 1, 1) := by decide +kernel
theorem dX7_begins_37 : decode cX7_begins 37 = .ok (.iadd, 1) := by decide +kernel
theorem dX7_begins_38 : decode cX7_begins 38 = .ok (.putfield 15, 3) := by decide +kernel
theorem dX7_begins_41 : decode cX7_begins 41 = .ok (.aload_n 0, 1) := by decide +kernel
theorem dX7_begins_42 : decode cX7_begins 42 = .ok (.iconst 0, 1) := by decide +kernel
theorem dX7_begins_43 : decode cX7_begins 43 = .ok (.putfield 19, 3) := by decide +kernel
theorem dX7_begins_46 : decode cX7_begins 46 = .ok (.iconst 1, 1) := by decide +kernel
theorem dX7_begins_47 : decode cX7_begins 47 = .ok (.ireturn, 1) := by decide +kernel
theorem dX7_ends_0 : decode cX7_ends 0 = .ok (.aload_n 0, 1) := by decide +kernel
theorem dX7_ends_1 : decode cX7_ends 1 = .ok (.getfield 15, 3) := by decide +kernel
theorem dX7_ends_4 : decode cX7_ends 4 = .ok (.ifCond .le 30, 3) := by decide +kernel
theorem dX7_ends_7 : decode cX7_ends 7 = .ok (.aload_n 0, 1) := by decide +kernel
theorem dX7_ends_8 : decode cX7_ends 8 = .ok (.getfield 15, 3) := by decide +kernel
theorem dX7_ends_11 : decode cX7_ends 11 = .ok (.aload_n 0, 1) := by decide +kernel
theorem dX7_ends_12 : decode cX7_ends 12 = .ok (.getfield 9, 3) := by decide +kernel
theorem dX7_ends_15 : decode cX7_ends 15 = .ok (.arraylength, 1) := by decide +kernel
theorem dX7_ends_16 : decode cX7_ends 16 = .ok (.if_icmp .gt 18, 3) := by decide +kernel
theorem dX7_ends_19 : decode cX7_ends 19 = .ok (.aload_n 0, 1) := by decide +kernel
theorem dX7_ends_20 : decode cX7_ends 20 = .ok (.getfield 9, 3) := by decide +kernel
theorem dX7_ends_23 : decode cX7_ends 23 = .ok (.aload_n 0, 1) := by decide +kernel
theorem dX7_ends_24 : decode cX7_ends 24 = .ok (.getfield 15, 3) := by decide +kernel
theorem dX7_ends_27 : decode cX7_ends 27 = .ok (.iconst 1, 1) := by decide +kernel
theorem dX7_ends_28 : decode cX7_ends 28 = .ok (.isub, 1) := by decide +kernel
theorem dX7_ends_29 : decode cX7_ends 29 = .ok (.caload, 1) := by decide +kernel
theorem dX7_ends_30 : decode cX7_ends 30 = .ok (.iload_n 1, 1) := by decide +kernel
theorem dX7_ends_31 : decode cX7_ends 31 = .ok (.if_icmp .eq 5, 3) := by decide +kernel
theorem dX7_ends_34 : decode cX7_ends 34 = .ok (.iconst 0, 1) := by decide +kernel
theorem dX7_ends_35 : decode cX7_ends 35 = .ok (.ireturn, 1) := by decide +kernel
theorem dX7_ends_36 : decode cX7_ends 36 = .ok (.aload_n 0, 1) := by decide +kernel
theorem dX7_ends_37 : decode cX7_ends 37 = .ok (.dup, 1) := by decide +kernel
theorem dX7_ends_38 : decode cX7_ends 38 = .ok (.getfield 15, 3) := by decide +kernel
theorem dX7_ends_41 : decode cX7_ends 41 = .ok (.iconst 1, 1) := by decide +kernel
theorem dX7_ends_42 : decode cX7_ends 42 = .ok (.isub, 1) := by decide +kernel
theorem dX7_ends_43 : decode cX7_ends 43 = .ok (.putfield 15, 3) := by decide +kernel
theorem dX7_ends_46 : decode cX7_ends 46 = .ok (.aload_n 0, 1) := by decide +kernel
theorem dX7_ends_47 : decode cX7_ends 47 = .ok (.iconst 2, 1) := by decide +kernel
theorem dX7_ends_48 : decode cX7_ends 48 = .ok (.putfield 19, 3) := by decide +kernel
theorem dX7_ends_51 : decode cX7_ends 51 = .ok (.iconst 1, 1) := by decide +kernel
theorem dX7_ends_52 : decode cX7_ends 52 = .ok (.ireturn, 1) := by decide +kernel
theorem dX8_init_0 : decode cX8_init 0 = .ok (.aload_n 0, 1) := by decide +kernel
theorem dX8_init_1 : decode cX8_init 1 = .ok (.invokespecial 3, 3) := by decide +kernel
theorem dX8_init_4 : decode cX8_init 4 = .ok (.aload_n 0, 1) := by decide +kernel
theorem dX8_init_5 : decode cX8_init 5 = .ok (.bipush 6, 2) := by decide +kernel
theorem dX8_init_7 : decode cX8_init 7 = .ok (.newarray .int, 2) := by decide +kernel
theorem dX8_init_9 : decode cX8_init 9 = .ok (.putfield 9, 3) := by decide +kernel
theorem dX8_init_12 : decode cX8_init 12 = .ok (.aload_n 0, 1) := by decide +kernel
theorem dX8_init_13 : decode cX8_init 13 = .ok (.bipush 6, 2) := by decide +kernel
theorem dX8_init_15 : decode cX8_init 15 = .ok (.newarray .int, 2) := by decide +kernel
theorem dX8_init_17 : decode cX8_init 17 = .ok (.putfield 15, 3) := by decide +kernel
theorem dX8_init_20 : decode cX8_init 20 = .ok (.return_, 1) := by decide +kernel
theorem dX8_write_0 : decode cX8_write 0 = .ok (.aload_n 2, 1) := by decide +kernel
theorem dX8_write_1 : decode cX8_write 1 = .ok (.invokevirtual 18, 3) := by decide +kernel
theorem dX8_write_4 : decode cX8_write 4 = .ok (.aload_n 0, 1) := by decide +kernel
theorem dX8_write_5 : decode cX8_write 5 = .ok (.iconst 0, 1) := by decide +kernel
theorem dX8_write_6 : decode cX8_write 6 = .ok (.putfield 23, 3) := by decide +kernel
theorem dX8_write_9 : decode cX8_write 9 = .ok (.aload_n 0, 1) := by decide +kernel
theorem dX8_write_10 : decode cX8_write 10 = .ok (.iconst 0, 1) := by decide +kernel
theorem dX8_write_11 : decode cX8_write 11 = .ok (.putfield 27, 3) := by decide +kernel
theorem dX8_write_14 : decode cX8_write 14 = .ok (.iconst 1, 1) := by decide +kernel
theorem dX8_write_15 : decode cX8_write 15 = .ok (.istore_n 3, 1) := by decide +kernel
theorem dX8_write_16 : decode cX8_write 16 = .ok (.iconst 0, 1) := by decide +kernel
theorem dX8_write_17 : decode cX8_write 17 = .ok (.istore 4, 2) := by decide +kernel
theorem dX8_write_19 : decode cX8_write 19 = .ok (.iload_n 3, 1) := by decide +kernel
theorem dX8_write_20 : decode cX8_write 20 = .ok (.ifCond .eq 30, 3) := by decide +kernel
theorem dX8_write_23 : decode cX8_write 23 = .ok (.iload 4, 2) := by decide +kernel
theorem dX8_write_25 : decode cX8_write 25 = .ok (.aload_n 1, 1) := by decide +kernel
theorem dX8_write_26 : decode cX8_write 26 = .ok (.invokevirtual 30, 3) := by decide +kernel
theorem dX8_write_29 : decode cX8_write 29 = .ok (.if_icmp .ge 21, 3) := by decide +kernel
theorem dX8_write_32 : decode cX8_write 32 = .ok (.aload_n 0, 1) := by decide +kernel
theorem dX8_write_33 : decode cX8_write 33 = .ok (.aload_n 1, 1) := by decide +kernel
theorem dX8_write_34 : decode cX8_write 34 = .ok (.iload 4, 2) := by decide +kernel
theorem dX8_write_36 : decode cX8_write 36 = .ok (.invokevirtual 36, 3) := by decide +kernel
theorem dX8_write_39 : decode cX8_write 39 = .ok (.aload_n 2, 1) := by decide +kernel
theorem dX8_write_40 : decode cX8_write 40 = .ok (.invokevirtual 40, 3) := by decide +kernel
theorem dX8_write_43 : decode cX8_write 43 = .ok (.istore_n 3, 1) := by decide +kernel
theorem dX8_write_44 : decode cX8_write 44 = .ok (.iinc 4 1, 3) := by decide +kernel
theorem dX8_write_47 : decode cX8_write 47 = .ok (.goto (-28), 3) := by decide +kernel
theorem dX8_write_50 : decode cX8_write 50 = .ok (.iload_n 3, 1) := by decide +kernel
theorem dX8_write_51 : decode cX8_write 51 = .ok (.ireturn, 1) := by decide +kernel
theorem dX8_writeNext_0 : decode cX8_writeNext 0 = .ok (.iload_n 1, 1) := by decide +kernel
theorem dX8_writeNext_1 : decode cX8_writeNext 1 = .ok (.invokestatic 44, 3) := by decide +kernel
theorem dX8_writeNext_4 : decode cX8_writeNext 4 = .ok (.ifCond .eq 22, 3) := by decide +kernel
theorem dX8_writeNext_7 : decode cX8_writeNext 7 = .ok (.aload_n 0, 1) := by decide +kernel
theorem dX8_writeNext_8 : decode cX8_writeNext 8 = .ok (.aload_n 2, 1) := by decide +kernel
theorem dX8_writeNext_9 : decode cX8_writeNext 9 = .ok (.invokevirtual 48, 3) := by decide +kernel
theorem dX8_writeNext_12 : decode cX8_writeNext 12 = .ok (.putfield 27, 3) := by decide +kernel
theorem dX8_writeNext_15 : decode cX8_writeNext 15 = .ok (.aload_n 2, 1) := by decide +kernel
theorem dX8_writeNext_16 : decode cX8_writeNext 16 = .ok (.iconst 2, 1) := by decide +kernel
theorem dX8_writeNext_17 : decode cX8_writeNext 17 = .ok (.iload_n 1, 1) := by decide +kernel
theorem dX8_writeNext_18 : decode cX8_writeNext 18 = .ok (.bipush 97, 2) := by decide +kernel
theorem dX8_writeNext_20 : decode cX8_writeNext 20 = .ok (.isub, 1) := by decide +kernel
theorem dX8_writeNext_21 : decode cX8_writeNext 21 = .ok (.imul, 1) := by decide +kernel
theorem dX8_writeNext_22 : decode cX8_writeNext 22 = .ok (.invokevirtual 49, 3) := by decide +kernel
theorem dX8_writeNext_25 : decode cX8_writeNext 25 = .ok (.ireturn, 1) := by decide +kernel
theorem dX8_writeNext_26 : decode cX8_writeNext 26 = .ok (.iload_n 1, 1) := by decide +kernel
theorem dX8_writeNext_27 : decode cX8_writeNext 27 = .ok (.bipush 40, 2) := by decide +kernel
theorem dX8_writeNext_29 : decode cX8_writeNext 29 = .ok (.if_icmp .eq 9, 3) := by decide +kernel
theorem dX8_writeNext_32 : decode cX8_writeNext 32 = .ok (.iload_n 1, 1) := by decide +kernel
theorem dX8_writeNext_33 : decode cX8_writeNext 33 = .ok (.bipush 60, 2) := by decide +kernel
theorem dX8_writeNext_35 : decode cX8_writeNext 35 = .ok (.if_icmp .ne 12, 3) := by decide +kernel
theorem dX8_writeNext_38 : decode cX8_writeNext 38 = .ok (.aload_n 0, 1) := by decide +kernel
theorem dX8_writeNext_39 : decode cX8_writeNext 39 = .ok (.aload_n 2, 1) := by decide +kernel
theorem dX8_writeNext_40 : decode cX8_writeNext 40 = .ok (.invokevirtual 48, 3) := by decide +kernel
theorem dX8_writeNext_43 : decode cX8_writeNext 43 = .ok (.invokevirtual 53, 3) := by decide +kernel
theorem dX8_writeNext_46 : decode cX8_writeNext 46 = .ok (.ireturn, 1) := by decide +kernel
theorem dX8_writeNext_47 : decode cX8_writeNext 47 = .ok (.iload_n 1, 1) := by decide +kernel
theorem dX8_writeNext_48 : decode cX8_writeNext 48 = .ok (.bipush 44, 2) := by decide +kernel
theorem dX8_writeNext_50 : decode cX8_writeNext 50 = .ok (.if_icmp .ne 12, 3) := by decide +kernel
theorem dX8_writeNext_53 : decode cX8_writeNext 53 = .ok (.aload_n 0, 1) := by decide +kernel
theorem dX8_writeNext_54 : decode cX8_writeNext 54 = .ok (.aload_n 2, 1) := by decide +kernel
theorem dX8_writeNext_55 : decode cX8_writeNext 55 = .ok (.invokevirtual 48, 3) := by decide +kernel
theorem dX8_writeNext_58 : decode cX8_writeNext 58 = .ok (.invokevirtual 56, 3) := by decide +kernel
theorem dX8_writeNext_61 : decode cX8_writeNext 61 = .ok (.ireturn, 1) := by decide +kernel
theorem dX8_writeNext_62 : decode cX8_writeNext 62 = .ok (.iload_n 1, 1) := by decide +kernel
theorem dX8_writeNext_63 : decode cX8_writeNext 63 = .ok (.bipush 41, 2) := by decide +kernel
theorem dX8_writeNext_65 : decode cX8_writeNext 65 = .ok (.if_icmp .eq 9, 3) := by decide +kernel
theorem dX8_writeNext_68 : decode cX8_writeNext 68 = .ok (.iload_n 1, 1) := by decide +kernel
theorem dX8_writeNext_69 : decode cX8_writeNext 69 = .ok (.bipush 62, 2) := by decide +kernel
theorem dX8_writeNext_71 : decode cX8_writeNext 71 = .ok (.if_icmp .ne 20, 3) := by decide +kernel
theorem dX8_writeNext_74 : decode cX8_writeNext 74 = .ok (.aload_n 0, 1) := by decide +kernel
theorem dX8_writeNext_75 : decode cX8_writeNext 75 = .ok (.iload_n 1, 1) := by decide +kernel
theorem dX8_writeNext_76 : decode cX8_writeNext 76 = .ok (.bipush 62, 2) := by decide +kernel
theorem dX8_writeNext_78 : decode cX8_writeNext 78 = .ok (.if_icmp .ne 7, 3) := by decide +kernel
theorem dX8_writeNext_81 : decode cX8_writeNext 81 = .ok (.iconst 1, 1) := by decide +kernel
theorem dX8_writeNext_82 : decode cX8_writeNext 82 = .ok (.goto 4, 3) := by decide +kernel
theorem dX8_writeNext_85 : decode cX8_writeNext 85 = .ok (.iconst 0, 1) := by decide +kernel
theorem dX8_writeNext_86 : decode cX8_writeNext 86 = .ok (.aload_n 2, 1) := by decide +kernel
theorem dX8_writeNext_87 : decode cX8_writeNext 87 = .ok (.invokevirtual 59, 3) := by decide +kernel
theorem dX8_writeNext_90 : decode cX8_writeNext 90 = .ok (.ireturn, 1) := by decide +kernel
theorem dX8_writeNext_91 : decode cX8_writeNext 91 = .ok (.iload_n 1, 1) := by decide +kernel
theorem dX8_writeNext_92 : decode cX8_writeNext 92 = .ok (.bipush 39, 2) := by decide +kernel
theorem dX8_writeNext_94 : decode cX8_writeNext 94 = .ok (.if_icmp .ne 13, 3) := by decide +kernel
theorem dX8_writeNext_97 : decode cX8_writeNext 97 = .ok (.aload_n 2, 1) := by decide +kernel
theorem dX8_writeNext_98 : decode cX8_writeNext 98 = .ok (.aload_n 0, 1) := by decide +kernel
theorem dX8_writeNext_99 : decode cX8_writeNext 99 = .ok (.getfield 27, 3) := by decide +kernel
theorem dX8_writeNext_102 : decode cX8_writeNext 102 = .ok (.invokevirtual 63, 3) := by decide +kernel
theorem dX8_writeNext_105 : decode cX8_writeNext 105 = .ok (.iconst 1, 1) := by decide +kernel
theorem dX8_writeNext_106 : decode cX8_writeNext 106 = .ok (.ireturn, 1) := by decide +kernel
theorem dX8_writeNext_107 : decode cX8_writeNext 107 = .ok (.aload_n 2, 1) := by decide +kernel
theorem dX8_writeNext_108 : decode cX8_writeNext 108 = .ok (.aload_n 0, 1) := by decide +kernel
theorem dX8_writeNext_109 : decode cX8_writeNext 109 = .ok (.getfield 27, 3) := by decide +kernel
theorem dX8_writeNext_112 : decode cX8_writeNext 112 = .ok (.iload_n 1, 1) := by decide +kernel
theorem dX8_writeNext_113 : decode cX8_writeNext 113 = .ok (.bipush 48, 2) := by decide +kernel
theorem dX8_writeNext_115 : decode cX8_writeNext 115 = .ok (.isub, 1) := by decide +kernel
theorem dX8_writeNext_116 : decode cX8_writeNext 116 = .ok (.invokevirtual 67, 3) := by decide +kernel
theorem dX8_writeNext_119 : decode cX8_writeNext 119 = .ok (.ireturn, 1) := by decide +kernel
theorem dX8_begin_0 : decode cX8_begin 0 = .ok (.aload_n 0, 1) := by decide +kernel
theorem dX8_begin_1 : decode cX8_begin 1 = .ok (.getfield 23, 3) := by decide +kernel
theorem dX8_begin_4 : decode cX8_begin 4 = .ok (.ifCond .lt 15, 3) := by decide +kernel
theorem dX8_begin_7 : decode cX8_begin 7 = .ok (.aload_n 0, 1) := by decide +kernel
theorem dX8_begin_8 : decode cX8_begin 8 = .ok (.getfield 23, 3) := by decide +kernel
theorem dX8_begin_11 : decode cX8_begin 11 = .ok (.aload_n 0, 1) := by decide +kernel
theorem dX8_begin_12 : decode cX8_begin 12 = .ok (.getfield 9, 3) := by decide +kernel
theorem dX8_begin_15 : decode cX8_begin 15 = .ok (.arraylength, 1) := by decide +kernel
theorem dX8_begin_16 : decode cX8_begin 16 = .ok (.if_icmp .lt 5, 3) := by decide +kernel
theorem dX8_begin_19 : decode cX8_begin 19 = .ok (.iconst 0, 1) := by decide +kernel
theorem dX8_begin_20 : decode cX8_begin 20 = .ok (.ireturn, 1) := by decide +kernel
theorem dX8_begin_21 : decode cX8_begin 21 = .ok (.aload_n 0, 1) := by decide +kernel
theorem dX8_begin_22 : decode cX8_begin 22 = .ok (.getfield 9, 3) := by decide +kernel
theorem dX8_begin_25 : decode cX8_begin 25 = .ok (.aload_n 0, 1) := by decide +kernel
theorem dX8_begin_26 : decode cX8_begin 26 = .ok (.getfield 23, 3) := by decide +kernel
theorem dX8_begin_29 : decode cX8_begin 29 = .ok (.iload_n 1, 1) := by decide +kernel
theorem dX8_begin_30 : decode cX8_begin 30 = .ok (.iastore, 1) := by decide +kernel
theorem dX8_begin_31 : decode cX8_begin 31 = .ok (.aload_n 0, 1) := by decide +kernel
theorem dX8_begin_32 : decode cX8_begin 32 = .ok (.dup, 1) := by decide +kernel
theorem dX8_begin_33 : decode cX8_begin 33 = .ok (.getfield 23, 3) := by decide +kernel
theorem dX8_begin_36 : decode cX8_begin 36 = .ok (.iconst 1, 1) := by decide +kernel
theorem dX8_begin_37 : decode cX8_begin 37 = .ok (.iadd, 1) := by decide +kernel
theorem dX8_begin_38 : decode cX8_begin 38 = .ok (.putfield 23, 3) := by decide +kernel
theorem dX8_begin_41 : decode cX8_begin 41 = .ok (.iconst 1, 1) := by decide +kernel
theorem dX8_begin_42 : decode cX8_begin 42 = .ok (.ireturn, 1) := by decide +kernel
theorem dX8_divide_0 : decode cX8_divide 0 = .ok (.aload_n 0, 1) := by decide +kernel
theorem dX8_divide_1 : decode cX8_divide 1 = .ok (.getfield 23, 3) := by decide +kernel
theorem dX8_divide_4 : decode cX8_divide 4 = .ok (.ifCond .le 15, 3) := by decide +kernel
theorem dX8_divide_7 : decode cX8_divide 7 = .ok (.aload_n 0, 1) := by decide +kernel
theorem dX8_divide_8 : decode cX8_divide 8 = .ok (.getfield 23, 3) := by decide +kernel
theorem dX8_divide_11 : decode cX8_divide 11 = .ok (.aload_n 0, 1) := by decide +kernel
theorem dX8_divide_12 : decode cX8_divide 12 = .ok (.getfield 15, 3) := by decide +kernel
theorem dX8_divide_15 : decode cX8_divide 15 = .ok (.arraylength, 1) := by decide +kernel
theorem dX8_divide_16 : decode cX8_divide 16 = .ok (.if_icmp .le 5, 3) := by decide +kernel
theorem dX8_divide_19 : decode cX8_divide 19 = .ok (.iconst 0, 1) := by decide +kernel
theorem dX8_divide_20 : decode cX8_divide 20 = .ok (.ireturn, 1) := by decide +kernel
theorem dX8_divide_21 : decode cX8_divide 21 = .ok (.aload_n 0, 1) := by decide +kernel
theorem dX8_divide_22 : decode cX8_divide 22 = .ok (.getfield 15, 3) := by decide +kernel
theorem dX8_divide_25 : decode cX8_divide 25 = .ok (.aload_n 0, 1) := by decide +kernel
theorem dX8_divide_26 : decode cX8_divide 26 = .ok (.getfield 23, 3) := by decide +kernel
theorem dX8_divide_29 : decode cX8_divide 29 = .ok (.iconst 1, 1) := by decide +kernel
theorem dX8_divide_30 : decode cX8_divide 30 = .ok (.isub, 1) := by decide +kernel
theorem dX8_divide_31 : decode cX8_divide 31 = .ok (.iload_n 1, 1) := by decide +kernel
theorem dX8_divide_32 : decode cX8_divide 32 = .ok (.iastore, 1) := by decide +kernel
theorem dX8_divide_33 : decode cX8_divide 33 = .ok (.iconst 1, 1) := by decide +kernel
theorem dX8_divide_34 : decode cX8_divide 34 = .ok (.ireturn, 1) := by decide +kernel
theorem dX8_end_0 : decode cX8_end 0 = .ok (.aload_n 0, 1) := by decide +kernel
theorem dX8_end_1 : decode cX8_end 1 = .ok (.getfield 23, 3) := by decide +kernel
theorem dX8_end_4 : decode cX8_end 4 = .ok (.ifCond .le 15, 3) := by decide +kernel
theorem dX8_end_7 : decode cX8_end 7 = .ok (.aload_n 0, 1) := by decide +kernel
theorem dX8_end_8 : decode cX8_end 8 = .ok (.getfield 23, 3) := by decide +kernel
theorem dX8_end_11 : decode cX8_end 11 = .ok (.aload_n 0, 1) := by decide +kernel
theorem dX8_end_12 : decode cX8_end 12 = .ok (.getfield 9, 3) := by decide +kernel
theorem dX8_end_15 : decode cX8_end 15 = .ok (.arraylength, 1) := by decide +kernel
theorem dX8_end_16 : decode cX8_end 16 = .ok (.if_icmp .le 5, 3) := by decide +kernel
theorem dX8_end_19 : decode cX8_end 19 = .ok (.iconst 0, 1) := by decide +kernel
theorem dX8_end_20 : decode cX8_end 20 = .ok (.ireturn, 1) := by decide +kernel
theorem dX8_end_21 : decode cX8_end 21 = .ok (.aload_n 0, 1) := by decide +kernel
theorem dX8_end_22 : decode cX8_end 22 = .ok (.dup, 1) := by decide +kernel
theorem dX8_end_23 : decode cX8_end 23 = .ok (.getfield 23, 3) := by decide +kernel
theorem dX8_end_26 : decode cX8_end 26 = .ok (.iconst 1, 1) := by decide +kernel
theorem dX8_end_27 : decode cX8_end 27 = .ok (.isub, 1) := by decide +kernel
theorem dX8_end_28 : decode cX8_end 28 = .ok (.putfield 23, 3) := by decide +kernel
theorem dX8_end_31 : decode cX8_end 31 = .ok (.aload_n 0, 1) := by decide +kernel
theorem dX8_end_32 : decode cX8_end 32 = .ok (.aload_n 0, 1) := by decide +kernel
theorem dX8_end_33 : decode cX8_end 33 = .ok (.getfield 9, 3) := by decide +kernel
theorem dX8_end_36 : decode cX8_end 36 = .ok (.aload_n 0, 1) := by decide +kernel
theorem dX8_end_37 : decode cX8_end 37 = .ok (.getfield 23, 3) := by decide +kernel
theorem dX8_end_40 : decode cX8_end 40 = .ok (.iaload, 1) := by decide +kernel
theorem dX8_end_41 : decode cX8_end 41 = .ok (.putfield 27, 3) := by decide +kernel
theorem dX8_end_44 : decode cX8_end 44 = .ok (.iload_n 1, 1) := by decide +kernel
theorem dX8_end_45 : decode cX8_end 45 = .ok (.ifCond .eq 28, 3) := by decide +kernel
theorem dX8_end_48 : decode cX8_end 48 = .ok (.aload_n 2, 1) := by decide +kernel
theorem dX8_end_49 : decode cX8_end 49 = .ok (.aload_n 0, 1) := by decide +kernel
theorem dX8_end_50 : decode cX8_end 50 = .ok (.getfield 9, 3) := by decide +kernel
theorem dX8_end_53 : decode cX8_end 53 = .ok (.aload_n 0, 1) := by decide +kernel
theorem dX8_end_54 : decode cX8_end 54 = .ok (.getfield 23, 3) := by decide +kernel
theorem dX8_end_57 : decode cX8_end 57 = .ok (.iaload, 1) := by decide +kernel
theorem dX8_end_58 : decode cX8_end 58 = .ok (.aload_n 0, 1) := by decide +kernel
theorem dX8_end_59 : decode cX8_end 59 = .ok (.getfield 15, 3) := by decide +kernel
theorem dX8_end_62 : decode cX8_end 62 = .ok (.aload_n 0, 1) := by decide +kernel
theorem dX8_end_63 : decode cX8_end 63 = .ok (.getfield 23, 3) := by decide +kernel
theorem dX8_end_66 : decode cX8_end 66 = .ok (.iaload, 1) := by decide +kernel
theorem dX8_end_67 : decode cX8_end 67 = .ok (.invokevirtual 71, 3) := by decide +kernel
theorem dX8_end_70 : decode cX8_end 70 = .ok (.ifCond .eq 7, 3) := by decide +kernel
theorem dX8_end_73 : decode cX8_end 73 = .ok (.iconst 1, 1) := by decide +kernel
theorem dX8_end_74 : decode cX8_end 74 = .ok (.goto 4, 3) := by decide +kernel
theorem dX8_end_77 : decode cX8_end 77 = .ok (.iconst 0, 1) := by decide +kernel
theorem dX8_end_78 : decode cX8_end 78 = .ok (.ireturn, 1) := by decide +kernel
theorem dX9_init_0 : decode cX9_init 0 = .ok (.aload_n 0, 1) := by decide +kernel
theorem dX9_init_1 : decode cX9_init 1 = .ok (.invokespecial 3, 3) := by decide +kernel
theorem dX9_init_4 : decode cX9_init 4 = .ok (.aload_n 0, 1) := by decide +kernel
theorem dX9_init_5 : decode cX9_init 5 = .ok (.new 9, 3) := by decide +kernel
theorem dX9_init_8 : decode cX9_init 8 = .ok (.dup, 1) := by decide +kernel
theorem dX9_init_9 : decode cX9_init 9 = .ok (.invokespecial 11, 3) := by decide +kernel
theorem dX9_init_12 : decode cX9_init 12 = .ok (.putfield 12, 3) := by decide +kernel
theorem dX9_init_15 : decode cX9_init 15 = .ok (.aload_n 0, 1) := by decide +kernel
theorem dX9_init_16 : decode cX9_init 16 = .ok (.new 16, 3) := by decide +kernel
theorem dX9_init_19 : decode cX9_init 19 = .ok (.dup, 1) := by decide +kernel
theorem dX9_init_20 : decode cX9_init 20 = .ok (.invokespecial 18, 3) := by decide +kernel
theorem dX9_init_23 : decode cX9_init 23 = .ok (.putfield 19, 3) := by decide +kernel
theorem dX9_init_26 : decode cX9_init 26 = .ok (.aload_n 0, 1) := by decide +kernel
theorem dX9_init_27 : decode cX9_init 27 = .ok (.new 23, 3) := by decide +kernel
theorem dX9_init_30 : decode cX9_init 30 = .ok (.dup, 1) := by decide +kernel
theorem dX9_init_31 : decode cX9_init 31 = .ok (.invokespecial 25, 3) := by decide +kernel
theorem dX9_init_34 : decode cX9_init 34 = .ok (.putfield 26, 3) := by decide +kernel
theorem dX9_init_37 : decode cX9_init 37 = .ok (.aload_n 0, 1) := by decide +kernel
theorem dX9_init_38 : decode cX9_init 38 = .ok (.new 30, 3) := by decide +kernel
theorem dX9_init_41 : decode cX9_init 41 = .ok (.dup, 1) := by decide +kernel
theorem dX9_init_42 : decode cX9_init 42 = .ok (.invokespecial 32, 3) := by decide +kernel
theorem dX9_init_45 : decode cX9_init 45 = .ok (.putfield 33, 3) := by decide +kernel
theorem dX9_init_48 : decode cX9_init 48 = .ok (.aload_n 0, 1) := by decide +kernel
theorem dX9_init_49 : decode cX9_init 49 = .ok (.new 37, 3) := by decide +kernel
theorem dX9_init_52 : decode cX9_init 52 = .ok (.dup, 1) := by decide +kernel
theorem dX9_init_53 : decode cX9_init 53 = .ok (.invokespecial 39, 3) := by decide +kernel
theorem dX9_init_56 : decode cX9_init 56 = .ok (.putfield 40, 3) := by decide +kernel
theorem dX9_init_59 : decode cX9_init 59 = .ok (.aload_n 0, 1) := by decide +kernel
theorem dX9_init_60 : decode cX9_init 60 = .ok (.new 44, 3) := by decide +kernel
theorem dX9_init_63 : decode cX9_init 63 = .ok (.dup, 1) := by decide +kernel
theorem dX9_init_64 : decode cX9_init 64 = .ok (.invokespecial 46, 3) := by decide +kernel
theorem dX9_init_67 : decode cX9_init 67 = .ok (.putfield 47, 3) := by decide +kernel
theorem dX9_init_70 : decode cX9_init 70 = .ok (.aload_n 0, 1) := by decide +kernel
theorem dX9_init_71 : decode cX9_init 71 = .ok (.new 51, 3) := by decide +kernel
theorem dX9_init_74 : decode cX9_init 74 = .ok (.dup, 1) := by decide +kernel
theorem dX9_init_75 : decode cX9_init 75 = .ok (.invokespecial 53, 3) := by decide +kernel
theorem dX9_init_78 : decode cX9_init 78 = .ok (.putfield 54, 3) := by decide +kernel
theorem dX9_init_81 : decode cX9_init 81 = .ok (.aload_n 0, 1) := by decide +kernel
theorem dX9_init_82 : decode cX9_init 82 = .ok (.new 51, 3) := by decide +kernel
theorem dX9_init_85 : decode cX9_init 85 = .ok (.dup, 1) := by decide +kernel
theorem dX9_init_86 : decode cX9_init 86 = .ok (.invokespecial 53, 3) := by decide +kernel
theorem dX9_init_89 : decode cX9_init 89 = .ok (.putfield 58, 3) := by decide +kernel
theorem dX9_init_92 : decode cX9_init 92 = .ok (.aload_n 0, 1) := by decide +kernel
theorem dX9_init_93 : decode cX9_init 93 = .ok (.new 61, 3) := by decide +kernel
theorem dX9_init_96 : decode cX9_init 96 = .ok (.dup, 1) := by decide +kernel
theorem dX9_init_97 : decode cX9_init 97 = .ok (.invokespecial 63, 3) := by decide +kernel
theorem dX9_init_100 : decode cX9_init 100 = .ok (.putfield 64, 3) := by decide +kernel
theorem dX9_init_103 : decode cX9_init 103 = .ok (.aload_n 0, 1) := by decide +kernel
theorem dX9_init_104 : decode cX9_init 104 = .ok (.bipush 24, 2) := by decide +kernel
theorem dX9_init_106 : decode cX9_init 106 = .ok (.newarray .float, 2) := by decide +kernel
theorem dX9_init_108 : decode cX9_init 108 = .ok (.putfield 68, 3) := by decide +kernel
theorem dX9_init_111 : decode cX9_init 111 = .ok (.aload_n 0, 1) := by decide +kernel
theorem dX9_init_112 : decode cX9_init 112 = .ok (.bipush 24, 2) := by decide +kernel
theorem dX9_init_114 : decode cX9_init 114 = .ok (.newarray .double, 2) := by decide +kernel
theorem dX9_init_116 : decode cX9_init 116 = .ok (.putfield 72, 3) := by decide +kernel
theorem dX9_init_119 : decode cX9_init 119 = .ok (.aload_n 0, 1) := by decide +kernel
theorem dX9_init_120 : decode cX9_init 120 = .ok (.iconst 3, 1) := by decide +kernel
theorem dX9_init_121 : decode cX9_init 121 = .ok (.putfield 76, 3) := by decide +kernel
theorem dX9_init_124 : decode cX9_init 124 = .ok (.aload_n 0, 1) := by decide +kernel
theorem dX9_init_125 : decode cX9_init 125 = .ok (.iconst (-1), 1) := by decide +kernel
theorem dX9_init_126 : decode cX9_init 126 = .ok (.putfield 80, 3) := by decide +kernel
theorem dX9_init_129 : decode cX9_init 129 = .ok (.aload_n 0, 1) := by decide +kernel
theorem dX9_init_130 : decode cX9_init 130 = .ok (.iconst 0, 1) := by decide +kernel
theorem dX9_init_131 : decode cX9_init 131 = .ok (.putfield 83, 3) := by decide +kernel
theorem dX9_init_134 : decode cX9_init 134 = .ok (.aload_n 0, 1) := by decide +kernel
theorem dX9_init_135 : decode cX9_init 135 = .ok (.iconst 0, 1) := by decide +kernel
theorem dX9_init_136 : decode cX9_init 136 = .ok (.putfield 87, 3) := by decide +kernel
theorem dX9_init_139 : decode cX9_init 139 = .ok (.return_, 1) := by decide +kernel
theorem dX9_reset_0 : decode cX9_reset 0 = .ok (.iload_n 1, 1) := by decide +kernel
theorem dX9_reset_1 : decode cX9_reset 1 = .ok (.iconst 2, 1) := by decide +kernel
theorem dX9_reset_2 : decode cX9_reset 2 = .ok (.if_icmp .lt 9, 3) := by decide +kernel
theorem dX9_reset_5 : decode cX9_reset 5 = .ok (.iload_n 1, 1) := by decide +kernel
theorem dX9_reset_6 : decode cX9_reset 6 = .ok (.bipush 7, 2) := by decide +kernel
theorem dX9_reset_8 : decode cX9_reset 8 = .ok (.if_icmp .le 13, 3) := by decide +kernel
theorem dX9_reset_11 : decode cX9_reset 11 = .ok (.new 90, 3) := by decide +kernel
theorem dX9_reset_14 : decode cX9_reset 14 = .ok (.dup, 1) := by decide +kernel
theorem dX9_reset_15 : decode cX9_reset 15 = .ok (.ldc 92, 2) := by decide +kernel
theorem dX9_reset_17 : decode cX9_reset 17 = .ok (.invokespecial 94, 3) := by decide +kernel
theorem dX9_reset_20 : decode cX9_reset 20 = .ok (.athrow, 1) := by decide +kernel
theorem dX9_reset_21 : decode cX9_reset 21 = .ok (.aload_n 0, 1) := by decide +kernel
theorem dX9_reset_22 : decode cX9_reset 22 = .ok (.getfield 76, 3) := by decide +kernel
theorem dX9_reset_25 : decode cX9_reset 25 = .ok (.istore_n 2, 1) := by decide +kernel
theorem dX9_reset_26 : decode cX9_reset 26 = .ok (.aload_n 0, 1) := by decide +kernel
theorem dX9_reset_27 : decode cX9_reset 27 = .ok (.iload_n 1, 1) := by decide +kernel
theorem dX9_reset_28 : decode cX9_reset 28 = .ok (.putfield 76, 3) := by decide +kernel
theorem dX9_reset_31 : decode cX9_reset 31 = .ok (.aload_n 0, 1) := by decide +kernel
theorem dX9_reset_32 : decode cX9_reset 32 = .ok (.getfield 54, 3) := by decide +kernel
theorem dX9_reset_35 : decode cX9_reset 35 = .ok (.invokevirtual 97, 3) := by decide +kernel
theorem dX9_reset_38 : decode cX9_reset 38 = .ok (.aload_n 0, 1) := by decide +kernel
theorem dX9_reset_39 : decode cX9_reset 39 = .ok (.iconst 0, 1) := by decide +kernel
theorem dX9_reset_40 : decode cX9_reset 40 = .ok (.putfield 83, 3) := by decide +kernel
theorem dX9_reset_43 : decode cX9_reset 43 = .ok (.aload_n 0, 1) := by decide +kernel
theorem dX9_reset_44 : decode cX9_reset 44 = .ok (.iconst 0, 1) := by decide +kernel
theorem dX9_reset_45 : decode cX9_reset 45 = .ok (.putfield 87, 3) := by decide +kernel
theorem dX9_reset_48 : decode cX9_reset 48 = .ok (.iload_n 2, 1) := by decide +kernel
theorem dX9_reset_49 : decode cX9_reset 49 = .ok (.ireturn, 1) := by decide +kernel
theorem dX9_positions_0 : decode cX9_positions 0 = .ok (.aload_n 0, 1) := by decide +kernel
theorem dX9_positions_1 : decode cX9_positions 1 = .ok (.getfield 76, 3) := by decide +kernel
theorem dX9_positions_4 : decode cX9_positions 4 = .ok (.ireturn, 1) := by decide +kernel
theorem dX9_append_0 : decode cX9_append 0 = .ok (.iload_n 1, 1) := by decide +kernel
theorem dX9_append_1 : decode cX9_append 1 = .ok (.bipush 32, 2) := by decide +kernel
theorem dX9_append_3 : decode cX9_append 3 = .ok (.if_icmp .lt 9, 3) := by decide +kernel
theorem dX9_append_6 : decode cX9_append 6 = .ok (.iload_n 1, 1) := by decide +kernel
theorem dX9_append_7 : decode cX9_append 7 = .ok (.bipush 126, 2) := by decide +kernel
theorem dX9_append_9 : decode cX9_append 9 = .ok (.if_icmp .le 13, 3) := by decide +kernel
theorem dX9_append_12 : decode cX9_append 12 = .ok (.new 90, 3) := by decide +kernel
theorem dX9_append_15 : decode cX9_append 15 = .ok (.dup, 1) := by decide +kernel
theorem dX9_append_16 : decode cX9_append 16 = .ok (.ldc 100, 2) := by decide +kernel
theorem dX9_append_18 : decode cX9_append 18 = .ok (.invokespecial 94, 3) := by decide +kernel
theorem dX9_append_21 : decode cX9_append 21 = .ok (.athrow, 1) := by decide +kernel
theorem dX9_append_22 : decode cX9_append 22 = .ok (.aload_n 0, 1) := by decide +kernel
theorem dX9_append_23 : decode cX9_append 23 = .ok (.getfield 12, 3) := by decide +kernel
theorem dX9_append_26 : decode cX9_append 26 = .ok (.iload_n 1, 1) := by decide +kernel
theorem dX9_append_27 : decode cX9_append 27 = .ok (.invokevirtual 102, 3) := by decide +kernel
theorem dX9_append_30 : decode cX9_append 30 = .ok (.ifCond .ne 13, 3) := by decide +kernel
theorem dX9_append_33 : decode cX9_append 33 = .ok (.new 106, 3) := by decide +kernel
theorem dX9_append_36 : decode cX9_append 36 = .ok (.dup, 1) := by decide +kernel
theorem dX9_append_37 : decode cX9_append 37 = .ok (.ldc 108, 2) := by decide +kernel
theorem dX9_append_39 : decode cX9_append 39 = .ok (.invokespecial 110, 3) := by decide +kernel
theorem dX9_append_42 : decode cX9_append 42 = .ok (.athrow, 1) := by decide +kernel
theorem dX9_append_43 : decode cX9_append 43 = .ok (.aload_n 0, 1) := by decide +kernel
theorem dX9_append_44 : decode cX9_append 44 = .ok (.getfield 12, 3) := by decide +kernel
theorem dX9_append_47 : decode cX9_append 47 = .ok (.invokevirtual 111, 3) := by decide +kernel
theorem dX9_append_50 : decode cX9_append 50 = .ok (.ireturn, 1) := by decide +kernel
theorem dX9_define_0 : decode cX9_define 0 = .ok (.iload_n 1, 1) := by decide +kernel
theorem dX9_define_1 : decode cX9_define 1 = .ok (.invokestatic 115, 3) := by decide +kernel
theorem dX9_define_4 : decode cX9_define 4 = .ok (.aload_n 0, 1) := by decide +kernel
theorem dX9_define_5 : decode cX9_define 5 = .ok (.getfield 19, 3) := by decide +kernel
theorem dX9_define_8 : decode cX9_define 8 = .ok (.aload_n 0, 1) := by decide +kernel
theorem dX9_define_9 : decode cX9_define 9 = .ok (.getfield 12, 3) := by decide +kernel
theorem dX9_define_12 : decode cX9_define 12 = .ok (.aload_n 0, 1) := by decide +kernel
theorem dX9_define_13 : decode cX9_define 13 = .ok (.getfield 76, 3) := by decide +kernel
theorem dX9_define_16 : decode cX9_define 16 = .ok (.invokevirtual 119, 3) := by decide +kernel
theorem dX9_define_19 : decode cX9_define 19 = .ok (.istore_n 2, 1) := by decide +kernel
theorem dX9_define_20 : decode cX9_define 20 = .ok (.aload_n 0, 1) := by decide +kernel
theorem dX9_define_21 : decode cX9_define 21 = .ok (.getfield 12, 3) := by decide +kernel
theorem dX9_define_24 : decode cX9_define 24 = .ok (.invokevirtual 123, 3) := by decide +kernel
theorem dX9_define_27 : decode cX9_define 27 = .ok (.iload_n 2, 1) := by decide +kernel
theorem dX9_define_28 : decode cX9_define 28 = .ok (.iconst (-1), 1) := by decide +kernel
theorem dX9_define_29 : decode cX9_define 29 = .ok (.if_icmp .eq 18, 3) := by decide +kernel
theorem dX9_define_32 : decode cX9_define 32 = .ok (.aload_n 0, 1) := by decide +kernel
theorem dX9_define_33 : decode cX9_define 33 = .ok (.iload_n 2, 1) := by decide +kernel
theorem dX9_define_34 : decode cX9_define 34 = .ok (.putfield 80, 3) := by decide +kernel
theorem dX9_define_37 : decode cX9_define 37 = .ok (.new 90, 3) := by decide +kernel
theorem dX9_define_40 : decode cX9_define 40 = .ok (.dup, 1) := by decide +kernel
theorem dX9_define_41 : decode cX9_define 41 = .ok (.ldc 124, 2) := by decide +kernel
theorem dX9_define_43 : decode cX9_define 43 = .ok (.invokespecial 94, 3) := by decide +kernel
theorem dX9_define_46 : decode cX9_define 46 = .ok (.athrow, 1) := by decide +kernel
theorem dX9_define_47 : decode cX9_define 47 = .ok (.aload_n 0, 1) := by decide +kernel
theorem dX9_define_48 : decode cX9_define 48 = .ok (.getfield 19, 3) := by decide +kernel
theorem dX9_define_51 : decode cX9_define 51 = .ok (.invokevirtual 126, 3) := by decide +kernel
theorem dX9_define_54 : decode cX9_define 54 = .ok (.istore_n 3, 1) := by decide +kernel
theorem dX9_define_55 : decode cX9_define 55 = .ok (.aload_n 0, 1) := by decide +kernel
theorem dX9_define_56 : decode cX9_define 56 = .ok (.getfield 54, 3) := by decide +kernel
theorem dX9_define_59 : decode cX9_define 59 = .ok (.iload_n 1, 1) := by decide +kernel
theorem dX9_define_60 : decode cX9_define 60 = .ok (.iload_n 3, 1) := by decide +kernel
theorem dX9_define_61 : decode cX9_define 61 = .ok (.invokevirtual 129, 3) := by decide +kernel
theorem dX9_define_64 : decode cX9_define 64 = .ok (.aload_n 0, 1) := by decide +kernel
theorem dX9_define_65 : decode cX9_define 65 = .ok (.iconst 0, 1) := by decide +kernel
theorem dX9_define_66 : decode cX9_define 66 = .ok (.putfield 87, 3) := by decide +kernel
theorem dX9_define_69 : decode cX9_define 69 = .ok (.iload_n 3, 1) := by decide +kernel
theorem dX9_define_70 : decode cX9_define 70 = .ok (.ldc 133, 2) := by decide +kernel
theorem dX9_define_72 : decode cX9_define 72 = .ok (.invokestatic 134, 3) := by decide +kernel
theorem dX9_define_75 : decode cX9_define 75 = .ok (.ireturn, 1) := by decide +kernel
theorem dX9_store_0 : decode cX9_store 0 = .ok (.iload_n 1, 1) := by decide +kernel
theorem dX9_store_1 : decode cX9_store 1 = .ok (.invokestatic 140, 3) := by decide +kernel
theorem dX9_store_4 : decode cX9_store 4 = .ok (.aload_n 0, 1) := by decide +kernel
theorem dX9_store_5 : decode cX9_store 5 = .ok (.getfield 26, 3) := by decide +kernel
theorem dX9_store_8 : decode cX9_store 8 = .ok (.aload_n 0, 1) := by decide +kernel
theorem dX9_store_9 : decode cX9_store 9 = .ok (.getfield 12, 3) := by decide +kernel
theorem dX9_store_12 : decode cX9_store 12 = .ok (.invokevirtual 143, 3) := by decide +kernel
theorem dX9_store_15 : decode cX9_store 15 = .ok (.istore_n 2, 1) := by decide +kernel
theorem dX9_store_16 : decode cX9_store 16 = .ok (.iload_n 2, 1) := by decide +kernel
theorem dX9_store_17 : decode cX9_store 17 = .ok (.iconst (-1), 1) := by decide +kernel
theorem dX9_store_18 : decode cX9_store 18 = .ok (.if_icmp .ne 21, 3) := by decide +kernel
theorem dX9_store_21 : decode cX9_store 21 = .ok (.aload_n 0, 1) := by decide +kernel
theorem dX9_store_22 : decode cX9_store 22 = .ok (.getfield 54, 3) := by decide +kernel
theorem dX9_store_25 : decode cX9_store 25 = .ok (.aload_n 0, 1) := by decide +kernel
theorem dX9_store_26 : decode cX9_store 26 = .ok (.getfield 12, 3) := by decide +kernel
theorem dX9_store_29 : decode cX9_store 29 = .ok (.invokevirtual 146, 3) := by decide +kernel
theorem dX9_store_32 : decode cX9_store 32 = .ok (.ifCond .eq 7, 3) := by decide +kernel
theorem dX9_store_35 : decode cX9_store 35 = .ok (.iconst 1, 1) := by decide +kernel
theorem dX9_store_36 : decode cX9_store 36 = .ok (.goto 4, 3) := by decide +kernel
theorem dX9_store_39 : decode cX9_store 39 = .ok (.iconst 0, 1) := by decide +kernel
theorem dX9_store_40 : decode cX9_store 40 = .ok (.istore_n 3, 1) := by decide +kernel
theorem dX9_store_41 : decode cX9_store 41 = .ok (.iload_n 3, 1) := by decide +kernel
theorem dX9_store_42 : decode cX9_store 42 = .ok (.ifCond .eq 25, 3) := by decide +kernel
theorem dX9_store_45 : decode cX9_store 45 = .ok (.aload_n 0, 1) := by decide +kernel
theorem dX9_store_46 : decode cX9_store 46 = .ok (.getfield 33, 3) := by decide +kernel
theorem dX9_store_49 : decode cX9_store 49 = .ok (.aload_n 0, 1) := by decide +kernel
theorem dX9_store_50 : decode cX9_store 50 = .ok (.getfield 12, 3) := by decide +kernel
theorem dX9_store_53 : decode cX9_store 53 = .ok (.aload_n 0, 1) := by decide +kernel
theorem dX9_store_54 : decode cX9_store 54 = .ok (.getfield 64, 3) := by decide +kernel
theorem dX9_store_57 : decode cX9_store 57 = .ok (.invokevirtual 150, 3) := by decide +kernel
theorem dX9_store_60 : decode cX9_store 60 = .ok (.ifCond .eq 7, 3) := by decide +kernel
theorem dX9_store_63 : decode cX9_store 63 = .ok (.iconst 1, 1) := by decide +kernel
theorem dX9_store_64 : decode cX9_store 64 = .ok (.goto 4, 3) := by decide +kernel
theorem dX9_store_67 : decode cX9_store 67 = .ok (.iconst 0, 1) := by decide +kernel
theorem dX9_store_68 : decode cX9_store 68 = .ok (.istore 4, 2) := by decide +kernel
theorem dX9_store_70 : decode cX9_store 70 = .ok (.aload_n 0, 1) := by decide +kernel
theorem dX9_store_71 : decode cX9_store 71 = .ok (.getfield 12, 3) := by decide +kernel
theorem dX9_store_74 : decode cX9_store 74 = .ok (.invokevirtual 123, 3) := by decide +kernel
theorem dX9_store_77 : decode cX9_store 77 = .ok (.iload_n 2, 1) := by decide +kernel
theorem dX9_store_78 : decode cX9_store 78 = .ok (.iconst (-1), 1) := by decide +kernel
theorem dX9_store_79 : decode cX9_store 79 = .ok (.if_icmp .eq 18, 3) := by decide +kernel
theorem dX9_store_82 : decode cX9_store 82 = .ok (.aload_n 0, 1) := by decide +kernel
theorem dX9_store_83 : decode cX9_store 83 = .ok (.iload_n 2, 1) := by decide +kernel
theorem dX9_store_84 : decode cX9_store 84 = .ok (.putfield 80, 3) := by decide +kernel
theorem dX9_store_87 : decode cX9_store 87 = .ok (.new 90, 3) := by decide +kernel
theorem dX9_store_90 : decode cX9_store 90 = .ok (.dup, 1) := by decide +kernel
theorem dX9_store_91 : decode cX9_store 91 = .ok (.ldc 154, 2) := by decide +kernel
theorem dX9_store_93 : decode cX9_store 93 = .ok (.invokespecial 94, 3) := by decide +kernel
theorem dX9_store_96 : decode cX9_store 96 = .ok (.athrow, 1) := by decide +kernel
theorem dX9_store_97 : decode cX9_store 97 = .ok (.iload_n 3, 1) := by decide +kernel
theorem dX9_store_98 : decode cX9_store 98 = .ok (.ifCond .ne 13, 3) := by decide +kernel
theorem dX9_store_101 : decode cX9_store 101 = .ok (.new 106, 3) := by decide +kernel
theorem dX9_store_104 : decode cX9_store 104 = .ok (.dup, 1) := by decide +kernel
theorem dX9_store_105 : decode cX9_store 105 = .ok (.ldc 156, 2) := by decide +kernel
theorem dX9_store_107 : decode cX9_store 107 = .ok (.invokespecial 110, 3) := by decide +kernel
theorem dX9_store_110 : decode cX9_store 110 = .ok (.athrow, 1) := by decide +kernel
theorem dX9_store_111 : decode cX9_store 111 = .ok (.iload 4, 2) := by decide +kernel
theorem dX9_store_113 : decode cX9_store 113 = .ok (.ifCond .ne 13, 3) := by decide +kernel
theorem dX9_store_116 : decode cX9_store 116 = .ok (.new 158, 3) := by decide +kernel
theorem dX9_store_119 : decode cX9_store 119 = .ok (.dup, 1) := by decide +kernel
theorem dX9_store_120 : decode cX9_store 120 = .ok (.ldc 160, 2) := by decide +kernel
theorem dX9_store_122 : decode cX9_store 122 = .ok (.invokespecial 162, 3) := by decide +kernel
theorem dX9_store_125 : decode cX9_store 125 = .ok (.athrow, 1) := by decide +kernel
theorem dX9_store_126 : decode cX9_store 126 = .ok (.aload_n 0, 1) := by decide +kernel
theorem dX9_store_127 : decode cX9_store 127 = .ok (.iload_n 1, 1) := by decide +kernel
theorem dX9_store_128 : decode cX9_store 128 = .ok (.invokevirtual 163, 3) := by decide +kernel
theorem dX9_store_131 : decode cX9_store 131 = .ok (.ireturn, 1) := by decide +kernel
theorem dX9_errorPosition_0 : decode cX9_errorPosition 0 = .ok (.aload_n 0, 1) := by decide +kernel
theorem dX9_errorPosition_1 : decode cX9_errorPosition 1 = .ok (.getfield 80, 3) := by decide +kernel
theorem dX9_errorPosition_4 : decode cX9_errorPosition 4 = .ok (.iconst (-1), 1) := by decide +kernel
theorem dX9_errorPosition_5 : decode cX9_errorPosition 5 = .ok (.if_icmp .ne 13, 3) := by decide +kernel
theorem dX9_errorPosition_8 : decode cX9_errorPosition 8 = .ok (.new 167, 3) := by decide +kernel
theorem dX9_errorPosition_11 : decode cX9_errorPosition 11 = .ok (.dup, 1) := by decide +kernel
theorem dX9_errorPosition_12 : decode cX9_errorPosition 12 = .ok (.ldc 169, 2) := by decide +kernel
theorem dX9_errorPosition_14 : decode cX9_errorPosition 14 = .ok (.invokespecial 171, 3) := by decide +kernel
theorem dX9_errorPosition_17 : decode cX9_errorPosition 17 = .ok (.athrow, 1) := by decide +kernel
theorem dX9_errorPosition_18 : decode cX9_errorPosition 18 = .ok (.aload_n 0, 1) := by decide +kernel
theorem dX9_errorPosition_19 : decode cX9_errorPosition 19 = .ok (.getfield 80, 3) := by decide +kernel
theorem dX9_errorPosition_22 : decode cX9_errorPosition 22 = .ok (.ireturn, 1) := by decide +kernel
theorem dX9_target_0 : decode cX9_target 0 = .ok (.iload_n 1, 1) := by decide +kernel
theorem dX9_target_1 : decode cX9_target 1 = .ok (.invokestatic 115, 3) := by decide +kernel
theorem dX9_target_4 : decode cX9_target 4 = .ok (.aload_n 0, 1) := by decide +kernel
theorem dX9_target_5 : decode cX9_target 5 = .ok (.iload_n 2, 1) := by decide +kernel
theorem dX9_target_6 : decode cX9_target 6 = .ok (.invokevirtual 172, 3) := by decide +kernel
theorem dX9_target_9 : decode cX9_target 9 = .ok (.aload_n 0, 1) := by decide +kernel
theorem dX9_target_10 : decode cX9_target 10 = .ok (.getfield 54, 3) := by decide +kernel
theorem dX9_target_13 : decode cX9_target 13 = .ok (.iload_n 1, 1) := by decide +kernel
theorem dX9_target_14 : decode cX9_target 14 = .ok (.invokevirtual 175, 3) := by decide +kernel
theorem dX9_target_17 : decode cX9_target 17 = .ok (.ifCond .ne 13, 3) := by decide +kernel
theorem dX9_target_20 : decode cX9_target 20 = .ok (.new 167, 3) := by decide +kernel
theorem dX9_target_23 : decode cX9_target 23 = .ok (.dup, 1) := by decide +kernel
theorem dX9_target_24 : decode cX9_target 24 = .ok (.ldc 179, 2) := by decide +kernel
theorem dX9_target_26 : decode cX9_target 26 = .ok (.invokespecial 171, 3) := by decide +kernel
theorem dX9_target_29 : decode cX9_target 29 = .ok (.athrow, 1) := by decide +kernel
theorem dX9_target_30 : decode cX9_target 30 = .ok (.aload_n 0, 1) := by decide +kernel
theorem dX9_target_31 : decode cX9_target 31 = .ok (.getfield 54, 3) := by decide +kernel
theorem dX9_target_34 : decode cX9_target 34 = .ok (.iconst 2, 1) := by decide +kernel
theorem dX9_target_35 : decode cX9_target 35 = .ok (.iload_n 1, 1) := by decide +kernel
theorem dX9_target_36 : decode cX9_target 36 = .ok (.imul, 1) := by decide +kernel
theorem dX9_target_37 : decode cX9_target 37 = .ok (.invokevirtual 181, 3) := by decide +kernel
theorem dX9_target_40 : decode cX9_target 40 = .ok (.iload_n 2, 1) := by decide +kernel
theorem dX9_target_41 : decode cX9_target 41 = .ok (.iconst 1, 1) := by decide +kernel
theorem dX9_target_42 : decode cX9_target 42 = .ok (.isub, 1) := by decide +kernel
theorem dX9_target_43 : decode cX9_target 43 = .ok (.invokestatic 184, 3) := by decide +kernel
theorem dX9_target_46 : decode cX9_target 46 = .ok (.iconst 1, 1) := by decide +kernel
theorem dX9_target_47 : decode cX9_target 47 = .ok (.iadd, 1) := by decide +kernel
theorem dX9_target_48 : decode cX9_target 48 = .ok (.ireturn, 1) := by decide +kernel
theorem dX9_wordLength_0 : decode cX9_wordLength 0 = .ok (.iload_n 1, 1) := by decide +kernel
theorem dX9_wordLength_1 : decode cX9_wordLength 1 = .ok (.invokestatic 140, 3) := by decide +kernel
theorem dX9_wordLength_4 : decode cX9_wordLength 4 = .ok (.aload_n 0, 1) := by decide +kernel
theorem dX9_wordLength_5 : decode cX9_wordLength 5 = .ok (.getfield 54, 3) := by decide +kernel
theorem dX9_wordLength_8 : decode cX9_wordLength 8 = .ok (.iload_n 1, 1) := by decide +kernel
theorem dX9_wordLength_9 : decode cX9_wordLength 9 = .ok (.invokevirtual 187, 3) := by decide +kernel
theorem dX9_wordLength_12 : decode cX9_wordLength 12 = .ok (.invokevirtual 191, 3) := by decide +kernel
theorem dX9_wordLength_15 : decode cX9_wordLength 15 = .ok (.ireturn, 1) := by decide +kernel
theorem dX9_letter_0 : decode cX9_letter 0 = .ok (.iload_n 1, 1) := by decide +kernel
theorem dX9_letter_1 : decode cX9_letter 1 = .ok (.invokestatic 140, 3) := by decide +kernel
theorem dX9_letter_4 : decode cX9_letter 4 = .ok (.aload_n 0, 1) := by decide +kernel
theorem dX9_letter_5 : decode cX9_letter 5 = .ok (.getfield 54, 3) := by decide +kernel
theorem dX9_letter_8 : decode cX9_letter 8 = .ok (.iload_n 1, 1) := by decide +kernel
theorem dX9_letter_9 : decode cX9_letter 9 = .ok (.invokevirtual 187, 3) := by decide +kernel
theorem dX9_letter_12 : decode cX9_letter 12 = .ok (.astore_n 3, 1) := by decide +kernel
theorem dX9_letter_13 : decode cX9_letter 13 = .ok (.iload_n 2, 1) := by decide +kernel
theorem dX9_letter_14 : decode cX9_letter 14 = .ok (.ifCond .lt 11, 3) := by decide +kernel
theorem dX9_letter_17 : decode cX9_letter 17 = .ok (.iload_n 2, 1) := by decide +kernel
theorem dX9_letter_18 : decode cX9_letter 18 = .ok (.aload_n 3, 1) := by decide +kernel
theorem dX9_letter_19 : decode cX9_letter 19 = .ok (.invokevirtual 191, 3) := by decide +kernel
theorem dX9_letter_22 : decode cX9_letter 22 = .ok (.if_icmp .lt 13, 3) := by decide +kernel
theorem dX9_letter_25 : decode cX9_letter 25 = .ok (.new 192, 3) := by decide +kernel
theorem dX9_letter_28 : decode cX9_letter 28 = .ok (.dup, 1) := by decide +kernel
theorem dX9_letter_29 : decode cX9_letter 29 = .ok (.ldc 194, 2) := by decide +kernel
theorem dX9_letter_31 : decode cX9_letter 31 = .ok (.invokespecial 196, 3) := by decide +kernel
theorem dX9_letter_34 : decode cX9_letter 34 = .ok (.athrow, 1) := by decide +kernel
theorem dX9_letter_35 : decode cX9_letter 35 = .ok (.aload_n 3, 1) := by decide +kernel
theorem dX9_letter_36 : decode cX9_letter 36 = .ok (.iload_n 2, 1) := by decide +kernel
theorem dX9_letter_37 : decode cX9_letter 37 = .ok (.invokevirtual 197, 3) := by decide +kernel
theorem dX9_letter_40 : decode cX9_letter 40 = .ok (.ireturn, 1) := by decide +kernel
theorem dX9_invert_0 : decode cX9_invert 0 = .ok (.iload_n 1, 1) := by decide +kernel
theorem dX9_invert_1 : decode cX9_invert 1 = .ok (.invokestatic 140, 3) := by decide +kernel
theorem dX9_invert_4 : decode cX9_invert 4 = .ok (.iload_n 2, 1) := by decide +kernel
theorem dX9_invert_5 : decode cX9_invert 5 = .ok (.invokestatic 140, 3) := by decide +kernel
theorem dX9_invert_8 : decode cX9_invert 8 = .ok (.aload_n 0, 1) := by decide +kernel
theorem dX9_invert_9 : decode cX9_invert 9 = .ok (.getfield 64, 3) := by decide +kernel
theorem dX9_invert_12 : decode cX9_invert 12 = .ok (.invokevirtual 200, 3) := by decide +kernel
theorem dX9_invert_15 : decode cX9_invert 15 = .ok (.aload_n 0, 1) := by decide +kernel
theorem dX9_invert_16 : decode cX9_invert 16 = .ok (.getfield 64, 3) := by decide +kernel
theorem dX9_invert_19 : decode cX9_invert 19 = .ok (.aload_n 0, 1) := by decide +kernel
theorem dX9_invert_20 : decode cX9_invert 20 = .ok (.getfield 54, 3) := by decide +kernel
theorem dX9_invert_23 : decode cX9_invert 23 = .ok (.iload_n 2, 1) := by decide +kernel
theorem dX9_invert_24 : decode cX9_invert 24 = .ok (.invokevirtual 187, 3) := by decide +kernel
theorem dX9_invert_27 : decode cX9_invert 27 = .ok (.invokevirtual 201, 3) := by decide +kernel
theorem dX9_invert_30 : decode cX9_invert 30 = .ok (.pop, 1) := by decide +kernel
theorem dX9_invert_31 : decode cX9_invert 31 = .ok (.aload_n 0, 1) := by decide +kernel
theorem dX9_invert_32 : decode cX9_invert 32 = .ok (.iload_n 1, 1) := by decide +kernel
theorem dX9_invert_33 : decode cX9_invert 33 = .ok (.invokevirtual 163, 3) := by decide +kernel
theorem dX9_invert_36 : decode cX9_invert 36 = .ok (.ireturn, 1) := by decide +kernel
theorem dX9_conjugate_0 : decode cX9_conjugate 0 = .ok (.iload_n 1, 1) := by decide +kernel
theorem dX9_conjugate_1 : decode cX9_conjugate 1 = .ok (.invokestatic 140, 3) := by decide +kernel
theorem dX9_conjugate_4 : decode cX9_conjugate 4 = .ok (.iload_n 2, 1) := by decide +kernel
theorem dX9_conjugate_5 : decode cX9_conjugate 5 = .ok (.invokestatic 140, 3) := by decide +kernel
theorem dX9_conjugate_8 : decode cX9_conjugate 8 = .ok (.iload_n 3, 1) := by decide +kernel
theorem dX9_conjugate_9 : decode cX9_conjugate 9 = .ok (.invokestatic 140, 3) := by decide +kernel
theorem dX9_conjugate_12 : decode cX9_conjugate 12 = .ok (.aload_n 0, 1) := by decide +kernel
theorem dX9_conjugate_13 : decode cX9_conjugate 13 = .ok (.getfield 64, 3) := by decide +kernel
theorem dX9_conjugate_16 : decode cX9_conjugate 16 = .ok (.invokevirtual 200, 3) := by decide +kernel
theorem dX9_conjugate_19 : decode cX9_conjugate 19 = .ok (.aload_n 0, 1) := by decide +kernel
theorem dX9_conjugate_20 : decode cX9_conjugate 20 = .ok (.getfield 64, 3) := by decide +kernel
theorem dX9_conjugate_23 : decode cX9_conjugate 23 = .ok (.aload_n 0, 1) := by decide +kernel
theorem dX9_conjugate_24 : decode cX9_conjugate 24 = .ok (.getfield 54, 3) := by decide +kernel
theorem dX9_conjugate_27 : decode cX9_conjugate 27 = .ok (.iload_n 3, 1) := by decide +kernel
theorem dX9_conjugate_28 : decode cX9_conjugate 28 = .ok (.invokevirtual 187, 3) := by decide +kernel
theorem dX9_conjugate_31 : decode cX9_conjugate 31 = .ok (.invokevirtual 201, 3) := by decide +kernel
theorem dX9_conjugate_34 : decode cX9_conjugate 34 = .ok (.ifCond .eq 43, 3) := by decide +kernel
theorem dX9_conjugate_37 : decode cX9_conjugate 37 = .ok (.aload_n 0, 1) := by decide +kernel
theorem dX9_conjugate_38 : decode cX9_conjugate 38 = .ok (.getfield 64, 3) := by decide +kernel
theorem dX9_conjugate_41 : decode cX9_conjugate 41 = .ok (.aload_n 0, 1) := by decide +kernel
theorem dX9_conjugate_42 : decode cX9_conjugate 42 = .ok (.getfield 54, 3) := by decide +kernel
theorem dX9_conjugate_45 : decode cX9_conjugate 45 = .ok (.iload_n 2, 1) := by decide +kernel
theorem dX9_conjugate_46 : decode cX9_conjugate 46 = .ok (.invokevirtual 187, 3) := by decide +kernel
theorem dX9_conjugate_49 : decode cX9_conjugate 49 = .ok (.invokevirtual 205, 3) := by decide +kernel
theorem dX9_conjugate_52 : decode cX9_conjugate 52 = .ok (.ifCond .eq 25, 3) := by decide +kernel
theorem dX9_conjugate_55 : decode cX9_conjugate 55 = .ok (.aload_n 0, 1) := by decide +kernel
theorem dX9_conjugate_56 : decode cX9_conjugate 56 = .ok (.getfield 64, 3) := by decide +kernel
theorem dX9_conjugate_59 : decode cX9_conjugate 59 = .ok (.aload_n 0, 1) := by decide +kernel
theorem dX9_conjugate_60 : decode cX9_conjugate 60 = .ok (.getfield 54, 3) := by decide +kernel
theorem dX9_conjugate_63 : decode cX9_conjugate 63 = .ok (.iload_n 3, 1) := by decide +kernel
theorem dX9_conjugate_64 : decode cX9_conjugate 64 = .ok (.invokevirtual 187, 3) := by decide +kernel
theorem dX9_conjugate_67 : decode cX9_conjugate 67 = .ok (.invokevirtual 205, 3) := by decide +kernel
theorem dX9_conjugate_70 : decode cX9_conjugate 70 = .ok (.ifCond .eq 7, 3) := by decide +kernel
theorem dX9_conjugate_73 : decode cX9_conjugate 73 = .ok (.iconst 1, 1) := by decide +kernel
theorem dX9_conjugate_74 : decode cX9_conjugate 74 = .ok (.goto 4, 3) := by decide +kernel
theorem dX9_conjugate_77 : decode cX9_conjugate 77 = .ok (.iconst 0, 1) := by decide +kernel
theorem dX9_conjugate_78 : decode cX9_conjugate 78 = .ok (.istore 4, 2) := by decide +kernel
theorem dX9_conjugate_80 : decode cX9_conjugate 80 = .ok (.iload 4, 2) := by decide +kernel
theorem dX9_conjugate_82 : decode cX9_conjugate 82 = .ok (.ifCond .ne 13, 3) := by decide +kernel
theorem dX9_conjugate_85 : decode cX9_conjugate 85 = .ok (.new 158, 3) := by decide +kernel
theorem dX9_conjugate_88 : decode cX9_conjugate 88 = .ok (.dup, 1) := by decide +kernel
theorem dX9_conjugate_89 : decode cX9_conjugate 89 = .ok (.ldc 208, 2) := by decide +kernel
theorem dX9_conjugate_91 : decode cX9_conjugate 91 = .ok (.invokespecial 162, 3) := by decide +kernel
theorem dX9_conjugate_94 : decode cX9_conjugate 94 = .ok (.athrow, 1) := by decide +kernel
theorem dX9_conjugate_95 : decode cX9_conjugate 95 = .ok (.aload_n 0, 1) := by decide +kernel
theorem dX9_conjugate_96 : decode cX9_conjugate 96 = .ok (.iload_n 1, 1) := by decide +kernel
theorem dX9_conjugate_97 : decode cX9_conjugate 97 = .ok (.invokevirtual 163, 3) := by decide +kernel
theorem dX9_conjugate_100 : decode cX9_conjugate 100 = .ok (.ireturn, 1) := by decide +kernel
theorem dX9_commutator_0 : decode cX9_commutator 0 = .ok (.iload_n 1, 1) := by decide +kernel
theorem dX9_commutator_1 : decode cX9_commutator 1 = .ok (.invokestatic 140, 3) := by decide +kernel
theorem dX9_commutator_4 : decode cX9_commutator 4 = .ok (.iload_n 2, 1) := by decide +kernel
theorem dX9_commutator_5 : decode cX9_commutator 5 = .ok (.invokestatic 140, 3) := by decide +kernel
theorem dX9_commutator_8 : decode cX9_commutator 8 = .ok (.iload_n 3, 1) := by decide +kernel
theorem dX9_commutator_9 : decode cX9_commutator 9 = .ok (.invokestatic 140, 3) := by decide +kernel
theorem dX9_commutator_12 : decode cX9_commutator 12 = .ok (.aload_n 0, 1) := by decide +kernel
theorem dX9_commutator_13 : decode cX9_commutator 13 = .ok (.getfield 64, 3) := by decide +kernel
theorem dX9_commutator_16 : decode cX9_commutator 16 = .ok (.invokevirtual 200, 3) := by decide +kernel
theorem dX9_commutator_19 : decode cX9_commutator 19 = .ok (.aload_n 0, 1) := by decide +kernel
theorem dX9_commutator_20 : decode cX9_commutator 20 = .ok (.getfield 64, 3) := by decide +kernel
theorem dX9_commutator_23 : decode cX9_commutator 23 = .ok (.aload_n 0, 1) := by decide +kernel
theorem dX9_commutator_24 : decode cX9_commutator 24 = .ok (.getfield 54, 3) := by decide +kernel
theorem dX9_commutator_27 : decode cX9_commutator 27 = .ok (.iload_n 2, 1) := by decide +kernel
theorem dX9_commutator_28 : decode cX9_commutator 28 = .ok (.invokevirtual 187, 3) := by decide +kernel
theorem dX9_commutator_31 : decode cX9_commutator 31 = .ok (.invokevirtual 205, 3) := by decide +kernel
theorem dX9_commutator_34 : decode cX9_commutator 34 = .ok (.ifCond .eq 61, 3) := by decide +kernel
theorem dX9_commutator_37 : decode cX9_commutator 37 = .ok (.aload_n 0, 1) := by decide +kernel
theorem dX9_commutator_38 : decode cX9_commutator 38 = .ok (.getfield 64, 3) := by decide +kernel
theorem dX9_commutator_41 : decode cX9_commutator 41 = .ok (.aload_n 0, 1) := by decide +kernel
theorem dX9_commutator_42 : decode cX9_commutator 42 = .ok (.getfield 54, 3) := by decide +kernel
theorem dX9_commutator_45 : decode cX9_commutator 45 = .ok (.iload_n 3, 1) := by decide +kernel
theorem dX9_commutator_46 : decode cX9_commutator 46 = .ok (.invokevirtual 187, 3) := by decide +kernel
theorem dX9_commutator_49 : decode cX9_commutator 49 = .ok (.invokevirtual 205, 3) := by decide +kernel
theorem dX9_commutator_52 : decode cX9_commutator 52 = .ok (.ifCond .eq 43, 3) := by decide +kernel
theorem dX9_commutator_55 : decode cX9_commutator 55 = .ok (.aload_n 0, 1) := by decide +kernel
theorem dX9_commutator_56 : decode cX9_commutator 56 = .ok (.getfield 64, 3) := by decide +kernel
theorem dX9_commutator_59 : decode cX9_commutator 59 = .ok (.aload_n 0, 1) := by decide +kernel
theorem dX9_commutator_60 : decode cX9_commutator 60 = .ok (.getfield 54, 3) := by decide +kernel
theorem dX9_commutator_63 : decode cX9_commutator 63 = .ok (.iload_n 2, 1) := by decide +kernel
theorem dX9_commutator_64 : decode cX9_commutator 64 = .ok (.invokevirtual 187, 3) := by decide +kernel
theorem dX9_commutator_67 : decode cX9_commutator 67 = .ok (.invokevirtual 201, 3) := by decide +kernel
theorem dX9_commutator_70 : decode cX9_commutator 70 = .ok (.ifCond .eq 25, 3) := by decide +kernel
theorem dX9_commutator_73 : decode cX9_commutator 73 = .ok (.aload_n 0, 1) := by decide +kernel
theorem dX9_commutator_74 : decode cX9_commutator 74 = .ok (.getfield 64, 3) := by decide +kernel
theorem dX9_commutator_77 : decode cX9_commutator 77 = .ok (.aload_n 0, 1) := by decide +kernel
theorem dX9_commutator_78 : decode cX9_commutator 78 = .ok (.getfield 54, 3) := by decide +kernel
theorem dX9_commutator_81 : decode cX9_commutator 81 = .ok (.iload_n 3, 1) := by decide +kernel
theorem dX9_commutator_82 : decode cX9_commutator 82 = .ok (.invokevirtual 187, 3) := by decide +kernel
theorem dX9_commutator_85 : decode cX9_commutator 85 = .ok (.invokevirtual 201, 3) := by decide +kernel
theorem dX9_commutator_88 : decode cX9_commutator 88 = .ok (.ifCond .eq 7, 3) := by decide +kernel
theorem dX9_commutator_91 : decode cX9_commutator 91 = .ok (.iconst 1, 1) := by decide +kernel
theorem dX9_commutator_92 : decode cX9_commutator 92 = .ok (.goto 4, 3) := by decide +kernel
theorem dX9_commutator_95 : decode cX9_commutator 95 = .ok (.iconst 0, 1) := by decide +kernel
theorem dX9_commutator_96 : decode cX9_commutator 96 = .ok (.istore 4, 2) := by decide +kernel
theorem dX9_commutator_98 : decode cX9_commutator 98 = .ok (.iload 4, 2) := by decide +kernel
theorem dX9_commutator_100 : decode cX9_commutator 100 = .ok (.ifCond .ne 13, 3) := by decide +kernel
theorem dX9_commutator_103 : decode cX9_commutator 103 = .ok (.new 158, 3) := by decide +kernel
theorem dX9_commutator_106 : decode cX9_commutator 106 = .ok (.dup, 1) := by decide +kernel
theorem dX9_commutator_107 : decode cX9_commutator 107 = .ok (.ldc 210, 2) := by decide +kernel
theorem dX9_commutator_109 : decode cX9_commutator 109 = .ok (.invokespecial 162, 3) := by decide +kernel
theorem dX9_commutator_112 : decode cX9_commutator 112 = .ok (.athrow, 1) := by decide +kernel
theorem dX9_commutator_113 : decode cX9_commutator 113 = .ok (.aload_n 0, 1) := by decide +kernel
theorem dX9_commutator_114 : decode cX9_commutator 114 = .ok (.iload_n 1, 1) := by decide +kernel
theorem dX9_commutator_115 : decode cX9_commutator 115 = .ok (.invokevirtual 163, 3) := by decide +kernel
theorem dX9_commutator_118 : decode cX9_commutator 118 = .ok (.ireturn, 1) := by decide +kernel
theorem dX9_order_0 : decode cX9_order 0 = .ok (.iload_n 1, 1) := by decide +kernel
theorem dX9_order_1 : decode cX9_order 1 = .ok (.invokestatic 140, 3) := by decide +kernel
theorem dX9_order_4 : decode cX9_order 4 = .ok (.aload_n 0, 1) := by decide +kernel
theorem dX9_order_5 : decode cX9_order 5 = .ok (.getfield 54, 3) := by decide +kernel
theorem dX9_order_8 : decode cX9_order 8 = .ok (.iload_n 1, 1) := by decide +kernel
theorem dX9_order_9 : decode cX9_order 9 = .ok (.invokevirtual 212, 3) := by decide +kernel
theorem dX9_order_12 : decode cX9_order 12 = .ok (.invokestatic 215, 3) := by decide +kernel
theorem dX9_order_15 : decode cX9_order 15 = .ok (.ireturn, 1) := by decide +kernel
theorem dX9_isOdd_0 : decode cX9_isOdd 0 = .ok (.iload_n 1, 1) := by decide +kernel
theorem dX9_isOdd_1 : decode cX9_isOdd 1 = .ok (.invokestatic 140, 3) := by decide +kernel
theorem dX9_isOdd_4 : decode cX9_isOdd 4 = .ok (.aload_n 0, 1) := by decide +kernel
theorem dX9_isOdd_5 : decode cX9_isOdd 5 = .ok (.getfield 54, 3) := by decide +kernel
theorem dX9_isOdd_8 : decode cX9_isOdd 8 = .ok (.iload_n 1, 1) := by decide +kernel
theorem dX9_isOdd_9 : decode cX9_isOdd 9 = .ok (.invokevirtual 212, 3) := by decide +kernel
theorem dX9_isOdd_12 : decode cX9_isOdd 12 = .ok (.invokestatic 218, 3) := by decide +kernel
theorem dX9_isOdd_15 : decode cX9_isOdd 15 = .ok (.ireturn, 1) := by decide +kernel
theorem dX9_cycleLength_0 : decode cX9_cycleLength 0 = .ok (.iload_n 1, 1) := by decide +kernel
theorem dX9_cycleLength_1 : decode cX9_cycleLength 1 = .ok (.invokestatic 140, 3) := by decide +kernel
theorem dX9_cycleLength_4 : decode cX9_cycleLength 4 = .ok (.aload_n 0, 1) := by decide +kernel
theorem dX9_cycleLength_5 : decode cX9_cycleLength 5 = .ok (.iload_n 2, 1) := by decide +kernel
theorem dX9_cycleLength_6 : decode cX9_cycleLength 6 = .ok (.invokevirtual 172, 3) := by decide +kernel
theorem dX9_cycleLength_9 : decode cX9_cycleLength 9 = .ok (.aload_n 0, 1) := by decide +kernel
theorem dX9_cycleLength_10 : decode cX9_cycleLength 10 = .ok (.getfield 54, 3) := by decide +kernel
theorem dX9_cycleLength_13 : decode cX9_cycleLength 13 = .ok (.iload_n 1, 1) := by decide +kernel
theorem dX9_cycleLength_14 : decode cX9_cycleLength 14 = .ok (.invokevirtual 212, 3) := by decide +kernel
theorem dX9_cycleLength_17 : decode cX9_cycleLength 17 = .ok (.iload_n 2, 1) := by decide +kernel
theorem dX9_cycleLength_18 : decode cX9_cycleLength 18 = .ok (.iconst 1, 1) := by decide +kernel
theorem dX9_cycleLength_19 : decode cX9_cycleLength 19 = .ok (.isub, 1) := by decide +kernel
theorem dX9_cycleLength_20 : decode cX9_cycleLength 20 = .ok (.invokestatic 221, 3) := by decide +kernel
theorem dX9_cycleLength_23 : decode cX9_cycleLength 23 = .ok (.ireturn, 1) := by decide +kernel
theorem dX9_isSame_0 : decode cX9_isSame 0 = .ok (.iload_n 1, 1) := by decide +kernel
theorem dX9_isSame_1 : decode cX9_isSame 1 = .ok (.invokestatic 140, 3) := by decide +kernel
theorem dX9_isSame_4 : decode cX9_isSame 4 = .ok (.iload_n 2, 1) := by decide +kernel
theorem dX9_isSame_5 : decode cX9_isSame 5 = .ok (.invokestatic 140, 3) := by decide +kernel
theorem dX9_isSame_8 : decode cX9_isSame 8 = .ok (.aload_n 0, 1) := by decide +kernel
theorem dX9_isSame_9 : decode cX9_isSame 9 = .ok (.getfield 54, 3) := by decide +kernel
theorem dX9_isSame_12 : decode cX9_isSame 12 = .ok (.iload_n 1, 1) := by decide +kernel
theorem dX9_isSame_13 : decode cX9_isSame 13 = .ok (.invokevirtual 212, 3) := by decide +kernel
theorem dX9_isSame_16 : decode cX9_isSame 16 = .ok (.aload_n 0, 1) := by decide +kernel
theorem dX9_isSame_17 : decode cX9_isSame 17 = .ok (.getfield 54, 3) := by decide +kernel
theorem dX9_isSame_20 : decode cX9_isSame 20 = .ok (.iload_n 2, 1) := by decide +kernel
theorem dX9_isSame_21 : decode cX9_isSame 21 = .ok (.invokevirtual 212, 3) := by decide +kernel
theorem dX9_isSame_24 : decode cX9_isSame 24 = .ok (.if_icmp .ne 7, 3) := by decide +kernel
theorem dX9_isSame_27 : decode cX9_isSame 27 = .ok (.iconst 1, 1) := by decide +kernel
theorem dX9_isSame_28 : decode cX9_isSame 28 = .ok (.goto 4, 3) := by decide +kernel
theorem dX9_isSame_31 : decode cX9_isSame 31 = .ok (.iconst 0, 1) := by decide +kernel
theorem dX9_isSame_32 : decode cX9_isSame 32 = .ok (.ireturn, 1) := by decide +kernel
theorem dX9_perform_0 : decode cX9_perform 0 = .ok (.iload_n 1, 1) := by decide +kernel
theorem dX9_perform_1 : decode cX9_perform 1 = .ok (.invokestatic 140, 3) := by decide +kernel
theorem dX9_perform_4 : decode cX9_perform 4 = .ok (.iload_n 2, 1) := by decide +kernel
theorem dX9_perform_5 : decode cX9_perform 5 = .ok (.bipush (-100), 2) := by decide +kernel
theorem dX9_perform_7 : decode cX9_perform 7 = .ok (.if_icmp .lt 9, 3) := by decide +kernel
theorem dX9_perform_10 : decode cX9_perform 10 = .ok (.iload_n 2, 1) := by decide +kernel
theorem dX9_perform_11 : decode cX9_perform 11 = .ok (.bipush 100, 2) := by decide +kernel
theorem dX9_perform_13 : decode cX9_perform 13 = .ok (.if_icmp .le 13, 3) := by decide +kernel
theorem dX9_perform_16 : decode cX9_perform 16 = .ok (.new 90, 3) := by decide +kernel
theorem dX9_perform_19 : decode cX9_perform 19 = .ok (.dup, 1) := by decide +kernel
theorem dX9_perform_20 : decode cX9_perform 20 = .ok (.ldc 224, 2) := by decide +kernel
theorem dX9_perform_22 : decode cX9_perform 22 = .ok (.invokespecial 94, 3) := by decide +kernel
theorem dX9_perform_25 : decode cX9_perform 25 = .ok (.athrow, 1) := by decide +kernel
theorem dX9_perform_26 : decode cX9_perform 26 = .ok (.aload_n 0, 1) := by decide +kernel
theorem dX9_perform_27 : decode cX9_perform 27 = .ok (.getfield 54, 3) := by decide +kernel
theorem dX9_perform_30 : decode cX9_perform 30 = .ok (.iload_n 1, 1) := by decide +kernel
theorem dX9_perform_31 : decode cX9_perform 31 = .ok (.invokevirtual 212, 3) := by decide +kernel
theorem dX9_perform_34 : decode cX9_perform 34 = .ok (.istore_n 3, 1) := by decide +kernel
theorem dX9_perform_35 : decode cX9_perform 35 = .ok (.iload_n 2, 1) := by decide +kernel
theorem dX9_perform_36 : decode cX9_perform 36 = .ok (.ifCond .ge 10, 3) := by decide +kernel
theorem dX9_perform_39 : decode cX9_perform 39 = .ok (.iload_n 3, 1) := by decide +kernel
theorem dX9_perform_40 : decode cX9_perform 40 = .ok (.invokestatic 226, 3) := by decide +kernel
theorem dX9_perform_43 : decode cX9_perform 43 = .ok (.goto 4, 3) := by decide +kernel
theorem dX9_perform_46 : decode cX9_perform 46 = .ok (.iload_n 3, 1) := by decide +kernel
theorem dX9_perform_47 : decode cX9_perform 47 = .ok (.istore 4, 2) := by decide +kernel
theorem dX9_perform_49 : decode cX9_perform 49 = .ok (.aload_n 0, 1) := by decide +kernel
theorem dX9_perform_50 : decode cX9_perform 50 = .ok (.getfield 54, 3) := by decide +kernel
theorem dX9_perform_53 : decode cX9_perform 53 = .ok (.invokevirtual 229, 3) := by decide +kernel
theorem dX9_perform_56 : decode cX9_perform 56 = .ok (.istore 5, 2) := by decide +kernel
theorem dX9_perform_58 : decode cX9_perform 58 = .ok (.iload 5, 2) := by decide +kernel
theorem dX9_perform_60 : decode cX9_perform 60 = .ok (.istore 6, 2) := by decide +kernel
theorem dX9_perform_62 : decode cX9_perform 62 = .ok (.iload_n 2, 1) := by decide +kernel
theorem dX9_perform_63 : decode cX9_perform 63 = .ok (.invokestatic 232, 3) := by decide +kernel
theorem dX9_perform_66 : decode cX9_perform 66 = .ok (.istore 7, 2) := by decide +kernel
theorem dX9_perform_68 : decode cX9_perform 68 = .ok (.iload 7, 2) := by decide +kernel
theorem dX9_perform_70 : decode cX9_perform 70 = .ok (.ifCond .le 18, 3) := by decide +kernel
theorem dX9_perform_73 : decode cX9_perform 73 = .ok (.iload 6, 2) := by decide +kernel
theorem dX9_perform_75 : decode cX9_perform 75 = .ok (.iload 4, 2) := by decide +kernel
theorem dX9_perform_77 : decode cX9_perform 77 = .ok (.invokestatic 237, 3) := by decide +kernel
theorem dX9_perform_80 : decode cX9_perform 80 = .ok (.istore 6, 2) := by decide +kernel
theorem dX9_perform_82 : decode cX9_perform 82 = .ok (.iinc 7 (-1), 3) := by decide +kernel
theorem dX9_perform_85 : decode cX9_perform 85 = .ok (.goto (-17), 3) := by decide +kernel
theorem dX9_perform_88 : decode cX9_perform 88 = .ok (.aload_n 0, 1) := by decide +kernel
theorem dX9_perform_89 : decode cX9_perform 89 = .ok (.getfield 54, 3) := by decide +kernel
theorem dX9_perform_92 : decode cX9_perform 92 = .ok (.iload 6, 2) := by decide +kernel
theorem dX9_perform_94 : decode cX9_perform 94 = .ok (.invokevirtual 240, 3) := by decide +kernel
theorem dX9_perform_97 : decode cX9_perform 97 = .ok (.iload 5, 2) := by decide +kernel
theorem dX9_perform_99 : decode cX9_perform 99 = .ok (.iload 6, 2) := by decide +kernel
theorem dX9_perform_101 : decode cX9_perform 101 = .ok (.invokestatic 134, 3) := by decide +kernel
theorem dX9_perform_104 : decode cX9_perform 104 = .ok (.ireturn, 1) := by decide +kernel
theorem dX9_exchange_0 : decode cX9_exchange 0 = .ok (.aload_n 0, 1) := by decide +kernel
theorem dX9_exchange_1 : decode cX9_exchange 1 = .ok (.iload_n 1, 1) := by decide +kernel
theorem dX9_exchange_2 : decode cX9_exchange 2 = .ok (.invokevirtual 172, 3) := by decide +kernel
theorem dX9_exchange_5 : decode cX9_exchange 5 = .ok (.aload_n 0, 1) := by decide +kernel
theorem dX9_exchange_6 : decode cX9_exchange 6 = .ok (.iload_n 2, 1) := by decide +kernel
theorem dX9_exchange_7 : decode cX9_exchange 7 = .ok (.invokevirtual 172, 3) := by decide +kernel
theorem dX9_exchange_10 : decode cX9_exchange 10 = .ok (.ldc 133, 2) := by decide +kernel
theorem dX9_exchange_12 : decode cX9_exchange 12 = .ok (.iload_n 1, 1) := by decide +kernel
theorem dX9_exchange_13 : decode cX9_exchange 13 = .ok (.iconst 1, 1) := by decide +kernel
theorem dX9_exchange_14 : decode cX9_exchange 14 = .ok (.isub, 1) := by decide +kernel
theorem dX9_exchange_15 : decode cX9_exchange 15 = .ok (.iload_n 2, 1) := by decide +kernel
theorem dX9_exchange_16 : decode cX9_exchange 16 = .ok (.iconst 1, 1) := by decide +kernel
theorem dX9_exchange_17 : decode cX9_exchange 17 = .ok (.isub, 1) := by decide +kernel
theorem dX9_exchange_18 : decode cX9_exchange 18 = .ok (.invokestatic 243, 3) := by decide +kernel
theorem dX9_exchange_21 : decode cX9_exchange 21 = .ok (.istore_n 3, 1) := by decide +kernel
theorem dX9_exchange_22 : decode cX9_exchange 22 = .ok (.iload_n 3, 1) := by decide +kernel
theorem dX9_exchange_23 : decode cX9_exchange 23 = .ok (.iload_n 2, 1) := by decide +kernel
theorem dX9_exchange_24 : decode cX9_exchange 24 = .ok (.iconst 1, 1) := by decide +kernel
theorem dX9_exchange_25 : decode cX9_exchange 25 = .ok (.isub, 1) := by decide +kernel
theorem dX9_exchange_26 : decode cX9_exchange 26 = .ok (.iload_n 1, 1) := by decide +kernel
theorem dX9_exchange_27 : decode cX9_exchange 27 = .ok (.iconst 1, 1) := by decide +kernel
theorem dX9_exchange_28 : decode cX9_exchange 28 = .ok (.isub, 1) := by decide +kernel
theorem dX9_exchange_29 : decode cX9_exchange 29 = .ok (.invokestatic 243, 3) := by decide +kernel
theorem dX9_exchange_32 : decode cX9_exchange 32 = .ok (.istore_n 3, 1) := by decide +kernel
theorem dX9_exchange_33 : decode cX9_exchange 33 = .ok (.aload_n 0, 1) := by decide +kernel
theorem dX9_exchange_34 : decode cX9_exchange 34 = .ok (.getfield 54, 3) := by decide +kernel
theorem dX9_exchange_37 : decode cX9_exchange 37 = .ok (.aload_n 0, 1) := by decide +kernel
theorem dX9_exchange_38 : decode cX9_exchange 38 = .ok (.getfield 54, 3) := by decide +kernel
theorem dX9_exchange_41 : decode cX9_exchange 41 = .ok (.invokevirtual 229, 3) := by decide +kernel
theorem dX9_exchange_44 : decode cX9_exchange 44 = .ok (.iload_n 3, 1) := by decide +kernel
theorem dX9_exchange_45 : decode cX9_exchange 45 = .ok (.invokestatic 237, 3) := by decide +kernel
theorem dX9_exchange_48 : decode cX9_exchange 48 = .ok (.invokevirtual 240, 3) := by decide +kernel
theorem dX9_exchange_51 : decode cX9_exchange 51 = .ok (.aload_n 0, 1) := by decide +kernel
theorem dX9_exchange_52 : decode cX9_exchange 52 = .ok (.iload_n 1, 1) := by decide +kernel
theorem dX9_exchange_53 : decode cX9_exchange 53 = .ok (.invokevirtual 247, 3) := by decide +kernel
theorem dX9_exchange_56 : decode cX9_exchange 56 = .ok (.ireturn, 1) := by decide +kernel
theorem dX9_token_0 : decode cX9_token 0 = .ok (.aload_n 0, 1) := by decide +kernel
theorem dX9_token_1 : decode cX9_token 1 = .ok (.iload_n 1, 1) := by decide +kernel
theorem dX9_token_2 : decode cX9_token 2 = .ok (.invokevirtual 172, 3) := by decide +kernel
theorem dX9_token_5 : decode cX9_token 5 = .ok (.aload_n 0, 1) := by decide +kernel
theorem dX9_token_6 : decode cX9_token 6 = .ok (.iload_n 1, 1) := by decide +kernel
theorem dX9_token_7 : decode cX9_token 7 = .ok (.invokevirtual 247, 3) := by decide +kernel
theorem dX9_token_10 : decode cX9_token 10 = .ok (.ireturn, 1) := by decide +kernel
theorem dX9_depth_0 : decode cX9_depth 0 = .ok (.aload_n 0, 1) := by decide +kernel
theorem dX9_depth_1 : decode cX9_depth 1 = .ok (.invokevirtual 250, 3) := by decide +kernel
theorem dX9_depth_4 : decode cX9_depth 4 = .ok (.ireturn, 1) := by decide +kernel
theorem dX9_solve_0 : decode cX9_solve 0 = .ok (.iload_n 1, 1) := by decide +kernel
theorem dX9_solve_1 : decode cX9_solve 1 = .ok (.invokestatic 140, 3) := by decide +kernel
theorem dX9_solve_4 : decode cX9_solve 4 = .ok (.aload_n 0, 1) := by decide +kernel
theorem dX9_solve_5 : decode cX9_solve 5 = .ok (.invokevirtual 250, 3) := by decide +kernel
theorem dX9_solve_8 : decode cX9_solve 8 = .ok (.istore_n 2, 1) := by decide +kernel
theorem dX9_solve_9 : decode cX9_solve 9 = .ok (.aload_n 0, 1) := by decide +kernel
theorem dX9_solve_10 : decode cX9_solve 10 = .ok (.getfield 64, 3) := by decide +kernel
theorem dX9_solve_13 : decode cX9_solve 13 = .ok (.invokevirtual 200, 3) := by decide +kernel
theorem dX9_solve_16 : decode cX9_solve 16 = .ok (.aload_n 0, 1) := by decide +kernel
theorem dX9_solve_17 : decode cX9_solve 17 = .ok (.getfield 54, 3) := by decide +kernel
theorem dX9_solve_20 : decode cX9_solve 20 = .ok (.invokevirtual 229, 3) := by decide +kernel
theorem dX9_solve_23 : decode cX9_solve 23 = .ok (.istore_n 3, 1) := by decide +kernel
theorem dX9_solve_24 : decode cX9_solve 24 = .ok (.iload_n 2, 1) := by decide +kernel
theorem dX9_solve_25 : decode cX9_solve 25 = .ok (.istore 4, 2) := by decide +kernel
theorem dX9_solve_27 : decode cX9_solve 27 = .ok (.iload 4, 2) := by decide +kernel
theorem dX9_solve_29 : decode cX9_solve 29 = .ok (.ifCond .le 44, 3) := by decide +kernel
theorem dX9_solve_32 : decode cX9_solve 32 = .ok (.aload_n 0, 1) := by decide +kernel
theorem dX9_solve_33 : decode cX9_solve 33 = .ok (.iload_n 3, 1) := by decide +kernel
theorem dX9_solve_34 : decode cX9_solve 34 = .ok (.iload 4, 2) := by decide +kernel
theorem dX9_solve_36 : decode cX9_solve 36 = .ok (.iconst 1, 1) := by decide +kernel
theorem dX9_solve_37 : decode cX9_solve 37 = .ok (.isub, 1) := by decide +kernel
theorem dX9_solve_38 : decode cX9_solve 38 = .ok (.invokevirtual 253, 3) := by decide +kernel
theorem dX9_solve_41 : decode cX9_solve 41 = .ok (.istore 5, 2) := by decide +kernel
theorem dX9_solve_43 : decode cX9_solve 43 = .ok (.aload_n 0, 1) := by decide +kernel
theorem dX9_solve_44 : decode cX9_solve 44 = .ok (.getfield 64, 3) := by decide +kernel
theorem dX9_solve_47 : decode cX9_solve 47 = .ok (.iload 5, 2) := by decide +kernel
theorem dX9_solve_49 : decode cX9_solve 49 = .ok (.invokevirtual 256, 3) := by decide +kernel
theorem dX9_solve_52 : decode cX9_solve 52 = .ok (.pop, 1) := by decide +kernel
theorem dX9_solve_53 : decode cX9_solve 53 = .ok (.iload_n 3, 1) := by decide +kernel
theorem dX9_solve_54 : decode cX9_solve 54 = .ok (.aload_n 0, 1) := by decide +kernel
theorem dX9_solve_55 : decode cX9_solve 55 = .ok (.getfield 54, 3) := by decide +kernel
theorem dX9_solve_58 : decode cX9_solve 58 = .ok (.iload 5, 2) := by decide +kernel
theorem dX9_solve_60 : decode cX9_solve 60 = .ok (.invokevirtual 181, 3) := by decide +kernel
theorem dX9_solve_63 : decode cX9_solve 63 = .ok (.invokestatic 237, 3) := by decide +kernel
theorem dX9_solve_66 : decode cX9_solve 66 = .ok (.istore_n 3, 1) := by decide +kernel
theorem dX9_solve_67 : decode cX9_solve 67 = .ok (.iinc 4 (-1), 3) := by decide +kernel
theorem dX9_solve_70 : decode cX9_solve 70 = .ok (.goto (-43), 3) := by decide +kernel
theorem dX9_solve_73 : decode cX9_solve 73 = .ok (.aload_n 0, 1) := by decide +kernel
theorem dX9_solve_74 : decode cX9_solve 74 = .ok (.iload_n 1, 1) := by decide +kernel
theorem dX9_solve_75 : decode cX9_solve 75 = .ok (.invokevirtual 163, 3) := by decide +kernel
theorem dX9_solve_78 : decode cX9_solve 78 = .ok (.ireturn, 1) := by decide +kernel
theorem dX9_countAt_0 : decode cX9_countAt 0 = .ok (.aload_n 0, 1) := by decide +kernel
theorem dX9_countAt_1 : decode cX9_countAt 1 = .ok (.invokevirtual 258, 3) := by decide +kernel
theorem dX9_countAt_4 : decode cX9_countAt 4 = .ok (.iload_n 1, 1) := by decide +kernel
theorem dX9_countAt_5 : decode cX9_countAt 5 = .ok (.invokevirtual 262, 3) := by decide +kernel
theorem dX9_countAt_8 : decode cX9_countAt 8 = .ok (.ireturn, 1) := by decide +kernel
theorem dX9_reachable_0 : decode cX9_reachable 0 = .ok (.aload_n 0, 1) := by decide +kernel
theorem dX9_reachable_1 : decode cX9_reachable 1 = .ok (.invokevirtual 258, 3) := by decide +kernel
theorem dX9_reachable_4 : decode cX9_reachable 4 = .ok (.invokevirtual 265, 3) := by decide +kernel
theorem dX9_reachable_7 : decode cX9_reachable 7 = .ok (.ireturn, 1) := by decide +kernel
theorem dX9_greatestDepth_0 : decode cX9_greatestDepth 0 = .ok (.aload_n 0, 1) := by decide +kernel
theorem dX9_greatestDepth_1 : decode cX9_greatestDepth 1 = .ok (.invokevirtual 258, 3) := by decide +kernel
theorem dX9_greatestDepth_4 : decode cX9_greatestDepth 4 = .ok (.invokevirtual 268, 3) := by decide +kernel
theorem dX9_greatestDepth_7 : decode cX9_greatestDepth 7 = .ok (.ireturn, 1) := by decide +kernel
theorem dX9_averageDepth_0 : decode cX9_averageDepth 0 = .ok (.aload_n 0, 1) := by decide +kernel
theorem dX9_averageDepth_1 : decode cX9_averageDepth 1 = .ok (.invokevirtual 258, 3) := by decide +kernel
theorem dX9_averageDepth_4 : decode cX9_averageDepth 4 = .ok (.astore_n 1, 1) := by decide +kernel
theorem dX9_averageDepth_5 : decode cX9_averageDepth 5 = .ok (.aload_n 1, 1) := by decide +kernel
theorem dX9_averageDepth_6 : decode cX9_averageDepth 6 = .ok (.invokevirtual 265, 3) := by decide +kernel
theorem dX9_averageDepth_9 : decode cX9_averageDepth 9 = .ok (.istore_n 2, 1) := by decide +kernel
theorem dX9_averageDepth_10 : decode cX9_averageDepth 10 = .ok (.iload_n 2, 1) := by decide +kernel
theorem dX9_averageDepth_11 : decode cX9_averageDepth 11 = .ok (.ifCond .le 14, 3) := by decide +kernel
theorem dX9_averageDepth_14 : decode cX9_averageDepth 14 = .ok (.aload_n 1, 1) := by decide +kernel
theorem dX9_averageDepth_15 : decode cX9_averageDepth 15 = .ok (.invokevirtual 271, 3) := by decide +kernel
theorem dX9_averageDepth_18 : decode cX9_averageDepth 18 = .ok (.i2d, 1) := by decide +kernel
theorem dX9_averageDepth_19 : decode cX9_averageDepth 19 = .ok (.iload_n 2, 1) := by decide +kernel
theorem dX9_averageDepth_20 : decode cX9_averageDepth 20 = .ok (.i2d, 1) := by decide +kernel
theorem dX9_averageDepth_21 : decode cX9_averageDepth 21 = .ok (.ddiv, 1) := by decide +kernel
theorem dX9_averageDepth_22 : decode cX9_averageDepth 22 = .ok (.goto 4, 3) := by decide +kernel
theorem dX9_averageDepth_25 : decode cX9_averageDepth 25 = .ok (.dconst 0, 1) := by decide +kernel
theorem dX9_averageDepth_26 : decode cX9_averageDepth 26 = .ok (.dreturn, 1) := by decide +kernel
theorem dX9_orbit_0 : decode cX9_orbit 0 = .ok (.aload_n 0, 1) := by decide +kernel
theorem dX9_orbit_1 : decode cX9_orbit 1 = .ok (.iload_n 1, 1) := by decide +kernel
theorem dX9_orbit_2 : decode cX9_orbit 2 = .ok (.invokevirtual 172, 3) := by decide +kernel
theorem dX9_orbit_5 : decode cX9_orbit 5 = .ok (.iconst 1, 1) := by decide +kernel
theorem dX9_orbit_6 : decode cX9_orbit 6 = .ok (.iload_n 1, 1) := by decide +kernel
theorem dX9_orbit_7 : decode cX9_orbit 7 = .ok (.iconst 1, 1) := by decide +kernel
theorem dX9_orbit_8 : decode cX9_orbit 8 = .ok (.isub, 1) := by decide +kernel
theorem dX9_orbit_9 : decode cX9_orbit 9 = .ok (.ishl, 1) := by decide +kernel
theorem dX9_orbit_10 : decode cX9_orbit 10 = .ok (.istore_n 2, 1) := by decide +kernel
theorem dX9_orbit_11 : decode cX9_orbit 11 = .ok (.iconst 1, 1) := by decide +kernel
theorem dX9_orbit_12 : decode cX9_orbit 12 = .ok (.istore_n 3, 1) := by decide +kernel
theorem dX9_orbit_13 : decode cX9_orbit 13 = .ok (.iload_n 3, 1) := by decide +kernel
theorem dX9_orbit_14 : decode cX9_orbit 14 = .ok (.aload_n 0, 1) := by decide +kernel
theorem dX9_orbit_15 : decode cX9_orbit 15 = .ok (.getfield 76, 3) := by decide +kernel
theorem dX9_orbit_18 : decode cX9_orbit 18 = .ok (.if_icmp .ge 18, 3) := by decide +kernel
theorem dX9_orbit_21 : decode cX9_orbit 21 = .ok (.aload_n 0, 1) := by decide +kernel
theorem dX9_orbit_22 : decode cX9_orbit 22 = .ok (.getfield 54, 3) := by decide +kernel
theorem dX9_orbit_25 : decode cX9_orbit 25 = .ok (.iload_n 2, 1) := by decide +kernel
theorem dX9_orbit_26 : decode cX9_orbit 26 = .ok (.invokevirtual 274, 3) := by decide +kernel
theorem dX9_orbit_29 : decode cX9_orbit 29 = .ok (.istore_n 2, 1) := by decide +kernel
theorem dX9_orbit_30 : decode cX9_orbit 30 = .ok (.iinc 3 1, 3) := by decide +kernel
theorem dX9_orbit_33 : decode cX9_orbit 33 = .ok (.goto (-20), 3) := by decide +kernel
theorem dX9_orbit_36 : decode cX9_orbit 36 = .ok (.iload_n 2, 1) := by decide +kernel
theorem dX9_orbit_37 : decode cX9_orbit 37 = .ok (.ireturn, 1) := by decide +kernel
theorem dX9_findCommutator_0 : decode cX9_findCommutator 0 = .ok (.iload_n 1, 1) := by decide +kernel
theorem dX9_findCommutator_1 : decode cX9_findCommutator 1 = .ok (.invokestatic 140, 3) := by decide +kernel
theorem dX9_findCommutator_4 : decode cX9_findCommutator 4 = .ok (.aload_n 0, 1) := by decide +kernel
theorem dX9_findCommutator_5 : decode cX9_findCommutator 5 = .ok (.getfield 40, 3) := by decide +kernel
theorem dX9_findCommutator_8 : decode cX9_findCommutator 8 = .ok (.aload_n 0, 1) := by decide +kernel
theorem dX9_findCommutator_9 : decode cX9_findCommutator 9 = .ok (.getfield 54, 3) := by decide +kernel
theorem dX9_findCommutator_12 : decode cX9_findCommutator 12 = .ok (.iload_n 2, 1) := by decide +kernel
theorem dX9_findCommutator_13 : decode cX9_findCommutator 13 = .ok (.aload_n 0, 1) := by decide +kernel
theorem dX9_findCommutator_14 : decode cX9_findCommutator 14 = .ok (.getfield 64, 3) := by decide +kernel
theorem dX9_findCommutator_17 : decode cX9_findCommutator 17 = .ok (.invokevirtual 277, 3) := by decide +kernel
theorem dX9_findCommutator_20 : decode cX9_findCommutator 20 = .ok (.ifCond .ne 14, 3) := by decide +kernel
theorem dX9_findCommutator_23 : decode cX9_findCommutator 23 = .ok (.new 167, 3) := by decide +kernel
theorem dX9_findCommutator_26 : decode cX9_findCommutator 26 = .ok (.dup, 1) := by decide +kernel
theorem dX9_findCommutator_27 : decode cX9_findCommutator 27 = .ok (.ldc_w 281, 3) := by decide +kernel
theorem dX9_findCommutator_30 : decode cX9_findCommutator 30 = .ok (.invokespecial 171, 3) := by decide +kernel
theorem dX9_findCommutator_33 : decode cX9_findCommutator 33 = .ok (.athrow, 1) := by decide +kernel
theorem dX9_findCommutator_34 : decode cX9_findCommutator 34 = .ok (.aload_n 0, 1) := by decide +kernel
theorem dX9_findCommutator_35 : decode cX9_findCommutator 35 = .ok (.iload_n 1, 1) := by decide +kernel
theorem dX9_findCommutator_36 : decode cX9_findCommutator 36 = .ok (.invokevirtual 163, 3) := by decide +kernel
theorem dX9_findCommutator_39 : decode cX9_findCommutator 39 = .ok (.ireturn, 1) := by decide +kernel
theorem dX9_fillShares_0 : decode cX9_fillShares 0 = .ok (.iload_n 1, 1) := by decide +kernel
theorem dX9_fillShares_1 : decode cX9_fillShares 1 = .ok (.invokestatic 283, 3) := by decide +kernel
theorem dX9_fillShares_4 : decode cX9_fillShares 4 = .ok (.aload_n 0, 1) := by decide +kernel
theorem dX9_fillShares_5 : decode cX9_fillShares 5 = .ok (.invokevirtual 258, 3) := by decide +kernel
theorem dX9_fillShares_8 : decode cX9_fillShares 8 = .ok (.astore_n 2, 1) := by decide +kernel
theorem dX9_fillShares_9 : decode cX9_fillShares 9 = .ok (.aload_n 2, 1) := by decide +kernel
theorem dX9_fillShares_10 : decode cX9_fillShares 10 = .ok (.invokevirtual 265, 3) := by decide +kernel
theorem dX9_fillShares_13 : decode cX9_fillShares 13 = .ok (.istore_n 3, 1) := by decide +kernel
theorem dX9_fillShares_14 : decode cX9_fillShares 14 = .ok (.iconst 0, 1) := by decide +kernel
theorem dX9_fillShares_15 : decode cX9_fillShares 15 = .ok (.istore 4, 2) := by decide +kernel
theorem dX9_fillShares_17 : decode cX9_fillShares 17 = .ok (.iload_n 3, 1) := by decide +kernel
theorem dX9_fillShares_18 : decode cX9_fillShares 18 = .ok (.ifCond .le 57, 3) := by decide +kernel
theorem dX9_fillShares_21 : decode cX9_fillShares 21 = .ok (.iload 4, 2) := by decide +kernel
theorem dX9_fillShares_23 : decode cX9_fillShares 23 = .ok (.bipush 24, 2) := by decide +kernel
theorem dX9_fillShares_25 : decode cX9_fillShares 25 = .ok (.if_icmp .ge 50, 3) := by decide +kernel
theorem dX9_fillShares_28 : decode cX9_fillShares 28 = .ok (.aload_n 2, 1) := by decide +kernel
theorem dX9_fillShares_29 : decode cX9_fillShares 29 = .ok (.iload 4, 2) := by decide +kernel
theorem dX9_fillShares_31 : decode cX9_fillShares 31 = .ok (.invokevirtual 262, 3) := by decide +kernel
theorem dX9_fillShares_34 : decode cX9_fillShares 34 = .ok (.istore 5, 2) := by decide +kernel
theorem dX9_fillShares_36 : decode cX9_fillShares 36 = .ok (.iload_n 1, 1) := by decide +kernel
theorem dX9_fillShares_37 : decode cX9_fillShares 37 = .ok (.ifCond .ne 19, 3) := by decide +kernel
theorem dX9_fillShares_40 : decode cX9_fillShares 40 = .ok (.aload_n 0, 1) := by decide +kernel
theorem dX9_fillShares_41 : decode cX9_fillShares 41 = .ok (.getfield 68, 3) := by decide +kernel
theorem dX9_fillShares_44 : decode cX9_fillShares 44 = .ok (.iload 4, 2) := by decide +kernel
theorem dX9_fillShares_46 : decode cX9_fillShares 46 = .ok (.iload 5, 2) := by decide +kernel
theorem dX9_fillShares_48 : decode cX9_fillShares 48 = .ok (.i2f, 1) := by decide +kernel
theorem dX9_fillShares_49 : decode cX9_fillShares 49 = .ok (.iload_n 3, 1) := by decide +kernel
theorem dX9_fillShares_50 : decode cX9_fillShares 50 = .ok (.i2f, 1) := by decide +kernel
theorem dX9_fillShares_51 : decode cX9_fillShares 51 = .ok (.fdiv, 1) := by decide +kernel
theorem dX9_fillShares_52 : decode cX9_fillShares 52 = .ok (.fastore, 1) := by decide +kernel
theorem dX9_fillShares_53 : decode cX9_fillShares 53 = .ok (.goto 16, 3) := by decide +kernel
theorem dX9_fillShares_56 : decode cX9_fillShares 56 = .ok (.aload_n 0, 1) := by decide +kernel
theorem dX9_fillShares_57 : decode cX9_fillShares 57 = .ok (.getfield 72, 3) := by decide +kernel
theorem dX9_fillShares_60 : decode cX9_fillShares 60 = .ok (.iload 4, 2) := by decide +kernel
theorem dX9_fillShares_62 : decode cX9_fillShares 62 = .ok (.iload 5, 2) := by decide +kernel
theorem dX9_fillShares_64 : decode cX9_fillShares 64 = .ok (.i2d, 1) := by decide +kernel
theorem dX9_fillShares_65 : decode cX9_fillShares 65 = .ok (.iload_n 3, 1) := by decide +kernel
theorem dX9_fillShares_66 : decode cX9_fillShares 66 = .ok (.i2d, 1) := by decide +kernel
theorem dX9_fillShares_67 : decode cX9_fillShares 67 = .ok (.ddiv, 1) := by decide +kernel
theorem dX9_fillShares_68 : decode cX9_fillShares 68 = .ok (.dastore, 1) := by decide +kernel
theorem dX9_fillShares_69 : decode cX9_fillShares 69 = .ok (.iinc 4 1, 3) := by decide +kernel
theorem dX9_fillShares_72 : decode cX9_fillShares 72 = .ok (.goto (-55), 3) := by decide +kernel
theorem dX9_fillShares_75 : decode cX9_fillShares 75 = .ok (.iconst 0, 1) := by decide +kernel
theorem dX9_fillShares_76 : decode cX9_fillShares 76 = .ok (.aload_n 2, 1) := by decide +kernel
theorem dX9_fillShares_77 : decode cX9_fillShares 77 = .ok (.invokevirtual 268, 3) := by decide +kernel
theorem dX9_fillShares_80 : decode cX9_fillShares 80 = .ok (.iconst 1, 1) := by decide +kernel
theorem dX9_fillShares_81 : decode cX9_fillShares 81 = .ok (.iadd, 1) := by decide +kernel
theorem dX9_fillShares_82 : decode cX9_fillShares 82 = .ok (.bipush 24, 2) := by decide +kernel
theorem dX9_fillShares_84 : decode cX9_fillShares 84 = .ok (.isub, 1) := by decide +kernel
theorem dX9_fillShares_85 : decode cX9_fillShares 85 = .ok (.invokestatic 286, 3) := by decide +kernel
theorem dX9_fillShares_88 : decode cX9_fillShares 88 = .ok (.ireturn, 1) := by decide +kernel
theorem dX9_scale_0 : decode cX9_scale 0 = .ok (.iload_n 1, 1) := by decide +kernel
theorem dX9_scale_1 : decode cX9_scale 1 = .ok (.iload_n 2, 1) := by decide +kernel
theorem dX9_scale_2 : decode cX9_scale 2 = .ok (.invokestatic 289, 3) := by decide +kernel
theorem dX9_scale_5 : decode cX9_scale 5 = .ok (.iload_n 3, 1) := by decide +kernel
theorem dX9_scale_6 : decode cX9_scale 6 = .ok (.sipush (-1000), 3) := by decide +kernel
theorem dX9_scale_9 : decode cX9_scale 9 = .ok (.if_icmp .lt 10, 3) := by decide +kernel
theorem dX9_scale_12 : decode cX9_scale 12 = .ok (.iload_n 3, 1) := by decide +kernel
theorem dX9_scale_13 : decode cX9_scale 13 = .ok (.sipush 1000, 3) := by decide +kernel
theorem dX9_scale_16 : decode cX9_scale 16 = .ok (.if_icmp .le 14, 3) := by decide +kernel
theorem dX9_scale_19 : decode cX9_scale 19 = .ok (.new 90, 3) := by decide +kernel
theorem dX9_scale_22 : decode cX9_scale 22 = .ok (.dup, 1) := by decide +kernel
theorem dX9_scale_23 : decode cX9_scale 23 = .ok (.ldc_w 292, 3) := by decide +kernel
theorem dX9_scale_26 : decode cX9_scale 26 = .ok (.invokespecial 94, 3) := by decide +kernel
theorem dX9_scale_29 : decode cX9_scale 29 = .ok (.athrow, 1) := by decide +kernel
theorem dX9_scale_30 : decode cX9_scale 30 = .ok (.iload_n 1, 1) := by decide +kernel
theorem dX9_scale_31 : decode cX9_scale 31 = .ok (.ifCond .ne 12, 3) := by decide +kernel
theorem dX9_scale_34 : decode cX9_scale 34 = .ok (.aload_n 0, 1) := by decide +kernel
theorem dX9_scale_35 : decode cX9_scale 35 = .ok (.iload_n 2, 1) := by decide +kernel
theorem dX9_scale_36 : decode cX9_scale 36 = .ok (.iload_n 3, 1) := by decide +kernel
theorem dX9_scale_37 : decode cX9_scale 37 = .ok (.invokevirtual 294, 3) := by decide +kernel
theorem dX9_scale_40 : decode cX9_scale 40 = .ok (.goto 9, 3) := by decide +kernel
theorem dX9_scale_43 : decode cX9_scale 43 = .ok (.aload_n 0, 1) := by decide +kernel
theorem dX9_scale_44 : decode cX9_scale 44 = .ok (.iload_n 2, 1) := by decide +kernel
theorem dX9_scale_45 : decode cX9_scale 45 = .ok (.iload_n 3, 1) := by decide +kernel
theorem dX9_scale_46 : decode cX9_scale 46 = .ok (.invokevirtual 297, 3) := by decide +kernel
theorem dX9_scale_49 : decode cX9_scale 49 = .ok (.ireturn, 1) := by decide +kernel
theorem dX9_remainder_0 : decode cX9_remainder 0 = .ok (.iload_n 1, 1) := by decide +kernel
theorem dX9_remainder_1 : decode cX9_remainder 1 = .ok (.iload_n 2, 1) := by decide +kernel
theorem dX9_remainder_2 : decode cX9_remainder 2 = .ok (.invokestatic 289, 3) := by decide +kernel
theorem dX9_remainder_5 : decode cX9_remainder 5 = .ok (.iload_n 3, 1) := by decide +kernel
theorem dX9_remainder_6 : decode cX9_remainder 6 = .ok (.ifCond .ne 14, 3) := by decide +kernel
theorem dX9_remainder_9 : decode cX9_remainder 9 = .ok (.new 158, 3) := by decide +kernel
theorem dX9_remainder_12 : decode cX9_remainder 12 = .ok (.dup, 1) := by decide +kernel
theorem dX9_remainder_13 : decode cX9_remainder 13 = .ok (.ldc_w 300, 3) := by decide +kernel
theorem dX9_remainder_16 : decode cX9_remainder 16 = .ok (.invokespecial 162, 3) := by decide +kernel
theorem dX9_remainder_19 : decode cX9_remainder 19 = .ok (.athrow, 1) := by decide +kernel
theorem dX9_remainder_20 : decode cX9_remainder 20 = .ok (.iload_n 1, 1) := by decide +kernel
theorem dX9_remainder_21 : decode cX9_remainder 21 = .ok (.ifCond .ne 19, 3) := by decide +kernel
theorem dX9_remainder_24 : decode cX9_remainder 24 = .ok (.aload_n 0, 1) := by decide +kernel
theorem dX9_remainder_25 : decode cX9_remainder 25 = .ok (.getfield 68, 3) := by decide +kernel
theorem dX9_remainder_28 : decode cX9_remainder 28 = .ok (.iload_n 2, 1) := by decide +kernel
theorem dX9_remainder_29 : decode cX9_remainder 29 = .ok (.faload, 1) := by decide +kernel
theorem dX9_remainder_30 : decode cX9_remainder 30 = .ok (.f2d, 1) := by decide +kernel
theorem dX9_remainder_31 : decode cX9_remainder 31 = .ok (.iload_n 3, 1) := by decide +kernel
theorem dX9_remainder_32 : decode cX9_remainder 32 = .ok (.i2f, 1) := by decide +kernel
theorem dX9_remainder_33 : decode cX9_remainder 33 = .ok (.f2d, 1) := by decide +kernel
theorem dX9_remainder_34 : decode cX9_remainder 34 = .ok (.invokestatic 302, 3) := by decide +kernel
theorem dX9_remainder_37 : decode cX9_remainder 37 = .ok (.goto 14, 3) := by decide +kernel
theorem dX9_remainder_40 : decode cX9_remainder 40 = .ok (.aload_n 0, 1) := by decide +kernel
theorem dX9_remainder_41 : decode cX9_remainder 41 = .ok (.getfield 72, 3) := by decide +kernel
theorem dX9_remainder_44 : decode cX9_remainder 44 = .ok (.iload_n 2, 1) := by decide +kernel
theorem dX9_remainder_45 : decode cX9_remainder 45 = .ok (.daload, 1) := by decide +kernel
theorem dX9_remainder_46 : decode cX9_remainder 46 = .ok (.iload_n 3, 1) := by decide +kernel
theorem dX9_remainder_47 : decode cX9_remainder 47 = .ok (.i2d, 1) := by decide +kernel
theorem dX9_remainder_48 : decode cX9_remainder 48 = .ok (.invokestatic 302, 3) := by decide +kernel
theorem dX9_remainder_51 : decode cX9_remainder 51 = .ok (.dreturn, 1) := by decide +kernel
theorem dX9_snapshot_0 : decode cX9_snapshot 0 = .ok (.aload_n 0, 1) := by decide +kernel
theorem dX9_snapshot_1 : decode cX9_snapshot 1 = .ok (.getfield 58, 3) := by decide +kernel
theorem dX9_snapshot_4 : decode cX9_snapshot 4 = .ok (.aload_n 0, 1) := by decide +kernel
theorem dX9_snapshot_5 : decode cX9_snapshot 5 = .ok (.getfield 54, 3) := by decide +kernel
theorem dX9_snapshot_8 : decode cX9_snapshot 8 = .ok (.invokevirtual 306, 3) := by decide +kernel
theorem dX9_snapshot_11 : decode cX9_snapshot 11 = .ok (.aload_n 0, 1) := by decide +kernel
theorem dX9_snapshot_12 : decode cX9_snapshot 12 = .ok (.iconst 1, 1) := by decide +kernel
theorem dX9_snapshot_13 : decode cX9_snapshot 13 = .ok (.putfield 83, 3) := by decide +kernel
theorem dX9_snapshot_16 : decode cX9_snapshot 16 = .ok (.return_, 1) := by decide +kernel
theorem dX9_restore_0 : decode cX9_restore 0 = .ok (.aload_n 0, 1) := by decide +kernel
theorem dX9_restore_1 : decode cX9_restore 1 = .ok (.getfield 83, 3) := by decide +kernel
theorem dX9_restore_4 : decode cX9_restore 4 = .ok (.ifCond .ne 14, 3) := by decide +kernel
theorem dX9_restore_7 : decode cX9_restore 7 = .ok (.new 106, 3) := by decide +kernel
theorem dX9_restore_10 : decode cX9_restore 10 = .ok (.dup, 1) := by decide +kernel
theorem dX9_restore_11 : decode cX9_restore 11 = .ok (.ldc_w 310, 3) := by decide +kernel
theorem dX9_restore_14 : decode cX9_restore 14 = .ok (.invokespecial 110, 3) := by decide +kernel
theorem dX9_restore_17 : decode cX9_restore 17 = .ok (.athrow, 1) := by decide +kernel
theorem dX9_restore_18 : decode cX9_restore 18 = .ok (.aload_n 0, 1) := by decide +kernel
theorem dX9_restore_19 : decode cX9_restore 19 = .ok (.getfield 54, 3) := by decide +kernel
theorem dX9_restore_22 : decode cX9_restore 22 = .ok (.aload_n 0, 1) := by decide +kernel
theorem dX9_restore_23 : decode cX9_restore 23 = .ok (.getfield 58, 3) := by decide +kernel
theorem dX9_restore_26 : decode cX9_restore 26 = .ok (.invokevirtual 306, 3) := by decide +kernel
theorem dX9_restore_29 : decode cX9_restore 29 = .ok (.aload_n 0, 1) := by decide +kernel
theorem dX9_restore_30 : decode cX9_restore 30 = .ok (.iconst 0, 1) := by decide +kernel
theorem dX9_restore_31 : decode cX9_restore 31 = .ok (.putfield 87, 3) := by decide +kernel
theorem dX9_restore_34 : decode cX9_restore 34 = .ok (.return_, 1) := by decide +kernel
theorem dX9_checkMove_0 : decode cX9_checkMove 0 = .ok (.iload_n 0, 1) := by decide +kernel
theorem dX9_checkMove_1 : decode cX9_checkMove 1 = .ok (.ifCond .lt 8, 3) := by decide +kernel
theorem dX9_checkMove_4 : decode cX9_checkMove 4 = .ok (.iload_n 0, 1) := by decide +kernel
theorem dX9_checkMove_5 : decode cX9_checkMove 5 = .ok (.iconst 5, 1) := by decide +kernel
theorem dX9_checkMove_6 : decode cX9_checkMove 6 = .ok (.if_icmp .lt 14, 3) := by decide +kernel
theorem dX9_checkMove_9 : decode cX9_checkMove 9 = .ok (.new 192, 3) := by decide +kernel
theorem dX9_checkMove_12 : decode cX9_checkMove 12 = .ok (.dup, 1) := by decide +kernel
theorem dX9_checkMove_13 : decode cX9_checkMove 13 = .ok (.ldc_w 312, 3) := by decide +kernel
theorem dX9_checkMove_16 : decode cX9_checkMove 16 = .ok (.invokespecial 196, 3) := by decide +kernel
theorem dX9_checkMove_19 : decode cX9_checkMove 19 = .ok (.athrow, 1) := by decide +kernel
theorem dX9_checkMove_20 : decode cX9_checkMove 20 = .ok (.return_, 1) := by decide +kernel
theorem dX9_checkSlot_0 : decode cX9_checkSlot 0 = .ok (.iload_n 0, 1) := by decide +kernel
theorem dX9_checkSlot_1 : decode cX9_checkSlot 1 = .ok (.ifCond .lt 8, 3) := by decide +kernel
theorem dX9_checkSlot_4 : decode cX9_checkSlot 4 = .ok (.iload_n 0, 1) := by decide +kernel
theorem dX9_checkSlot_5 : decode cX9_checkSlot 5 = .ok (.iconst 4, 1) := by decide +kernel
theorem dX9_checkSlot_6 : decode cX9_checkSlot 6 = .ok (.if_icmp .lt 14, 3) := by decide +kernel
theorem dX9_checkSlot_9 : decode cX9_checkSlot 9 = .ok (.new 192, 3) := by decide +kernel
theorem dX9_checkSlot_12 : decode cX9_checkSlot 12 = .ok (.dup, 1) := by decide +kernel
theorem dX9_checkSlot_13 : decode cX9_checkSlot 13 = .ok (.ldc_w 314, 3) := by decide +kernel
theorem dX9_checkSlot_16 : decode cX9_checkSlot 16 = .ok (.invokespecial 196, 3) := by decide +kernel
theorem dX9_checkSlot_19 : decode cX9_checkSlot 19 = .ok (.athrow, 1) := by decide +kernel
theorem dX9_checkSlot_20 : decode cX9_checkSlot 20 = .ok (.return_, 1) := by decide +kernel
theorem dX9_checkPosition_0 : decode cX9_checkPosition 0 = .ok (.iload_n 1, 1) := by decide +kernel
theorem dX9_checkPosition_1 : decode cX9_checkPosition 1 = .ok (.iconst 1, 1) := by decide +kernel
theorem dX9_checkPosition_2 : decode cX9_checkPosition 2 = .ok (.if_icmp .lt 11, 3) := by decide +kernel
theorem dX9_checkPosition_5 : decode cX9_checkPosition 5 = .ok (.iload_n 1, 1) := by decide +kernel
theorem dX9_checkPosition_6 : decode cX9_checkPosition 6 = .ok (.aload_n 0, 1) := by decide +kernel
theorem dX9_checkPosition_7 : decode cX9_checkPosition 7 = .ok (.getfield 76, 3) := by decide +kernel
theorem dX9_checkPosition_10 : decode cX9_checkPosition 10 = .ok (.if_icmp .le 14, 3) := by decide +kernel
theorem dX9_checkPosition_13 : decode cX9_checkPosition 13 = .ok (.new 192, 3) := by decide +kernel
theorem dX9_checkPosition_16 : decode cX9_checkPosition 16 = .ok (.dup, 1) := by decide +kernel
theorem dX9_checkPosition_17 : decode cX9_checkPosition 17 = .ok (.ldc_w 316, 3) := by decide +kernel
theorem dX9_checkPosition_20 : decode cX9_checkPosition 20 = .ok (.invokespecial 196, 3) := by decide +kernel
theorem dX9_checkPosition_23 : decode cX9_checkPosition 23 = .ok (.athrow, 1) := by decide +kernel
theorem dX9_checkPosition_24 : decode cX9_checkPosition 24 = .ok (.return_, 1) := by decide +kernel
theorem dX9_checkRow_0 : decode cX9_checkRow 0 = .ok (.iload_n 0, 1) := by decide +kernel
theorem dX9_checkRow_1 : decode cX9_checkRow 1 = .ok (.ifCond .eq 19, 3) := by decide +kernel
theorem dX9_checkRow_4 : decode cX9_checkRow 4 = .ok (.iload_n 0, 1) := by decide +kernel
theorem dX9_checkRow_5 : decode cX9_checkRow 5 = .ok (.iconst 1, 1) := by decide +kernel
theorem dX9_checkRow_6 : decode cX9_checkRow 6 = .ok (.if_icmp .eq 14, 3) := by decide +kernel
theorem dX9_checkRow_9 : decode cX9_checkRow 9 = .ok (.new 192, 3) := by decide +kernel
theorem dX9_checkRow_12 : decode cX9_checkRow 12 = .ok (.dup, 1) := by decide +kernel
theorem dX9_checkRow_13 : decode cX9_checkRow 13 = .ok (.ldc_w 318, 3) := by decide +kernel
theorem dX9_checkRow_16 : decode cX9_checkRow 16 = .ok (.invokespecial 196, 3) := by decide +kernel
theorem dX9_checkRow_19 : decode cX9_checkRow 19 = .ok (.athrow, 1) := by decide +kernel
theorem dX9_checkRow_20 : decode cX9_checkRow 20 = .ok (.return_, 1) := by decide +kernel
theorem dX9_checkElement_0 : decode cX9_checkElement 0 = .ok (.iload_n 0, 1) := by decide +kernel
theorem dX9_checkElement_1 : decode cX9_checkElement 1 = .ok (.invokestatic 283, 3) := by decide +kernel
theorem dX9_checkElement_4 : decode cX9_checkElement 4 = .ok (.iload_n 1, 1) := by decide +kernel
theorem dX9_checkElement_5 : decode cX9_checkElement 5 = .ok (.ifCond .lt 9, 3) := by decide +kernel
theorem dX9_checkElement_8 : decode cX9_checkElement 8 = .ok (.iload_n 1, 1) := by decide +kernel
theorem dX9_checkElement_9 : decode cX9_checkElement 9 = .ok (.bipush 24, 2) := by decide +kernel
theorem dX9_checkElement_11 : decode cX9_checkElement 11 = .ok (.if_icmp .lt 14, 3) := by decide +kernel
theorem dX9_checkElement_14 : decode cX9_checkElement 14 = .ok (.new 192, 3) := by decide +kernel
theorem dX9_checkElement_17 : decode cX9_checkElement 17 = .ok (.dup, 1) := by decide +kernel
theorem dX9_checkElement_18 : decode cX9_checkElement 18 = .ok (.ldc_w 320, 3) := by decide +kernel
theorem dX9_checkElement_21 : decode cX9_checkElement 21 = .ok (.invokespecial 196, 3) := by decide +kernel
theorem dX9_checkElement_24 : decode cX9_checkElement 24 = .ok (.athrow, 1) := by decide +kernel
theorem dX9_checkElement_25 : decode cX9_checkElement 25 = .ok (.return_, 1) := by decide +kernel
theorem dX9_keepDraft_0 : decode cX9_keepDraft 0 = .ok (.aload_n 0, 1) := by decide +kernel
theorem dX9_keepDraft_1 : decode cX9_keepDraft 1 = .ok (.getfield 54, 3) := by decide +kernel
theorem dX9_keepDraft_4 : decode cX9_keepDraft 4 = .ok (.iload_n 1, 1) := by decide +kernel
theorem dX9_keepDraft_5 : decode cX9_keepDraft 5 = .ok (.invokevirtual 187, 3) := by decide +kernel
theorem dX9_keepDraft_8 : decode cX9_keepDraft 8 = .ok (.aload_n 0, 1) := by decide +kernel
theorem dX9_keepDraft_9 : decode cX9_keepDraft 9 = .ok (.getfield 64, 3) := by decide +kernel
theorem dX9_keepDraft_12 : decode cX9_keepDraft 12 = .ok (.invokevirtual 322, 3) := by decide +kernel
theorem dX9_keepDraft_15 : decode cX9_keepDraft 15 = .ok (.aload_n 0, 1) := by decide +kernel
theorem dX9_keepDraft_16 : decode cX9_keepDraft 16 = .ok (.getfield 64, 3) := by decide +kernel
theorem dX9_keepDraft_19 : decode cX9_keepDraft 19 = .ok (.invokevirtual 191, 3) := by decide +kernel
theorem dX9_keepDraft_22 : decode cX9_keepDraft 22 = .ok (.ireturn, 1) := by decide +kernel
theorem dX9_tokenOn_0 : decode cX9_tokenOn 0 = .ok (.aload_n 0, 1) := by decide +kernel
theorem dX9_tokenOn_1 : decode cX9_tokenOn 1 = .ok (.getfield 54, 3) := by decide +kernel
theorem dX9_tokenOn_4 : decode cX9_tokenOn 4 = .ok (.invokevirtual 229, 3) := by decide +kernel
theorem dX9_tokenOn_7 : decode cX9_tokenOn 7 = .ok (.invokestatic 226, 3) := by decide +kernel
theorem dX9_tokenOn_10 : decode cX9_tokenOn 10 = .ok (.iload_n 1, 1) := by decide +kernel
theorem dX9_tokenOn_11 : decode cX9_tokenOn 11 = .ok (.iconst 1, 1) := by decide +kernel
theorem dX9_tokenOn_12 : decode cX9_tokenOn 12 = .ok (.isub, 1) := by decide +kernel
theorem dX9_tokenOn_13 : decode cX9_tokenOn 13 = .ok (.invokestatic 184, 3) := by decide +kernel
theorem dX9_tokenOn_16 : decode cX9_tokenOn 16 = .ok (.iconst 1, 1) := by decide +kernel
theorem dX9_tokenOn_17 : decode cX9_tokenOn 17 = .ok (.iadd, 1) := by decide +kernel
theorem dX9_tokenOn_18 : decode cX9_tokenOn 18 = .ok (.ireturn, 1) := by decide +kernel
theorem dX9_currentTable_0 : decode cX9_currentTable 0 = .ok (.aload_n 0, 1) := by decide +kernel
theorem dX9_currentTable_1 : decode cX9_currentTable 1 = .ok (.getfield 87, 3) := by decide +kernel
theorem dX9_currentTable_4 : decode cX9_currentTable 4 = .ok (.ifCond .ne 23, 3) := by decide +kernel
theorem dX9_currentTable_7 : decode cX9_currentTable 7 = .ok (.aload_n 0, 1) := by decide +kernel
theorem dX9_currentTable_8 : decode cX9_currentTable 8 = .ok (.getfield 47, 3) := by decide +kernel
theorem dX9_currentTable_11 : decode cX9_currentTable 11 = .ok (.aload_n 0, 1) := by decide +kernel
theorem dX9_currentTable_12 : decode cX9_currentTable 12 = .ok (.getfield 54, 3) := by decide +kernel
theorem dX9_currentTable_15 : decode cX9_currentTable 15 = .ok (.aload_n 0, 1) := by decide +kernel
theorem dX9_currentTable_16 : decode cX9_currentTable 16 = .ok (.getfield 76, 3) := by decide +kernel
theorem dX9_currentTable_19 : decode cX9_currentTable 19 = .ok (.invokevirtual 325, 3) := by decide +kernel
theorem dX9_currentTable_22 : decode cX9_currentTable 22 = .ok (.aload_n 0, 1) := by decide +kernel
theorem dX9_currentTable_23 : decode cX9_currentTable 23 = .ok (.iconst 1, 1) := by decide +kernel
theorem dX9_currentTable_24 : decode cX9_currentTable 24 = .ok (.putfield 87, 3) := by decide +kernel
theorem dX9_currentTable_27 : decode cX9_currentTable 27 = .ok (.aload_n 0, 1) := by decide +kernel
theorem dX9_currentTable_28 : decode cX9_currentTable 28 = .ok (.getfield 47, 3) := by decide +kernel
theorem dX9_currentTable_31 : decode cX9_currentTable 31 = .ok (.areturn, 1) := by decide +kernel
theorem dX9_presentDepth_0 : decode cX9_presentDepth 0 = .ok (.aload_n 0, 1) := by decide +kernel
theorem dX9_presentDepth_1 : decode cX9_presentDepth 1 = .ok (.invokevirtual 258, 3) := by decide +kernel
theorem dX9_presentDepth_4 : decode cX9_presentDepth 4 = .ok (.aload_n 0, 1) := by decide +kernel
theorem dX9_presentDepth_5 : decode cX9_presentDepth 5 = .ok (.getfield 54, 3) := by decide +kernel
theorem dX9_presentDepth_8 : decode cX9_presentDepth 8 = .ok (.invokevirtual 229, 3) := by decide +kernel
theorem dX9_presentDepth_11 : decode cX9_presentDepth 11 = .ok (.invokevirtual 329, 3) := by decide +kernel
theorem dX9_presentDepth_14 : decode cX9_presentDepth 14 = .ok (.istore_n 1, 1) := by decide +kernel
theorem dX9_presentDepth_15 : decode cX9_presentDepth 15 = .ok (.iload_n 1, 1) := by decide +kernel
theorem dX9_presentDepth_16 : decode cX9_presentDepth 16 = .ok (.iconst (-1), 1) := by decide +kernel
theorem dX9_presentDepth_17 : decode cX9_presentDepth 17 = .ok (.if_icmp .ne 14, 3) := by decide +kernel
theorem dX9_presentDepth_20 : decode cX9_presentDepth 20 = .ok (.new 167, 3) := by decide +kernel
theorem dX9_presentDepth_23 : decode cX9_presentDepth 23 = .ok (.dup, 1) := by decide +kernel
theorem dX9_presentDepth_24 : decode cX9_presentDepth 24 = .ok (.ldc_w 332, 3) := by decide +kernel
theorem dX9_presentDepth_27 : decode cX9_presentDepth 27 = .ok (.invokespecial 171, 3) := by decide +kernel
theorem dX9_presentDepth_30 : decode cX9_presentDepth 30 = .ok (.athrow, 1) := by decide +kernel
theorem dX9_presentDepth_31 : decode cX9_presentDepth 31 = .ok (.iload_n 1, 1) := by decide +kernel
theorem dX9_presentDepth_32 : decode cX9_presentDepth 32 = .ok (.ireturn, 1) := by decide +kernel
theorem dX9_firstLetterTo_0 : decode cX9_firstLetterTo 0 = .ok (.iconst 0, 1) := by decide +kernel
theorem dX9_firstLetterTo_1 : decode cX9_firstLetterTo 1 = .ok (.istore_n 3, 1) := by decide +kernel
theorem dX9_firstLetterTo_2 : decode cX9_firstLetterTo 2 = .ok (.iload_n 3, 1) := by decide +kernel
theorem dX9_firstLetterTo_3 : decode cX9_firstLetterTo 3 = .ok (.bipush 10, 2) := by decide +kernel
theorem dX9_firstLetterTo_5 : decode cX9_firstLetterTo 5 = .ok (.if_icmp .ge 51, 3) := by decide +kernel
theorem dX9_firstLetterTo_8 : decode cX9_firstLetterTo 8 = .ok (.iload_n 1, 1) := by decide +kernel
theorem dX9_firstLetterTo_9 : decode cX9_firstLetterTo 9 = .ok (.aload_n 0, 1) := by decide +kernel
theorem dX9_firstLetterTo_10 : decode cX9_firstLetterTo 10 = .ok (.getfield 54, 3) := by decide +kernel
theorem dX9_firstLetterTo_13 : decode cX9_firstLetterTo 13 = .ok (.iload_n 3, 1) := by decide +kernel
theorem dX9_firstLetterTo_14 : decode cX9_firstLetterTo 14 = .ok (.invokevirtual 181, 3) := by decide +kernel
theorem dX9_firstLetterTo_17 : decode cX9_firstLetterTo 17 = .ok (.invokestatic 237, 3) := by decide +kernel
theorem dX9_firstLetterTo_20 : decode cX9_firstLetterTo 20 = .ok (.istore 4, 2) := by decide +kernel
theorem dX9_firstLetterTo_22 : decode cX9_firstLetterTo 22 = .ok (.aload_n 0, 1) := by decide +kernel
theorem dX9_firstLetterTo_23 : decode cX9_firstLetterTo 23 = .ok (.getfield 54, 3) := by decide +kernel
theorem dX9_firstLetterTo_26 : decode cX9_firstLetterTo 26 = .ok (.iload_n 3, 1) := by decide +kernel
theorem dX9_firstLetterTo_27 : decode cX9_firstLetterTo 27 = .ok (.iconst 2, 1) := by decide +kernel
theorem dX9_firstLetterTo_28 : decode cX9_firstLetterTo 28 = .ok (.idiv, 1) := by decide +kernel
theorem dX9_firstLetterTo_29 : decode cX9_firstLetterTo 29 = .ok (.invokevirtual 175, 3) := by decide +kernel
theorem dX9_firstLetterTo_32 : decode cX9_firstLetterTo 32 = .ok (.ifCond .eq 18, 3) := by decide +kernel
theorem dX9_firstLetterTo_35 : decode cX9_firstLetterTo 35 = .ok (.aload_n 0, 1) := by decide +kernel
theorem dX9_firstLetterTo_36 : decode cX9_firstLetterTo 36 = .ok (.getfield 47, 3) := by decide +kernel
theorem dX9_firstLetterTo_39 : decode cX9_firstLetterTo 39 = .ok (.iload 4, 2) := by decide +kernel
theorem dX9_firstLetterTo_41 : decode cX9_firstLetterTo 41 = .ok (.invokevirtual 329, 3) := by decide +kernel
theorem dX9_firstLetterTo_44 : decode cX9_firstLetterTo 44 = .ok (.iload_n 2, 1) := by decide +kernel
theorem dX9_firstLetterTo_45 : decode cX9_firstLetterTo 45 = .ok (.if_icmp .ne 5, 3) := by decide +kernel
theorem dX9_firstLetterTo_48 : decode cX9_firstLetterTo 48 = .ok (.iload_n 3, 1) := by decide +kernel
theorem dX9_firstLetterTo_49 : decode cX9_firstLetterTo 49 = .ok (.ireturn, 1) := by decide +kernel
theorem dX9_firstLetterTo_50 : decode cX9_firstLetterTo 50 = .ok (.iinc 3 1, 3) := by decide +kernel
theorem dX9_firstLetterTo_53 : decode cX9_firstLetterTo 53 = .ok (.goto (-51), 3) := by decide +kernel
theorem dX9_firstLetterTo_56 : decode cX9_firstLetterTo 56 = .ok (.iconst 0, 1) := by decide +kernel
theorem dX9_firstLetterTo_57 : decode cX9_firstLetterTo 57 = .ok (.ireturn, 1) := by decide +kernel
theorem dX9_scaleFloat_0 : decode cX9_scaleFloat 0 = .ok (.aload_n 0, 1) := by decide +kernel
theorem dX9_scaleFloat_1 : decode cX9_scaleFloat 1 = .ok (.getfield 68, 3) := by decide +kernel
theorem dX9_scaleFloat_4 : decode cX9_scaleFloat 4 = .ok (.iload_n 1, 1) := by decide +kernel
theorem dX9_scaleFloat_5 : decode cX9_scaleFloat 5 = .ok (.faload, 1) := by decide +kernel
theorem dX9_scaleFloat_6 : decode cX9_scaleFloat 6 = .ok (.iload_n 2, 1) := by decide +kernel
theorem dX9_scaleFloat_7 : decode cX9_scaleFloat 7 = .ok (.i2f, 1) := by decide +kernel
theorem dX9_scaleFloat_8 : decode cX9_scaleFloat 8 = .ok (.fmul, 1) := by decide +kernel
theorem dX9_scaleFloat_9 : decode cX9_scaleFloat 9 = .ok (.fstore_n 3, 1) := by decide +kernel
theorem dX9_scaleFloat_10 : decode cX9_scaleFloat 10 = .ok (.fload_n 3, 1) := by decide +kernel
theorem dX9_scaleFloat_11 : decode cX9_scaleFloat 11 = .ok (.fconst 0, 1) := by decide +kernel
theorem dX9_scaleFloat_12 : decode cX9_scaleFloat 12 = .ok (.fcmp .g, 1) := by decide +kernel
theorem dX9_scaleFloat_13 : decode cX9_scaleFloat 13 = .ok (.ifCond .ge 8, 3) := by decide +kernel
theorem dX9_scaleFloat_16 : decode cX9_scaleFloat 16 = .ok (.fload_n 3, 1) := by decide +kernel
theorem dX9_scaleFloat_17 : decode cX9_scaleFloat 17 = .ok (.fneg, 1) := by decide +kernel
theorem dX9_scaleFloat_18 : decode cX9_scaleFloat 18 = .ok (.goto 4, 3) := by decide +kernel
theorem dX9_scaleFloat_21 : decode cX9_scaleFloat 21 = .ok (.fload_n 3, 1) := by decide +kernel
theorem dX9_scaleFloat_22 : decode cX9_scaleFloat 22 = .ok (.fstore 4, 2) := by decide +kernel
theorem dX9_scaleFloat_24 : decode cX9_scaleFloat 24 = .ok (.fload 4, 2) := by decide +kernel
theorem dX9_scaleFloat_26 : decode cX9_scaleFloat 26 = .ok (.ldc_w 334, 3) := by decide +kernel
theorem dX9_scaleFloat_29 : decode cX9_scaleFloat 29 = .ok (.fcmp .l, 1) := by decide +kernel
theorem dX9_scaleFloat_30 : decode cX9_scaleFloat 30 = .ok (.ifCond .le 14, 3) := by decide +kernel
theorem dX9_scaleFloat_33 : decode cX9_scaleFloat 33 = .ok (.new 158, 3) := by decide +kernel
theorem dX9_scaleFloat_36 : decode cX9_scaleFloat 36 = .ok (.dup, 1) := by decide +kernel
theorem dX9_scaleFloat_37 : decode cX9_scaleFloat 37 = .ok (.ldc_w 335, 3) := by decide +kernel
theorem dX9_scaleFloat_40 : decode cX9_scaleFloat 40 = .ok (.invokespecial 162, 3) := by decide +kernel
theorem dX9_scaleFloat_43 : decode cX9_scaleFloat 43 = .ok (.athrow, 1) := by decide +kernel
theorem dX9_scaleFloat_44 : decode cX9_scaleFloat 44 = .ok (.aload_n 0, 1) := by decide +kernel
theorem dX9_scaleFloat_45 : decode cX9_scaleFloat 45 = .ok (.getfield 68, 3) := by decide +kernel
theorem dX9_scaleFloat_48 : decode cX9_scaleFloat 48 = .ok (.iload_n 1, 1) := by decide +kernel
theorem dX9_scaleFloat_49 : decode cX9_scaleFloat 49 = .ok (.fload_n 3, 1) := by decide +kernel
theorem dX9_scaleFloat_50 : decode cX9_scaleFloat 50 = .ok (.fastore, 1) := by decide +kernel
theorem dX9_scaleFloat_51 : decode cX9_scaleFloat 51 = .ok (.fload_n 3, 1) := by decide +kernel
theorem dX9_scaleFloat_52 : decode cX9_scaleFloat 52 = .ok (.f2i, 1) := by decide +kernel
theorem dX9_scaleFloat_53 : decode cX9_scaleFloat 53 = .ok (.ireturn, 1) := by decide +kernel
theorem dX9_scaleDouble_0 : decode cX9_scaleDouble 0 = .ok (.aload_n 0, 1) := by decide +kernel
theorem dX9_scaleDouble_1 : decode cX9_scaleDouble 1 = .ok (.getfield 72, 3) := by decide +kernel
theorem dX9_scaleDouble_4 : decode cX9_scaleDouble 4 = .ok (.iload_n 1, 1) := by decide +kernel
theorem dX9_scaleDouble_5 : decode cX9_scaleDouble 5 = .ok (.daload, 1) := by decide +kernel
theorem dX9_scaleDouble_6 : decode cX9_scaleDouble 6 = .ok (.iload_n 2, 1) := by decide +kernel
theorem dX9_scaleDouble_7 : decode cX9_scaleDouble 7 = .ok (.i2d, 1) := by decide +kernel
theorem dX9_scaleDouble_8 : decode cX9_scaleDouble 8 = .ok (.dmul, 1) := by decide +kernel
theorem dX9_scaleDouble_9 : decode cX9_scaleDouble 9 = .ok (.dstore_n 3, 1) := by decide +kernel
theorem dX9_scaleDouble_10 : decode cX9_scaleDouble 10 = .ok (.dload_n 3, 1) := by decide +kernel
theorem dX9_scaleDouble_11 : decode cX9_scaleDouble 11 = .ok (.dconst 0, 1) := by decide +kernel
theorem dX9_scaleDouble_12 : decode cX9_scaleDouble 12 = .ok (.dcmp .g, 1) := by decide +kernel
theorem dX9_scaleDouble_13 : decode cX9_scaleDouble 13 = .ok (.ifCond .ge 8, 3) := by decide +kernel
theorem dX9_scaleDouble_16 : decode cX9_scaleDouble 16 = .ok (.dload_n 3, 1) := by decide +kernel
theorem dX9_scaleDouble_17 : decode cX9_scaleDouble 17 = .ok (.dneg, 1) := by decide +kernel
theorem dX9_scaleDouble_18 : decode cX9_scaleDouble 18 = .ok (.goto 4, 3) := by decide +kernel
theorem dX9_scaleDouble_21 : decode cX9_scaleDouble 21 = .ok (.dload_n 3, 1) := by decide +kernel
theorem dX9_scaleDouble_22 : decode cX9_scaleDouble 22 = .ok (.dstore 5, 2) := by decide +kernel
theorem dX9_scaleDouble_24 : decode cX9_scaleDouble 24 = .ok (.dload 5, 2) := by decide +kernel
theorem dX9_scaleDouble_26 : decode cX9_scaleDouble 26 = .ok (.ldc2_w 337, 3) := by decide +kernel
theorem dX9_scaleDouble_29 : decode cX9_scaleDouble 29 = .ok (.dcmp .l, 1) := by decide +kernel
theorem dX9_scaleDouble_30 : decode cX9_scaleDouble 30 = .ok (.ifCond .le 14, 3) := by decide +kernel
theorem dX9_scaleDouble_33 : decode cX9_scaleDouble 33 = .ok (.new 158, 3) := by decide +kernel
theorem dX9_scaleDouble_36 : decode cX9_scaleDouble 36 = .ok (.dup, 1) := by decide +kernel
theorem dX9_scaleDouble_37 : decode cX9_scaleDouble 37 = .ok (.ldc_w 335, 3) := by decide +kernel
theorem dX9_scaleDouble_40 : decode cX9_scaleDouble 40 = .ok (.invokespecial 162, 3) := by decide +kernel
theorem dX9_scaleDouble_43 : decode cX9_scaleDouble 43 = .ok (.athrow, 1) := by decide +kernel
theorem dX9_scaleDouble_44 : decode cX9_scaleDouble 44 = .ok (.aload_n 0, 1) := by decide +kernel
theorem dX9_scaleDouble_45 : decode cX9_scaleDouble 45 = .ok (.getfield 72, 3) := by decide +kernel
theorem dX9_scaleDouble_48 : decode cX9_scaleDouble 48 = .ok (.iload_n 1, 1) := by decide +kernel
theorem dX9_scaleDouble_49 : decode cX9_scaleDouble 49 = .ok (.dload_n 3, 1) := by decide +kernel
theorem dX9_scaleDouble_50 : decode cX9_scaleDouble 50 = .ok (.dastore, 1) := by decide +kernel
theorem dX9_scaleDouble_51 : decode cX9_scaleDouble 51 = .ok (.dload_n 3, 1) := by decide +kernel
theorem dX9_scaleDouble_52 : decode cX9_scaleDouble 52 = .ok (.d2i, 1) := by decide +kernel
theorem dX9_scaleDouble_53 : decode cX9_scaleDouble 53 = .ok (.ireturn, 1) := by decide +kernel
theorem dX9_remainderOf_0 : decode cX9_remainderOf 0 = .ok (.dload_n 0, 1) := by decide +kernel
theorem dX9_remainderOf_1 : decode cX9_remainderOf 1 = .ok (.dconst 0, 1) := by decide +kernel
theorem dX9_remainderOf_2 : decode cX9_remainderOf 2 = .ok (.dcmp .g, 1) := by decide +kernel
theorem dX9_remainderOf_3 : decode cX9_remainderOf 3 = .ok (.ifCond .ge 8, 3) := by decide +kernel
theorem dX9_remainderOf_6 : decode cX9_remainderOf 6 = .ok (.dload_n 0, 1) := by decide +kernel
theorem dX9_remainderOf_7 : decode cX9_remainderOf 7 = .ok (.dneg, 1) := by decide +kernel
theorem dX9_remainderOf_8 : decode cX9_remainderOf 8 = .ok (.goto 4, 3) := by decide +kernel
theorem dX9_remainderOf_11 : decode cX9_remainderOf 11 = .ok (.dload_n 0, 1) := by decide +kernel
theorem dX9_remainderOf_12 : decode cX9_remainderOf 12 = .ok (.dstore 4, 2) := by decide +kernel
theorem dX9_remainderOf_14 : decode cX9_remainderOf 14 = .ok (.dload_n 2, 1) := by decide +kernel
theorem dX9_remainderOf_15 : decode cX9_remainderOf 15 = .ok (.dconst 0, 1) := by decide +kernel
theorem dX9_remainderOf_16 : decode cX9_remainderOf 16 = .ok (.dcmp .g, 1) := by decide +kernel
theorem dX9_remainderOf_17 : decode cX9_remainderOf 17 = .ok (.ifCond .ge 8, 3) := by decide +kernel
theorem dX9_remainderOf_20 : decode cX9_remainderOf 20 = .ok (.dload_n 2, 1) := by decide +kernel
theorem dX9_remainderOf_21 : decode cX9_remainderOf 21 = .ok (.dneg, 1) := by decide +kernel
theorem dX9_remainderOf_22 : decode cX9_remainderOf 22 = .ok (.goto 4, 3) := by decide +kernel
theorem dX9_remainderOf_25 : decode cX9_remainderOf 25 = .ok (.dload_n 2, 1) := by decide +kernel
theorem dX9_remainderOf_26 : decode cX9_remainderOf 26 = .ok (.dstore 6, 2) := by decide +kernel
theorem dX9_remainderOf_28 : decode cX9_remainderOf 28 = .ok (.dload 4, 2) := by decide +kernel
theorem dX9_remainderOf_30 : decode cX9_remainderOf 30 = .ok (.dload 6, 2) := by decide +kernel
theorem dX9_remainderOf_32 : decode cX9_remainderOf 32 = .ok (.dcmp .g, 1) := by decide +kernel
theorem dX9_remainderOf_33 : decode cX9_remainderOf 33 = .ok (.ifCond .ge 5, 3) := by decide +kernel
theorem dX9_remainderOf_36 : decode cX9_remainderOf 36 = .ok (.dload_n 0, 1) := by decide +kernel
theorem dX9_remainderOf_37 : decode cX9_remainderOf 37 = .ok (.dreturn, 1) := by decide +kernel
theorem dX9_remainderOf_38 : decode cX9_remainderOf 38 = .ok (.dload 4, 2) := by decide +kernel
theorem dX9_remainderOf_40 : decode cX9_remainderOf 40 = .ok (.dload 4, 2) := by decide +kernel
theorem dX9_remainderOf_42 : decode cX9_remainderOf 42 = .ok (.dload 6, 2) := by decide +kernel
theorem dX9_remainderOf_44 : decode cX9_remainderOf 44 = .ok (.ddiv, 1) := by decide +kernel
theorem dX9_remainderOf_45 : decode cX9_remainderOf 45 = .ok (.d2i, 1) := by decide +kernel
theorem dX9_remainderOf_46 : decode cX9_remainderOf 46 = .ok (.i2d, 1) := by decide +kernel
theorem dX9_remainderOf_47 : decode cX9_remainderOf 47 = .ok (.dload 6, 2) := by decide +kernel
theorem dX9_remainderOf_49 : decode cX9_remainderOf 49 = .ok (.dmul, 1) := by decide +kernel
theorem dX9_remainderOf_50 : decode cX9_remainderOf 50 = .ok (.dsub, 1) := by decide +kernel
theorem dX9_remainderOf_51 : decode cX9_remainderOf 51 = .ok (.dstore 8, 2) := by decide +kernel
theorem dX9_remainderOf_53 : decode cX9_remainderOf 53 = .ok (.dload_n 0, 1) := by decide +kernel
theorem dX9_remainderOf_54 : decode cX9_remainderOf 54 = .ok (.dconst 0, 1) := by decide +kernel
theorem dX9_remainderOf_55 : decode cX9_remainderOf 55 = .ok (.dcmp .g, 1) := by decide +kernel
theorem dX9_remainderOf_56 : decode cX9_remainderOf 56 = .ok (.ifCond .ge 9, 3) := by decide +kernel
theorem dX9_remainderOf_59 : decode cX9_remainderOf 59 = .ok (.dload 8, 2) := by decide +kernel
theorem dX9_remainderOf_61 : decode cX9_remainderOf 61 = .ok (.dneg, 1) := by decide +kernel
theorem dX9_remainderOf_62 : decode cX9_remainderOf 62 = .ok (.goto 5, 3) := by decide +kernel
theorem dX9_remainderOf_65 : decode cX9_remainderOf 65 = .ok (.dload 8, 2) := by decide +kernel
theorem dX9_remainderOf_67 : decode cX9_remainderOf 67 = .ok (.dreturn, 1) := by decide +kernel
theorem dX10_init_0 : decode cX10_init 0 = .ok (.aload_n 0, 1) := by decide +kernel
theorem dX10_init_1 : decode cX10_init 1 = .ok (.invokespecial 1, 3) := by decide +kernel
theorem dX10_init_4 : decode cX10_init 4 = .ok (.aload_n 0, 1) := by decide +kernel
theorem dX10_init_5 : decode cX10_init 5 = .ok (.iconst 3, 1) := by decide +kernel
theorem dX10_init_6 : decode cX10_init 6 = .ok (.putfield 7, 3) := by decide +kernel
theorem dX10_init_9 : decode cX10_init 9 = .ok (.aload_n 0, 1) := by decide +kernel
theorem dX10_init_10 : decode cX10_init 10 = .ok (.bipush 8, 2) := by decide +kernel
theorem dX10_init_12 : decode cX10_init 12 = .ok (.newarray .int, 2) := by decide +kernel
theorem dX10_init_14 : decode cX10_init 14 = .ok (.dup, 1) := by decide +kernel
theorem dX10_init_15 : decode cX10_init 15 = .ok (.iconst 0, 1) := by decide +kernel
theorem dX10_init_16 : decode cX10_init 16 = .ok (.iconst 0, 1) := by decide +kernel
theorem dX10_init_17 : decode cX10_init 17 = .ok (.iastore, 1) := by decide +kernel
theorem dX10_init_18 : decode cX10_init 18 = .ok (.dup, 1) := by decide +kernel
theorem dX10_init_19 : decode cX10_init 19 = .ok (.iconst 1, 1) := by decide +kernel
theorem dX10_init_20 : decode cX10_init 20 = .ok (.iconst 1, 1) := by decide +kernel
theorem dX10_init_21 : decode cX10_init 21 = .ok (.iastore, 1) := by decide +kernel
theorem dX10_init_22 : decode cX10_init 22 = .ok (.dup, 1) := by decide +kernel
theorem dX10_init_23 : decode cX10_init 23 = .ok (.iconst 2, 1) := by decide +kernel
theorem dX10_init_24 : decode cX10_init 24 = .ok (.iconst 2, 1) := by decide +kernel
theorem dX10_init_25 : decode cX10_init 25 = .ok (.iastore, 1) := by decide +kernel
theorem dX10_init_26 : decode cX10_init 26 = .ok (.dup, 1) := by decide +kernel
theorem dX10_init_27 : decode cX10_init 27 = .ok (.iconst 3, 1) := by decide +kernel
theorem dX10_init_28 : decode cX10_init 28 = .ok (.iconst 3, 1) := by decide +kernel
theorem dX10_init_29 : decode cX10_init 29 = .ok (.iastore, 1) := by decide +kernel
theorem dX10_init_30 : decode cX10_init 30 = .ok (.dup, 1) := by decide +kernel
theorem dX10_init_31 : decode cX10_init 31 = .ok (.iconst 4, 1) := by decide +kernel
theorem dX10_init_32 : decode cX10_init 32 = .ok (.iconst 4, 1) := by decide +kernel
theorem dX10_init_33 : decode cX10_init 33 = .ok (.iastore, 1) := by decide +kernel
theorem dX10_init_34 : decode cX10_init 34 = .ok (.dup, 1) := by decide +kernel
theorem dX10_init_35 : decode cX10_init 35 = .ok (.iconst 5, 1) := by decide +kernel
theorem dX10_init_36 : decode cX10_init 36 = .ok (.iconst 5, 1) := by decide +kernel
theorem dX10_init_37 : decode cX10_init 37 = .ok (.iastore, 1) := by decide +kernel
theorem dX10_init_38 : decode cX10_init 38 = .ok (.dup, 1) := by decide +kernel
theorem dX10_init_39 : decode cX10_init 39 = .ok (.bipush 6, 2) := by decide +kernel
theorem dX10_init_41 : decode cX10_init 41 = .ok (.bipush 6, 2) := by decide +kernel
theorem dX10_init_43 : decode cX10_init 43 = .ok (.iastore, 1) := by decide +kernel
theorem dX10_init_44 : decode cX10_init 44 = .ok (.dup, 1) := by decide +kernel
theorem dX10_init_45 : decode cX10_init 45 = .ok (.bipush 7, 2) := by decide +kernel
theorem dX10_init_47 : decode cX10_init 47 = .ok (.bipush 7, 2) := by decide +kernel
theorem dX10_init_49 : decode cX10_init 49 = .ok (.iastore, 1) := by decide +kernel
theorem dX10_init_50 : decode cX10_init 50 = .ok (.putfield 13, 3) := by decide +kernel
theorem dX10_init_53 : decode cX10_init 53 = .ok (.aload_n 0, 1) := by decide +kernel
theorem dX10_init_54 : decode cX10_init 54 = .ok (.iconst 5, 1) := by decide +kernel
theorem dX10_init_55 : decode cX10_init 55 = .ok (.newarray .boolean, 2) := by decide +kernel
theorem dX10_init_57 : decode cX10_init 57 = .ok (.putfield 17, 3) := by decide +kernel
theorem dX10_init_60 : decode cX10_init 60 = .ok (.aload_n 0, 1) := by decide +kernel
theorem dX10_init_61 : decode cX10_init 61 = .ok (.bipush 80, 2) := by decide +kernel
theorem dX10_init_63 : decode cX10_init 63 = .ok (.newarray .int, 2) := by decide +kernel
theorem dX10_init_65 : decode cX10_init 65 = .ok (.putfield 21, 3) := by decide +kernel
theorem dX10_init_68 : decode cX10_init 68 = .ok (.aload_n 0, 1) := by decide +kernel
theorem dX10_init_69 : decode cX10_init 69 = .ok (.iconst 4, 1) := by decide +kernel
theorem dX10_init_70 : decode cX10_init 70 = .ok (.newarray .int, 2) := by decide +kernel
theorem dX10_init_72 : decode cX10_init 72 = .ok (.putfield 24, 3) := by decide +kernel
theorem dX10_init_75 : decode cX10_init 75 = .ok (.aload_n 0, 1) := by decide +kernel
theorem dX10_init_76 : decode cX10_init 76 = .ok (.sipush 800, 3) := by decide +kernel
theorem dX10_init_79 : decode cX10_init 79 = .ok (.newarray .int, 2) := by decide +kernel
theorem dX10_init_81 : decode cX10_init 81 = .ok (.putfield 27, 3) := by decide +kernel
theorem dX10_init_84 : decode cX10_init 84 = .ok (.aload_n 0, 1) := by decide +kernel
theorem dX10_init_85 : decode cX10_init 85 = .ok (.bipush 40, 2) := by decide +kernel
theorem dX10_init_87 : decode cX10_init 87 = .ok (.newarray .char, 2) := by decide +kernel
theorem dX10_init_89 : decode cX10_init 89 = .ok (.putfield 30, 3) := by decide +kernel
theorem dX10_init_92 : decode cX10_init 92 = .ok (.aload_n 0, 1) := by decide +kernel
theorem dX10_init_93 : decode cX10_init 93 = .ok (.iconst (-1), 1) := by decide +kernel
theorem dX10_init_94 : decode cX10_init 94 = .ok (.putfield 34, 3) := by decide +kernel
theorem dX10_init_97 : decode cX10_init 97 = .ok (.aload_n 0, 1) := by decide +kernel
theorem dX10_init_98 : decode cX10_init 98 = .ok (.bipush 24, 2) := by decide +kernel
theorem dX10_init_100 : decode cX10_init 100 = .ok (.newarray .float, 2) := by decide +kernel
theorem dX10_init_102 : decode cX10_init 102 = .ok (.putfield 37, 3) := by decide +kernel
theorem dX10_init_105 : decode cX10_init 105 = .ok (.aload_n 0, 1) := by decide +kernel
theorem dX10_init_106 : decode cX10_init 106 = .ok (.bipush 24, 2) := by decide +kernel
theorem dX10_init_108 : decode cX10_init 108 = .ok (.newarray .double, 2) := by decide +kernel
theorem dX10_init_110 : decode cX10_init 110 = .ok (.putfield 41, 3) := by decide +kernel
theorem dX10_init_113 : decode cX10_init 113 = .ok (.aload_n 0, 1) := by decide +kernel
theorem dX10_init_114 : decode cX10_init 114 = .ok (.bipush 8, 2) := by decide +kernel
theorem dX10_init_116 : decode cX10_init 116 = .ok (.newarray .int, 2) := by decide +kernel
theorem dX10_init_118 : decode cX10_init 118 = .ok (.putfield 45, 3) := by decide +kernel
theorem dX10_init_121 : decode cX10_init 121 = .ok (.aload_n 0, 1) := by decide +kernel
theorem dX10_init_122 : decode cX10_init 122 = .ok (.iconst 5, 1) := by decide +kernel
theorem dX10_init_123 : decode cX10_init 123 = .ok (.newarray .boolean, 2) := by decide +kernel
theorem dX10_init_125 : decode cX10_init 125 = .ok (.putfield 48, 3) := by decide +kernel
theorem dX10_init_128 : decode cX10_init 128 = .ok (.aload_n 0, 1) := by decide +kernel
theorem dX10_init_129 : decode cX10_init 129 = .ok (.bipush 80, 2) := by decide +kernel
theorem dX10_init_131 : decode cX10_init 131 = .ok (.newarray .int, 2) := by decide +kernel
theorem dX10_init_133 : decode cX10_init 133 = .ok (.putfield 51, 3) := by decide +kernel
theorem dX10_init_136 : decode cX10_init 136 = .ok (.aload_n 0, 1) := by decide +kernel
theorem dX10_init_137 : decode cX10_init 137 = .ok (.iconst 4, 1) := by decide +kernel
theorem dX10_init_138 : decode cX10_init 138 = .ok (.newarray .int, 2) := by decide +kernel
theorem dX10_init_140 : decode cX10_init 140 = .ok (.putfield 54, 3) := by decide +kernel
theorem dX10_init_143 : decode cX10_init 143 = .ok (.aload_n 0, 1) := by decide +kernel
theorem dX10_init_144 : decode cX10_init 144 = .ok (.sipush 800, 3) := by decide +kernel
theorem dX10_init_147 : decode cX10_init 147 = .ok (.newarray .int, 2) := by decide +kernel
theorem dX10_init_149 : decode cX10_init 149 = .ok (.putfield 57, 3) := by decide +kernel
theorem dX10_init_152 : decode cX10_init 152 = .ok (.aload_n 0, 1) := by decide +kernel
theorem dX10_init_153 : decode cX10_init 153 = .ok (.bipush 8, 2) := by decide +kernel
theorem dX10_init_155 : decode cX10_init 155 = .ok (.newarray .int, 2) := by decide +kernel
theorem dX10_init_157 : decode cX10_init 157 = .ok (.putfield 60, 3) := by decide +kernel
theorem dX10_init_160 : decode cX10_init 160 = .ok (.aload_n 0, 1) := by decide +kernel
theorem dX10_init_161 : decode cX10_init 161 = .ok (.bipush 8, 2) := by decide +kernel
theorem dX10_init_163 : decode cX10_init 163 = .ok (.newarray .boolean, 2) := by decide +kernel
theorem dX10_init_165 : decode cX10_init 165 = .ok (.putfield 63, 3) := by decide +kernel
theorem dX10_init_168 : decode cX10_init 168 = .ok (.aload_n 0, 1) := by decide +kernel
theorem dX10_init_169 : decode cX10_init 169 = .ok (.sipush 300, 3) := by decide +kernel
theorem dX10_init_172 : decode cX10_init 172 = .ok (.newarray .int, 2) := by decide +kernel
theorem dX10_init_174 : decode cX10_init 174 = .ok (.putfield 66, 3) := by decide +kernel
theorem dX10_init_177 : decode cX10_init 177 = .ok (.aload_n 0, 1) := by decide +kernel
theorem dX10_init_178 : decode cX10_init 178 = .ok (.bipush 8, 2) := by decide +kernel
theorem dX10_init_180 : decode cX10_init 180 = .ok (.newarray .int, 2) := by decide +kernel
theorem dX10_init_182 : decode cX10_init 182 = .ok (.putfield 69, 3) := by decide +kernel
theorem dX10_init_185 : decode cX10_init 185 = .ok (.aload_n 0, 1) := by decide +kernel
theorem dX10_init_186 : decode cX10_init 186 = .ok (.sipush 5040, 3) := by decide +kernel
theorem dX10_init_189 : decode cX10_init 189 = .ok (.newarray .int, 2) := by decide +kernel
theorem dX10_init_191 : decode cX10_init 191 = .ok (.putfield 72, 3) := by decide +kernel
theorem dX10_init_194 : decode cX10_init 194 = .ok (.aload_n 0, 1) := by decide +kernel
theorem dX10_init_195 : decode cX10_init 195 = .ok (.sipush 5040, 3) := by decide +kernel
theorem dX10_init_198 : decode cX10_init 198 = .ok (.newarray .int, 2) := by decide +kernel
theorem dX10_init_200 : decode cX10_init 200 = .ok (.putfield 75, 3) := by decide +kernel
theorem dX10_init_203 : decode cX10_init 203 = .ok (.aload_n 0, 1) := by decide +kernel
theorem dX10_init_204 : decode cX10_init 204 = .ok (.bipush 8, 2) := by decide +kernel
theorem dX10_init_206 : decode cX10_init 206 = .ok (.newarray .int, 2) := by decide +kernel
theorem dX10_init_208 : decode cX10_init 208 = .ok (.putfield 78, 3) := by decide +kernel
theorem dX10_init_211 : decode cX10_init 211 = .ok (.aload_n 0, 1) := by decide +kernel
theorem dX10_init_212 : decode cX10_init 212 = .ok (.bipush 8, 2) := by decide +kernel
theorem dX10_init_214 : decode cX10_init 214 = .ok (.newarray .int, 2) := by decide +kernel
theorem dX10_init_216 : decode cX10_init 216 = .ok (.putfield 81, 3) := by decide +kernel
theorem dX10_init_219 : decode cX10_init 219 = .ok (.aload_n 0, 1) := by decide +kernel
theorem dX10_init_220 : decode cX10_init 220 = .ok (.sipush 5041, 3) := by decide +kernel
theorem dX10_init_223 : decode cX10_init 223 = .ok (.newarray .int, 2) := by decide +kernel
theorem dX10_init_225 : decode cX10_init 225 = .ok (.putfield 84, 3) := by decide +kernel
theorem dX10_init_228 : decode cX10_init 228 = .ok (.return_, 1) := by decide +kernel
theorem dX10_thrown_0 : decode cX10_thrown 0 = .ok (.aload_n 0, 1) := by decide +kernel
theorem dX10_thrown_1 : decode cX10_thrown 1 = .ok (.getfield 87, 3) := by decide +kernel
theorem dX10_thrown_4 : decode cX10_thrown 4 = .ok (.ireturn, 1) := by decide +kernel
theorem dX10_in_0 : decode cX10_in 0 = .ok (.iload_n 0, 1) := by decide +kernel
theorem dX10_in_1 : decode cX10_in 1 = .ok (.iload_n 1, 1) := by decide +kernel
theorem dX10_in_2 : decode cX10_in 2 = .ok (.if_icmp .lt 12, 3) := by decide +kernel
theorem dX10_in_5 : decode cX10_in 5 = .ok (.iload_n 0, 1) := by decide +kernel
theorem dX10_in_6 : decode cX10_in 6 = .ok (.iload_n 2, 1) := by decide +kernel
theorem dX10_in_7 : decode cX10_in 7 = .ok (.if_icmp .gt 7, 3) := by decide +kernel
theorem dX10_in_10 : decode cX10_in 10 = .ok (.iconst 1, 1) := by decide +kernel
theorem dX10_in_11 : decode cX10_in 11 = .ok (.goto 4, 3) := by decide +kernel
theorem dX10_in_14 : decode cX10_in 14 = .ok (.iconst 0, 1) := by decide +kernel
theorem dX10_in_15 : decode cX10_in 15 = .ok (.ireturn, 1) := by decide +kernel
theorem dX10_fails_0 : decode cX10_fails 0 = .ok (.aload_n 0, 1) := by decide +kernel
theorem dX10_fails_1 : decode cX10_fails 1 = .ok (.iload_n 1, 1) := by decide +kernel
theorem dX10_fails_2 : decode cX10_fails 2 = .ok (.putfield 87, 3) := by decide +kernel
theorem dX10_fails_5 : decode cX10_fails 5 = .ok (.iconst 0, 1) := by decide +kernel
theorem dX10_fails_6 : decode cX10_fails 6 = .ok (.ireturn, 1) := by decide +kernel
theorem dX10_done_0 : decode cX10_done 0 = .ok (.aload_n 0, 1) := by decide +kernel
theorem dX10_done_1 : decode cX10_done 1 = .ok (.iconst 0, 1) := by decide +kernel
theorem dX10_done_2 : decode cX10_done 2 = .ok (.putfield 87, 3) := by decide +kernel
theorem dX10_done_5 : decode cX10_done 5 = .ok (.iload_n 1, 1) := by decide +kernel
theorem dX10_done_6 : decode cX10_done 6 = .ok (.ireturn, 1) := by decide +kernel
theorem dX10_so_0 : decode cX10_so 0 = .ok (.aload_n 0, 1) := by decide +kernel
theorem dX10_so_1 : decode cX10_so 1 = .ok (.iconst 0, 1) := by decide +kernel
theorem dX10_so_2 : decode cX10_so 2 = .ok (.putfield 87, 3) := by decide +kernel
theorem dX10_so_5 : decode cX10_so 5 = .ok (.iload_n 1, 1) := by decide +kernel
theorem dX10_so_6 : decode cX10_so 6 = .ok (.ireturn, 1) := by decide +kernel
theorem dX10_not_0 : decode cX10_not 0 = .ok (.aload_n 0, 1) := by decide +kernel
theorem dX10_not_1 : decode cX10_not 1 = .ok (.iload_n 1, 1) := by decide +kernel
theorem dX10_not_2 : decode cX10_not 2 = .ok (.putfield 87, 3) := by decide +kernel
theorem dX10_not_5 : decode cX10_not 5 = .ok (.iconst 0, 1) := by decide +kernel
theorem dX10_not_6 : decode cX10_not 6 = .ok (.ireturn, 1) := by decide +kernel
theorem dX10_isSlot_0 : decode cX10_isSlot 0 = .ok (.iload_n 0, 1) := by decide +kernel
theorem dX10_isSlot_1 : decode cX10_isSlot 1 = .ok (.iconst 0, 1) := by decide +kernel
theorem dX10_isSlot_2 : decode cX10_isSlot 2 = .ok (.iconst 3, 1) := by decide +kernel
theorem dX10_isSlot_3 : decode cX10_isSlot 3 = .ok (.invokestatic 90, 3) := by decide +kernel
theorem dX10_isSlot_6 : decode cX10_isSlot 6 = .ok (.ireturn, 1) := by decide +kernel
theorem dX10_isPosition_0 : decode cX10_isPosition 0 = .ok (.iload_n 1, 1) := by decide +kernel
theorem dX10_isPosition_1 : decode cX10_isPosition 1 = .ok (.iconst 1, 1) := by decide +kernel
theorem dX10_isPosition_2 : decode cX10_isPosition 2 = .ok (.aload_n 0, 1) := by decide +kernel
theorem dX10_isPosition_3 : decode cX10_isPosition 3 = .ok (.getfield 7, 3) := by decide +kernel
theorem dX10_isPosition_6 : decode cX10_isPosition 6 = .ok (.invokestatic 90, 3) := by decide +kernel
theorem dX10_isPosition_9 : decode cX10_isPosition 9 = .ok (.ireturn, 1) := by decide +kernel
theorem dX10_reset_0 : decode cX10_reset 0 = .ok (.iload_n 1, 1) := by decide +kernel
theorem dX10_reset_1 : decode cX10_reset 1 = .ok (.iconst 2, 1) := by decide +kernel
theorem dX10_reset_2 : decode cX10_reset 2 = .ok (.bipush 7, 2) := by decide +kernel
theorem dX10_reset_4 : decode cX10_reset 4 = .ok (.invokestatic 90, 3) := by decide +kernel
theorem dX10_reset_7 : decode cX10_reset 7 = .ok (.ifCond .ne 9, 3) := by decide +kernel
theorem dX10_reset_10 : decode cX10_reset 10 = .ok (.aload_n 0, 1) := by decide +kernel
theorem dX10_reset_11 : decode cX10_reset 11 = .ok (.iconst 1, 1) := by decide +kernel
theorem dX10_reset_12 : decode cX10_reset 12 = .ok (.invokevirtual 94, 3) := by decide +kernel
theorem dX10_reset_15 : decode cX10_reset 15 = .ok (.ireturn, 1) := by decide +kernel
theorem dX10_reset_16 : decode cX10_reset 16 = .ok (.aload_n 0, 1) := by decide +kernel
theorem dX10_reset_17 : decode cX10_reset 17 = .ok (.getfield 7, 3) := by decide +kernel
theorem dX10_reset_20 : decode cX10_reset 20 = .ok (.istore_n 2, 1) := by decide +kernel
theorem dX10_reset_21 : decode cX10_reset 21 = .ok (.aload_n 0, 1) := by decide +kernel
theorem dX10_reset_22 : decode cX10_reset 22 = .ok (.iload_n 1, 1) := by decide +kernel
theorem dX10_reset_23 : decode cX10_reset 23 = .ok (.putfield 7, 3) := by decide +kernel
theorem dX10_reset_26 : decode cX10_reset 26 = .ok (.iconst 1, 1) := by decide +kernel
theorem dX10_reset_27 : decode cX10_reset 27 = .ok (.istore_n 3, 1) := by decide +kernel
theorem dX10_reset_28 : decode cX10_reset 28 = .ok (.iload_n 3, 1) := by decide +kernel
theorem dX10_reset_29 : decode cX10_reset 29 = .ok (.bipush 8, 2) := by decide +kernel
theorem dX10_reset_31 : decode cX10_reset 31 = .ok (.if_icmp .ge 16, 3) := by decide +kernel
theorem dX10_reset_34 : decode cX10_reset 34 = .ok (.aload_n 0, 1) := by decide +kernel
theorem dX10_reset_35 : decode cX10_reset 35 = .ok (.getfield 13, 3) := by decide +kernel
theorem dX10_reset_38 : decode cX10_reset 38 = .ok (.iload_n 3, 1) := by decide +kernel
theorem dX10_reset_39 : decode cX10_reset 39 = .ok (.iload_n 3, 1) := by decide +kernel
theorem dX10_reset_40 : decode cX10_reset 40 = .ok (.iastore, 1) := by decide +kernel
theorem dX10_reset_41 : decode cX10_reset 41 = .ok (.iinc 3 1, 3) := by decide +kernel
theorem dX10_reset_44 : decode cX10_reset 44 = .ok (.goto (-16), 3) := by decide +kernel
theorem dX10_reset_47 : decode cX10_reset 47 = .ok (.iconst 0, 1) := by decide +kernel
theorem dX10_reset_48 : decode cX10_reset 48 = .ok (.istore_n 3, 1) := by decide +kernel
theorem dX10_reset_49 : decode cX10_reset 49 = .ok (.iload_n 3, 1) := by decide +kernel
theorem dX10_reset_50 : decode cX10_reset 50 = .ok (.iconst 5, 1) := by decide +kernel
theorem dX10_reset_51 : decode cX10_reset 51 = .ok (.if_icmp .ge 16, 3) := by decide +kernel
theorem dX10_reset_54 : decode cX10_reset 54 = .ok (.aload_n 0, 1) := by decide +kernel
theorem dX10_reset_55 : decode cX10_reset 55 = .ok (.getfield 17, 3) := by decide +kernel
theorem dX10_reset_58 : decode cX10_reset 58 = .ok (.iload_n 3, 1) := by decide +kernel
theorem dX10_reset_59 : decode cX10_reset 59 = .ok (.iconst 0, 1) := by decide +kernel
theorem dX10_reset_60 : decode cX10_reset 60 = .ok (.bastore, 1) := by decide +kernel
theorem dX10_reset_61 : decode cX10_reset 61 = .ok (.iinc 3 1, 3) := by decide +kernel
theorem dX10_reset_64 : decode cX10_reset 64 = .ok (.goto (-15), 3) := by decide +kernel
theorem dX10_reset_67 : decode cX10_reset 67 = .ok (.iconst 0, 1) := by decide +kernel
theorem dX10_reset_68 : decode cX10_reset 68 = .ok (.istore_n 3, 1) := by decide +kernel
theorem dX10_reset_69 : decode cX10_reset 69 = .ok (.iload_n 3, 1) := by decide +kernel
theorem dX10_reset_70 : decode cX10_reset 70 = .ok (.iconst 4, 1) := by decide +kernel
theorem dX10_reset_71 : decode cX10_reset 71 = .ok (.if_icmp .ge 16, 3) := by decide +kernel
theorem dX10_reset_74 : decode cX10_reset 74 = .ok (.aload_n 0, 1) := by decide +kernel
theorem dX10_reset_75 : decode cX10_reset 75 = .ok (.getfield 24, 3) := by decide +kernel
theorem dX10_reset_78 : decode cX10_reset 78 = .ok (.iload_n 3, 1) := by decide +kernel
theorem dX10_reset_79 : decode cX10_reset 79 = .ok (.iconst 0, 1) := by decide +kernel
theorem dX10_reset_80 : decode cX10_reset 80 = .ok (.iastore, 1) := by decide +kernel
theorem dX10_reset_81 : decode cX10_reset 81 = .ok (.iinc 3 1, 3) := by decide +kernel
theorem dX10_reset_84 : decode cX10_reset 84 = .ok (.goto (-15), 3) := by decide +kernel
theorem dX10_reset_87 : decode cX10_reset 87 = .ok (.aload_n 0, 1) := by decide +kernel
theorem dX10_reset_88 : decode cX10_reset 88 = .ok (.iconst 0, 1) := by decide +kernel
theorem dX10_reset_89 : decode cX10_reset 89 = .ok (.putfield 98, 3) := by decide +kernel
theorem dX10_reset_92 : decode cX10_reset 92 = .ok (.aload_n 0, 1) := by decide +kernel
theorem dX10_reset_93 : decode cX10_reset 93 = .ok (.iconst 0, 1) := by decide +kernel
theorem dX10_reset_94 : decode cX10_reset 94 = .ok (.putfield 102, 3) := by decide +kernel
theorem dX10_reset_97 : decode cX10_reset 97 = .ok (.aload_n 0, 1) := by decide +kernel
theorem dX10_reset_98 : decode cX10_reset 98 = .ok (.iload_n 2, 1) := by decide +kernel
theorem dX10_reset_99 : decode cX10_reset 99 = .ok (.invokevirtual 105, 3) := by decide +kernel
theorem dX10_reset_102 : decode cX10_reset 102 = .ok (.ireturn, 1) := by decide +kernel
theorem dX10_positions_0 : decode cX10_positions 0 = .ok (.aload_n 0, 1) := by decide +kernel
theorem dX10_positions_1 : decode cX10_positions 1 = .ok (.aload_n 0, 1) := by decide +kernel
theorem dX10_positions_2 : decode cX10_positions 2 = .ok (.getfield 7, 3) := by decide +kernel
theorem dX10_positions_5 : decode cX10_positions 5 = .ok (.invokevirtual 105, 3) := by decide +kernel
theorem dX10_positions_8 : decode cX10_positions 8 = .ok (.ireturn, 1) := by decide +kernel
theorem dX10_append_0 : decode cX10_append 0 = .ok (.iload_n 1, 1) := by decide +kernel
theorem dX10_append_1 : decode cX10_append 1 = .ok (.bipush 32, 2) := by decide +kernel
theorem dX10_append_3 : decode cX10_append 3 = .ok (.bipush 126, 2) := by decide +kernel
theorem dX10_append_5 : decode cX10_append 5 = .ok (.invokestatic 90, 3) := by decide +kernel
theorem dX10_append_8 : decode cX10_append 8 = .ok (.ifCond .ne 9, 3) := by decide +kernel
theorem dX10_append_11 : decode cX10_append 11 = .ok (.aload_n 0, 1) := by decide +kernel
theorem dX10_append_12 : decode cX10_append 12 = .ok (.iconst 1, 1) := by decide +kernel
theorem dX10_append_13 : decode cX10_append 13 = .ok (.invokevirtual 94, 3) := by decide +kernel
theorem dX10_append_16 : decode cX10_append 16 = .ok (.ireturn, 1) := by decide +kernel
theorem dX10_append_17 : decode cX10_append 17 = .ok (.aload_n 0, 1) := by decide +kernel
theorem dX10_append_18 : decode cX10_append 18 = .ok (.getfield 108, 3) := by decide +kernel
theorem dX10_append_21 : decode cX10_append 21 = .ok (.bipush 40, 2) := by decide +kernel
theorem dX10_append_23 : decode cX10_append 23 = .ok (.if_icmp .ne 9, 3) := by decide +kernel
theorem dX10_append_26 : decode cX10_append 26 = .ok (.aload_n 0, 1) := by decide +kernel
theorem dX10_append_27 : decode cX10_append 27 = .ok (.iconst 2, 1) := by decide +kernel
theorem dX10_append_28 : decode cX10_append 28 = .ok (.invokevirtual 94, 3) := by decide +kernel
theorem dX10_append_31 : decode cX10_append 31 = .ok (.ireturn, 1) := by decide +kernel
theorem dX10_append_32 : decode cX10_append 32 = .ok (.aload_n 0, 1) := by decide +kernel
theorem dX10_append_33 : decode cX10_append 33 = .ok (.getfield 30, 3) := by decide +kernel
theorem dX10_append_36 : decode cX10_append 36 = .ok (.aload_n 0, 1) := by decide +kernel
theorem dX10_append_37 : decode cX10_append 37 = .ok (.getfield 108, 3) := by decide +kernel
theorem dX10_append_40 : decode cX10_append 40 = .ok (.iload_n 1, 1) := by decide +kernel
theorem dX10_append_41 : decode cX10_append 41 = .ok (.castore, 1) := by decide +kernel
theorem dX10_append_42 : decode cX10_append 42 = .ok (.aload_n 0, 1) := by decide +kernel
theorem dX10_append_43 : decode cX10_append 43 = .ok (.dup, 1) := by decide +kernel
theorem dX10_append_44 : decode cX10_append 44 = .ok (.getfield 108, 3) := by decide +kernel
theorem dX10_append_47 : decode cX10_append 47 = .ok (.iconst 1, 1) := by decide +kernel
theorem dX10_append_48 : decode cX10_append 48 = .ok (.iadd, 1) := by decide +kernel
theorem dX10_append_49 : decode cX10_append 49 = .ok (.putfield 108, 3) := by decide +kernel
theorem dX10_append_52 : decode cX10_append 52 = .ok (.aload_n 0, 1) := by decide +kernel
theorem dX10_append_53 : decode cX10_append 53 = .ok (.aload_n 0, 1) := by decide +kernel
theorem dX10_append_54 : decode cX10_append 54 = .ok (.getfield 108, 3) := by decide +kernel
theorem dX10_append_57 : decode cX10_append 57 = .ok (.invokevirtual 105, 3) := by decide +kernel
theorem dX10_append_60 : decode cX10_append 60 = .ok (.ireturn, 1) := by decide +kernel
theorem dX10_here_0 : decode cX10_here 0 = .ok (.aload_n 0, 1) := by decide +kernel
theorem dX10_here_1 : decode cX10_here 1 = .ok (.getfield 111, 3) := by decide +kernel
theorem dX10_here_4 : decode cX10_here 4 = .ok (.aload_n 0, 1) := by decide +kernel
theorem dX10_here_5 : decode cX10_here 5 = .ok (.getfield 108, 3) := by decide +kernel
theorem dX10_here_8 : decode cX10_here 8 = .ok (.if_icmp .ge 15, 3) := by decide +kernel
theorem dX10_here_11 : decode cX10_here 11 = .ok (.aload_n 0, 1) := by decide +kernel
theorem dX10_here_12 : decode cX10_here 12 = .ok (.getfield 30, 3) := by decide +kernel
theorem dX10_here_15 : decode cX10_here 15 = .ok (.aload_n 0, 1) := by decide +kernel
theorem dX10_here_16 : decode cX10_here 16 = .ok (.getfield 111, 3) := by decide +kernel
theorem dX10_here_19 : decode cX10_here 19 = .ok (.caload, 1) := by decide +kernel
theorem dX10_here_20 : decode cX10_here 20 = .ok (.goto 4, 3) := by decide +kernel
theorem dX10_here_23 : decode cX10_here 23 = .ok (.iconst 0, 1) := by decide +kernel
theorem dX10_here_24 : decode cX10_here 24 = .ok (.ireturn, 1) := by decide +kernel
theorem dX10_readsCycle_0 : decode cX10_readsCycle 0 = .ok (.aload_n 0, 1) := by decide +kernel
theorem dX10_readsCycle_1 : decode cX10_readsCycle 1 = .ok (.dup, 1) := by decide +kernel
theorem dX10_readsCycle_2 : decode cX10_readsCycle 2 = .ok (.getfield 111, 3) := by decide +kernel
theorem dX10_readsCycle_5 : decode cX10_readsCycle 5 = .ok (.iconst 1, 1) := by decide +kernel
theorem dX10_readsCycle_6 : decode cX10_readsCycle 6 = .ok (.iadd, 1) := by decide +kernel
theorem dX10_readsCycle_7 : decode cX10_readsCycle 7 = .ok (.putfield 111, 3) := by decide +kernel
theorem dX10_readsCycle_10 : decode cX10_readsCycle 10 = .ok (.iconst 0, 1) := by decide +kernel
theorem dX10_readsCycle_11 : decode cX10_readsCycle 11 = .ok (.istore_n 1, 1) := by decide +kernel
theorem dX10_readsCycle_12 : decode cX10_readsCycle 12 = .ok (.iconst 0, 1) := by decide +kernel
theorem dX10_readsCycle_13 : decode cX10_readsCycle 13 = .ok (.istore_n 2, 1) := by decide +kernel
theorem dX10_readsCycle_14 : decode cX10_readsCycle 14 = .ok (.iconst 0, 1) := by decide +kernel
theorem dX10_readsCycle_15 : decode cX10_readsCycle 15 = .ok (.istore_n 3, 1) := by decide +kernel
theorem dX10_readsCycle_16 : decode cX10_readsCycle 16 = .ok (.aload_n 0, 1) := by decide +kernel
theorem dX10_readsCycle_17 : decode cX10_readsCycle 17 = .ok (.aload_n 0, 1) := by decide +kernel
theorem dX10_readsCycle_18 : decode cX10_readsCycle 18 = .ok (.invokevirtual 114, 3) := by decide +kernel
theorem dX10_readsCycle_21 : decode cX10_readsCycle 21 = .ok (.bipush 48, 2) := by decide +kernel
theorem dX10_readsCycle_23 : decode cX10_readsCycle 23 = .ok (.isub, 1) := by decide +kernel
theorem dX10_readsCycle_24 : decode cX10_readsCycle 24 = .ok (.invokevirtual 118, 3) := by decide +kernel
theorem dX10_readsCycle_27 : decode cX10_readsCycle 27 = .ok (.ifCond .eq 72, 3) := by decide +kernel
theorem dX10_readsCycle_30 : decode cX10_readsCycle 30 = .ok (.aload_n 0, 1) := by decide +kernel
theorem dX10_readsCycle_31 : decode cX10_readsCycle 31 = .ok (.getfield 63, 3) := by decide +kernel
theorem dX10_readsCycle_34 : decode cX10_readsCycle 34 = .ok (.aload_n 0, 1) := by decide +kernel
theorem dX10_readsCycle_35 : decode cX10_readsCycle 35 = .ok (.invokevirtual 114, 3) := by decide +kernel
theorem dX10_readsCycle_38 : decode cX10_readsCycle 38 = .ok (.bipush 48, 2) := by decide +kernel
theorem dX10_readsCycle_40 : decode cX10_readsCycle 40 = .ok (.isub, 1) := by decide +kernel
theorem dX10_readsCycle_41 : decode cX10_readsCycle 41 = .ok (.baload, 1) := by decide +kernel
theorem dX10_readsCycle_42 : decode cX10_readsCycle 42 = .ok (.ifCond .ne 57, 3) := by decide +kernel
theorem dX10_readsCycle_45 : decode cX10_readsCycle 45 = .ok (.aload_n 0, 1) := by decide +kernel
theorem dX10_readsCycle_46 : decode cX10_readsCycle 46 = .ok (.invokevirtual 114, 3) := by decide +kernel
theorem dX10_readsCycle_49 : decode cX10_readsCycle 49 = .ok (.bipush 48, 2) := by decide +kernel
theorem dX10_readsCycle_51 : decode cX10_readsCycle 51 = .ok (.isub, 1) := by decide +kernel
theorem dX10_readsCycle_52 : decode cX10_readsCycle 52 = .ok (.istore 4, 2) := by decide +kernel
theorem dX10_readsCycle_54 : decode cX10_readsCycle 54 = .ok (.aload_n 0, 1) := by decide +kernel
theorem dX10_readsCycle_55 : decode cX10_readsCycle 55 = .ok (.getfield 63, 3) := by decide +kernel
theorem dX10_readsCycle_58 : decode cX10_readsCycle 58 = .ok (.iload 4, 2) := by decide +kernel
theorem dX10_readsCycle_60 : decode cX10_readsCycle 60 = .ok (.iconst 1, 1) := by decide +kernel
theorem dX10_readsCycle_61 : decode cX10_readsCycle 61 = .ok (.bastore, 1) := by decide +kernel
theorem dX10_readsCycle_62 : decode cX10_readsCycle 62 = .ok (.iload_n 3, 1) := by decide +kernel
theorem dX10_readsCycle_63 : decode cX10_readsCycle 63 = .ok (.ifCond .ne 9, 3) := by decide +kernel
theorem dX10_readsCycle_66 : decode cX10_readsCycle 66 = .ok (.iload 4, 2) := by decide +kernel
theorem dX10_readsCycle_68 : decode cX10_readsCycle 68 = .ok (.istore_n 1, 1) := by decide +kernel
theorem dX10_readsCycle_69 : decode cX10_readsCycle 69 = .ok (.goto 11, 3) := by decide +kernel
theorem dX10_readsCycle_72 : decode cX10_readsCycle 72 = .ok (.aload_n 0, 1) := by decide +kernel
theorem dX10_readsCycle_73 : decode cX10_readsCycle 73 = .ok (.getfield 60, 3) := by decide +kernel
theorem dX10_readsCycle_76 : decode cX10_readsCycle 76 = .ok (.iload_n 2, 1) := by decide +kernel
theorem dX10_readsCycle_77 : decode cX10_readsCycle 77 = .ok (.iload 4, 2) := by decide +kernel
theorem dX10_readsCycle_79 : decode cX10_readsCycle 79 = .ok (.iastore, 1) := by decide +kernel
theorem dX10_readsCycle_80 : decode cX10_readsCycle 80 = .ok (.iload 4, 2) := by decide +kernel
theorem dX10_readsCycle_82 : decode cX10_readsCycle 82 = .ok (.istore_n 2, 1) := by decide +kernel
theorem dX10_readsCycle_83 : decode cX10_readsCycle 83 = .ok (.iinc 3 1, 3) := by decide +kernel
theorem dX10_readsCycle_86 : decode cX10_readsCycle 86 = .ok (.aload_n 0, 1) := by decide +kernel
theorem dX10_readsCycle_87 : decode cX10_readsCycle 87 = .ok (.dup, 1) := by decide +kernel
theorem dX10_readsCycle_88 : decode cX10_readsCycle 88 = .ok (.getfield 111, 3) := by decide +kernel
theorem dX10_readsCycle_91 : decode cX10_readsCycle 91 = .ok (.iconst 1, 1) := by decide +kernel
theorem dX10_readsCycle_92 : decode cX10_readsCycle 92 = .ok (.iadd, 1) := by decide +kernel
theorem dX10_readsCycle_93 : decode cX10_readsCycle 93 = .ok (.putfield 111, 3) := by decide +kernel
theorem dX10_readsCycle_96 : decode cX10_readsCycle 96 = .ok (.goto (-80), 3) := by decide +kernel
theorem dX10_readsCycle_99 : decode cX10_readsCycle 99 = .ok (.iload_n 3, 1) := by decide +kernel
theorem dX10_readsCycle_100 : decode cX10_readsCycle 100 = .ok (.iconst 2, 1) := by decide +kernel
theorem dX10_readsCycle_101 : decode cX10_readsCycle 101 = .ok (.if_icmp .lt 12, 3) := by decide +kernel
theorem dX10_readsCycle_104 : decode cX10_readsCycle 104 = .ok (.aload_n 0, 1) := by decide +kernel
theorem dX10_readsCycle_105 : decode cX10_readsCycle 105 = .ok (.invokevirtual 114, 3) := by decide +kernel
theorem dX10_readsCycle_108 : decode cX10_readsCycle 108 = .ok (.bipush 41, 2) := by decide +kernel
theorem dX10_readsCycle_110 : decode cX10_readsCycle 110 = .ok (.if_icmp .eq 5, 3) := by decide +kernel
theorem dX10_readsCycle_113 : decode cX10_readsCycle 113 = .ok (.iconst 0, 1) := by decide +kernel
theorem dX10_readsCycle_114 : decode cX10_readsCycle 114 = .ok (.ireturn, 1) := by decide +kernel
theorem dX10_readsCycle_115 : decode cX10_readsCycle 115 = .ok (.aload_n 0, 1) := by decide +kernel
theorem dX10_readsCycle_116 : decode cX10_readsCycle 116 = .ok (.getfield 60, 3) := by decide +kernel
theorem dX10_readsCycle_119 : decode cX10_readsCycle 119 = .ok (.iload_n 2, 1) := by decide +kernel
theorem dX10_readsCycle_120 : decode cX10_readsCycle 120 = .ok (.iload_n 1, 1) := by decide +kernel
theorem dX10_readsCycle_121 : decode cX10_readsCycle 121 = .ok (.iastore, 1) := by decide +kernel
theorem dX10_readsCycle_122 : decode cX10_readsCycle 122 = .ok (.aload_n 0, 1) := by decide +kernel
theorem dX10_readsCycle_123 : decode cX10_readsCycle 123 = .ok (.dup, 1) := by decide +kernel
theorem dX10_readsCycle_124 : decode cX10_readsCycle 124 = .ok (.getfield 111, 3) := by decide +kernel
theorem dX10_readsCycle_127 : decode cX10_readsCycle 127 = .ok (.iconst 1, 1) := by decide +kernel
theorem dX10_readsCycle_128 : decode cX10_readsCycle 128 = .ok (.iadd, 1) := by decide +kernel
theorem dX10_readsCycle_129 : decode cX10_readsCycle 129 = .ok (.putfield 111, 3) := by decide +kernel
theorem dX10_readsCycle_132 : decode cX10_readsCycle 132 = .ok (.iconst 1, 1) := by decide +kernel
theorem dX10_readsCycle_133 : decode cX10_readsCycle 133 = .ok (.ireturn, 1) := by decide +kernel
theorem dX10_readsCycles_0 : decode cX10_readsCycles 0 = .ok (.aload_n 0, 1) := by decide +kernel
theorem dX10_readsCycles_1 : decode cX10_readsCycles 1 = .ok (.iconst 0, 1) := by decide +kernel
theorem dX10_readsCycles_2 : decode cX10_readsCycles 2 = .ok (.putfield 111, 3) := by decide +kernel
theorem dX10_readsCycles_5 : decode cX10_readsCycles 5 = .ok (.iconst 0, 1) := by decide +kernel
theorem dX10_readsCycles_6 : decode cX10_readsCycles 6 = .ok (.istore_n 1, 1) := by decide +kernel
theorem dX10_readsCycles_7 : decode cX10_readsCycles 7 = .ok (.iload_n 1, 1) := by decide +kernel
theorem dX10_readsCycles_8 : decode cX10_readsCycles 8 = .ok (.bipush 8, 2) := by decide +kernel
theorem dX10_readsCycles_10 : decode cX10_readsCycles 10 = .ok (.if_icmp .ge 23, 3) := by decide +kernel
theorem dX10_readsCycles_13 : decode cX10_readsCycles 13 = .ok (.aload_n 0, 1) := by decide +kernel
theorem dX10_readsCycles_14 : decode cX10_readsCycles 14 = .ok (.getfield 60, 3) := by decide +kernel
theorem dX10_readsCycles_17 : decode cX10_readsCycles 17 = .ok (.iload_n 1, 1) := by decide +kernel
theorem dX10_readsCycles_18 : decode cX10_readsCycles 18 = .ok (.iload_n 1, 1) := by decide +kernel
theorem dX10_readsCycles_19 : decode cX10_readsCycles 19 = .ok (.iastore, 1) := by decide +kernel
theorem dX10_readsCycles_20 : decode cX10_readsCycles 20 = .ok (.aload_n 0, 1) := by decide +kernel
theorem dX10_readsCycles_21 : decode cX10_readsCycles 21 = .ok (.getfield 63, 3) := by decide +kernel
theorem dX10_readsCycles_24 : decode cX10_readsCycles 24 = .ok (.iload_n 1, 1) := by decide +kernel
theorem dX10_readsCycles_25 : decode cX10_readsCycles 25 = .ok (.iconst 0, 1) := by decide +kernel
theorem dX10_readsCycles_26 : decode cX10_readsCycles 26 = .ok (.bastore, 1) := by decide +kernel
theorem dX10_readsCycles_27 : decode cX10_readsCycles 27 = .ok (.iinc 1 1, 3) := by decide +kernel
theorem dX10_readsCycles_30 : decode cX10_readsCycles 30 = .ok (.goto (-23), 3) := by decide +kernel
theorem dX10_readsCycles_33 : decode cX10_readsCycles 33 = .ok (.iconst 1, 1) := by decide +kernel
theorem dX10_readsCycles_34 : decode cX10_readsCycles 34 = .ok (.istore_n 1, 1) := by decide +kernel
theorem dX10_readsCycles_35 : decode cX10_readsCycles 35 = .ok (.iload_n 1, 1) := by decide +kernel
theorem dX10_readsCycles_36 : decode cX10_readsCycles 36 = .ok (.ifCond .eq 20, 3) := by decide +kernel
theorem dX10_readsCycles_39 : decode cX10_readsCycles 39 = .ok (.aload_n 0, 1) := by decide +kernel
theorem dX10_readsCycles_40 : decode cX10_readsCycles 40 = .ok (.invokevirtual 114, 3) := by decide +kernel
theorem dX10_readsCycles_43 : decode cX10_readsCycles 43 = .ok (.bipush 40, 2) := by decide +kernel
theorem dX10_readsCycles_45 : decode cX10_readsCycles 45 = .ok (.if_icmp .ne 11, 3) := by decide +kernel
theorem dX10_readsCycles_48 : decode cX10_readsCycles 48 = .ok (.aload_n 0, 1) := by decide +kernel
theorem dX10_readsCycles_49 : decode cX10_readsCycles 49 = .ok (.invokevirtual 122, 3) := by decide +kernel
theorem dX10_readsCycles_52 : decode cX10_readsCycles 52 = .ok (.istore_n 1, 1) := by decide +kernel
theorem dX10_readsCycles_53 : decode cX10_readsCycles 53 = .ok (.goto (-18), 3) := by decide +kernel
theorem dX10_readsCycles_56 : decode cX10_readsCycles 56 = .ok (.iload_n 1, 1) := by decide +kernel
theorem dX10_readsCycles_57 : decode cX10_readsCycles 57 = .ok (.ifCond .eq 18, 3) := by decide +kernel
theorem dX10_readsCycles_60 : decode cX10_readsCycles 60 = .ok (.aload_n 0, 1) := by decide +kernel
theorem dX10_readsCycles_61 : decode cX10_readsCycles 61 = .ok (.getfield 111, 3) := by decide +kernel
theorem dX10_readsCycles_64 : decode cX10_readsCycles 64 = .ok (.aload_n 0, 1) := by decide +kernel
theorem dX10_readsCycles_65 : decode cX10_readsCycles 65 = .ok (.getfield 108, 3) := by decide +kernel
theorem dX10_readsCycles_68 : decode cX10_readsCycles 68 = .ok (.if_icmp .ne 7, 3) := by decide +kernel
theorem dX10_readsCycles_71 : decode cX10_readsCycles 71 = .ok (.iconst 1, 1) := by decide +kernel
theorem dX10_readsCycles_72 : decode cX10_readsCycles 72 = .ok (.goto 4, 3) := by decide +kernel
theorem dX10_readsCycles_75 : decode cX10_readsCycles 75 = .ok (.iconst 0, 1) := by decide +kernel
theorem dX10_readsCycles_76 : decode cX10_readsCycles 76 = .ok (.ireturn, 1) := by decide +kernel
theorem dX10_define_0 : decode cX10_define 0 = .ok (.iload_n 1, 1) := by decide +kernel
theorem dX10_define_1 : decode cX10_define 1 = .ok (.iconst 0, 1) := by decide +kernel
theorem dX10_define_2 : decode cX10_define 2 = .ok (.iconst 4, 1) := by decide +kernel
theorem dX10_define_3 : decode cX10_define 3 = .ok (.invokestatic 90, 3) := by decide +kernel
theorem dX10_define_6 : decode cX10_define 6 = .ok (.ifCond .ne 9, 3) := by decide +kernel
theorem dX10_define_9 : decode cX10_define 9 = .ok (.aload_n 0, 1) := by decide +kernel
theorem dX10_define_10 : decode cX10_define 10 = .ok (.iconst 1, 1) := by decide +kernel
theorem dX10_define_11 : decode cX10_define 11 = .ok (.invokevirtual 94, 3) := by decide +kernel
theorem dX10_define_14 : decode cX10_define 14 = .ok (.ireturn, 1) := by decide +kernel
theorem dX10_define_15 : decode cX10_define 15 = .ok (.aload_n 0, 1) := by decide +kernel
theorem dX10_define_16 : decode cX10_define 16 = .ok (.invokevirtual 126, 3) := by decide +kernel
theorem dX10_define_19 : decode cX10_define 19 = .ok (.istore_n 2, 1) := by decide +kernel
theorem dX10_define_20 : decode cX10_define 20 = .ok (.aload_n 0, 1) := by decide +kernel
theorem dX10_define_21 : decode cX10_define 21 = .ok (.iconst 0, 1) := by decide +kernel
theorem dX10_define_22 : decode cX10_define 22 = .ok (.putfield 108, 3) := by decide +kernel
theorem dX10_define_25 : decode cX10_define 25 = .ok (.iload_n 2, 1) := by decide +kernel
theorem dX10_define_26 : decode cX10_define 26 = .ok (.ifCond .ne 17, 3) := by decide +kernel
theorem dX10_define_29 : decode cX10_define 29 = .ok (.aload_n 0, 1) := by decide +kernel
theorem dX10_define_30 : decode cX10_define 30 = .ok (.aload_n 0, 1) := by decide +kernel
theorem dX10_define_31 : decode cX10_define 31 = .ok (.getfield 111, 3) := by decide +kernel
theorem dX10_define_34 : decode cX10_define 34 = .ok (.putfield 34, 3) := by decide +kernel
theorem dX10_define_37 : decode cX10_define 37 = .ok (.aload_n 0, 1) := by decide +kernel
theorem dX10_define_38 : decode cX10_define 38 = .ok (.iconst 2, 1) := by decide +kernel
theorem dX10_define_39 : decode cX10_define 39 = .ok (.invokevirtual 94, 3) := by decide +kernel
theorem dX10_define_42 : decode cX10_define 42 = .ok (.ireturn, 1) := by decide +kernel
theorem dX10_define_43 : decode cX10_define 43 = .ok (.aload_n 0, 1) := by decide +kernel
theorem dX10_define_44 : decode cX10_define 44 = .ok (.getfield 17, 3) := by decide +kernel
theorem dX10_define_47 : decode cX10_define 47 = .ok (.iload_n 1, 1) := by decide +kernel
theorem dX10_define_48 : decode cX10_define 48 = .ok (.iconst 1, 1) := by decide +kernel
theorem dX10_define_49 : decode cX10_define 49 = .ok (.bastore, 1) := by decide +kernel
theorem dX10_define_50 : decode cX10_define 50 = .ok (.aload_n 0, 1) := by decide +kernel
theorem dX10_define_51 : decode cX10_define 51 = .ok (.iconst 0, 1) := by decide +kernel
theorem dX10_define_52 : decode cX10_define 52 = .ok (.putfield 102, 3) := by decide +kernel
theorem dX10_define_55 : decode cX10_define 55 = .ok (.iconst 0, 1) := by decide +kernel
theorem dX10_define_56 : decode cX10_define 56 = .ok (.istore_n 3, 1) := by decide +kernel
theorem dX10_define_57 : decode cX10_define 57 = .ok (.iconst 0, 1) := by decide +kernel
theorem dX10_define_58 : decode cX10_define 58 = .ok (.istore 4, 2) := by decide +kernel
theorem dX10_define_60 : decode cX10_define 60 = .ok (.iload 4, 2) := by decide +kernel
theorem dX10_define_62 : decode cX10_define 62 = .ok (.bipush 8, 2) := by decide +kernel
theorem dX10_define_64 : decode cX10_define 64 = .ok (.if_icmp .ge 70, 3) := by decide +kernel
theorem dX10_define_67 : decode cX10_define 67 = .ok (.aload_n 0, 1) := by decide +kernel
theorem dX10_define_68 : decode cX10_define 68 = .ok (.getfield 21, 3) := by decide +kernel
theorem dX10_define_71 : decode cX10_define 71 = .ok (.bipush 16, 2) := by decide +kernel
theorem dX10_define_73 : decode cX10_define 73 = .ok (.iload_n 1, 1) := by decide +kernel
theorem dX10_define_74 : decode cX10_define 74 = .ok (.imul, 1) := by decide +kernel
theorem dX10_define_75 : decode cX10_define 75 = .ok (.iload 4, 2) := by decide +kernel
theorem dX10_define_77 : decode cX10_define 77 = .ok (.iadd, 1) := by decide +kernel
theorem dX10_define_78 : decode cX10_define 78 = .ok (.aload_n 0, 1) := by decide +kernel
theorem dX10_define_79 : decode cX10_define 79 = .ok (.getfield 60, 3) := by decide +kernel
theorem dX10_define_82 : decode cX10_define 82 = .ok (.iload 4, 2) := by decide +kernel
theorem dX10_define_84 : decode cX10_define 84 = .ok (.iaload, 1) := by decide +kernel
theorem dX10_define_85 : decode cX10_define 85 = .ok (.iastore, 1) := by decide +kernel
theorem dX10_define_86 : decode cX10_define 86 = .ok (.aload_n 0, 1) := by decide +kernel
theorem dX10_define_87 : decode cX10_define 87 = .ok (.getfield 21, 3) := by decide +kernel
theorem dX10_define_90 : decode cX10_define 90 = .ok (.bipush 16, 2) := by decide +kernel
theorem dX10_define_92 : decode cX10_define 92 = .ok (.iload_n 1, 1) := by decide +kernel
theorem dX10_define_93 : decode cX10_define 93 = .ok (.imul, 1) := by decide +kernel
theorem dX10_define_94 : decode cX10_define 94 = .ok (.bipush 8, 2) := by decide +kernel
theorem dX10_define_96 : decode cX10_define 96 = .ok (.iadd, 1) := by decide +kernel
theorem dX10_define_97 : decode cX10_define 97 = .ok (.aload_n 0, 1) := by decide +kernel
theorem dX10_define_98 : decode cX10_define 98 = .ok (.getfield 60, 3) := by decide +kernel
theorem dX10_define_101 : decode cX10_define 101 = .ok (.iload 4, 2) := by decide +kernel
theorem dX10_define_103 : decode cX10_define 103 = .ok (.iaload, 1) := by decide +kernel
theorem dX10_define_104 : decode cX10_define 104 = .ok (.iadd, 1) := by decide +kernel
theorem dX10_define_105 : decode cX10_define 105 = .ok (.iload 4, 2) := by decide +kernel
theorem dX10_define_107 : decode cX10_define 107 = .ok (.iastore, 1) := by decide +kernel
theorem dX10_define_108 : decode cX10_define 108 = .ok (.iload_n 3, 1) := by decide +kernel
theorem dX10_define_109 : decode cX10_define 109 = .ok (.aload_n 0, 1) := by decide +kernel
theorem dX10_define_110 : decode cX10_define 110 = .ok (.getfield 60, 3) := by decide +kernel
theorem dX10_define_113 : decode cX10_define 113 = .ok (.iload 4, 2) := by decide +kernel
theorem dX10_define_115 : decode cX10_define 115 = .ok (.iaload, 1) := by decide +kernel
theorem dX10_define_116 : decode cX10_define 116 = .ok (.iload 4, 2) := by decide +kernel
theorem dX10_define_118 : decode cX10_define 118 = .ok (.if_icmp .eq 7, 3) := by decide +kernel
theorem dX10_define_121 : decode cX10_define 121 = .ok (.iconst 1, 1) := by decide +kernel
theorem dX10_define_122 : decode cX10_define 122 = .ok (.goto 4, 3) := by decide +kernel
theorem dX10_define_125 : decode cX10_define 125 = .ok (.iconst 0, 1) := by decide +kernel
theorem dX10_define_126 : decode cX10_define 126 = .ok (.iadd, 1) := by decide +kernel
theorem dX10_define_127 : decode cX10_define 127 = .ok (.istore_n 3, 1) := by decide +kernel
theorem dX10_define_128 : decode cX10_define 128 = .ok (.iinc 4 1, 3) := by decide +kernel
theorem dX10_define_131 : decode cX10_define 131 = .ok (.goto (-71), 3) := by decide +kernel
theorem dX10_define_134 : decode cX10_define 134 = .ok (.aload_n 0, 1) := by decide +kernel
theorem dX10_define_135 : decode cX10_define 135 = .ok (.iload_n 3, 1) := by decide +kernel
theorem dX10_define_136 : decode cX10_define 136 = .ok (.invokevirtual 105, 3) := by decide +kernel
theorem dX10_define_139 : decode cX10_define 139 = .ok (.ireturn, 1) := by decide +kernel
theorem dX10_comes_0 : decode cX10_comes 0 = .ok (.aload_n 0, 1) := by decide +kernel
theorem dX10_comes_1 : decode cX10_comes 1 = .ok (.getfield 129, 3) := by decide +kernel
theorem dX10_comes_4 : decode cX10_comes 4 = .ok (.sipush 200, 3) := by decide +kernel
theorem dX10_comes_7 : decode cX10_comes 7 = .ok (.if_icmp .ne 11, 3) := by decide +kernel
theorem dX10_comes_10 : decode cX10_comes 10 = .ok (.aload_n 0, 1) := by decide +kernel
theorem dX10_comes_11 : decode cX10_comes 11 = .ok (.iconst 1, 1) := by decide +kernel
theorem dX10_comes_12 : decode cX10_comes 12 = .ok (.putfield 132, 3) := by decide +kernel
theorem dX10_comes_15 : decode cX10_comes 15 = .ok (.goto 23, 3) := by decide +kernel
theorem dX10_comes_18 : decode cX10_comes 18 = .ok (.aload_n 0, 1) := by decide +kernel
theorem dX10_comes_19 : decode cX10_comes 19 = .ok (.getfield 66, 3) := by decide +kernel
theorem dX10_comes_22 : decode cX10_comes 22 = .ok (.aload_n 0, 1) := by decide +kernel
theorem dX10_comes_23 : decode cX10_comes 23 = .ok (.getfield 129, 3) := by decide +kernel
theorem dX10_comes_26 : decode cX10_comes 26 = .ok (.iload_n 1, 1) := by decide +kernel
theorem dX10_comes_27 : decode cX10_comes 27 = .ok (.iastore, 1) := by decide +kernel
theorem dX10_comes_28 : decode cX10_comes 28 = .ok (.aload_n 0, 1) := by decide +kernel
theorem dX10_comes_29 : decode cX10_comes 29 = .ok (.dup, 1) := by decide +kernel
theorem dX10_comes_30 : decode cX10_comes 30 = .ok (.getfield 129, 3) := by decide +kernel
theorem dX10_comes_33 : decode cX10_comes 33 = .ok (.iconst 1, 1) := by decide +kernel
theorem dX10_comes_34 : decode cX10_comes 34 = .ok (.iadd, 1) := by decide +kernel
theorem dX10_comes_35 : decode cX10_comes 35 = .ok (.putfield 129, 3) := by decide +kernel
theorem dX10_comes_38 : decode cX10_comes 38 = .ok (.return_, 1) := by decide +kernel
theorem dX10_comesBack_0 : decode cX10_comesBack 0 = .ok (.iload_n 2, 1) := by decide +kernel
theorem dX10_comesBack_1 : decode cX10_comesBack 1 = .ok (.iconst 1, 1) := by decide +kernel
theorem dX10_comesBack_2 : decode cX10_comesBack 2 = .ok (.isub, 1) := by decide +kernel
theorem dX10_comesBack_3 : decode cX10_comesBack 3 = .ok (.istore_n 3, 1) := by decide +kernel
theorem dX10_comesBack_4 : decode cX10_comesBack 4 = .ok (.iload_n 3, 1) := by decide +kernel
theorem dX10_comesBack_5 : decode cX10_comesBack 5 = .ok (.iload_n 1, 1) := by decide +kernel
theorem dX10_comesBack_6 : decode cX10_comesBack 6 = .ok (.if_icmp .lt 21, 3) := by decide +kernel
theorem dX10_comesBack_9 : decode cX10_comesBack 9 = .ok (.aload_n 0, 1) := by decide +kernel
theorem dX10_comesBack_10 : decode cX10_comesBack 10 = .ok (.aload_n 0, 1) := by decide +kernel
theorem dX10_comesBack_11 : decode cX10_comesBack 11 = .ok (.getfield 66, 3) := by decide +kernel
theorem dX10_comesBack_14 : decode cX10_comesBack 14 = .ok (.iload_n 3, 1) := by decide +kernel
theorem dX10_comesBack_15 : decode cX10_comesBack 15 = .ok (.iaload, 1) := by decide +kernel
theorem dX10_comesBack_16 : decode cX10_comesBack 16 = .ok (.iconst 1, 1) := by decide +kernel
theorem dX10_comesBack_17 : decode cX10_comesBack 17 = .ok (.ixor, 1) := by decide +kernel
theorem dX10_comesBack_18 : decode cX10_comesBack 18 = .ok (.invokevirtual 135, 3) := by decide +kernel
theorem dX10_comesBack_21 : decode cX10_comesBack 21 = .ok (.iinc 3 (-1), 3) := by decide +kernel
theorem dX10_comesBack_24 : decode cX10_comesBack 24 = .ok (.goto (-20), 3) := by decide +kernel
theorem dX10_comesBack_27 : decode cX10_comesBack 27 = .ok (.return_, 1) := by decide +kernel
theorem dX10_turns_0 : decode cX10_turns 0 = .ok (.aload_n 0, 1) := by decide +kernel
theorem dX10_turns_1 : decode cX10_turns 1 = .ok (.getfield 129, 3) := by decide +kernel
theorem dX10_turns_4 : decode cX10_turns 4 = .ok (.iload_n 1, 1) := by decide +kernel
theorem dX10_turns_5 : decode cX10_turns 5 = .ok (.isub, 1) := by decide +kernel
theorem dX10_turns_6 : decode cX10_turns 6 = .ok (.istore_n 2, 1) := by decide +kernel
theorem dX10_turns_7 : decode cX10_turns 7 = .ok (.iconst 0, 1) := by decide +kernel
theorem dX10_turns_8 : decode cX10_turns 8 = .ok (.istore_n 3, 1) := by decide +kernel
theorem dX10_turns_9 : decode cX10_turns 9 = .ok (.iload_n 3, 1) := by decide +kernel
theorem dX10_turns_10 : decode cX10_turns 10 = .ok (.iload_n 2, 1) := by decide +kernel
theorem dX10_turns_11 : decode cX10_turns 11 = .ok (.iconst 2, 1) := by decide +kernel
theorem dX10_turns_12 : decode cX10_turns 12 = .ok (.idiv, 1) := by decide +kernel
theorem dX10_turns_13 : decode cX10_turns 13 = .ok (.if_icmp .ge 55, 3) := by decide +kernel
theorem dX10_turns_16 : decode cX10_turns 16 = .ok (.aload_n 0, 1) := by decide +kernel
theorem dX10_turns_17 : decode cX10_turns 17 = .ok (.getfield 66, 3) := by decide +kernel
theorem dX10_turns_20 : decode cX10_turns 20 = .ok (.iload_n 1, 1) := by decide +kernel
theorem dX10_turns_21 : decode cX10_turns 21 = .ok (.iload_n 3, 1) := by decide +kernel
theorem dX10_turns_22 : decode cX10_turns 22 = .ok (.iadd, 1) := by decide +kernel
theorem dX10_turns_23 : decode cX10_turns 23 = .ok (.iaload, 1) := by decide +kernel
theorem dX10_turns_24 : decode cX10_turns 24 = .ok (.istore 4, 2) := by decide +kernel
theorem dX10_turns_26 : decode cX10_turns 26 = .ok (.aload_n 0, 1) := by decide +kernel
theorem dX10_turns_27 : decode cX10_turns 27 = .ok (.getfield 66, 3) := by decide +kernel
theorem dX10_turns_30 : decode cX10_turns 30 = .ok (.iload_n 1, 1) := by decide +kernel
theorem dX10_turns_31 : decode cX10_turns 31 = .ok (.iload_n 3, 1) := by decide +kernel
theorem dX10_turns_32 : decode cX10_turns 32 = .ok (.iadd, 1) := by decide +kernel
theorem dX10_turns_33 : decode cX10_turns 33 = .ok (.aload_n 0, 1) := by decide +kernel
theorem dX10_turns_34 : decode cX10_turns 34 = .ok (.getfield 66, 3) := by decide +kernel
theorem dX10_turns_37 : decode cX10_turns 37 = .ok (.aload_n 0, 1) := by decide +kernel
theorem dX10_turns_38 : decode cX10_turns 38 = .ok (.getfield 129, 3) := by decide +kernel
theorem dX10_turns_41 : decode cX10_turns 41 = .ok (.iconst 1, 1) := by decide +kernel
theorem dX10_turns_42 : decode cX10_turns 42 = .ok (.isub, 1) := by decide +kernel
theorem dX10_turns_43 : decode cX10_turns 43 = .ok (.iload_n 3, 1) := by decide +kernel
theorem dX10_turns_44 : decode cX10_turns 44 = .ok (.isub, 1) := by decide +kernel
theorem dX10_turns_45 : decode cX10_turns 45 = .ok (.iaload, 1) := by decide +kernel
theorem dX10_turns_46 : decode cX10_turns 46 = .ok (.iastore, 1) := by decide +kernel
theorem dX10_turns_47 : decode cX10_turns 47 = .ok (.aload_n 0, 1) := by decide +kernel
theorem dX10_turns_48 : decode cX10_turns 48 = .ok (.getfield 66, 3) := by decide +kernel
theorem dX10_turns_51 : decode cX10_turns 51 = .ok (.aload_n 0, 1) := by decide +kernel
theorem dX10_turns_52 : decode cX10_turns 52 = .ok (.getfield 129, 3) := by decide +kernel
theorem dX10_turns_55 : decode cX10_turns 55 = .ok (.iconst 1, 1) := by decide +kernel
theorem dX10_turns_56 : decode cX10_turns 56 = .ok (.isub, 1) := by decide +kernel
theorem dX10_turns_57 : decode cX10_turns 57 = .ok (.iload_n 3, 1) := by decide +kernel
theorem dX10_turns_58 : decode cX10_turns 58 = .ok (.isub, 1) := by decide +kernel
theorem dX10_turns_59 : decode cX10_turns 59 = .ok (.iload 4, 2) := by decide +kernel
theorem dX10_turns_61 : decode cX10_turns 61 = .ok (.iastore, 1) := by decide +kernel
theorem dX10_turns_62 : decode cX10_turns 62 = .ok (.iinc 3 1, 3) := by decide +kernel
theorem dX10_turns_65 : decode cX10_turns 65 = .ok (.goto (-56), 3) := by decide +kernel
theorem dX10_turns_68 : decode cX10_turns 68 = .ok (.iload_n 1, 1) := by decide +kernel
theorem dX10_turns_69 : decode cX10_turns 69 = .ok (.istore_n 3, 1) := by decide +kernel
theorem dX10_turns_70 : decode cX10_turns 70 = .ok (.iload_n 3, 1) := by decide +kernel
theorem dX10_turns_71 : decode cX10_turns 71 = .ok (.aload_n 0, 1) := by decide +kernel
theorem dX10_turns_72 : decode cX10_turns 72 = .ok (.getfield 129, 3) := by decide +kernel
theorem dX10_turns_75 : decode cX10_turns 75 = .ok (.if_icmp .ge 19, 3) := by decide +kernel
theorem dX10_turns_78 : decode cX10_turns 78 = .ok (.aload_n 0, 1) := by decide +kernel
theorem dX10_turns_79 : decode cX10_turns 79 = .ok (.getfield 66, 3) := by decide +kernel
theorem dX10_turns_82 : decode cX10_turns 82 = .ok (.iload_n 3, 1) := by decide +kernel
theorem dX10_turns_83 : decode cX10_turns 83 = .ok (.dup2, 1) := by decide +kernel
theorem dX10_turns_84 : decode cX10_turns 84 = .ok (.iaload, 1) := by decide +kernel
theorem dX10_turns_85 : decode cX10_turns 85 = .ok (.iconst 1, 1) := by decide +kernel
theorem dX10_turns_86 : decode cX10_turns 86 = .ok (.ixor, 1) := by decide +kernel
theorem dX10_turns_87 : decode cX10_turns 87 = .ok (.iastore, 1) := by decide +kernel
theorem dX10_turns_88 : decode cX10_turns 88 = .ok (.iinc 3 1, 3) := by decide +kernel
theorem dX10_turns_91 : decode cX10_turns 91 = .ok (.goto (-21), 3) := by decide +kernel
theorem dX10_turns_94 : decode cX10_turns 94 = .ok (.return_, 1) := by decide +kernel
theorem dX10_readsBehind_0 : decode cX10_readsBehind 0 = .ok (.aload_n 0, 1) := by decide +kernel
theorem dX10_readsBehind_1 : decode cX10_readsBehind 1 = .ok (.invokevirtual 114, 3) := by decide +kernel
theorem dX10_readsBehind_4 : decode cX10_readsBehind 4 = .ok (.bipush 39, 2) := by decide +kernel
theorem dX10_readsBehind_6 : decode cX10_readsBehind 6 = .ok (.if_icmp .ne 18, 3) := by decide +kernel
theorem dX10_readsBehind_9 : decode cX10_readsBehind 9 = .ok (.aload_n 0, 1) := by decide +kernel
theorem dX10_readsBehind_10 : decode cX10_readsBehind 10 = .ok (.iload_n 1, 1) := by decide +kernel
theorem dX10_readsBehind_11 : decode cX10_readsBehind 11 = .ok (.invokevirtual 139, 3) := by decide +kernel
theorem dX10_readsBehind_14 : decode cX10_readsBehind 14 = .ok (.aload_n 0, 1) := by decide +kernel
theorem dX10_readsBehind_15 : decode cX10_readsBehind 15 = .ok (.dup, 1) := by decide +kernel
theorem dX10_readsBehind_16 : decode cX10_readsBehind 16 = .ok (.getfield 111, 3) := by decide +kernel
theorem dX10_readsBehind_19 : decode cX10_readsBehind 19 = .ok (.iconst 1, 1) := by decide +kernel
theorem dX10_readsBehind_20 : decode cX10_readsBehind 20 = .ok (.iadd, 1) := by decide +kernel
theorem dX10_readsBehind_21 : decode cX10_readsBehind 21 = .ok (.putfield 111, 3) := by decide +kernel
theorem dX10_readsBehind_24 : decode cX10_readsBehind 24 = .ok (.aload_n 0, 1) := by decide +kernel
theorem dX10_readsBehind_25 : decode cX10_readsBehind 25 = .ok (.invokevirtual 114, 3) := by decide +kernel
theorem dX10_readsBehind_28 : decode cX10_readsBehind 28 = .ok (.bipush 50, 2) := by decide +kernel
theorem dX10_readsBehind_30 : decode cX10_readsBehind 30 = .ok (.bipush 57, 2) := by decide +kernel
theorem dX10_readsBehind_32 : decode cX10_readsBehind 32 = .ok (.invokestatic 90, 3) := by decide +kernel
theorem dX10_readsBehind_35 : decode cX10_readsBehind 35 = .ok (.ifCond .eq 63, 3) := by decide +kernel
theorem dX10_readsBehind_38 : decode cX10_readsBehind 38 = .ok (.aload_n 0, 1) := by decide +kernel
theorem dX10_readsBehind_39 : decode cX10_readsBehind 39 = .ok (.getfield 129, 3) := by decide +kernel
theorem dX10_readsBehind_42 : decode cX10_readsBehind 42 = .ok (.istore_n 2, 1) := by decide +kernel
theorem dX10_readsBehind_43 : decode cX10_readsBehind 43 = .ok (.iconst 1, 1) := by decide +kernel
theorem dX10_readsBehind_44 : decode cX10_readsBehind 44 = .ok (.istore_n 3, 1) := by decide +kernel
theorem dX10_readsBehind_45 : decode cX10_readsBehind 45 = .ok (.iload_n 3, 1) := by decide +kernel
theorem dX10_readsBehind_46 : decode cX10_readsBehind 46 = .ok (.aload_n 0, 1) := by decide +kernel
theorem dX10_readsBehind_47 : decode cX10_readsBehind 47 = .ok (.invokevirtual 114, 3) := by decide +kernel
theorem dX10_readsBehind_50 : decode cX10_readsBehind 50 = .ok (.bipush 48, 2) := by decide +kernel
theorem dX10_readsBehind_52 : decode cX10_readsBehind 52 = .ok (.isub, 1) := by decide +kernel
theorem dX10_readsBehind_53 : decode cX10_readsBehind 53 = .ok (.if_icmp .ge 35, 3) := by decide +kernel
theorem dX10_readsBehind_56 : decode cX10_readsBehind 56 = .ok (.iload_n 1, 1) := by decide +kernel
theorem dX10_readsBehind_57 : decode cX10_readsBehind 57 = .ok (.istore 4, 2) := by decide +kernel
theorem dX10_readsBehind_59 : decode cX10_readsBehind 59 = .ok (.iload 4, 2) := by decide +kernel
theorem dX10_readsBehind_61 : decode cX10_readsBehind 61 = .ok (.iload_n 2, 1) := by decide +kernel
theorem dX10_readsBehind_62 : decode cX10_readsBehind 62 = .ok (.if_icmp .ge 20, 3) := by decide +kernel
theorem dX10_readsBehind_65 : decode cX10_readsBehind 65 = .ok (.aload_n 0, 1) := by decide +kernel
theorem dX10_readsBehind_66 : decode cX10_readsBehind 66 = .ok (.aload_n 0, 1) := by decide +kernel
theorem dX10_readsBehind_67 : decode cX10_readsBehind 67 = .ok (.getfield 66, 3) := by decide +kernel
theorem dX10_readsBehind_70 : decode cX10_readsBehind 70 = .ok (.iload 4, 2) := by decide +kernel
theorem dX10_readsBehind_72 : decode cX10_readsBehind 72 = .ok (.iaload, 1) := by decide +kernel
theorem dX10_readsBehind_73 : decode cX10_readsBehind 73 = .ok (.invokevirtual 135, 3) := by decide +kernel
theorem dX10_readsBehind_76 : decode cX10_readsBehind 76 = .ok (.iinc 4 1, 3) := by decide +kernel
theorem dX10_readsBehind_79 : decode cX10_readsBehind 79 = .ok (.goto (-20), 3) := by decide +kernel
theorem dX10_readsBehind_82 : decode cX10_readsBehind 82 = .ok (.iinc 3 1, 3) := by decide +kernel
theorem dX10_readsBehind_85 : decode cX10_readsBehind 85 = .ok (.goto (-40), 3) := by decide +kernel
theorem dX10_readsBehind_88 : decode cX10_readsBehind 88 = .ok (.aload_n 0, 1) := by decide +kernel
theorem dX10_readsBehind_89 : decode cX10_readsBehind 89 = .ok (.dup, 1) := by decide +kernel
theorem dX10_readsBehind_90 : decode cX10_readsBehind 90 = .ok (.getfield 111, 3) := by decide +kernel
theorem dX10_readsBehind_93 : decode cX10_readsBehind 93 = .ok (.iconst 1, 1) := by decide +kernel
theorem dX10_readsBehind_94 : decode cX10_readsBehind 94 = .ok (.iadd, 1) := by decide +kernel
theorem dX10_readsBehind_95 : decode cX10_readsBehind 95 = .ok (.putfield 111, 3) := by decide +kernel
theorem dX10_readsBehind_98 : decode cX10_readsBehind 98 = .ok (.return_, 1) := by decide +kernel
theorem dX10_readsElement_0 : decode cX10_readsElement 0 = .ok (.aload_n 0, 1) := by decide +kernel
theorem dX10_readsElement_1 : decode cX10_readsElement 1 = .ok (.invokevirtual 114, 3) := by decide +kernel
theorem dX10_readsElement_4 : decode cX10_readsElement 4 = .ok (.istore_n 1, 1) := by decide +kernel
theorem dX10_readsElement_5 : decode cX10_readsElement 5 = .ok (.aload_n 0, 1) := by decide +kernel
theorem dX10_readsElement_6 : decode cX10_readsElement 6 = .ok (.getfield 129, 3) := by decide +kernel
theorem dX10_readsElement_9 : decode cX10_readsElement 9 = .ok (.istore_n 2, 1) := by decide +kernel
theorem dX10_readsElement_10 : decode cX10_readsElement 10 = .ok (.iload_n 1, 1) := by decide +kernel
theorem dX10_readsElement_11 : decode cX10_readsElement 11 = .ok (.bipush 97, 2) := by decide +kernel
theorem dX10_readsElement_13 : decode cX10_readsElement 13 = .ok (.bipush 101, 2) := by decide +kernel
theorem dX10_readsElement_15 : decode cX10_readsElement 15 = .ok (.invokestatic 90, 3) := by decide +kernel
theorem dX10_readsElement_18 : decode cX10_readsElement 18 = .ok (.ifCond .eq 53, 3) := by decide +kernel
theorem dX10_readsElement_21 : decode cX10_readsElement 21 = .ok (.aload_n 0, 1) := by decide +kernel
theorem dX10_readsElement_22 : decode cX10_readsElement 22 = .ok (.aload_n 0, 1) := by decide +kernel
theorem dX10_readsElement_23 : decode cX10_readsElement 23 = .ok (.getfield 142, 3) := by decide +kernel
theorem dX10_readsElement_26 : decode cX10_readsElement 26 = .ok (.ifCond .ne 15, 3) := by decide +kernel
theorem dX10_readsElement_29 : decode cX10_readsElement 29 = .ok (.aload_n 0, 1) := by decide +kernel
theorem dX10_readsElement_30 : decode cX10_readsElement 30 = .ok (.getfield 17, 3) := by decide +kernel
theorem dX10_readsElement_33 : decode cX10_readsElement 33 = .ok (.iload_n 1, 1) := by decide +kernel
theorem dX10_readsElement_34 : decode cX10_readsElement 34 = .ok (.bipush 97, 2) := by decide +kernel
theorem dX10_readsElement_36 : decode cX10_readsElement 36 = .ok (.isub, 1) := by decide +kernel
theorem dX10_readsElement_37 : decode cX10_readsElement 37 = .ok (.baload, 1) := by decide +kernel
theorem dX10_readsElement_38 : decode cX10_readsElement 38 = .ok (.ifCond .ne 7, 3) := by decide +kernel
theorem dX10_readsElement_41 : decode cX10_readsElement 41 = .ok (.iconst 1, 1) := by decide +kernel
theorem dX10_readsElement_42 : decode cX10_readsElement 42 = .ok (.goto 4, 3) := by decide +kernel
theorem dX10_readsElement_45 : decode cX10_readsElement 45 = .ok (.iconst 0, 1) := by decide +kernel
theorem dX10_readsElement_46 : decode cX10_readsElement 46 = .ok (.putfield 142, 3) := by decide +kernel
theorem dX10_readsElement_49 : decode cX10_readsElement 49 = .ok (.aload_n 0, 1) := by decide +kernel
theorem dX10_readsElement_50 : decode cX10_readsElement 50 = .ok (.iconst 2, 1) := by decide +kernel
theorem dX10_readsElement_51 : decode cX10_readsElement 51 = .ok (.iload_n 1, 1) := by decide +kernel
theorem dX10_readsElement_52 : decode cX10_readsElement 52 = .ok (.bipush 97, 2) := by decide +kernel
theorem dX10_readsElement_54 : decode cX10_readsElement 54 = .ok (.isub, 1) := by decide +kernel
theorem dX10_readsElement_55 : decode cX10_readsElement 55 = .ok (.imul, 1) := by decide +kernel
theorem dX10_readsElement_56 : decode cX10_readsElement 56 = .ok (.invokevirtual 135, 3) := by decide +kernel
theorem dX10_readsElement_59 : decode cX10_readsElement 59 = .ok (.aload_n 0, 1) := by decide +kernel
theorem dX10_readsElement_60 : decode cX10_readsElement 60 = .ok (.dup, 1) := by decide +kernel
theorem dX10_readsElement_61 : decode cX10_readsElement 61 = .ok (.getfield 111, 3) := by decide +kernel
theorem dX10_readsElement_64 : decode cX10_readsElement 64 = .ok (.iconst 1, 1) := by decide +kernel
theorem dX10_readsElement_65 : decode cX10_readsElement 65 = .ok (.iadd, 1) := by decide +kernel
theorem dX10_readsElement_66 : decode cX10_readsElement 66 = .ok (.putfield 111, 3) := by decide +kernel
theorem dX10_readsElement_69 : decode cX10_readsElement 69 = .ok (.iconst 1, 1) := by decide +kernel
theorem dX10_readsElement_70 : decode cX10_readsElement 70 = .ok (.ireturn, 1) := by decide +kernel
theorem dX10_readsElement_71 : decode cX10_readsElement 71 = .ok (.iload_n 1, 1) := by decide +kernel
theorem dX10_readsElement_72 : decode cX10_readsElement 72 = .ok (.bipush 40, 2) := by decide +kernel
theorem dX10_readsElement_74 : decode cX10_readsElement 74 = .ok (.if_icmp .eq 9, 3) := by decide +kernel
theorem dX10_readsElement_77 : decode cX10_readsElement 77 = .ok (.iload_n 1, 1) := by decide +kernel
theorem dX10_readsElement_78 : decode cX10_readsElement 78 = .ok (.bipush 60, 2) := by decide +kernel
theorem dX10_readsElement_80 : decode cX10_readsElement 80 = .ok (.if_icmp .ne 12, 3) := by decide +kernel
theorem dX10_readsElement_83 : decode cX10_readsElement 83 = .ok (.aload_n 0, 1) := by decide +kernel
theorem dX10_readsElement_84 : decode cX10_readsElement 84 = .ok (.getfield 145, 3) := by decide +kernel
theorem dX10_readsElement_87 : decode cX10_readsElement 87 = .ok (.bipush 6, 2) := by decide +kernel
theorem dX10_readsElement_89 : decode cX10_readsElement 89 = .ok (.if_icmp .ne 5, 3) := by decide +kernel
theorem dX10_readsElement_92 : decode cX10_readsElement 92 = .ok (.iconst 0, 1) := by decide +kernel
theorem dX10_readsElement_93 : decode cX10_readsElement 93 = .ok (.ireturn, 1) := by decide +kernel
theorem dX10_readsElement_94 : decode cX10_readsElement 94 = .ok (.aload_n 0, 1) := by decide +kernel
theorem dX10_readsElement_95 : decode cX10_readsElement 95 = .ok (.dup, 1) := by decide +kernel
theorem dX10_readsElement_96 : decode cX10_readsElement 96 = .ok (.getfield 145, 3) := by decide +kernel
theorem dX10_readsElement_99 : decode cX10_readsElement 99 = .ok (.iconst 1, 1) := by decide +kernel
theorem dX10_readsElement_100 : decode cX10_readsElement 100 = .ok (.iadd, 1) := by decide +kernel
theorem dX10_readsElement_101 : decode cX10_readsElement 101 = .ok (.putfield 145, 3) := by decide +kernel
theorem dX10_readsElement_104 : decode cX10_readsElement 104 = .ok (.aload_n 0, 1) := by decide +kernel
theorem dX10_readsElement_105 : decode cX10_readsElement 105 = .ok (.dup, 1) := by decide +kernel
theorem dX10_readsElement_106 : decode cX10_readsElement 106 = .ok (.getfield 111, 3) := by decide +kernel
theorem dX10_readsElement_109 : decode cX10_readsElement 109 = .ok (.iconst 1, 1) := by decide +kernel
theorem dX10_readsElement_110 : decode cX10_readsElement 110 = .ok (.iadd, 1) := by decide +kernel
theorem dX10_readsElement_111 : decode cX10_readsElement 111 = .ok (.putfield 111, 3) := by decide +kernel
theorem dX10_readsElement_114 : decode cX10_readsElement 114 = .ok (.aload_n 0, 1) := by decide +kernel
theorem dX10_readsElement_115 : decode cX10_readsElement 115 = .ok (.invokestatic 148, 3) := by decide +kernel
theorem dX10_readsElement_118 : decode cX10_readsElement 118 = .ok (.ifCond .ne 5, 3) := by decide +kernel
theorem dX10_readsElement_121 : decode cX10_readsElement 121 = .ok (.iconst 0, 1) := by decide +kernel
theorem dX10_readsElement_122 : decode cX10_readsElement 122 = .ok (.ireturn, 1) := by decide +kernel
theorem dX10_readsElement_123 : decode cX10_readsElement 123 = .ok (.aload_n 0, 1) := by decide +kernel
theorem dX10_readsElement_124 : decode cX10_readsElement 124 = .ok (.getfield 129, 3) := by decide +kernel
theorem dX10_readsElement_127 : decode cX10_readsElement 127 = .ok (.istore_n 3, 1) := by decide +kernel
theorem dX10_readsElement_128 : decode cX10_readsElement 128 = .ok (.iload_n 1, 1) := by decide +kernel
theorem dX10_readsElement_129 : decode cX10_readsElement 129 = .ok (.bipush 60, 2) := by decide +kernel
theorem dX10_readsElement_131 : decode cX10_readsElement 131 = .ok (.if_icmp .ne 33, 3) := by decide +kernel
theorem dX10_readsElement_134 : decode cX10_readsElement 134 = .ok (.aload_n 0, 1) := by decide +kernel
theorem dX10_readsElement_135 : decode cX10_readsElement 135 = .ok (.invokevirtual 114, 3) := by decide +kernel
theorem dX10_readsElement_138 : decode cX10_readsElement 138 = .ok (.bipush 44, 2) := by decide +kernel
theorem dX10_readsElement_140 : decode cX10_readsElement 140 = .ok (.if_icmp .eq 5, 3) := by decide +kernel
theorem dX10_readsElement_143 : decode cX10_readsElement 143 = .ok (.iconst 0, 1) := by decide +kernel
theorem dX10_readsElement_144 : decode cX10_readsElement 144 = .ok (.ireturn, 1) := by decide +kernel
theorem dX10_readsElement_145 : decode cX10_readsElement 145 = .ok (.aload_n 0, 1) := by decide +kernel
theorem dX10_readsElement_146 : decode cX10_readsElement 146 = .ok (.dup, 1) := by decide +kernel
theorem dX10_readsElement_147 : decode cX10_readsElement 147 = .ok (.getfield 111, 3) := by decide +kernel
theorem dX10_readsElement_150 : decode cX10_readsElement 150 = .ok (.iconst 1, 1) := by decide +kernel
theorem dX10_readsElement_151 : decode cX10_readsElement 151 = .ok (.iadd, 1) := by decide +kernel
theorem dX10_readsElement_152 : decode cX10_readsElement 152 = .ok (.putfield 111, 3) := by decide +kernel
theorem dX10_readsElement_155 : decode cX10_readsElement 155 = .ok (.aload_n 0, 1) := by decide +kernel
theorem dX10_readsElement_156 : decode cX10_readsElement 156 = .ok (.invokestatic 148, 3) := by decide +kernel
theorem dX10_readsElement_159 : decode cX10_readsElement 159 = .ok (.ifCond .ne 5, 3) := by decide +kernel
theorem dX10_readsElement_162 : decode cX10_readsElement 162 = .ok (.iconst 0, 1) := by decide +kernel
theorem dX10_readsElement_163 : decode cX10_readsElement 163 = .ok (.ireturn, 1) := by decide +kernel
theorem dX10_readsElement_164 : decode cX10_readsElement 164 = .ok (.aload_n 0, 1) := by decide +kernel
theorem dX10_readsElement_165 : decode cX10_readsElement 165 = .ok (.invokevirtual 114, 3) := by decide +kernel
theorem dX10_readsElement_168 : decode cX10_readsElement 168 = .ok (.iload_n 1, 1) := by decide +kernel
theorem dX10_readsElement_169 : decode cX10_readsElement 169 = .ok (.bipush 40, 2) := by decide +kernel
theorem dX10_readsElement_171 : decode cX10_readsElement 171 = .ok (.if_icmp .ne 8, 3) := by decide +kernel
theorem dX10_readsElement_174 : decode cX10_readsElement 174 = .ok (.bipush 41, 2) := by decide +kernel
theorem dX10_readsElement_176 : decode cX10_readsElement 176 = .ok (.goto 5, 3) := by decide +kernel
theorem dX10_readsElement_179 : decode cX10_readsElement 179 = .ok (.bipush 62, 2) := by decide +kernel
theorem dX10_readsElement_181 : decode cX10_readsElement 181 = .ok (.if_icmp .eq 5, 3) := by decide +kernel
theorem dX10_readsElement_184 : decode cX10_readsElement 184 = .ok (.iconst 0, 1) := by decide +kernel
theorem dX10_readsElement_185 : decode cX10_readsElement 185 = .ok (.ireturn, 1) := by decide +kernel
theorem dX10_readsElement_186 : decode cX10_readsElement 186 = .ok (.aload_n 0, 1) := by decide +kernel
theorem dX10_readsElement_187 : decode cX10_readsElement 187 = .ok (.dup, 1) := by decide +kernel
theorem dX10_readsElement_188 : decode cX10_readsElement 188 = .ok (.getfield 111, 3) := by decide +kernel
theorem dX10_readsElement_191 : decode cX10_readsElement 191 = .ok (.iconst 1, 1) := by decide +kernel
theorem dX10_readsElement_192 : decode cX10_readsElement 192 = .ok (.iadd, 1) := by decide +kernel
theorem dX10_readsElement_193 : decode cX10_readsElement 193 = .ok (.putfield 111, 3) := by decide +kernel
theorem dX10_readsElement_196 : decode cX10_readsElement 196 = .ok (.aload_n 0, 1) := by decide +kernel
theorem dX10_readsElement_197 : decode cX10_readsElement 197 = .ok (.dup, 1) := by decide +kernel
theorem dX10_readsElement_198 : decode cX10_readsElement 198 = .ok (.getfield 145, 3) := by decide +kernel
theorem dX10_readsElement_201 : decode cX10_readsElement 201 = .ok (.iconst 1, 1) := by decide +kernel
theorem dX10_readsElement_202 : decode cX10_readsElement 202 = .ok (.isub, 1) := by decide +kernel
theorem dX10_readsElement_203 : decode cX10_readsElement 203 = .ok (.putfield 145, 3) := by decide +kernel
theorem dX10_readsElement_206 : decode cX10_readsElement 206 = .ok (.iload_n 1, 1) := by decide +kernel
theorem dX10_readsElement_207 : decode cX10_readsElement 207 = .ok (.bipush 60, 2) := by decide +kernel
theorem dX10_readsElement_209 : decode cX10_readsElement 209 = .ok (.if_icmp .ne 22, 3) := by decide +kernel
theorem dX10_readsElement_212 : decode cX10_readsElement 212 = .ok (.aload_n 0, 1) := by decide +kernel
theorem dX10_readsElement_213 : decode cX10_readsElement 213 = .ok (.getfield 129, 3) := by decide +kernel
theorem dX10_readsElement_216 : decode cX10_readsElement 216 = .ok (.istore 4, 2) := by decide +kernel
theorem dX10_readsElement_218 : decode cX10_readsElement 218 = .ok (.aload_n 0, 1) := by decide +kernel
theorem dX10_readsElement_219 : decode cX10_readsElement 219 = .ok (.iload_n 2, 1) := by decide +kernel
theorem dX10_readsElement_220 : decode cX10_readsElement 220 = .ok (.iload_n 3, 1) := by decide +kernel
theorem dX10_readsElement_221 : decode cX10_readsElement 221 = .ok (.invokevirtual 152, 3) := by decide +kernel
theorem dX10_readsElement_224 : decode cX10_readsElement 224 = .ok (.aload_n 0, 1) := by decide +kernel
theorem dX10_readsElement_225 : decode cX10_readsElement 225 = .ok (.iload_n 3, 1) := by decide +kernel
theorem dX10_readsElement_226 : decode cX10_readsElement 226 = .ok (.iload 4, 2) := by decide +kernel
theorem dX10_readsElement_228 : decode cX10_readsElement 228 = .ok (.invokevirtual 152, 3) := by decide +kernel
theorem dX10_readsElement_231 : decode cX10_readsElement 231 = .ok (.iconst 1, 1) := by decide +kernel
theorem dX10_readsElement_232 : decode cX10_readsElement 232 = .ok (.ireturn, 1) := by decide +kernel
theorem dX10_readsWord_0 : decode cX10_readsWord 0 = .ok (.aload_n 0, 1) := by decide +kernel
theorem dX10_readsWord_1 : decode cX10_readsWord 1 = .ok (.invokevirtual 114, 3) := by decide +kernel
theorem dX10_readsWord_4 : decode cX10_readsWord 4 = .ok (.bipush 97, 2) := by decide +kernel
theorem dX10_readsWord_6 : decode cX10_readsWord 6 = .ok (.bipush 101, 2) := by decide +kernel
theorem dX10_readsWord_8 : decode cX10_readsWord 8 = .ok (.invokestatic 90, 3) := by decide +kernel
theorem dX10_readsWord_11 : decode cX10_readsWord 11 = .ok (.ifCond .ne 21, 3) := by decide +kernel
theorem dX10_readsWord_14 : decode cX10_readsWord 14 = .ok (.aload_n 0, 1) := by decide +kernel
theorem dX10_readsWord_15 : decode cX10_readsWord 15 = .ok (.invokevirtual 114, 3) := by decide +kernel
theorem dX10_readsWord_18 : decode cX10_readsWord 18 = .ok (.bipush 40, 2) := by decide +kernel
theorem dX10_readsWord_20 : decode cX10_readsWord 20 = .ok (.if_icmp .eq 12, 3) := by decide +kernel
theorem dX10_readsWord_23 : decode cX10_readsWord 23 = .ok (.aload_n 0, 1) := by decide +kernel
theorem dX10_readsWord_24 : decode cX10_readsWord 24 = .ok (.invokevirtual 114, 3) := by decide +kernel
theorem dX10_readsWord_27 : decode cX10_readsWord 27 = .ok (.bipush 60, 2) := by decide +kernel
theorem dX10_readsWord_29 : decode cX10_readsWord 29 = .ok (.if_icmp .ne 25, 3) := by decide +kernel
theorem dX10_readsWord_32 : decode cX10_readsWord 32 = .ok (.aload_n 0, 1) := by decide +kernel
theorem dX10_readsWord_33 : decode cX10_readsWord 33 = .ok (.getfield 129, 3) := by decide +kernel
theorem dX10_readsWord_36 : decode cX10_readsWord 36 = .ok (.istore_n 1, 1) := by decide +kernel
theorem dX10_readsWord_37 : decode cX10_readsWord 37 = .ok (.aload_n 0, 1) := by decide +kernel
theorem dX10_readsWord_38 : decode cX10_readsWord 38 = .ok (.invokestatic 156, 3) := by decide +kernel
theorem dX10_readsWord_41 : decode cX10_readsWord 41 = .ok (.ifCond .ne 5, 3) := by decide +kernel
theorem dX10_readsWord_44 : decode cX10_readsWord 44 = .ok (.iconst 0, 1) := by decide +kernel
theorem dX10_readsWord_45 : decode cX10_readsWord 45 = .ok (.ireturn, 1) := by decide +kernel
theorem dX10_readsWord_46 : decode cX10_readsWord 46 = .ok (.aload_n 0, 1) := by decide +kernel
theorem dX10_readsWord_47 : decode cX10_readsWord 47 = .ok (.iload_n 1, 1) := by decide +kernel
theorem dX10_readsWord_48 : decode cX10_readsWord 48 = .ok (.invokevirtual 159, 3) := by decide +kernel
theorem dX10_readsWord_51 : decode cX10_readsWord 51 = .ok (.goto (-51), 3) := by decide +kernel
theorem dX10_readsWord_54 : decode cX10_readsWord 54 = .ok (.iconst 1, 1) := by decide +kernel
theorem dX10_readsWord_55 : decode cX10_readsWord 55 = .ok (.ireturn, 1) := by decide +kernel
theorem dX10_keeps_0 : decode cX10_keeps 0 = .ok (.aload_n 0, 1) := by decide +kernel
theorem dX10_keeps_1 : decode cX10_keeps 1 = .ok (.getfield 24, 3) := by decide +kernel
theorem dX10_keeps_4 : decode cX10_keeps 4 = .ok (.iload_n 1, 1) := by decide +kernel
theorem dX10_keeps_5 : decode cX10_keeps 5 = .ok (.aload_n 0, 1) := by decide +kernel
theorem dX10_keeps_6 : decode cX10_keeps 6 = .ok (.getfield 129, 3) := by decide +kernel
theorem dX10_keeps_9 : decode cX10_keeps 9 = .ok (.iastore, 1) := by decide +kernel
theorem dX10_keeps_10 : decode cX10_keeps 10 = .ok (.iconst 0, 1) := by decide +kernel
theorem dX10_keeps_11 : decode cX10_keeps 11 = .ok (.istore_n 2, 1) := by decide +kernel
theorem dX10_keeps_12 : decode cX10_keeps 12 = .ok (.iload_n 2, 1) := by decide +kernel
theorem dX10_keeps_13 : decode cX10_keeps 13 = .ok (.aload_n 0, 1) := by decide +kernel
theorem dX10_keeps_14 : decode cX10_keeps 14 = .ok (.getfield 129, 3) := by decide +kernel
theorem dX10_keeps_17 : decode cX10_keeps 17 = .ok (.if_icmp .ge 27, 3) := by decide +kernel
theorem dX10_keeps_20 : decode cX10_keeps 20 = .ok (.aload_n 0, 1) := by decide +kernel
theorem dX10_keeps_21 : decode cX10_keeps 21 = .ok (.getfield 27, 3) := by decide +kernel
theorem dX10_keeps_24 : decode cX10_keeps 24 = .ok (.sipush 200, 3) := by decide +kernel
theorem dX10_keeps_27 : decode cX10_keeps 27 = .ok (.iload_n 1, 1) := by decide +kernel
theorem dX10_keeps_28 : decode cX10_keeps 28 = .ok (.imul, 1) := by decide +kernel
theorem dX10_keeps_29 : decode cX10_keeps 29 = .ok (.iload_n 2, 1) := by decide +kernel
theorem dX10_keeps_30 : decode cX10_keeps 30 = .ok (.iadd, 1) := by decide +kernel
theorem dX10_keeps_31 : decode cX10_keeps 31 = .ok (.aload_n 0, 1) := by decide +kernel
theorem dX10_keeps_32 : decode cX10_keeps 32 = .ok (.getfield 66, 3) := by decide +kernel
theorem dX10_keeps_35 : decode cX10_keeps 35 = .ok (.iload_n 2, 1) := by decide +kernel
theorem dX10_keeps_36 : decode cX10_keeps 36 = .ok (.iaload, 1) := by decide +kernel
theorem dX10_keeps_37 : decode cX10_keeps 37 = .ok (.iastore, 1) := by decide +kernel
theorem dX10_keeps_38 : decode cX10_keeps 38 = .ok (.iinc 2 1, 3) := by decide +kernel
theorem dX10_keeps_41 : decode cX10_keeps 41 = .ok (.goto (-29), 3) := by decide +kernel
theorem dX10_keeps_44 : decode cX10_keeps 44 = .ok (.aload_n 0, 1) := by decide +kernel
theorem dX10_keeps_45 : decode cX10_keeps 45 = .ok (.aload_n 0, 1) := by decide +kernel
theorem dX10_keeps_46 : decode cX10_keeps 46 = .ok (.getfield 129, 3) := by decide +kernel
theorem dX10_keeps_49 : decode cX10_keeps 49 = .ok (.invokevirtual 105, 3) := by decide +kernel
theorem dX10_keeps_52 : decode cX10_keeps 52 = .ok (.ireturn, 1) := by decide +kernel
theorem dX10_clears_0 : decode cX10_clears 0 = .ok (.aload_n 0, 1) := by decide +kernel
theorem dX10_clears_1 : decode cX10_clears 1 = .ok (.iconst 0, 1) := by decide +kernel
theorem dX10_clears_2 : decode cX10_clears 2 = .ok (.putfield 129, 3) := by decide +kernel
theorem dX10_clears_5 : decode cX10_clears 5 = .ok (.aload_n 0, 1) := by decide +kernel
theorem dX10_clears_6 : decode cX10_clears 6 = .ok (.iconst 0, 1) := by decide +kernel
theorem dX10_clears_7 : decode cX10_clears 7 = .ok (.putfield 132, 3) := by decide +kernel
theorem dX10_clears_10 : decode cX10_clears 10 = .ok (.aload_n 0, 1) := by decide +kernel
theorem dX10_clears_11 : decode cX10_clears 11 = .ok (.iconst 0, 1) := by decide +kernel
theorem dX10_clears_12 : decode cX10_clears 12 = .ok (.putfield 142, 3) := by decide +kernel
theorem dX10_clears_15 : decode cX10_clears 15 = .ok (.aload_n 0, 1) := by decide +kernel
theorem dX10_clears_16 : decode cX10_clears 16 = .ok (.iconst 0, 1) := by decide +kernel
theorem dX10_clears_17 : decode cX10_clears 17 = .ok (.putfield 145, 3) := by decide +kernel
theorem dX10_clears_20 : decode cX10_clears 20 = .ok (.return_, 1) := by decide +kernel
theorem dX10_store_0 : decode cX10_store 0 = .ok (.iload_n 1, 1) := by decide +kernel
theorem dX10_store_1 : decode cX10_store 1 = .ok (.invokestatic 162, 3) := by decide +kernel
theorem dX10_store_4 : decode cX10_store 4 = .ok (.ifCond .ne 9, 3) := by decide +kernel
theorem dX10_store_7 : decode cX10_store 7 = .ok (.aload_n 0, 1) := by decide +kernel
theorem dX10_store_8 : decode cX10_store 8 = .ok (.iconst 1, 1) := by decide +kernel
theorem dX10_store_9 : decode cX10_store 9 = .ok (.invokevirtual 94, 3) := by decide +kernel
theorem dX10_store_12 : decode cX10_store 12 = .ok (.ireturn, 1) := by decide +kernel
theorem dX10_store_13 : decode cX10_store 13 = .ok (.aload_n 0, 1) := by decide +kernel
theorem dX10_store_14 : decode cX10_store 14 = .ok (.invokevirtual 165, 3) := by decide +kernel
theorem dX10_store_17 : decode cX10_store 17 = .ok (.aload_n 0, 1) := by decide +kernel
theorem dX10_store_18 : decode cX10_store 18 = .ok (.iconst 0, 1) := by decide +kernel
theorem dX10_store_19 : decode cX10_store 19 = .ok (.putfield 111, 3) := by decide +kernel
theorem dX10_store_22 : decode cX10_store 22 = .ok (.aload_n 0, 1) := by decide +kernel
theorem dX10_store_23 : decode cX10_store 23 = .ok (.invokestatic 148, 3) := by decide +kernel
theorem dX10_store_26 : decode cX10_store 26 = .ok (.ifCond .eq 18, 3) := by decide +kernel
theorem dX10_store_29 : decode cX10_store 29 = .ok (.aload_n 0, 1) := by decide +kernel
theorem dX10_store_30 : decode cX10_store 30 = .ok (.getfield 111, 3) := by decide +kernel
theorem dX10_store_33 : decode cX10_store 33 = .ok (.aload_n 0, 1) := by decide +kernel
theorem dX10_store_34 : decode cX10_store 34 = .ok (.getfield 108, 3) := by decide +kernel
theorem dX10_store_37 : decode cX10_store 37 = .ok (.if_icmp .ne 7, 3) := by decide +kernel
theorem dX10_store_40 : decode cX10_store 40 = .ok (.iconst 1, 1) := by decide +kernel
theorem dX10_store_41 : decode cX10_store 41 = .ok (.goto 4, 3) := by decide +kernel
theorem dX10_store_44 : decode cX10_store 44 = .ok (.iconst 0, 1) := by decide +kernel
theorem dX10_store_45 : decode cX10_store 45 = .ok (.istore_n 2, 1) := by decide +kernel
theorem dX10_store_46 : decode cX10_store 46 = .ok (.aload_n 0, 1) := by decide +kernel
theorem dX10_store_47 : decode cX10_store 47 = .ok (.iconst 0, 1) := by decide +kernel
theorem dX10_store_48 : decode cX10_store 48 = .ok (.putfield 108, 3) := by decide +kernel
theorem dX10_store_51 : decode cX10_store 51 = .ok (.iload_n 2, 1) := by decide +kernel
theorem dX10_store_52 : decode cX10_store 52 = .ok (.ifCond .ne 17, 3) := by decide +kernel
theorem dX10_store_55 : decode cX10_store 55 = .ok (.aload_n 0, 1) := by decide +kernel
theorem dX10_store_56 : decode cX10_store 56 = .ok (.aload_n 0, 1) := by decide +kernel
theorem dX10_store_57 : decode cX10_store 57 = .ok (.getfield 111, 3) := by decide +kernel
theorem dX10_store_60 : decode cX10_store 60 = .ok (.putfield 34, 3) := by decide +kernel
theorem dX10_store_63 : decode cX10_store 63 = .ok (.aload_n 0, 1) := by decide +kernel
theorem dX10_store_64 : decode cX10_store 64 = .ok (.iconst 2, 1) := by decide +kernel
theorem dX10_store_65 : decode cX10_store 65 = .ok (.invokevirtual 94, 3) := by decide +kernel
theorem dX10_store_68 : decode cX10_store 68 = .ok (.ireturn, 1) := by decide +kernel
theorem dX10_store_69 : decode cX10_store 69 = .ok (.aload_n 0, 1) := by decide +kernel
theorem dX10_store_70 : decode cX10_store 70 = .ok (.getfield 142, 3) := by decide +kernel
theorem dX10_store_73 : decode cX10_store 73 = .ok (.ifCond .eq 11, 3) := by decide +kernel
theorem dX10_store_76 : decode cX10_store 76 = .ok (.aload_n 0, 1) := by decide +kernel
theorem dX10_store_77 : decode cX10_store 77 = .ok (.iconst 3, 1) := by decide +kernel
theorem dX10_store_78 : decode cX10_store 78 = .ok (.invokevirtual 94, 3) := by decide +kernel
theorem dX10_store_81 : decode cX10_store 81 = .ok (.goto 23, 3) := by decide +kernel
theorem dX10_store_84 : decode cX10_store 84 = .ok (.aload_n 0, 1) := by decide +kernel
theorem dX10_store_85 : decode cX10_store 85 = .ok (.getfield 132, 3) := by decide +kernel
theorem dX10_store_88 : decode cX10_store 88 = .ok (.ifCond .eq 11, 3) := by decide +kernel
theorem dX10_store_91 : decode cX10_store 91 = .ok (.aload_n 0, 1) := by decide +kernel
theorem dX10_store_92 : decode cX10_store 92 = .ok (.iconst 4, 1) := by decide +kernel
theorem dX10_store_93 : decode cX10_store 93 = .ok (.invokevirtual 94, 3) := by decide +kernel
theorem dX10_store_96 : decode cX10_store 96 = .ok (.goto 8, 3) := by decide +kernel
theorem dX10_store_99 : decode cX10_store 99 = .ok (.aload_n 0, 1) := by decide +kernel
theorem dX10_store_100 : decode cX10_store 100 = .ok (.iload_n 1, 1) := by decide +kernel
theorem dX10_store_101 : decode cX10_store 101 = .ok (.invokevirtual 168, 3) := by decide +kernel
theorem dX10_store_104 : decode cX10_store 104 = .ok (.ireturn, 1) := by decide +kernel
theorem dX10_errorPosition_0 : decode cX10_errorPosition 0 = .ok (.aload_n 0, 1) := by decide +kernel
theorem dX10_errorPosition_1 : decode cX10_errorPosition 1 = .ok (.getfield 34, 3) := by decide +kernel
theorem dX10_errorPosition_4 : decode cX10_errorPosition 4 = .ok (.iconst (-1), 1) := by decide +kernel
theorem dX10_errorPosition_5 : decode cX10_errorPosition 5 = .ok (.if_icmp .ne 11, 3) := by decide +kernel
theorem dX10_errorPosition_8 : decode cX10_errorPosition 8 = .ok (.aload_n 0, 1) := by decide +kernel
theorem dX10_errorPosition_9 : decode cX10_errorPosition 9 = .ok (.iconst 1, 1) := by decide +kernel
theorem dX10_errorPosition_10 : decode cX10_errorPosition 10 = .ok (.invokevirtual 94, 3) := by decide +kernel
theorem dX10_errorPosition_13 : decode cX10_errorPosition 13 = .ok (.goto 11, 3) := by decide +kernel
theorem dX10_errorPosition_16 : decode cX10_errorPosition 16 = .ok (.aload_n 0, 1) := by decide +kernel
theorem dX10_errorPosition_17 : decode cX10_errorPosition 17 = .ok (.aload_n 0, 1) := by decide +kernel
theorem dX10_errorPosition_18 : decode cX10_errorPosition 18 = .ok (.getfield 34, 3) := by decide +kernel
theorem dX10_errorPosition_21 : decode cX10_errorPosition 21 = .ok (.invokevirtual 105, 3) := by decide +kernel
theorem dX10_errorPosition_24 : decode cX10_errorPosition 24 = .ok (.ireturn, 1) := by decide +kernel
theorem dX10_target_0 : decode cX10_target 0 = .ok (.iload_n 1, 1) := by decide +kernel
theorem dX10_target_1 : decode cX10_target 1 = .ok (.iconst 0, 1) := by decide +kernel
theorem dX10_target_2 : decode cX10_target 2 = .ok (.iconst 4, 1) := by decide +kernel
theorem dX10_target_3 : decode cX10_target 3 = .ok (.invokestatic 90, 3) := by decide +kernel
theorem dX10_target_6 : decode cX10_target 6 = .ok (.ifCond .eq 11, 3) := by decide +kernel
theorem dX10_target_9 : decode cX10_target 9 = .ok (.aload_n 0, 1) := by decide +kernel
theorem dX10_target_10 : decode cX10_target 10 = .ok (.iload_n 2, 1) := by decide +kernel
theorem dX10_target_11 : decode cX10_target 11 = .ok (.invokevirtual 118, 3) := by decide +kernel
theorem dX10_target_14 : decode cX10_target 14 = .ok (.ifCond .ne 9, 3) := by decide +kernel
theorem dX10_target_17 : decode cX10_target 17 = .ok (.aload_n 0, 1) := by decide +kernel
theorem dX10_target_18 : decode cX10_target 18 = .ok (.iconst 1, 1) := by decide +kernel
theorem dX10_target_19 : decode cX10_target 19 = .ok (.invokevirtual 94, 3) := by decide +kernel
theorem dX10_target_22 : decode cX10_target 22 = .ok (.ireturn, 1) := by decide +kernel
theorem dX10_target_23 : decode cX10_target 23 = .ok (.aload_n 0, 1) := by decide +kernel
theorem dX10_target_24 : decode cX10_target 24 = .ok (.getfield 17, 3) := by decide +kernel
theorem dX10_target_27 : decode cX10_target 27 = .ok (.iload_n 1, 1) := by decide +kernel
theorem dX10_target_28 : decode cX10_target 28 = .ok (.baload, 1) := by decide +kernel
theorem dX10_target_29 : decode cX10_target 29 = .ok (.ifCond .eq 21, 3) := by decide +kernel
theorem dX10_target_32 : decode cX10_target 32 = .ok (.aload_n 0, 1) := by decide +kernel
theorem dX10_target_33 : decode cX10_target 33 = .ok (.aload_n 0, 1) := by decide +kernel
theorem dX10_target_34 : decode cX10_target 34 = .ok (.getfield 21, 3) := by decide +kernel
theorem dX10_target_37 : decode cX10_target 37 = .ok (.bipush 16, 2) := by decide +kernel
theorem dX10_target_39 : decode cX10_target 39 = .ok (.iload_n 1, 1) := by decide +kernel
theorem dX10_target_40 : decode cX10_target 40 = .ok (.imul, 1) := by decide +kernel
theorem dX10_target_41 : decode cX10_target 41 = .ok (.iload_n 2, 1) := by decide +kernel
theorem dX10_target_42 : decode cX10_target 42 = .ok (.iadd, 1) := by decide +kernel
theorem dX10_target_43 : decode cX10_target 43 = .ok (.iaload, 1) := by decide +kernel
theorem dX10_target_44 : decode cX10_target 44 = .ok (.invokevirtual 105, 3) := by decide +kernel
theorem dX10_target_47 : decode cX10_target 47 = .ok (.goto 8, 3) := by decide +kernel
theorem dX10_target_50 : decode cX10_target 50 = .ok (.aload_n 0, 1) := by decide +kernel
theorem dX10_target_51 : decode cX10_target 51 = .ok (.iconst 2, 1) := by decide +kernel
theorem dX10_target_52 : decode cX10_target 52 = .ok (.invokevirtual 94, 3) := by decide +kernel
theorem dX10_target_55 : decode cX10_target 55 = .ok (.ireturn, 1) := by decide +kernel
theorem dX10_wordLength_0 : decode cX10_wordLength 0 = .ok (.iload_n 1, 1) := by decide +kernel
theorem dX10_wordLength_1 : decode cX10_wordLength 1 = .ok (.invokestatic 162, 3) := by decide +kernel
theorem dX10_wordLength_4 : decode cX10_wordLength 4 = .ok (.ifCond .eq 16, 3) := by decide +kernel
theorem dX10_wordLength_7 : decode cX10_wordLength 7 = .ok (.aload_n 0, 1) := by decide +kernel
theorem dX10_wordLength_8 : decode cX10_wordLength 8 = .ok (.aload_n 0, 1) := by decide +kernel
theorem dX10_wordLength_9 : decode cX10_wordLength 9 = .ok (.getfield 24, 3) := by decide +kernel
theorem dX10_wordLength_12 : decode cX10_wordLength 12 = .ok (.iload_n 1, 1) := by decide +kernel
theorem dX10_wordLength_13 : decode cX10_wordLength 13 = .ok (.iaload, 1) := by decide +kernel
theorem dX10_wordLength_14 : decode cX10_wordLength 14 = .ok (.invokevirtual 105, 3) := by decide +kernel
theorem dX10_wordLength_17 : decode cX10_wordLength 17 = .ok (.goto 8, 3) := by decide +kernel
theorem dX10_wordLength_20 : decode cX10_wordLength 20 = .ok (.aload_n 0, 1) := by decide +kernel
theorem dX10_wordLength_21 : decode cX10_wordLength 21 = .ok (.iconst 1, 1) := by decide +kernel
theorem dX10_wordLength_22 : decode cX10_wordLength 22 = .ok (.invokevirtual 94, 3) := by decide +kernel
theorem dX10_wordLength_25 : decode cX10_wordLength 25 = .ok (.ireturn, 1) := by decide +kernel
theorem dX10_letter_0 : decode cX10_letter 0 = .ok (.iload_n 1, 1) := by decide +kernel
theorem dX10_letter_1 : decode cX10_letter 1 = .ok (.invokestatic 162, 3) := by decide +kernel
theorem dX10_letter_4 : decode cX10_letter 4 = .ok (.ifCond .eq 19, 3) := by decide +kernel
theorem dX10_letter_7 : decode cX10_letter 7 = .ok (.iload_n 2, 1) := by decide +kernel
theorem dX10_letter_8 : decode cX10_letter 8 = .ok (.iconst 0, 1) := by decide +kernel
theorem dX10_letter_9 : decode cX10_letter 9 = .ok (.aload_n 0, 1) := by decide +kernel
theorem dX10_letter_10 : decode cX10_letter 10 = .ok (.getfield 24, 3) := by decide +kernel
theorem dX10_letter_13 : decode cX10_letter 13 = .ok (.iload_n 1, 1) := by decide +kernel
theorem dX10_letter_14 : decode cX10_letter 14 = .ok (.iaload, 1) := by decide +kernel
theorem dX10_letter_15 : decode cX10_letter 15 = .ok (.iconst 1, 1) := by decide +kernel
theorem dX10_letter_16 : decode cX10_letter 16 = .ok (.isub, 1) := by decide +kernel
theorem dX10_letter_17 : decode cX10_letter 17 = .ok (.invokestatic 90, 3) := by decide +kernel
theorem dX10_letter_20 : decode cX10_letter 20 = .ok (.ifCond .ne 9, 3) := by decide +kernel
theorem dX10_letter_23 : decode cX10_letter 23 = .ok (.aload_n 0, 1) := by decide +kernel
theorem dX10_letter_24 : decode cX10_letter 24 = .ok (.iconst 1, 1) := by decide +kernel
theorem dX10_letter_25 : decode cX10_letter 25 = .ok (.invokevirtual 94, 3) := by decide +kernel
theorem dX10_letter_28 : decode cX10_letter 28 = .ok (.ireturn, 1) := by decide +kernel
theorem dX10_letter_29 : decode cX10_letter 29 = .ok (.aload_n 0, 1) := by decide +kernel
theorem dX10_letter_30 : decode cX10_letter 30 = .ok (.aload_n 0, 1) := by decide +kernel
theorem dX10_letter_31 : decode cX10_letter 31 = .ok (.getfield 27, 3) := by decide +kernel
theorem dX10_letter_34 : decode cX10_letter 34 = .ok (.sipush 200, 3) := by decide +kernel
theorem dX10_letter_37 : decode cX10_letter 37 = .ok (.iload_n 1, 1) := by decide +kernel
theorem dX10_letter_38 : decode cX10_letter 38 = .ok (.imul, 1) := by decide +kernel
theorem dX10_letter_39 : decode cX10_letter 39 = .ok (.iload_n 2, 1) := by decide +kernel
theorem dX10_letter_40 : decode cX10_letter 40 = .ok (.iadd, 1) := by decide +kernel
theorem dX10_letter_41 : decode cX10_letter 41 = .ok (.iaload, 1) := by decide +kernel
theorem dX10_letter_42 : decode cX10_letter 42 = .ok (.invokevirtual 105, 3) := by decide +kernel
theorem dX10_letter_45 : decode cX10_letter 45 = .ok (.ireturn, 1) := by decide +kernel
theorem dX10_comesWord_0 : decode cX10_comesWord 0 = .ok (.aload_n 0, 1) := by decide +kernel
theorem dX10_comesWord_1 : decode cX10_comesWord 1 = .ok (.getfield 24, 3) := by decide +kernel
theorem dX10_comesWord_4 : decode cX10_comesWord 4 = .ok (.iload_n 1, 1) := by decide +kernel
theorem dX10_comesWord_5 : decode cX10_comesWord 5 = .ok (.iaload, 1) := by decide +kernel
theorem dX10_comesWord_6 : decode cX10_comesWord 6 = .ok (.istore_n 3, 1) := by decide +kernel
theorem dX10_comesWord_7 : decode cX10_comesWord 7 = .ok (.iconst 0, 1) := by decide +kernel
theorem dX10_comesWord_8 : decode cX10_comesWord 8 = .ok (.istore 4, 2) := by decide +kernel
theorem dX10_comesWord_10 : decode cX10_comesWord 10 = .ok (.iload 4, 2) := by decide +kernel
theorem dX10_comesWord_12 : decode cX10_comesWord 12 = .ok (.iload_n 3, 1) := by decide +kernel
theorem dX10_comesWord_13 : decode cX10_comesWord 13 = .ok (.if_icmp .ge 52, 3) := by decide +kernel
theorem dX10_comesWord_16 : decode cX10_comesWord 16 = .ok (.aload_n 0, 1) := by decide +kernel
theorem dX10_comesWord_17 : decode cX10_comesWord 17 = .ok (.iload_n 2, 1) := by decide +kernel
theorem dX10_comesWord_18 : decode cX10_comesWord 18 = .ok (.ifCond .eq 25, 3) := by decide +kernel
theorem dX10_comesWord_21 : decode cX10_comesWord 21 = .ok (.aload_n 0, 1) := by decide +kernel
theorem dX10_comesWord_22 : decode cX10_comesWord 22 = .ok (.getfield 27, 3) := by decide +kernel
theorem dX10_comesWord_25 : decode cX10_comesWord 25 = .ok (.sipush 200, 3) := by decide +kernel
theorem dX10_comesWord_28 : decode cX10_comesWord 28 = .ok (.iload_n 1, 1) := by decide +kernel
theorem dX10_comesWord_29 : decode cX10_comesWord 29 = .ok (.imul, 1) := by decide +kernel
theorem dX10_comesWord_30 : decode cX10_comesWord 30 = .ok (.iload_n 3, 1) := by decide +kernel
theorem dX10_comesWord_31 : decode cX10_comesWord 31 = .ok (.iadd, 1) := by decide +kernel
theorem dX10_comesWord_32 : decode cX10_comesWord 32 = .ok (.iconst 1, 1) := by decide +kernel
theorem dX10_comesWord_33 : decode cX10_comesWord 33 = .ok (.isub, 1) := by decide +kernel
theorem dX10_comesWord_34 : decode cX10_comesWord 34 = .ok (.iload 4, 2) := by decide +kernel
theorem dX10_comesWord_36 : decode cX10_comesWord 36 = .ok (.isub, 1) := by decide +kernel
theorem dX10_comesWord_37 : decode cX10_comesWord 37 = .ok (.iaload, 1) := by decide +kernel
theorem dX10_comesWord_38 : decode cX10_comesWord 38 = .ok (.iconst 1, 1) := by decide +kernel
theorem dX10_comesWord_39 : decode cX10_comesWord 39 = .ok (.ixor, 1) := by decide +kernel
theorem dX10_comesWord_40 : decode cX10_comesWord 40 = .ok (.goto 16, 3) := by decide +kernel
theorem dX10_comesWord_43 : decode cX10_comesWord 43 = .ok (.aload_n 0, 1) := by decide +kernel
theorem dX10_comesWord_44 : decode cX10_comesWord 44 = .ok (.getfield 27, 3) := by decide +kernel
theorem dX10_comesWord_47 : decode cX10_comesWord 47 = .ok (.sipush 200, 3) := by decide +kernel
theorem dX10_comesWord_50 : decode cX10_comesWord 50 = .ok (.iload_n 1, 1) := by decide +kernel
theorem dX10_comesWord_51 : decode cX10_comesWord 51 = .ok (.imul, 1) := by decide +kernel
theorem dX10_comesWord_52 : decode cX10_comesWord 52 = .ok (.iload 4, 2) := by decide +kernel
theorem dX10_comesWord_54 : decode cX10_comesWord 54 = .ok (.iadd, 1) := by decide +kernel
theorem dX10_comesWord_55 : decode cX10_comesWord 55 = .ok (.iaload, 1) := by decide +kernel
theorem dX10_comesWord_56 : decode cX10_comesWord 56 = .ok (.invokevirtual 135, 3) := by decide +kernel
theorem dX10_comesWord_59 : decode cX10_comesWord 59 = .ok (.iinc 4 1, 3) := by decide +kernel
theorem dX10_comesWord_62 : decode cX10_comesWord 62 = .ok (.goto (-52), 3) := by decide +kernel
theorem dX10_comesWord_65 : decode cX10_comesWord 65 = .ok (.return_, 1) := by decide +kernel
theorem dX10_invert_0 : decode cX10_invert 0 = .ok (.iload_n 1, 1) := by decide +kernel
theorem dX10_invert_1 : decode cX10_invert 1 = .ok (.invokestatic 162, 3) := by decide +kernel
theorem dX10_invert_4 : decode cX10_invert 4 = .ok (.ifCond .eq 10, 3) := by decide +kernel
theorem dX10_invert_7 : decode cX10_invert 7 = .ok (.iload_n 2, 1) := by decide +kernel
theorem dX10_invert_8 : decode cX10_invert 8 = .ok (.invokestatic 162, 3) := by decide +kernel
theorem dX10_invert_11 : decode cX10_invert 11 = .ok (.ifCond .ne 9, 3) := by decide +kernel
theorem dX10_invert_14 : decode cX10_invert 14 = .ok (.aload_n 0, 1) := by decide +kernel
theorem dX10_invert_15 : decode cX10_invert 15 = .ok (.iconst 1, 1) := by decide +kernel
theorem dX10_invert_16 : decode cX10_invert 16 = .ok (.invokevirtual 94, 3) := by decide +kernel
theorem dX10_invert_19 : decode cX10_invert 19 = .ok (.ireturn, 1) := by decide +kernel
theorem dX10_invert_20 : decode cX10_invert 20 = .ok (.aload_n 0, 1) := by decide +kernel
theorem dX10_invert_21 : decode cX10_invert 21 = .ok (.invokevirtual 165, 3) := by decide +kernel
theorem dX10_invert_24 : decode cX10_invert 24 = .ok (.aload_n 0, 1) := by decide +kernel
theorem dX10_invert_25 : decode cX10_invert 25 = .ok (.iload_n 2, 1) := by decide +kernel
theorem dX10_invert_26 : decode cX10_invert 26 = .ok (.iconst 1, 1) := by decide +kernel
theorem dX10_invert_27 : decode cX10_invert 27 = .ok (.invokevirtual 171, 3) := by decide +kernel
theorem dX10_invert_30 : decode cX10_invert 30 = .ok (.aload_n 0, 1) := by decide +kernel
theorem dX10_invert_31 : decode cX10_invert 31 = .ok (.iload_n 1, 1) := by decide +kernel
theorem dX10_invert_32 : decode cX10_invert 32 = .ok (.invokevirtual 168, 3) := by decide +kernel
theorem dX10_invert_35 : decode cX10_invert 35 = .ok (.ireturn, 1) := by decide +kernel
theorem dX10_conjugate_0 : decode cX10_conjugate 0 = .ok (.iload_n 1, 1) := by decide +kernel
theorem dX10_conjugate_1 : decode cX10_conjugate 1 = .ok (.invokestatic 162, 3) := by decide +kernel
theorem dX10_conjugate_4 : decode cX10_conjugate 4 = .ok (.ifCond .eq 17, 3) := by decide +kernel
theorem dX10_conjugate_7 : decode cX10_conjugate 7 = .ok (.iload_n 2, 1) := by decide +kernel
theorem dX10_conjugate_8 : decode cX10_conjugate 8 = .ok (.invokestatic 162, 3) := by decide +kernel
theorem dX10_conjugate_11 : decode cX10_conjugate 11 = .ok (.ifCond .eq 10, 3) := by decide +kernel
theorem dX10_conjugate_14 : decode cX10_conjugate 14 = .ok (.iload_n 3, 1) := by decide +kernel
theorem dX10_conjugate_15 : decode cX10_conjugate 15 = .ok (.invokestatic 162, 3) := by decide +kernel
theorem dX10_conjugate_18 : decode cX10_conjugate 18 = .ok (.ifCond .ne 9, 3) := by decide +kernel
theorem dX10_conjugate_21 : decode cX10_conjugate 21 = .ok (.aload_n 0, 1) := by decide +kernel
theorem dX10_conjugate_22 : decode cX10_conjugate 22 = .ok (.iconst 1, 1) := by decide +kernel
theorem dX10_conjugate_23 : decode cX10_conjugate 23 = .ok (.invokevirtual 94, 3) := by decide +kernel
theorem dX10_conjugate_26 : decode cX10_conjugate 26 = .ok (.ireturn, 1) := by decide +kernel
theorem dX10_conjugate_27 : decode cX10_conjugate 27 = .ok (.aload_n 0, 1) := by decide +kernel
theorem dX10_conjugate_28 : decode cX10_conjugate 28 = .ok (.invokevirtual 165, 3) := by decide +kernel
theorem dX10_conjugate_31 : decode cX10_conjugate 31 = .ok (.aload_n 0, 1) := by decide +kernel
theorem dX10_conjugate_32 : decode cX10_conjugate 32 = .ok (.iload_n 3, 1) := by decide +kernel
theorem dX10_conjugate_33 : decode cX10_conjugate 33 = .ok (.iconst 1, 1) := by decide +kernel
theorem dX10_conjugate_34 : decode cX10_conjugate 34 = .ok (.invokevirtual 171, 3) := by decide +kernel
theorem dX10_conjugate_37 : decode cX10_conjugate 37 = .ok (.aload_n 0, 1) := by decide +kernel
theorem dX10_conjugate_38 : decode cX10_conjugate 38 = .ok (.iload_n 2, 1) := by decide +kernel
theorem dX10_conjugate_39 : decode cX10_conjugate 39 = .ok (.iconst 0, 1) := by decide +kernel
theorem dX10_conjugate_40 : decode cX10_conjugate 40 = .ok (.invokevirtual 171, 3) := by decide +kernel
theorem dX10_conjugate_43 : decode cX10_conjugate 43 = .ok (.aload_n 0, 1) := by decide +kernel
theorem dX10_conjugate_44 : decode cX10_conjugate 44 = .ok (.iload_n 3, 1) := by decide +kernel
theorem dX10_conjugate_45 : decode cX10_conjugate 45 = .ok (.iconst 0, 1) := by decide +kernel
theorem dX10_conjugate_46 : decode cX10_conjugate 46 = .ok (.invokevirtual 171, 3) := by decide +kernel
theorem dX10_conjugate_49 : decode cX10_conjugate 49 = .ok (.aload_n 0, 1) := by decide +kernel
theorem dX10_conjugate_50 : decode cX10_conjugate 50 = .ok (.getfield 132, 3) := by decide +kernel
theorem dX10_conjugate_53 : decode cX10_conjugate 53 = .ok (.ifCond .eq 11, 3) := by decide +kernel
theorem dX10_conjugate_56 : decode cX10_conjugate 56 = .ok (.aload_n 0, 1) := by decide +kernel
theorem dX10_conjugate_57 : decode cX10_conjugate 57 = .ok (.iconst 2, 1) := by decide +kernel
theorem dX10_conjugate_58 : decode cX10_conjugate 58 = .ok (.invokevirtual 94, 3) := by decide +kernel
theorem dX10_conjugate_61 : decode cX10_conjugate 61 = .ok (.goto 8, 3) := by decide +kernel
theorem dX10_conjugate_64 : decode cX10_conjugate 64 = .ok (.aload_n 0, 1) := by decide +kernel
theorem dX10_conjugate_65 : decode cX10_conjugate 65 = .ok (.iload_n 1, 1) := by decide +kernel
theorem dX10_conjugate_66 : decode cX10_conjugate 66 = .ok (.invokevirtual 168, 3) := by decide +kernel
theorem dX10_conjugate_69 : decode cX10_conjugate 69 = .ok (.ireturn, 1) := by decide +kernel
theorem dX10_commutator_0 : decode cX10_commutator 0 = .ok (.iload_n 1, 1) := by decide +kernel
theorem dX10_commutator_1 : decode cX10_commutator 1 = .ok (.invokestatic 162, 3) := by decide +kernel
theorem dX10_commutator_4 : decode cX10_commutator 4 = .ok (.ifCond .eq 17, 3) := by decide +kernel
theorem dX10_commutator_7 : decode cX10_commutator 7 = .ok (.iload_n 2, 1) := by decide +kernel
theorem dX10_commutator_8 : decode cX10_commutator 8 = .ok (.invokestatic 162, 3) := by decide +kernel
theorem dX10_commutator_11 : decode cX10_commutator 11 = .ok (.ifCond .eq 10, 3) := by decide +kernel
theorem dX10_commutator_14 : decode cX10_commutator 14 = .ok (.iload_n 3, 1) := by decide +kernel
theorem dX10_commutator_15 : decode cX10_commutator 15 = .ok (.invokestatic 162, 3) := by decide +kernel
theorem dX10_commutator_18 : decode cX10_commutator 18 = .ok (.ifCond .ne 9, 3) := by decide +kernel
theorem dX10_commutator_21 : decode cX10_commutator 21 = .ok (.aload_n 0, 1) := by decide +kernel
theorem dX10_commutator_22 : decode cX10_commutator 22 = .ok (.iconst 1, 1) := by decide +kernel
theorem dX10_commutator_23 : decode cX10_commutator 23 = .ok (.invokevirtual 94, 3) := by decide +kernel
theorem dX10_commutator_26 : decode cX10_commutator 26 = .ok (.ireturn, 1) := by decide +kernel
theorem dX10_commutator_27 : decode cX10_commutator 27 = .ok (.aload_n 0, 1) := by decide +kernel
theorem dX10_commutator_28 : decode cX10_commutator 28 = .ok (.invokevirtual 165, 3) := by decide +kernel
theorem dX10_commutator_31 : decode cX10_commutator 31 = .ok (.aload_n 0, 1) := by decide +kernel
theorem dX10_commutator_32 : decode cX10_commutator 32 = .ok (.iload_n 2, 1) := by decide +kernel
theorem dX10_commutator_33 : decode cX10_commutator 33 = .ok (.iconst 0, 1) := by decide +kernel
theorem dX10_commutator_34 : decode cX10_commutator 34 = .ok (.invokevirtual 171, 3) := by decide +kernel
theorem dX10_commutator_37 : decode cX10_commutator 37 = .ok (.aload_n 0, 1) := by decide +kernel
theorem dX10_commutator_38 : decode cX10_commutator 38 = .ok (.iload_n 3, 1) := by decide +kernel
theorem dX10_commutator_39 : decode cX10_commutator 39 = .ok (.iconst 0, 1) := by decide +kernel
theorem dX10_commutator_40 : decode cX10_commutator 40 = .ok (.invokevirtual 171, 3) := by decide +kernel
theorem dX10_commutator_43 : decode cX10_commutator 43 = .ok (.aload_n 0, 1) := by decide +kernel
theorem dX10_commutator_44 : decode cX10_commutator 44 = .ok (.iload_n 2, 1) := by decide +kernel
theorem dX10_commutator_45 : decode cX10_commutator 45 = .ok (.iconst 1, 1) := by decide +kernel
theorem dX10_commutator_46 : decode cX10_commutator 46 = .ok (.invokevirtual 171, 3) := by decide +kernel
theorem dX10_commutator_49 : decode cX10_commutator 49 = .ok (.aload_n 0, 1) := by decide +kernel
theorem dX10_commutator_50 : decode cX10_commutator 50 = .ok (.iload_n 3, 1) := by decide +kernel
theorem dX10_commutator_51 : decode cX10_commutator 51 = .ok (.iconst 1, 1) := by decide +kernel
theorem dX10_commutator_52 : decode cX10_commutator 52 = .ok (.invokevirtual 171, 3) := by decide +kernel
theorem dX10_commutator_55 : decode cX10_commutator 55 = .ok (.aload_n 0, 1) := by decide +kernel
theorem dX10_commutator_56 : decode cX10_commutator 56 = .ok (.getfield 132, 3) := by decide +kernel
theorem dX10_commutator_59 : decode cX10_commutator 59 = .ok (.ifCond .eq 11, 3) := by decide +kernel
theorem dX10_commutator_62 : decode cX10_commutator 62 = .ok (.aload_n 0, 1) := by decide +kernel
theorem dX10_commutator_63 : decode cX10_commutator 63 = .ok (.iconst 2, 1) := by decide +kernel
theorem dX10_commutator_64 : decode cX10_commutator 64 = .ok (.invokevirtual 94, 3) := by decide +kernel
theorem dX10_commutator_67 : decode cX10_commutator 67 = .ok (.goto 8, 3) := by decide +kernel
theorem dX10_commutator_70 : decode cX10_commutator 70 = .ok (.aload_n 0, 1) := by decide +kernel
theorem dX10_commutator_71 : decode cX10_commutator 71 = .ok (.iload_n 1, 1) := by decide +kernel
theorem dX10_commutator_72 : decode cX10_commutator 72 = .ok (.invokevirtual 168, 3) := by decide +kernel
theorem dX10_commutator_75 : decode cX10_commutator 75 = .ok (.ireturn, 1) := by decide +kernel
theorem dX10_ledBy_0 : decode cX10_ledBy 0 = .ok (.iload_n 2, 1) := by decide +kernel
theorem dX10_ledBy_1 : decode cX10_ledBy 1 = .ok (.istore_n 3, 1) := by decide +kernel
theorem dX10_ledBy_2 : decode cX10_ledBy 2 = .ok (.iconst 0, 1) := by decide +kernel
theorem dX10_ledBy_3 : decode cX10_ledBy 3 = .ok (.istore 4, 2) := by decide +kernel
theorem dX10_ledBy_5 : decode cX10_ledBy 5 = .ok (.iload 4, 2) := by decide +kernel
theorem dX10_ledBy_7 : decode cX10_ledBy 7 = .ok (.aload_n 0, 1) := by decide +kernel
theorem dX10_ledBy_8 : decode cX10_ledBy 8 = .ok (.getfield 24, 3) := by decide +kernel
theorem dX10_ledBy_11 : decode cX10_ledBy 11 = .ok (.iload_n 1, 1) := by decide +kernel
theorem dX10_ledBy_12 : decode cX10_ledBy 12 = .ok (.iaload, 1) := by decide +kernel
theorem dX10_ledBy_13 : decode cX10_ledBy 13 = .ok (.if_icmp .ge 33, 3) := by decide +kernel
theorem dX10_ledBy_16 : decode cX10_ledBy 16 = .ok (.aload_n 0, 1) := by decide +kernel
theorem dX10_ledBy_17 : decode cX10_ledBy 17 = .ok (.getfield 21, 3) := by decide +kernel
theorem dX10_ledBy_20 : decode cX10_ledBy 20 = .ok (.bipush 8, 2) := by decide +kernel
theorem dX10_ledBy_22 : decode cX10_ledBy 22 = .ok (.aload_n 0, 1) := by decide +kernel
theorem dX10_ledBy_23 : decode cX10_ledBy 23 = .ok (.getfield 27, 3) := by decide +kernel
theorem dX10_ledBy_26 : decode cX10_ledBy 26 = .ok (.sipush 200, 3) := by decide +kernel
theorem dX10_ledBy_29 : decode cX10_ledBy 29 = .ok (.iload_n 1, 1) := by decide +kernel
theorem dX10_ledBy_30 : decode cX10_ledBy 30 = .ok (.imul, 1) := by decide +kernel
theorem dX10_ledBy_31 : decode cX10_ledBy 31 = .ok (.iload 4, 2) := by decide +kernel
theorem dX10_ledBy_33 : decode cX10_ledBy 33 = .ok (.iadd, 1) := by decide +kernel
theorem dX10_ledBy_34 : decode cX10_ledBy 34 = .ok (.iaload, 1) := by decide +kernel
theorem dX10_ledBy_35 : decode cX10_ledBy 35 = .ok (.imul, 1) := by decide +kernel
theorem dX10_ledBy_36 : decode cX10_ledBy 36 = .ok (.iload_n 3, 1) := by decide +kernel
theorem dX10_ledBy_37 : decode cX10_ledBy 37 = .ok (.iadd, 1) := by decide +kernel
theorem dX10_ledBy_38 : decode cX10_ledBy 38 = .ok (.iaload, 1) := by decide +kernel
theorem dX10_ledBy_39 : decode cX10_ledBy 39 = .ok (.istore_n 3, 1) := by decide +kernel
theorem dX10_ledBy_40 : decode cX10_ledBy 40 = .ok (.iinc 4 1, 3) := by decide +kernel
theorem dX10_ledBy_43 : decode cX10_ledBy 43 = .ok (.goto (-38), 3) := by decide +kernel
theorem dX10_ledBy_46 : decode cX10_ledBy 46 = .ok (.iload_n 3, 1) := by decide +kernel
theorem dX10_ledBy_47 : decode cX10_ledBy 47 = .ok (.ireturn, 1) := by decide +kernel
theorem dX10_cycleOf_0 : decode cX10_cycleOf 0 = .ok (.iconst 1, 1) := by decide +kernel
theorem dX10_cycleOf_1 : decode cX10_cycleOf 1 = .ok (.istore_n 3, 1) := by decide +kernel
theorem dX10_cycleOf_2 : decode cX10_cycleOf 2 = .ok (.aload_n 0, 1) := by decide +kernel
theorem dX10_cycleOf_3 : decode cX10_cycleOf 3 = .ok (.iload_n 1, 1) := by decide +kernel
theorem dX10_cycleOf_4 : decode cX10_cycleOf 4 = .ok (.iload_n 2, 1) := by decide +kernel
theorem dX10_cycleOf_5 : decode cX10_cycleOf 5 = .ok (.invokevirtual 175, 3) := by decide +kernel
theorem dX10_cycleOf_8 : decode cX10_cycleOf 8 = .ok (.istore 4, 2) := by decide +kernel
theorem dX10_cycleOf_10 : decode cX10_cycleOf 10 = .ok (.iload 4, 2) := by decide +kernel
theorem dX10_cycleOf_12 : decode cX10_cycleOf 12 = .ok (.iload_n 2, 1) := by decide +kernel
theorem dX10_cycleOf_13 : decode cX10_cycleOf 13 = .ok (.if_icmp .eq 18, 3) := by decide +kernel
theorem dX10_cycleOf_16 : decode cX10_cycleOf 16 = .ok (.iinc 3 1, 3) := by decide +kernel
theorem dX10_cycleOf_19 : decode cX10_cycleOf 19 = .ok (.aload_n 0, 1) := by decide +kernel
theorem dX10_cycleOf_20 : decode cX10_cycleOf 20 = .ok (.iload_n 1, 1) := by decide +kernel
theorem dX10_cycleOf_21 : decode cX10_cycleOf 21 = .ok (.iload 4, 2) := by decide +kernel
theorem dX10_cycleOf_23 : decode cX10_cycleOf 23 = .ok (.invokevirtual 175, 3) := by decide +kernel
theorem dX10_cycleOf_26 : decode cX10_cycleOf 26 = .ok (.istore 4, 2) := by decide +kernel
theorem dX10_cycleOf_28 : decode cX10_cycleOf 28 = .ok (.goto (-18), 3) := by decide +kernel
theorem dX10_cycleOf_31 : decode cX10_cycleOf 31 = .ok (.iload_n 3, 1) := by decide +kernel
theorem dX10_cycleOf_32 : decode cX10_cycleOf 32 = .ok (.ireturn, 1) := by decide +kernel
theorem dX10_order_0 : decode cX10_order 0 = .ok (.iload_n 1, 1) := by decide +kernel
theorem dX10_order_1 : decode cX10_order 1 = .ok (.invokestatic 162, 3) := by decide +kernel
theorem dX10_order_4 : decode cX10_order 4 = .ok (.ifCond .ne 9, 3) := by decide +kernel
theorem dX10_order_7 : decode cX10_order 7 = .ok (.aload_n 0, 1) := by decide +kernel
theorem dX10_order_8 : decode cX10_order 8 = .ok (.iconst 1, 1) := by decide +kernel
theorem dX10_order_9 : decode cX10_order 9 = .ok (.invokevirtual 94, 3) := by decide +kernel
theorem dX10_order_12 : decode cX10_order 12 = .ok (.ireturn, 1) := by decide +kernel
theorem dX10_order_13 : decode cX10_order 13 = .ok (.iconst 1, 1) := by decide +kernel
theorem dX10_order_14 : decode cX10_order 14 = .ok (.istore_n 2, 1) := by decide +kernel
theorem dX10_order_15 : decode cX10_order 15 = .ok (.iconst 0, 1) := by decide +kernel
theorem dX10_order_16 : decode cX10_order 16 = .ok (.istore_n 3, 1) := by decide +kernel
theorem dX10_order_17 : decode cX10_order 17 = .ok (.iload_n 3, 1) := by decide +kernel
theorem dX10_order_18 : decode cX10_order 18 = .ok (.ifCond .ne 60, 3) := by decide +kernel
theorem dX10_order_21 : decode cX10_order 21 = .ok (.iconst 1, 1) := by decide +kernel
theorem dX10_order_22 : decode cX10_order 22 = .ok (.istore_n 3, 1) := by decide +kernel
theorem dX10_order_23 : decode cX10_order 23 = .ok (.iconst 1, 1) := by decide +kernel
theorem dX10_order_24 : decode cX10_order 24 = .ok (.istore 4, 2) := by decide +kernel
theorem dX10_order_26 : decode cX10_order 26 = .ok (.iload 4, 2) := by decide +kernel
theorem dX10_order_28 : decode cX10_order 28 = .ok (.aload_n 0, 1) := by decide +kernel
theorem dX10_order_29 : decode cX10_order 29 = .ok (.getfield 7, 3) := by decide +kernel
theorem dX10_order_32 : decode cX10_order 32 = .ok (.if_icmp .gt 31, 3) := by decide +kernel
theorem dX10_order_35 : decode cX10_order 35 = .ok (.iload_n 3, 1) := by decide +kernel
theorem dX10_order_36 : decode cX10_order 36 = .ok (.ifCond .eq 19, 3) := by decide +kernel
theorem dX10_order_39 : decode cX10_order 39 = .ok (.iload_n 2, 1) := by decide +kernel
theorem dX10_order_40 : decode cX10_order 40 = .ok (.aload_n 0, 1) := by decide +kernel
theorem dX10_order_41 : decode cX10_order 41 = .ok (.iload_n 1, 1) := by decide +kernel
theorem dX10_order_42 : decode cX10_order 42 = .ok (.iload 4, 2) := by decide +kernel
theorem dX10_order_44 : decode cX10_order 44 = .ok (.invokevirtual 179, 3) := by decide +kernel
theorem dX10_order_47 : decode cX10_order 47 = .ok (.irem, 1) := by decide +kernel
theorem dX10_order_48 : decode cX10_order 48 = .ok (.ifCond .ne 7, 3) := by decide +kernel
theorem dX10_order_51 : decode cX10_order 51 = .ok (.iconst 1, 1) := by decide +kernel
theorem dX10_order_52 : decode cX10_order 52 = .ok (.goto 4, 3) := by decide +kernel
theorem dX10_order_55 : decode cX10_order 55 = .ok (.iconst 0, 1) := by decide +kernel
theorem dX10_order_56 : decode cX10_order 56 = .ok (.istore_n 3, 1) := by decide +kernel
theorem dX10_order_57 : decode cX10_order 57 = .ok (.iinc 4 1, 3) := by decide +kernel
theorem dX10_order_60 : decode cX10_order 60 = .ok (.goto (-34), 3) := by decide +kernel
theorem dX10_order_63 : decode cX10_order 63 = .ok (.iload_n 2, 1) := by decide +kernel
theorem dX10_order_64 : decode cX10_order 64 = .ok (.iload_n 3, 1) := by decide +kernel
theorem dX10_order_65 : decode cX10_order 65 = .ok (.ifCond .eq 7, 3) := by decide +kernel
theorem dX10_order_68 : decode cX10_order 68 = .ok (.iconst 0, 1) := by decide +kernel
theorem dX10_order_69 : decode cX10_order 69 = .ok (.goto 4, 3) := by decide +kernel
theorem dX10_order_72 : decode cX10_order 72 = .ok (.iconst 1, 1) := by decide +kernel
theorem dX10_order_73 : decode cX10_order 73 = .ok (.iadd, 1) := by decide +kernel
theorem dX10_order_74 : decode cX10_order 74 = .ok (.istore_n 2, 1) := by decide +kernel
theorem dX10_order_75 : decode cX10_order 75 = .ok (.goto (-58), 3) := by decide +kernel
theorem dX10_order_78 : decode cX10_order 78 = .ok (.aload_n 0, 1) := by decide +kernel
theorem dX10_order_79 : decode cX10_order 79 = .ok (.iload_n 2, 1) := by decide +kernel
theorem dX10_order_80 : decode cX10_order 80 = .ok (.invokevirtual 105, 3) := by decide +kernel
theorem dX10_order_83 : decode cX10_order 83 = .ok (.ireturn, 1) := by decide +kernel
theorem dX10_isOdd_0 : decode cX10_isOdd 0 = .ok (.iload_n 1, 1) := by decide +kernel
theorem dX10_isOdd_1 : decode cX10_isOdd 1 = .ok (.invokestatic 162, 3) := by decide +kernel
theorem dX10_isOdd_4 : decode cX10_isOdd 4 = .ok (.ifCond .ne 9, 3) := by decide +kernel
theorem dX10_isOdd_7 : decode cX10_isOdd 7 = .ok (.aload_n 0, 1) := by decide +kernel
theorem dX10_isOdd_8 : decode cX10_isOdd 8 = .ok (.iconst 1, 1) := by decide +kernel
theorem dX10_isOdd_9 : decode cX10_isOdd 9 = .ok (.invokevirtual 182, 3) := by decide +kernel
theorem dX10_isOdd_12 : decode cX10_isOdd 12 = .ok (.ireturn, 1) := by decide +kernel
theorem dX10_isOdd_13 : decode cX10_isOdd 13 = .ok (.iconst 0, 1) := by decide +kernel
theorem dX10_isOdd_14 : decode cX10_isOdd 14 = .ok (.istore_n 2, 1) := by decide +kernel
theorem dX10_isOdd_15 : decode cX10_isOdd 15 = .ok (.iconst 1, 1) := by decide +kernel
theorem dX10_isOdd_16 : decode cX10_isOdd 16 = .ok (.istore_n 3, 1) := by decide +kernel
theorem dX10_isOdd_17 : decode cX10_isOdd 17 = .ok (.iload_n 3, 1) := by decide +kernel
theorem dX10_isOdd_18 : decode cX10_isOdd 18 = .ok (.aload_n 0, 1) := by decide +kernel
theorem dX10_isOdd_19 : decode cX10_isOdd 19 = .ok (.getfield 7, 3) := by decide +kernel
theorem dX10_isOdd_22 : decode cX10_isOdd 22 = .ok (.if_icmp .gt 48, 3) := by decide +kernel
theorem dX10_isOdd_25 : decode cX10_isOdd 25 = .ok (.iconst 1, 1) := by decide +kernel
theorem dX10_isOdd_26 : decode cX10_isOdd 26 = .ok (.istore 4, 2) := by decide +kernel
theorem dX10_isOdd_28 : decode cX10_isOdd 28 = .ok (.iload 4, 2) := by decide +kernel
theorem dX10_isOdd_30 : decode cX10_isOdd 30 = .ok (.iload_n 3, 1) := by decide +kernel
theorem dX10_isOdd_31 : decode cX10_isOdd 31 = .ok (.if_icmp .ge 33, 3) := by decide +kernel
theorem dX10_isOdd_34 : decode cX10_isOdd 34 = .ok (.iload_n 2, 1) := by decide +kernel
theorem dX10_isOdd_35 : decode cX10_isOdd 35 = .ok (.aload_n 0, 1) := by decide +kernel
theorem dX10_isOdd_36 : decode cX10_isOdd 36 = .ok (.iload_n 1, 1) := by decide +kernel
theorem dX10_isOdd_37 : decode cX10_isOdd 37 = .ok (.iload_n 3, 1) := by decide +kernel
theorem dX10_isOdd_38 : decode cX10_isOdd 38 = .ok (.invokevirtual 175, 3) := by decide +kernel
theorem dX10_isOdd_41 : decode cX10_isOdd 41 = .ok (.aload_n 0, 1) := by decide +kernel
theorem dX10_isOdd_42 : decode cX10_isOdd 42 = .ok (.iload_n 1, 1) := by decide +kernel
theorem dX10_isOdd_43 : decode cX10_isOdd 43 = .ok (.iload 4, 2) := by decide +kernel
theorem dX10_isOdd_45 : decode cX10_isOdd 45 = .ok (.invokevirtual 175, 3) := by decide +kernel
theorem dX10_isOdd_48 : decode cX10_isOdd 48 = .ok (.if_icmp .ge 7, 3) := by decide +kernel
theorem dX10_isOdd_51 : decode cX10_isOdd 51 = .ok (.iconst 1, 1) := by decide +kernel
theorem dX10_isOdd_52 : decode cX10_isOdd 52 = .ok (.goto 4, 3) := by decide +kernel
theorem dX10_isOdd_55 : decode cX10_isOdd 55 = .ok (.iconst 0, 1) := by decide +kernel
theorem dX10_isOdd_56 : decode cX10_isOdd 56 = .ok (.iadd, 1) := by decide +kernel
theorem dX10_isOdd_57 : decode cX10_isOdd 57 = .ok (.istore_n 2, 1) := by decide +kernel
theorem dX10_isOdd_58 : decode cX10_isOdd 58 = .ok (.iinc 4 1, 3) := by decide +kernel
theorem dX10_isOdd_61 : decode cX10_isOdd 61 = .ok (.goto (-33), 3) := by decide +kernel
theorem dX10_isOdd_64 : decode cX10_isOdd 64 = .ok (.iinc 3 1, 3) := by decide +kernel
theorem dX10_isOdd_67 : decode cX10_isOdd 67 = .ok (.goto (-50), 3) := by decide +kernel
theorem dX10_isOdd_70 : decode cX10_isOdd 70 = .ok (.aload_n 0, 1) := by decide +kernel
theorem dX10_isOdd_71 : decode cX10_isOdd 71 = .ok (.iload_n 2, 1) := by decide +kernel
theorem dX10_isOdd_72 : decode cX10_isOdd 72 = .ok (.iconst 2, 1) := by decide +kernel
theorem dX10_isOdd_73 : decode cX10_isOdd 73 = .ok (.irem, 1) := by decide +kernel
theorem dX10_isOdd_74 : decode cX10_isOdd 74 = .ok (.iconst 1, 1) := by decide +kernel
theorem dX10_isOdd_75 : decode cX10_isOdd 75 = .ok (.if_icmp .ne 7, 3) := by decide +kernel
theorem dX10_isOdd_78 : decode cX10_isOdd 78 = .ok (.iconst 1, 1) := by decide +kernel
theorem dX10_isOdd_79 : decode cX10_isOdd 79 = .ok (.goto 4, 3) := by decide +kernel
theorem dX10_isOdd_82 : decode cX10_isOdd 82 = .ok (.iconst 0, 1) := by decide +kernel
theorem dX10_isOdd_83 : decode cX10_isOdd 83 = .ok (.invokevirtual 185, 3) := by decide +kernel
theorem dX10_isOdd_86 : decode cX10_isOdd 86 = .ok (.ireturn, 1) := by decide +kernel
theorem dX10_cycleLength_0 : decode cX10_cycleLength 0 = .ok (.iload_n 1, 1) := by decide +kernel
theorem dX10_cycleLength_1 : decode cX10_cycleLength 1 = .ok (.invokestatic 162, 3) := by decide +kernel
theorem dX10_cycleLength_4 : decode cX10_cycleLength 4 = .ok (.ifCond .eq 24, 3) := by decide +kernel
theorem dX10_cycleLength_7 : decode cX10_cycleLength 7 = .ok (.aload_n 0, 1) := by decide +kernel
theorem dX10_cycleLength_8 : decode cX10_cycleLength 8 = .ok (.iload_n 2, 1) := by decide +kernel
theorem dX10_cycleLength_9 : decode cX10_cycleLength 9 = .ok (.invokevirtual 118, 3) := by decide +kernel
theorem dX10_cycleLength_12 : decode cX10_cycleLength 12 = .ok (.ifCond .eq 16, 3) := by decide +kernel
theorem dX10_cycleLength_15 : decode cX10_cycleLength 15 = .ok (.aload_n 0, 1) := by decide +kernel
theorem dX10_cycleLength_16 : decode cX10_cycleLength 16 = .ok (.aload_n 0, 1) := by decide +kernel
theorem dX10_cycleLength_17 : decode cX10_cycleLength 17 = .ok (.iload_n 1, 1) := by decide +kernel
theorem dX10_cycleLength_18 : decode cX10_cycleLength 18 = .ok (.iload_n 2, 1) := by decide +kernel
theorem dX10_cycleLength_19 : decode cX10_cycleLength 19 = .ok (.invokevirtual 179, 3) := by decide +kernel
theorem dX10_cycleLength_22 : decode cX10_cycleLength 22 = .ok (.invokevirtual 105, 3) := by decide +kernel
theorem dX10_cycleLength_25 : decode cX10_cycleLength 25 = .ok (.goto 8, 3) := by decide +kernel
theorem dX10_cycleLength_28 : decode cX10_cycleLength 28 = .ok (.aload_n 0, 1) := by decide +kernel
theorem dX10_cycleLength_29 : decode cX10_cycleLength 29 = .ok (.iconst 1, 1) := by decide +kernel
theorem dX10_cycleLength_30 : decode cX10_cycleLength 30 = .ok (.invokevirtual 94, 3) := by decide +kernel
theorem dX10_cycleLength_33 : decode cX10_cycleLength 33 = .ok (.ireturn, 1) := by decide +kernel
theorem dX10_isSame_0 : decode cX10_isSame 0 = .ok (.iload_n 1, 1) := by decide +kernel
theorem dX10_isSame_1 : decode cX10_isSame 1 = .ok (.invokestatic 162, 3) := by decide +kernel
theorem dX10_isSame_4 : decode cX10_isSame 4 = .ok (.ifCond .eq 10, 3) := by decide +kernel
theorem dX10_isSame_7 : decode cX10_isSame 7 = .ok (.iload_n 2, 1) := by decide +kernel
theorem dX10_isSame_8 : decode cX10_isSame 8 = .ok (.invokestatic 162, 3) := by decide +kernel
theorem dX10_isSame_11 : decode cX10_isSame 11 = .ok (.ifCond .ne 9, 3) := by decide +kernel
theorem dX10_isSame_14 : decode cX10_isSame 14 = .ok (.aload_n 0, 1) := by decide +kernel
theorem dX10_isSame_15 : decode cX10_isSame 15 = .ok (.iconst 1, 1) := by decide +kernel
theorem dX10_isSame_16 : decode cX10_isSame 16 = .ok (.invokevirtual 182, 3) := by decide +kernel
theorem dX10_isSame_19 : decode cX10_isSame 19 = .ok (.ireturn, 1) := by decide +kernel
theorem dX10_isSame_20 : decode cX10_isSame 20 = .ok (.iconst 1, 1) := by decide +kernel
theorem dX10_isSame_21 : decode cX10_isSame 21 = .ok (.istore_n 3, 1) := by decide +kernel
theorem dX10_isSame_22 : decode cX10_isSame 22 = .ok (.iconst 1, 1) := by decide +kernel
theorem dX10_isSame_23 : decode cX10_isSame 23 = .ok (.istore 4, 2) := by decide +kernel
theorem dX10_isSame_25 : decode cX10_isSame 25 = .ok (.iload 4, 2) := by decide +kernel
theorem dX10_isSame_27 : decode cX10_isSame 27 = .ok (.aload_n 0, 1) := by decide +kernel
theorem dX10_isSame_28 : decode cX10_isSame 28 = .ok (.getfield 7, 3) := by decide +kernel
theorem dX10_isSame_31 : decode cX10_isSame 31 = .ok (.if_icmp .gt 36, 3) := by decide +kernel
theorem dX10_isSame_34 : decode cX10_isSame 34 = .ok (.iload_n 3, 1) := by decide +kernel
theorem dX10_isSame_35 : decode cX10_isSame 35 = .ok (.ifCond .eq 24, 3) := by decide +kernel
theorem dX10_isSame_38 : decode cX10_isSame 38 = .ok (.aload_n 0, 1) := by decide +kernel
theorem dX10_isSame_39 : decode cX10_isSame 39 = .ok (.iload_n 1, 1) := by decide +kernel
theorem dX10_isSame_40 : decode cX10_isSame 40 = .ok (.iload 4, 2) := by decide +kernel
theorem dX10_isSame_42 : decode cX10_isSame 42 = .ok (.invokevirtual 175, 3) := by decide +kernel
theorem dX10_isSame_45 : decode cX10_isSame 45 = .ok (.aload_n 0, 1) := by decide +kernel
theorem dX10_isSame_46 : decode cX10_isSame 46 = .ok (.iload_n 2, 1) := by decide +kernel
theorem dX10_isSame_47 : decode cX10_isSame 47 = .ok (.iload 4, 2) := by decide +kernel
theorem dX10_isSame_49 : decode cX10_isSame 49 = .ok (.invokevirtual 175, 3) := by decide +kernel
theorem dX10_isSame_52 : decode cX10_isSame 52 = .ok (.if_icmp .ne 7, 3) := by decide +kernel
theorem dX10_isSame_55 : decode cX10_isSame 55 = .ok (.iconst 1, 1) := by decide +kernel
theorem dX10_isSame_56 : decode cX10_isSame 56 = .ok (.goto 4, 3) := by decide +kernel
theorem dX10_isSame_59 : decode cX10_isSame 59 = .ok (.iconst 0, 1) := by decide +kernel
theorem dX10_isSame_60 : decode cX10_isSame 60 = .ok (.istore_n 3, 1) := by decide +kernel
theorem dX10_isSame_61 : decode cX10_isSame 61 = .ok (.iinc 4 1, 3) := by decide +kernel
theorem dX10_isSame_64 : decode cX10_isSame 64 = .ok (.goto (-39), 3) := by decide +kernel
theorem dX10_isSame_67 : decode cX10_isSame 67 = .ok (.aload_n 0, 1) := by decide +kernel
theorem dX10_isSame_68 : decode cX10_isSame 68 = .ok (.iload_n 3, 1) := by decide +kernel
theorem dX10_isSame_69 : decode cX10_isSame 69 = .ok (.invokevirtual 185, 3) := by decide +kernel
theorem dX10_isSame_72 : decode cX10_isSame 72 = .ok (.ireturn, 1) := by decide +kernel
theorem dX10_perform_0 : decode cX10_perform 0 = .ok (.iload_n 1, 1) := by decide +kernel
theorem dX10_perform_1 : decode cX10_perform 1 = .ok (.invokestatic 162, 3) := by decide +kernel
theorem dX10_perform_4 : decode cX10_perform 4 = .ok (.ifCond .ne 9, 3) := by decide +kernel
theorem dX10_perform_7 : decode cX10_perform 7 = .ok (.aload_n 0, 1) := by decide +kernel
theorem dX10_perform_8 : decode cX10_perform 8 = .ok (.iconst 1, 1) := by decide +kernel
theorem dX10_perform_9 : decode cX10_perform 9 = .ok (.invokevirtual 94, 3) := by decide +kernel
theorem dX10_perform_12 : decode cX10_perform 12 = .ok (.ireturn, 1) := by decide +kernel
theorem dX10_perform_13 : decode cX10_perform 13 = .ok (.iload_n 2, 1) := by decide +kernel
theorem dX10_perform_14 : decode cX10_perform 14 = .ok (.bipush (-100), 2) := by decide +kernel
theorem dX10_perform_16 : decode cX10_perform 16 = .ok (.bipush 100, 2) := by decide +kernel
theorem dX10_perform_18 : decode cX10_perform 18 = .ok (.invokestatic 90, 3) := by decide +kernel
theorem dX10_perform_21 : decode cX10_perform 21 = .ok (.ifCond .ne 9, 3) := by decide +kernel
theorem dX10_perform_24 : decode cX10_perform 24 = .ok (.aload_n 0, 1) := by decide +kernel
theorem dX10_perform_25 : decode cX10_perform 25 = .ok (.iconst 2, 1) := by decide +kernel
theorem dX10_perform_26 : decode cX10_perform 26 = .ok (.invokevirtual 94, 3) := by decide +kernel
theorem dX10_perform_29 : decode cX10_perform 29 = .ok (.ireturn, 1) := by decide +kernel
theorem dX10_perform_30 : decode cX10_perform 30 = .ok (.iconst 0, 1) := by decide +kernel
theorem dX10_perform_31 : decode cX10_perform 31 = .ok (.istore_n 3, 1) := by decide +kernel
theorem dX10_perform_32 : decode cX10_perform 32 = .ok (.iconst 1, 1) := by decide +kernel
theorem dX10_perform_33 : decode cX10_perform 33 = .ok (.istore 4, 2) := by decide +kernel
theorem dX10_perform_35 : decode cX10_perform 35 = .ok (.iload 4, 2) := by decide +kernel
theorem dX10_perform_37 : decode cX10_perform 37 = .ok (.aload_n 0, 1) := by decide +kernel
theorem dX10_perform_38 : decode cX10_perform 38 = .ok (.getfield 7, 3) := by decide +kernel
theorem dX10_perform_41 : decode cX10_perform 41 = .ok (.if_icmp .gt 81, 3) := by decide +kernel
theorem dX10_perform_44 : decode cX10_perform 44 = .ok (.aload_n 0, 1) := by decide +kernel
theorem dX10_perform_45 : decode cX10_perform 45 = .ok (.iload_n 1, 1) := by decide +kernel
theorem dX10_perform_46 : decode cX10_perform 46 = .ok (.iload 4, 2) := by decide +kernel
theorem dX10_perform_48 : decode cX10_perform 48 = .ok (.invokevirtual 179, 3) := by decide +kernel
theorem dX10_perform_51 : decode cX10_perform 51 = .ok (.istore 5, 2) := by decide +kernel
theorem dX10_perform_53 : decode cX10_perform 53 = .ok (.iload_n 2, 1) := by decide +kernel
theorem dX10_perform_54 : decode cX10_perform 54 = .ok (.iload 5, 2) := by decide +kernel
theorem dX10_perform_56 : decode cX10_perform 56 = .ok (.irem, 1) := by decide +kernel
theorem dX10_perform_57 : decode cX10_perform 57 = .ok (.iload_n 2, 1) := by decide +kernel
theorem dX10_perform_58 : decode cX10_perform 58 = .ok (.iload 5, 2) := by decide +kernel
theorem dX10_perform_60 : decode cX10_perform 60 = .ok (.irem, 1) := by decide +kernel
theorem dX10_perform_61 : decode cX10_perform 61 = .ok (.ifCond .ge 8, 3) := by decide +kernel
theorem dX10_perform_64 : decode cX10_perform 64 = .ok (.iload 5, 2) := by decide +kernel
theorem dX10_perform_66 : decode cX10_perform 66 = .ok (.goto 4, 3) := by decide +kernel
theorem dX10_perform_69 : decode cX10_perform 69 = .ok (.iconst 0, 1) := by decide +kernel
theorem dX10_perform_70 : decode cX10_perform 70 = .ok (.iadd, 1) := by decide +kernel
theorem dX10_perform_71 : decode cX10_perform 71 = .ok (.istore 6, 2) := by decide +kernel
theorem dX10_perform_73 : decode cX10_perform 73 = .ok (.iload 4, 2) := by decide +kernel
theorem dX10_perform_75 : decode cX10_perform 75 = .ok (.istore 7, 2) := by decide +kernel
theorem dX10_perform_77 : decode cX10_perform 77 = .ok (.iconst 0, 1) := by decide +kernel
theorem dX10_perform_78 : decode cX10_perform 78 = .ok (.istore 8, 2) := by decide +kernel
theorem dX10_perform_80 : decode cX10_perform 80 = .ok (.iload 8, 2) := by decide +kernel
theorem dX10_perform_82 : decode cX10_perform 82 = .ok (.iload 6, 2) := by decide +kernel
theorem dX10_perform_84 : decode cX10_perform 84 = .ok (.if_icmp .ge 18, 3) := by decide +kernel
theorem dX10_perform_87 : decode cX10_perform 87 = .ok (.aload_n 0, 1) := by decide +kernel
theorem dX10_perform_88 : decode cX10_perform 88 = .ok (.iload_n 1, 1) := by decide +kernel
theorem dX10_perform_89 : decode cX10_perform 89 = .ok (.iload 7, 2) := by decide +kernel
theorem dX10_perform_91 : decode cX10_perform 91 = .ok (.invokevirtual 175, 3) := by decide +kernel
theorem dX10_perform_94 : decode cX10_perform 94 = .ok (.istore 7, 2) := by decide +kernel
theorem dX10_perform_96 : decode cX10_perform 96 = .ok (.iinc 8 1, 3) := by decide +kernel
theorem dX10_perform_99 : decode cX10_perform 99 = .ok (.goto (-19), 3) := by decide +kernel
theorem dX10_perform_102 : decode cX10_perform 102 = .ok (.aload_n 0, 1) := by decide +kernel
theorem dX10_perform_103 : decode cX10_perform 103 = .ok (.getfield 69, 3) := by decide +kernel
theorem dX10_perform_106 : decode cX10_perform 106 = .ok (.iload 7, 2) := by decide +kernel
theorem dX10_perform_108 : decode cX10_perform 108 = .ok (.aload_n 0, 1) := by decide +kernel
theorem dX10_perform_109 : decode cX10_perform 109 = .ok (.getfield 13, 3) := by decide +kernel
theorem dX10_perform_112 : decode cX10_perform 112 = .ok (.iload 4, 2) := by decide +kernel
theorem dX10_perform_114 : decode cX10_perform 114 = .ok (.iaload, 1) := by decide +kernel
theorem dX10_perform_115 : decode cX10_perform 115 = .ok (.iastore, 1) := by decide +kernel
theorem dX10_perform_116 : decode cX10_perform 116 = .ok (.iinc 4 1, 3) := by decide +kernel
theorem dX10_perform_119 : decode cX10_perform 119 = .ok (.goto (-84), 3) := by decide +kernel
theorem dX10_perform_122 : decode cX10_perform 122 = .ok (.iconst 1, 1) := by decide +kernel
theorem dX10_perform_123 : decode cX10_perform 123 = .ok (.istore 4, 2) := by decide +kernel
theorem dX10_perform_125 : decode cX10_perform 125 = .ok (.iload 4, 2) := by decide +kernel
theorem dX10_perform_127 : decode cX10_perform 127 = .ok (.aload_n 0, 1) := by decide +kernel
theorem dX10_perform_128 : decode cX10_perform 128 = .ok (.getfield 7, 3) := by decide +kernel
theorem dX10_perform_131 : decode cX10_perform 131 = .ok (.if_icmp .gt 48, 3) := by decide +kernel
theorem dX10_perform_134 : decode cX10_perform 134 = .ok (.iload_n 3, 1) := by decide +kernel
theorem dX10_perform_135 : decode cX10_perform 135 = .ok (.aload_n 0, 1) := by decide +kernel
theorem dX10_perform_136 : decode cX10_perform 136 = .ok (.getfield 69, 3) := by decide +kernel
theorem dX10_perform_139 : decode cX10_perform 139 = .ok (.iload 4, 2) := by decide +kernel
theorem dX10_perform_141 : decode cX10_perform 141 = .ok (.iaload, 1) := by decide +kernel
theorem dX10_perform_142 : decode cX10_perform 142 = .ok (.aload_n 0, 1) := by decide +kernel
theorem dX10_perform_143 : decode cX10_perform 143 = .ok (.getfield 13, 3) := by decide +kernel
theorem dX10_perform_146 : decode cX10_perform 146 = .ok (.iload 4, 2) := by decide +kernel
theorem dX10_perform_148 : decode cX10_perform 148 = .ok (.iaload, 1) := by decide +kernel
theorem dX10_perform_149 : decode cX10_perform 149 = .ok (.if_icmp .eq 7, 3) := by decide +kernel
theorem dX10_perform_152 : decode cX10_perform 152 = .ok (.iconst 1, 1) := by decide +kernel
theorem dX10_perform_153 : decode cX10_perform 153 = .ok (.goto 4, 3) := by decide +kernel
theorem dX10_perform_156 : decode cX10_perform 156 = .ok (.iconst 0, 1) := by decide +kernel
theorem dX10_perform_157 : decode cX10_perform 157 = .ok (.iadd, 1) := by decide +kernel
theorem dX10_perform_158 : decode cX10_perform 158 = .ok (.istore_n 3, 1) := by decide +kernel
theorem dX10_perform_159 : decode cX10_perform 159 = .ok (.aload_n 0, 1) := by decide +kernel
theorem dX10_perform_160 : decode cX10_perform 160 = .ok (.getfield 13, 3) := by decide +kernel
theorem dX10_perform_163 : decode cX10_perform 163 = .ok (.iload 4, 2) := by decide +kernel
theorem dX10_perform_165 : decode cX10_perform 165 = .ok (.aload_n 0, 1) := by decide +kernel
theorem dX10_perform_166 : decode cX10_perform 166 = .ok (.getfield 69, 3) := by decide +kernel
theorem dX10_perform_169 : decode cX10_perform 169 = .ok (.iload 4, 2) := by decide +kernel
theorem dX10_perform_171 : decode cX10_perform 171 = .ok (.iaload, 1) := by decide +kernel
theorem dX10_perform_172 : decode cX10_perform 172 = .ok (.iastore, 1) := by decide +kernel
theorem dX10_perform_173 : decode cX10_perform 173 = .ok (.iinc 4 1, 3) := by decide +kernel
theorem dX10_perform_176 : decode cX10_perform 176 = .ok (.goto (-51), 3) := by decide +kernel
theorem dX10_perform_179 : decode cX10_perform 179 = .ok (.aload_n 0, 1) := by decide +kernel
theorem dX10_perform_180 : decode cX10_perform 180 = .ok (.iload_n 3, 1) := by decide +kernel
theorem dX10_perform_181 : decode cX10_perform 181 = .ok (.invokevirtual 105, 3) := by decide +kernel
theorem dX10_perform_184 : decode cX10_perform 184 = .ok (.ireturn, 1) := by decide +kernel
theorem dX10_exchange_0 : decode cX10_exchange 0 = .ok (.aload_n 0, 1) := by decide +kernel
theorem dX10_exchange_1 : decode cX10_exchange 1 = .ok (.iload_n 1, 1) := by decide +kernel
theorem dX10_exchange_2 : decode cX10_exchange 2 = .ok (.invokevirtual 118, 3) := by decide +kernel
theorem dX10_exchange_5 : decode cX10_exchange 5 = .ok (.ifCond .eq 11, 3) := by decide +kernel
theorem dX10_exchange_8 : decode cX10_exchange 8 = .ok (.aload_n 0, 1) := by decide +kernel
theorem dX10_exchange_9 : decode cX10_exchange 9 = .ok (.iload_n 2, 1) := by decide +kernel
theorem dX10_exchange_10 : decode cX10_exchange 10 = .ok (.invokevirtual 118, 3) := by decide +kernel
theorem dX10_exchange_13 : decode cX10_exchange 13 = .ok (.ifCond .ne 9, 3) := by decide +kernel
theorem dX10_exchange_16 : decode cX10_exchange 16 = .ok (.aload_n 0, 1) := by decide +kernel
theorem dX10_exchange_17 : decode cX10_exchange 17 = .ok (.iconst 1, 1) := by decide +kernel
theorem dX10_exchange_18 : decode cX10_exchange 18 = .ok (.invokevirtual 94, 3) := by decide +kernel
theorem dX10_exchange_21 : decode cX10_exchange 21 = .ok (.ireturn, 1) := by decide +kernel
theorem dX10_exchange_22 : decode cX10_exchange 22 = .ok (.aload_n 0, 1) := by decide +kernel
theorem dX10_exchange_23 : decode cX10_exchange 23 = .ok (.getfield 13, 3) := by decide +kernel
theorem dX10_exchange_26 : decode cX10_exchange 26 = .ok (.iload_n 1, 1) := by decide +kernel
theorem dX10_exchange_27 : decode cX10_exchange 27 = .ok (.iaload, 1) := by decide +kernel
theorem dX10_exchange_28 : decode cX10_exchange 28 = .ok (.istore_n 3, 1) := by decide +kernel
theorem dX10_exchange_29 : decode cX10_exchange 29 = .ok (.aload_n 0, 1) := by decide +kernel
theorem dX10_exchange_30 : decode cX10_exchange 30 = .ok (.getfield 13, 3) := by decide +kernel
theorem dX10_exchange_33 : decode cX10_exchange 33 = .ok (.iload_n 1, 1) := by decide +kernel
theorem dX10_exchange_34 : decode cX10_exchange 34 = .ok (.aload_n 0, 1) := by decide +kernel
theorem dX10_exchange_35 : decode cX10_exchange 35 = .ok (.getfield 13, 3) := by decide +kernel
theorem dX10_exchange_38 : decode cX10_exchange 38 = .ok (.iload_n 2, 1) := by decide +kernel
theorem dX10_exchange_39 : decode cX10_exchange 39 = .ok (.iaload, 1) := by decide +kernel
theorem dX10_exchange_40 : decode cX10_exchange 40 = .ok (.iastore, 1) := by decide +kernel
theorem dX10_exchange_41 : decode cX10_exchange 41 = .ok (.aload_n 0, 1) := by decide +kernel
theorem dX10_exchange_42 : decode cX10_exchange 42 = .ok (.getfield 13, 3) := by decide +kernel
theorem dX10_exchange_45 : decode cX10_exchange 45 = .ok (.iload_n 2, 1) := by decide +kernel
theorem dX10_exchange_46 : decode cX10_exchange 46 = .ok (.iload_n 3, 1) := by decide +kernel
theorem dX10_exchange_47 : decode cX10_exchange 47 = .ok (.iastore, 1) := by decide +kernel
theorem dX10_exchange_48 : decode cX10_exchange 48 = .ok (.aload_n 0, 1) := by decide +kernel
theorem dX10_exchange_49 : decode cX10_exchange 49 = .ok (.aload_n 0, 1) := by decide +kernel
theorem dX10_exchange_50 : decode cX10_exchange 50 = .ok (.getfield 13, 3) := by decide +kernel
theorem dX10_exchange_53 : decode cX10_exchange 53 = .ok (.iload_n 1, 1) := by decide +kernel
theorem dX10_exchange_54 : decode cX10_exchange 54 = .ok (.iaload, 1) := by decide +kernel
theorem dX10_exchange_55 : decode cX10_exchange 55 = .ok (.invokevirtual 105, 3) := by decide +kernel
theorem dX10_exchange_58 : decode cX10_exchange 58 = .ok (.ireturn, 1) := by decide +kernel
theorem dX10_token_0 : decode cX10_token 0 = .ok (.aload_n 0, 1) := by decide +kernel
theorem dX10_token_1 : decode cX10_token 1 = .ok (.iload_n 1, 1) := by decide +kernel
theorem dX10_token_2 : decode cX10_token 2 = .ok (.invokevirtual 118, 3) := by decide +kernel
theorem dX10_token_5 : decode cX10_token 5 = .ok (.ifCond .eq 16, 3) := by decide +kernel
theorem dX10_token_8 : decode cX10_token 8 = .ok (.aload_n 0, 1) := by decide +kernel
theorem dX10_token_9 : decode cX10_token 9 = .ok (.aload_n 0, 1) := by decide +kernel
theorem dX10_token_10 : decode cX10_token 10 = .ok (.getfield 13, 3) := by decide +kernel
theorem dX10_token_13 : decode cX10_token 13 = .ok (.iload_n 1, 1) := by decide +kernel
theorem dX10_token_14 : decode cX10_token 14 = .ok (.iaload, 1) := by decide +kernel
theorem dX10_token_15 : decode cX10_token 15 = .ok (.invokevirtual 105, 3) := by decide +kernel
theorem dX10_token_18 : decode cX10_token 18 = .ok (.goto 8, 3) := by decide +kernel
theorem dX10_token_21 : decode cX10_token 21 = .ok (.aload_n 0, 1) := by decide +kernel
theorem dX10_token_22 : decode cX10_token 22 = .ok (.iconst 1, 1) := by decide +kernel
theorem dX10_token_23 : decode cX10_token 23 = .ok (.invokevirtual 94, 3) := by decide +kernel
theorem dX10_token_26 : decode cX10_token 26 = .ok (.ireturn, 1) := by decide +kernel
theorem dX10_numberOf_0 : decode cX10_numberOf 0 = .ok (.iconst 0, 1) := by decide +kernel
theorem dX10_numberOf_1 : decode cX10_numberOf 1 = .ok (.istore_n 2, 1) := by decide +kernel
theorem dX10_numberOf_2 : decode cX10_numberOf 2 = .ok (.iconst 1, 1) := by decide +kernel
theorem dX10_numberOf_3 : decode cX10_numberOf 3 = .ok (.istore_n 3, 1) := by decide +kernel
theorem dX10_numberOf_4 : decode cX10_numberOf 4 = .ok (.iload_n 3, 1) := by decide +kernel
theorem dX10_numberOf_5 : decode cX10_numberOf 5 = .ok (.aload_n 0, 1) := by decide +kernel
theorem dX10_numberOf_6 : decode cX10_numberOf 6 = .ok (.getfield 7, 3) := by decide +kernel
theorem dX10_numberOf_9 : decode cX10_numberOf 9 = .ok (.if_icmp .gt 66, 3) := by decide +kernel
theorem dX10_numberOf_12 : decode cX10_numberOf 12 = .ok (.iconst 0, 1) := by decide +kernel
theorem dX10_numberOf_13 : decode cX10_numberOf 13 = .ok (.istore 4, 2) := by decide +kernel
theorem dX10_numberOf_15 : decode cX10_numberOf 15 = .ok (.iload_n 3, 1) := by decide +kernel
theorem dX10_numberOf_16 : decode cX10_numberOf 16 = .ok (.iconst 1, 1) := by decide +kernel
theorem dX10_numberOf_17 : decode cX10_numberOf 17 = .ok (.iadd, 1) := by decide +kernel
theorem dX10_numberOf_18 : decode cX10_numberOf 18 = .ok (.istore 5, 2) := by decide +kernel
theorem dX10_numberOf_20 : decode cX10_numberOf 20 = .ok (.iload 5, 2) := by decide +kernel
theorem dX10_numberOf_22 : decode cX10_numberOf 22 = .ok (.aload_n 0, 1) := by decide +kernel
theorem dX10_numberOf_23 : decode cX10_numberOf 23 = .ok (.getfield 7, 3) := by decide +kernel
theorem dX10_numberOf_26 : decode cX10_numberOf 26 = .ok (.if_icmp .gt 29, 3) := by decide +kernel
theorem dX10_numberOf_29 : decode cX10_numberOf 29 = .ok (.iload 4, 2) := by decide +kernel
theorem dX10_numberOf_31 : decode cX10_numberOf 31 = .ok (.aload_n 1, 1) := by decide +kernel
theorem dX10_numberOf_32 : decode cX10_numberOf 32 = .ok (.iload 5, 2) := by decide +kernel
theorem dX10_numberOf_34 : decode cX10_numberOf 34 = .ok (.iaload, 1) := by decide +kernel
theorem dX10_numberOf_35 : decode cX10_numberOf 35 = .ok (.aload_n 1, 1) := by decide +kernel
theorem dX10_numberOf_36 : decode cX10_numberOf 36 = .ok (.iload_n 3, 1) := by decide +kernel
theorem dX10_numberOf_37 : decode cX10_numberOf 37 = .ok (.iaload, 1) := by decide +kernel
theorem dX10_numberOf_38 : decode cX10_numberOf 38 = .ok (.if_icmp .ge 7, 3) := by decide +kernel
theorem dX10_numberOf_41 : decode cX10_numberOf 41 = .ok (.iconst 1, 1) := by decide +kernel
theorem dX10_numberOf_42 : decode cX10_numberOf 42 = .ok (.goto 4, 3) := by decide +kernel
theorem dX10_numberOf_45 : decode cX10_numberOf 45 = .ok (.iconst 0, 1) := by decide +kernel
theorem dX10_numberOf_46 : decode cX10_numberOf 46 = .ok (.iadd, 1) := by decide +kernel
theorem dX10_numberOf_47 : decode cX10_numberOf 47 = .ok (.istore 4, 2) := by decide +kernel
theorem dX10_numberOf_49 : decode cX10_numberOf 49 = .ok (.iinc 5 1, 3) := by decide +kernel
theorem dX10_numberOf_52 : decode cX10_numberOf 52 = .ok (.goto (-32), 3) := by decide +kernel
theorem dX10_numberOf_55 : decode cX10_numberOf 55 = .ok (.iload_n 2, 1) := by decide +kernel
theorem dX10_numberOf_56 : decode cX10_numberOf 56 = .ok (.aload_n 0, 1) := by decide +kernel
theorem dX10_numberOf_57 : decode cX10_numberOf 57 = .ok (.getfield 7, 3) := by decide +kernel
theorem dX10_numberOf_60 : decode cX10_numberOf 60 = .ok (.iload_n 3, 1) := by decide +kernel
theorem dX10_numberOf_61 : decode cX10_numberOf 61 = .ok (.isub, 1) := by decide +kernel
theorem dX10_numberOf_62 : decode cX10_numberOf 62 = .ok (.iconst 1, 1) := by decide +kernel
theorem dX10_numberOf_63 : decode cX10_numberOf 63 = .ok (.iadd, 1) := by decide +kernel
theorem dX10_numberOf_64 : decode cX10_numberOf 64 = .ok (.imul, 1) := by decide +kernel
theorem dX10_numberOf_65 : decode cX10_numberOf 65 = .ok (.iload 4, 2) := by decide +kernel
theorem dX10_numberOf_67 : decode cX10_numberOf 67 = .ok (.iadd, 1) := by decide +kernel
theorem dX10_numberOf_68 : decode cX10_numberOf 68 = .ok (.istore_n 2, 1) := by decide +kernel
theorem dX10_numberOf_69 : decode cX10_numberOf 69 = .ok (.iinc 3 1, 3) := by decide +kernel
theorem dX10_numberOf_72 : decode cX10_numberOf 72 = .ok (.goto (-68), 3) := by decide +kernel
theorem dX10_numberOf_75 : decode cX10_numberOf 75 = .ok (.iload_n 2, 1) := by decide +kernel
theorem dX10_numberOf_76 : decode cX10_numberOf 76 = .ok (.ireturn, 1) := by decide +kernel
theorem dX10_packed_0 : decode cX10_packed 0 = .ok (.iconst 0, 1) := by decide +kernel
theorem dX10_packed_1 : decode cX10_packed 1 = .ok (.istore_n 2, 1) := by decide +kernel
theorem dX10_packed_2 : decode cX10_packed 2 = .ok (.iconst 1, 1) := by decide +kernel
theorem dX10_packed_3 : decode cX10_packed 3 = .ok (.istore_n 3, 1) := by decide +kernel
theorem dX10_packed_4 : decode cX10_packed 4 = .ok (.iload_n 3, 1) := by decide +kernel
theorem dX10_packed_5 : decode cX10_packed 5 = .ok (.aload_n 0, 1) := by decide +kernel
theorem dX10_packed_6 : decode cX10_packed 6 = .ok (.getfield 7, 3) := by decide +kernel
theorem dX10_packed_9 : decode cX10_packed 9 = .ok (.if_icmp .gt 19, 3) := by decide +kernel
theorem dX10_packed_12 : decode cX10_packed 12 = .ok (.iload_n 2, 1) := by decide +kernel
theorem dX10_packed_13 : decode cX10_packed 13 = .ok (.aload_n 1, 1) := by decide +kernel
theorem dX10_packed_14 : decode cX10_packed 14 = .ok (.iload_n 3, 1) := by decide +kernel
theorem dX10_packed_15 : decode cX10_packed 15 = .ok (.iaload, 1) := by decide +kernel
theorem dX10_packed_16 : decode cX10_packed 16 = .ok (.iconst 3, 1) := by decide +kernel
theorem dX10_packed_17 : decode cX10_packed 17 = .ok (.iload_n 3, 1) := by decide +kernel
theorem dX10_packed_18 : decode cX10_packed 18 = .ok (.imul, 1) := by decide +kernel
theorem dX10_packed_19 : decode cX10_packed 19 = .ok (.ishl, 1) := by decide +kernel
theorem dX10_packed_20 : decode cX10_packed 20 = .ok (.ior, 1) := by decide +kernel
theorem dX10_packed_21 : decode cX10_packed 21 = .ok (.istore_n 2, 1) := by decide +kernel
theorem dX10_packed_22 : decode cX10_packed 22 = .ok (.iinc 3 1, 3) := by decide +kernel
theorem dX10_packed_25 : decode cX10_packed 25 = .ok (.goto (-21), 3) := by decide +kernel
theorem dX10_packed_28 : decode cX10_packed 28 = .ok (.iload_n 2, 1) := by decide +kernel
theorem dX10_packed_29 : decode cX10_packed 29 = .ok (.ireturn, 1) := by decide +kernel
theorem dX10_unpacks_0 : decode cX10_unpacks 0 = .ok (.iconst 1, 1) := by decide +kernel
theorem dX10_unpacks_1 : decode cX10_unpacks 1 = .ok (.istore_n 2, 1) := by decide +kernel
theorem dX10_unpacks_2 : decode cX10_unpacks 2 = .ok (.iload_n 2, 1) := by decide +kernel
theorem dX10_unpacks_3 : decode cX10_unpacks 3 = .ok (.aload_n 0, 1) := by decide +kernel
theorem dX10_unpacks_4 : decode cX10_unpacks 4 = .ok (.getfield 7, 3) := by decide +kernel
theorem dX10_unpacks_7 : decode cX10_unpacks 7 = .ok (.if_icmp .gt 23, 3) := by decide +kernel
theorem dX10_unpacks_10 : decode cX10_unpacks 10 = .ok (.aload_n 0, 1) := by decide +kernel
theorem dX10_unpacks_11 : decode cX10_unpacks 11 = .ok (.getfield 78, 3) := by decide +kernel
theorem dX10_unpacks_14 : decode cX10_unpacks 14 = .ok (.iload_n 2, 1) := by decide +kernel
theorem dX10_unpacks_15 : decode cX10_unpacks 15 = .ok (.iload_n 1, 1) := by decide +kernel
theorem dX10_unpacks_16 : decode cX10_unpacks 16 = .ok (.iconst 3, 1) := by decide +kernel
theorem dX10_unpacks_17 : decode cX10_unpacks 17 = .ok (.iload_n 2, 1) := by decide +kernel
theorem dX10_unpacks_18 : decode cX10_unpacks 18 = .ok (.imul, 1) := by decide +kernel
theorem dX10_unpacks_19 : decode cX10_unpacks 19 = .ok (.ishr, 1) := by decide +kernel
theorem dX10_unpacks_20 : decode cX10_unpacks 20 = .ok (.bipush 7, 2) := by decide +kernel
theorem dX10_unpacks_22 : decode cX10_unpacks 22 = .ok (.iand, 1) := by decide +kernel
theorem dX10_unpacks_23 : decode cX10_unpacks 23 = .ok (.iastore, 1) := by decide +kernel
theorem dX10_unpacks_24 : decode cX10_unpacks 24 = .ok (.iinc 2 1, 3) := by decide +kernel
theorem dX10_unpacks_27 : decode cX10_unpacks 27 = .ok (.goto (-25), 3) := by decide +kernel
theorem dX10_unpacks_30 : decode cX10_unpacks 30 = .ok (.return_, 1) := by decide +kernel
theorem dX10_isLetter_0 : decode cX10_isLetter 0 = .ok (.aload_n 0, 1) := by decide +kernel
theorem dX10_isLetter_1 : decode cX10_isLetter 1 = .ok (.getfield 17, 3) := by decide +kernel
theorem dX10_isLetter_4 : decode cX10_isLetter 4 = .ok (.iload_n 1, 1) := by decide +kernel
theorem dX10_isLetter_5 : decode cX10_isLetter 5 = .ok (.iconst 2, 1) := by decide +kernel
theorem dX10_isLetter_6 : decode cX10_isLetter 6 = .ok (.idiv, 1) := by decide +kernel
theorem dX10_isLetter_7 : decode cX10_isLetter 7 = .ok (.baload, 1) := by decide +kernel
theorem dX10_isLetter_8 : decode cX10_isLetter 8 = .ok (.ireturn, 1) := by decide +kernel
theorem dX10_moves_0 : decode cX10_moves 0 = .ok (.iconst 1, 1) := by decide +kernel
theorem dX10_moves_1 : decode cX10_moves 1 = .ok (.istore_n 2, 1) := by decide +kernel
theorem dX10_moves_2 : decode cX10_moves 2 = .ok (.iload_n 2, 1) := by decide +kernel
theorem dX10_moves_3 : decode cX10_moves 3 = .ok (.aload_n 0, 1) := by decide +kernel
theorem dX10_moves_4 : decode cX10_moves 4 = .ok (.getfield 7, 3) := by decide +kernel
theorem dX10_moves_7 : decode cX10_moves 7 = .ok (.if_icmp .gt 31, 3) := by decide +kernel
theorem dX10_moves_10 : decode cX10_moves 10 = .ok (.aload_n 0, 1) := by decide +kernel
theorem dX10_moves_11 : decode cX10_moves 11 = .ok (.getfield 81, 3) := by decide +kernel
theorem dX10_moves_14 : decode cX10_moves 14 = .ok (.aload_n 0, 1) := by decide +kernel
theorem dX10_moves_15 : decode cX10_moves 15 = .ok (.getfield 21, 3) := by decide +kernel
theorem dX10_moves_18 : decode cX10_moves 18 = .ok (.bipush 8, 2) := by decide +kernel
theorem dX10_moves_20 : decode cX10_moves 20 = .ok (.iload_n 1, 1) := by decide +kernel
theorem dX10_moves_21 : decode cX10_moves 21 = .ok (.imul, 1) := by decide +kernel
theorem dX10_moves_22 : decode cX10_moves 22 = .ok (.iload_n 2, 1) := by decide +kernel
theorem dX10_moves_23 : decode cX10_moves 23 = .ok (.iadd, 1) := by decide +kernel
theorem dX10_moves_24 : decode cX10_moves 24 = .ok (.iaload, 1) := by decide +kernel
theorem dX10_moves_25 : decode cX10_moves 25 = .ok (.aload_n 0, 1) := by decide +kernel
theorem dX10_moves_26 : decode cX10_moves 26 = .ok (.getfield 78, 3) := by decide +kernel
theorem dX10_moves_29 : decode cX10_moves 29 = .ok (.iload_n 2, 1) := by decide +kernel
theorem dX10_moves_30 : decode cX10_moves 30 = .ok (.iaload, 1) := by decide +kernel
theorem dX10_moves_31 : decode cX10_moves 31 = .ok (.iastore, 1) := by decide +kernel
theorem dX10_moves_32 : decode cX10_moves 32 = .ok (.iinc 2 1, 3) := by decide +kernel
theorem dX10_moves_35 : decode cX10_moves 35 = .ok (.goto (-33), 3) := by decide +kernel
theorem dX10_moves_38 : decode cX10_moves 38 = .ok (.return_, 1) := by decide +kernel
theorem dX10_tellDepths_0 : decode cX10_tellDepths 0 = .ok (.aload_n 0, 1) := by decide +kernel
theorem dX10_tellDepths_1 : decode cX10_tellDepths 1 = .ok (.getfield 102, 3) := by decide +kernel
theorem dX10_tellDepths_4 : decode cX10_tellDepths 4 = .ok (.ifCond .eq 4, 3) := by decide +kernel
theorem dX10_tellDepths_7 : decode cX10_tellDepths 7 = .ok (.return_, 1) := by decide +kernel
theorem dX10_tellDepths_8 : decode cX10_tellDepths 8 = .ok (.aload_n 0, 1) := by decide +kernel
theorem dX10_tellDepths_9 : decode cX10_tellDepths 9 = .ok (.iconst 1, 1) := by decide +kernel
theorem dX10_tellDepths_10 : decode cX10_tellDepths 10 = .ok (.putfield 102, 3) := by decide +kernel
theorem dX10_tellDepths_13 : decode cX10_tellDepths 13 = .ok (.iconst 0, 1) := by decide +kernel
theorem dX10_tellDepths_14 : decode cX10_tellDepths 14 = .ok (.istore_n 1, 1) := by decide +kernel
theorem dX10_tellDepths_15 : decode cX10_tellDepths 15 = .ok (.iload_n 1, 1) := by decide +kernel
theorem dX10_tellDepths_16 : decode cX10_tellDepths 16 = .ok (.sipush 5040, 3) := by decide +kernel
theorem dX10_tellDepths_19 : decode cX10_tellDepths 19 = .ok (.if_icmp .ge 23, 3) := by decide +kernel
theorem dX10_tellDepths_22 : decode cX10_tellDepths 22 = .ok (.aload_n 0, 1) := by decide +kernel
theorem dX10_tellDepths_23 : decode cX10_tellDepths 23 = .ok (.getfield 72, 3) := by decide +kernel
theorem dX10_tellDepths_26 : decode cX10_tellDepths 26 = .ok (.iload_n 1, 1) := by decide +kernel
theorem dX10_tellDepths_27 : decode cX10_tellDepths 27 = .ok (.iconst (-1), 1) := by decide +kernel
theorem dX10_tellDepths_28 : decode cX10_tellDepths 28 = .ok (.iastore, 1) := by decide +kernel
theorem dX10_tellDepths_29 : decode cX10_tellDepths 29 = .ok (.aload_n 0, 1) := by decide +kernel
theorem dX10_tellDepths_30 : decode cX10_tellDepths 30 = .ok (.getfield 84, 3) := by decide +kernel
theorem dX10_tellDepths_33 : decode cX10_tellDepths 33 = .ok (.iload_n 1, 1) := by decide +kernel
theorem dX10_tellDepths_34 : decode cX10_tellDepths 34 = .ok (.iconst 0, 1) := by decide +kernel
theorem dX10_tellDepths_35 : decode cX10_tellDepths 35 = .ok (.iastore, 1) := by decide +kernel
theorem dX10_tellDepths_36 : decode cX10_tellDepths 36 = .ok (.iinc 1 1, 3) := by decide +kernel
theorem dX10_tellDepths_39 : decode cX10_tellDepths 39 = .ok (.goto (-24), 3) := by decide +kernel
theorem dX10_tellDepths_42 : decode cX10_tellDepths 42 = .ok (.iconst 1, 1) := by decide +kernel
theorem dX10_tellDepths_43 : decode cX10_tellDepths 43 = .ok (.istore_n 1, 1) := by decide +kernel
theorem dX10_tellDepths_44 : decode cX10_tellDepths 44 = .ok (.iload_n 1, 1) := by decide +kernel
theorem dX10_tellDepths_45 : decode cX10_tellDepths 45 = .ok (.aload_n 0, 1) := by decide +kernel
theorem dX10_tellDepths_46 : decode cX10_tellDepths 46 = .ok (.getfield 7, 3) := by decide +kernel
theorem dX10_tellDepths_49 : decode cX10_tellDepths 49 = .ok (.if_icmp .gt 16, 3) := by decide +kernel
theorem dX10_tellDepths_52 : decode cX10_tellDepths 52 = .ok (.aload_n 0, 1) := by decide +kernel
theorem dX10_tellDepths_53 : decode cX10_tellDepths 53 = .ok (.getfield 78, 3) := by decide +kernel
theorem dX10_tellDepths_56 : decode cX10_tellDepths 56 = .ok (.iload_n 1, 1) := by decide +kernel
theorem dX10_tellDepths_57 : decode cX10_tellDepths 57 = .ok (.iload_n 1, 1) := by decide +kernel
theorem dX10_tellDepths_58 : decode cX10_tellDepths 58 = .ok (.iastore, 1) := by decide +kernel
theorem dX10_tellDepths_59 : decode cX10_tellDepths 59 = .ok (.iinc 1 1, 3) := by decide +kernel
theorem dX10_tellDepths_62 : decode cX10_tellDepths 62 = .ok (.goto (-18), 3) := by decide +kernel
theorem dX10_tellDepths_65 : decode cX10_tellDepths 65 = .ok (.aload_n 0, 1) := by decide +kernel
theorem dX10_tellDepths_66 : decode cX10_tellDepths 66 = .ok (.getfield 72, 3) := by decide +kernel
theorem dX10_tellDepths_69 : decode cX10_tellDepths 69 = .ok (.aload_n 0, 1) := by decide +kernel
theorem dX10_tellDepths_70 : decode cX10_tellDepths 70 = .ok (.aload_n 0, 1) := by decide +kernel
theorem dX10_tellDepths_71 : decode cX10_tellDepths 71 = .ok (.getfield 78, 3) := by decide +kernel
theorem dX10_tellDepths_74 : decode cX10_tellDepths 74 = .ok (.invokevirtual 189, 3) := by decide +kernel
theorem dX10_tellDepths_77 : decode cX10_tellDepths 77 = .ok (.iconst 0, 1) := by decide +kernel
theorem dX10_tellDepths_78 : decode cX10_tellDepths 78 = .ok (.iastore, 1) := by decide +kernel
theorem dX10_tellDepths_79 : decode cX10_tellDepths 79 = .ok (.aload_n 0, 1) := by decide +kernel
theorem dX10_tellDepths_80 : decode cX10_tellDepths 80 = .ok (.getfield 75, 3) := by decide +kernel
theorem dX10_tellDepths_83 : decode cX10_tellDepths 83 = .ok (.iconst 0, 1) := by decide +kernel
theorem dX10_tellDepths_84 : decode cX10_tellDepths 84 = .ok (.aload_n 0, 1) := by decide +kernel
theorem dX10_tellDepths_85 : decode cX10_tellDepths 85 = .ok (.aload_n 0, 1) := by decide +kernel
theorem dX10_tellDepths_86 : decode cX10_tellDepths 86 = .ok (.getfield 78, 3) := by decide +kernel
theorem dX10_tellDepths_89 : decode cX10_tellDepths 89 = .ok (.invokevirtual 193, 3) := by decide +kernel
theorem dX10_tellDepths_92 : decode cX10_tellDepths 92 = .ok (.iastore, 1) := by decide +kernel
theorem dX10_tellDepths_93 : decode cX10_tellDepths 93 = .ok (.aload_n 0, 1) := by decide +kernel
theorem dX10_tellDepths_94 : decode cX10_tellDepths 94 = .ok (.iconst 1, 1) := by decide +kernel
theorem dX10_tellDepths_95 : decode cX10_tellDepths 95 = .ok (.putfield 196, 3) := by decide +kernel
theorem dX10_tellDepths_98 : decode cX10_tellDepths 98 = .ok (.iconst 0, 1) := by decide +kernel
theorem dX10_tellDepths_99 : decode cX10_tellDepths 99 = .ok (.istore_n 1, 1) := by decide +kernel
theorem dX10_tellDepths_100 : decode cX10_tellDepths 100 = .ok (.iload_n 1, 1) := by decide +kernel
theorem dX10_tellDepths_101 : decode cX10_tellDepths 101 = .ok (.aload_n 0, 1) := by decide +kernel
theorem dX10_tellDepths_102 : decode cX10_tellDepths 102 = .ok (.getfield 196, 3) := by decide +kernel
theorem dX10_tellDepths_105 : decode cX10_tellDepths 105 = .ok (.if_icmp .ge 133, 3) := by decide +kernel
theorem dX10_tellDepths_108 : decode cX10_tellDepths 108 = .ok (.aload_n 0, 1) := by decide +kernel
theorem dX10_tellDepths_109 : decode cX10_tellDepths 109 = .ok (.aload_n 0, 1) := by decide +kernel
theorem dX10_tellDepths_110 : decode cX10_tellDepths 110 = .ok (.getfield 75, 3) := by decide +kernel
theorem dX10_tellDepths_113 : decode cX10_tellDepths 113 = .ok (.iload_n 1, 1) := by decide +kernel
theorem dX10_tellDepths_114 : decode cX10_tellDepths 114 = .ok (.iaload, 1) := by decide +kernel
theorem dX10_tellDepths_115 : decode cX10_tellDepths 115 = .ok (.invokevirtual 199, 3) := by decide +kernel
theorem dX10_tellDepths_118 : decode cX10_tellDepths 118 = .ok (.aload_n 0, 1) := by decide +kernel
theorem dX10_tellDepths_119 : decode cX10_tellDepths 119 = .ok (.getfield 72, 3) := by decide +kernel
theorem dX10_tellDepths_122 : decode cX10_tellDepths 122 = .ok (.aload_n 0, 1) := by decide +kernel
theorem dX10_tellDepths_123 : decode cX10_tellDepths 123 = .ok (.aload_n 0, 1) := by decide +kernel
theorem dX10_tellDepths_124 : decode cX10_tellDepths 124 = .ok (.getfield 78, 3) := by decide +kernel
theorem dX10_tellDepths_127 : decode cX10_tellDepths 127 = .ok (.invokevirtual 189, 3) := by decide +kernel
theorem dX10_tellDepths_130 : decode cX10_tellDepths 130 = .ok (.iaload, 1) := by decide +kernel
theorem dX10_tellDepths_131 : decode cX10_tellDepths 131 = .ok (.istore_n 2, 1) := by decide +kernel
theorem dX10_tellDepths_132 : decode cX10_tellDepths 132 = .ok (.aload_n 0, 1) := by decide +kernel
theorem dX10_tellDepths_133 : decode cX10_tellDepths 133 = .ok (.getfield 84, 3) := by decide +kernel
theorem dX10_tellDepths_136 : decode cX10_tellDepths 136 = .ok (.iload_n 2, 1) := by decide +kernel
theorem dX10_tellDepths_137 : decode cX10_tellDepths 137 = .ok (.dup2, 1) := by decide +kernel
theorem dX10_tellDepths_138 : decode cX10_tellDepths 138 = .ok (.iaload, 1) := by decide +kernel
theorem dX10_tellDepths_139 : decode cX10_tellDepths 139 = .ok (.iconst 1, 1) := by decide +kernel
theorem dX10_tellDepths_140 : decode cX10_tellDepths 140 = .ok (.iadd, 1) := by decide +kernel
theorem dX10_tellDepths_141 : decode cX10_tellDepths 141 = .ok (.iastore, 1) := by decide +kernel
theorem dX10_tellDepths_142 : decode cX10_tellDepths 142 = .ok (.aload_n 0, 1) := by decide +kernel
theorem dX10_tellDepths_143 : decode cX10_tellDepths 143 = .ok (.iload_n 2, 1) := by decide +kernel
theorem dX10_tellDepths_144 : decode cX10_tellDepths 144 = .ok (.putfield 202, 3) := by decide +kernel
theorem dX10_tellDepths_147 : decode cX10_tellDepths 147 = .ok (.iconst 0, 1) := by decide +kernel
theorem dX10_tellDepths_148 : decode cX10_tellDepths 148 = .ok (.istore_n 3, 1) := by decide +kernel
theorem dX10_tellDepths_149 : decode cX10_tellDepths 149 = .ok (.iload_n 3, 1) := by decide +kernel
theorem dX10_tellDepths_150 : decode cX10_tellDepths 150 = .ok (.bipush 10, 2) := by decide +kernel
theorem dX10_tellDepths_152 : decode cX10_tellDepths 152 = .ok (.if_icmp .ge 80, 3) := by decide +kernel
theorem dX10_tellDepths_155 : decode cX10_tellDepths 155 = .ok (.aload_n 0, 1) := by decide +kernel
theorem dX10_tellDepths_156 : decode cX10_tellDepths 156 = .ok (.iload_n 3, 1) := by decide +kernel
theorem dX10_tellDepths_157 : decode cX10_tellDepths 157 = .ok (.invokevirtual 205, 3) := by decide +kernel
theorem dX10_tellDepths_160 : decode cX10_tellDepths 160 = .ok (.ifCond .eq 66, 3) := by decide +kernel
theorem dX10_tellDepths_163 : decode cX10_tellDepths 163 = .ok (.aload_n 0, 1) := by decide +kernel
theorem dX10_tellDepths_164 : decode cX10_tellDepths 164 = .ok (.iload_n 3, 1) := by decide +kernel
theorem dX10_tellDepths_165 : decode cX10_tellDepths 165 = .ok (.invokevirtual 208, 3) := by decide +kernel
theorem dX10_tellDepths_168 : decode cX10_tellDepths 168 = .ok (.aload_n 0, 1) := by decide +kernel
theorem dX10_tellDepths_169 : decode cX10_tellDepths 169 = .ok (.aload_n 0, 1) := by decide +kernel
theorem dX10_tellDepths_170 : decode cX10_tellDepths 170 = .ok (.getfield 81, 3) := by decide +kernel
theorem dX10_tellDepths_173 : decode cX10_tellDepths 173 = .ok (.invokevirtual 189, 3) := by decide +kernel
theorem dX10_tellDepths_176 : decode cX10_tellDepths 176 = .ok (.istore 4, 2) := by decide +kernel
theorem dX10_tellDepths_178 : decode cX10_tellDepths 178 = .ok (.aload_n 0, 1) := by decide +kernel
theorem dX10_tellDepths_179 : decode cX10_tellDepths 179 = .ok (.getfield 72, 3) := by decide +kernel
theorem dX10_tellDepths_182 : decode cX10_tellDepths 182 = .ok (.iload 4, 2) := by decide +kernel
theorem dX10_tellDepths_184 : decode cX10_tellDepths 184 = .ok (.iaload, 1) := by decide +kernel
theorem dX10_tellDepths_185 : decode cX10_tellDepths 185 = .ok (.iconst (-1), 1) := by decide +kernel
theorem dX10_tellDepths_186 : decode cX10_tellDepths 186 = .ok (.if_icmp .ne 40, 3) := by decide +kernel
theorem dX10_tellDepths_189 : decode cX10_tellDepths 189 = .ok (.aload_n 0, 1) := by decide +kernel
theorem dX10_tellDepths_190 : decode cX10_tellDepths 190 = .ok (.getfield 72, 3) := by decide +kernel
theorem dX10_tellDepths_193 : decode cX10_tellDepths 193 = .ok (.iload 4, 2) := by decide +kernel
theorem dX10_tellDepths_195 : decode cX10_tellDepths 195 = .ok (.iload_n 2, 1) := by decide +kernel
theorem dX10_tellDepths_196 : decode cX10_tellDepths 196 = .ok (.iconst 1, 1) := by decide +kernel
theorem dX10_tellDepths_197 : decode cX10_tellDepths 197 = .ok (.iadd, 1) := by decide +kernel
theorem dX10_tellDepths_198 : decode cX10_tellDepths 198 = .ok (.iastore, 1) := by decide +kernel
theorem dX10_tellDepths_199 : decode cX10_tellDepths 199 = .ok (.aload_n 0, 1) := by decide +kernel
theorem dX10_tellDepths_200 : decode cX10_tellDepths 200 = .ok (.getfield 75, 3) := by decide +kernel
theorem dX10_tellDepths_203 : decode cX10_tellDepths 203 = .ok (.aload_n 0, 1) := by decide +kernel
theorem dX10_tellDepths_204 : decode cX10_tellDepths 204 = .ok (.getfield 196, 3) := by decide +kernel
theorem dX10_tellDepths_207 : decode cX10_tellDepths 207 = .ok (.aload_n 0, 1) := by decide +kernel
theorem dX10_tellDepths_208 : decode cX10_tellDepths 208 = .ok (.aload_n 0, 1) := by decide +kernel
theorem dX10_tellDepths_209 : decode cX10_tellDepths 209 = .ok (.getfield 81, 3) := by decide +kernel
theorem dX10_tellDepths_212 : decode cX10_tellDepths 212 = .ok (.invokevirtual 193, 3) := by decide +kernel
theorem dX10_tellDepths_215 : decode cX10_tellDepths 215 = .ok (.iastore, 1) := by decide +kernel
theorem dX10_tellDepths_216 : decode cX10_tellDepths 216 = .ok (.aload_n 0, 1) := by decide +kernel
theorem dX10_tellDepths_217 : decode cX10_tellDepths 217 = .ok (.dup, 1) := by decide +kernel
theorem dX10_tellDepths_218 : decode cX10_tellDepths 218 = .ok (.getfield 196, 3) := by decide +kernel
theorem dX10_tellDepths_221 : decode cX10_tellDepths 221 = .ok (.iconst 1, 1) := by decide +kernel
theorem dX10_tellDepths_222 : decode cX10_tellDepths 222 = .ok (.iadd, 1) := by decide +kernel
theorem dX10_tellDepths_223 : decode cX10_tellDepths 223 = .ok (.putfield 196, 3) := by decide +kernel
theorem dX10_tellDepths_226 : decode cX10_tellDepths 226 = .ok (.iinc 3 1, 3) := by decide +kernel
theorem dX10_tellDepths_229 : decode cX10_tellDepths 229 = .ok (.goto (-80), 3) := by decide +kernel
theorem dX10_tellDepths_232 : decode cX10_tellDepths 232 = .ok (.iinc 1 1, 3) := by decide +kernel
theorem dX10_tellDepths_235 : decode cX10_tellDepths 235 = .ok (.goto (-135), 3) := by decide +kernel
theorem dX10_tellDepths_238 : decode cX10_tellDepths 238 = .ok (.return_, 1) := by decide +kernel
theorem dX10_depthNow_0 : decode cX10_depthNow 0 = .ok (.aload_n 0, 1) := by decide +kernel
theorem dX10_depthNow_1 : decode cX10_depthNow 1 = .ok (.invokevirtual 211, 3) := by decide +kernel
theorem dX10_depthNow_4 : decode cX10_depthNow 4 = .ok (.aload_n 0, 1) := by decide +kernel
theorem dX10_depthNow_5 : decode cX10_depthNow 5 = .ok (.getfield 72, 3) := by decide +kernel
theorem dX10_depthNow_8 : decode cX10_depthNow 8 = .ok (.aload_n 0, 1) := by decide +kernel
theorem dX10_depthNow_9 : decode cX10_depthNow 9 = .ok (.aload_n 0, 1) := by decide +kernel
theorem dX10_depthNow_10 : decode cX10_depthNow 10 = .ok (.getfield 13, 3) := by decide +kernel
theorem dX10_depthNow_13 : decode cX10_depthNow 13 = .ok (.invokevirtual 189, 3) := by decide +kernel
theorem dX10_depthNow_16 : decode cX10_depthNow 16 = .ok (.iaload, 1) := by decide +kernel
theorem dX10_depthNow_17 : decode cX10_depthNow 17 = .ok (.ireturn, 1) := by decide +kernel
theorem dX10_depth_0 : decode cX10_depth 0 = .ok (.aload_n 0, 1) := by decide +kernel
theorem dX10_depth_1 : decode cX10_depth 1 = .ok (.invokevirtual 214, 3) := by decide +kernel
theorem dX10_depth_4 : decode cX10_depth 4 = .ok (.istore_n 1, 1) := by decide +kernel
theorem dX10_depth_5 : decode cX10_depth 5 = .ok (.iload_n 1, 1) := by decide +kernel
theorem dX10_depth_6 : decode cX10_depth 6 = .ok (.iconst (-1), 1) := by decide +kernel
theorem dX10_depth_7 : decode cX10_depth 7 = .ok (.if_icmp .ne 11, 3) := by decide +kernel
theorem dX10_depth_10 : decode cX10_depth 10 = .ok (.aload_n 0, 1) := by decide +kernel
theorem dX10_depth_11 : decode cX10_depth 11 = .ok (.iconst 1, 1) := by decide +kernel
theorem dX10_depth_12 : decode cX10_depth 12 = .ok (.invokevirtual 94, 3) := by decide +kernel
theorem dX10_depth_15 : decode cX10_depth 15 = .ok (.goto 8, 3) := by decide +kernel
theorem dX10_depth_18 : decode cX10_depth 18 = .ok (.aload_n 0, 1) := by decide +kernel
theorem dX10_depth_19 : decode cX10_depth 19 = .ok (.iload_n 1, 1) := by decide +kernel
theorem dX10_depth_20 : decode cX10_depth 20 = .ok (.invokevirtual 105, 3) := by decide +kernel
theorem dX10_depth_23 : decode cX10_depth 23 = .ok (.ireturn, 1) := by decide +kernel
theorem dX10_solve_0 : decode cX10_solve 0 = .ok (.iload_n 1, 1) := by decide +kernel
theorem dX10_solve_1 : decode cX10_solve 1 = .ok (.invokestatic 162, 3) := by decide +kernel
theorem dX10_solve_4 : decode cX10_solve 4 = .ok (.ifCond .ne 9, 3) := by decide +kernel
theorem dX10_solve_7 : decode cX10_solve 7 = .ok (.aload_n 0, 1) := by decide +kernel
theorem dX10_solve_8 : decode cX10_solve 8 = .ok (.iconst 1, 1) := by decide +kernel
theorem dX10_solve_9 : decode cX10_solve 9 = .ok (.invokevirtual 94, 3) := by decide +kernel
theorem dX10_solve_12 : decode cX10_solve 12 = .ok (.ireturn, 1) := by decide +kernel
theorem dX10_solve_13 : decode cX10_solve 13 = .ok (.aload_n 0, 1) := by decide +kernel
theorem dX10_solve_14 : decode cX10_solve 14 = .ok (.invokevirtual 214, 3) := by decide +kernel
theorem dX10_solve_17 : decode cX10_solve 17 = .ok (.istore_n 2, 1) := by decide +kernel
theorem dX10_solve_18 : decode cX10_solve 18 = .ok (.iload_n 2, 1) := by decide +kernel
theorem dX10_solve_19 : decode cX10_solve 19 = .ok (.iconst (-1), 1) := by decide +kernel
theorem dX10_solve_20 : decode cX10_solve 20 = .ok (.if_icmp .ne 9, 3) := by decide +kernel
theorem dX10_solve_23 : decode cX10_solve 23 = .ok (.aload_n 0, 1) := by decide +kernel
theorem dX10_solve_24 : decode cX10_solve 24 = .ok (.iconst 2, 1) := by decide +kernel
theorem dX10_solve_25 : decode cX10_solve 25 = .ok (.invokevirtual 94, 3) := by decide +kernel
theorem dX10_solve_28 : decode cX10_solve 28 = .ok (.ireturn, 1) := by decide +kernel
theorem dX10_solve_29 : decode cX10_solve 29 = .ok (.aload_n 0, 1) := by decide +kernel
theorem dX10_solve_30 : decode cX10_solve 30 = .ok (.invokevirtual 165, 3) := by decide +kernel
theorem dX10_solve_33 : decode cX10_solve 33 = .ok (.iconst 1, 1) := by decide +kernel
theorem dX10_solve_34 : decode cX10_solve 34 = .ok (.istore_n 3, 1) := by decide +kernel
theorem dX10_solve_35 : decode cX10_solve 35 = .ok (.iload_n 3, 1) := by decide +kernel
theorem dX10_solve_36 : decode cX10_solve 36 = .ok (.aload_n 0, 1) := by decide +kernel
theorem dX10_solve_37 : decode cX10_solve 37 = .ok (.getfield 7, 3) := by decide +kernel
theorem dX10_solve_40 : decode cX10_solve 40 = .ok (.if_icmp .gt 21, 3) := by decide +kernel
theorem dX10_solve_43 : decode cX10_solve 43 = .ok (.aload_n 0, 1) := by decide +kernel
theorem dX10_solve_44 : decode cX10_solve 44 = .ok (.getfield 78, 3) := by decide +kernel
theorem dX10_solve_47 : decode cX10_solve 47 = .ok (.iload_n 3, 1) := by decide +kernel
theorem dX10_solve_48 : decode cX10_solve 48 = .ok (.aload_n 0, 1) := by decide +kernel
theorem dX10_solve_49 : decode cX10_solve 49 = .ok (.getfield 13, 3) := by decide +kernel
theorem dX10_solve_52 : decode cX10_solve 52 = .ok (.iload_n 3, 1) := by decide +kernel
theorem dX10_solve_53 : decode cX10_solve 53 = .ok (.iaload, 1) := by decide +kernel
theorem dX10_solve_54 : decode cX10_solve 54 = .ok (.iastore, 1) := by decide +kernel
theorem dX10_solve_55 : decode cX10_solve 55 = .ok (.iinc 3 1, 3) := by decide +kernel
theorem dX10_solve_58 : decode cX10_solve 58 = .ok (.goto (-23), 3) := by decide +kernel
theorem dX10_solve_61 : decode cX10_solve 61 = .ok (.iload_n 2, 1) := by decide +kernel
theorem dX10_solve_62 : decode cX10_solve 62 = .ok (.ifCond .le 111, 3) := by decide +kernel
theorem dX10_solve_65 : decode cX10_solve 65 = .ok (.iconst 0, 1) := by decide +kernel
theorem dX10_solve_66 : decode cX10_solve 66 = .ok (.istore_n 3, 1) := by decide +kernel
theorem dX10_solve_67 : decode cX10_solve 67 = .ok (.iconst 0, 1) := by decide +kernel
theorem dX10_solve_68 : decode cX10_solve 68 = .ok (.istore 4, 2) := by decide +kernel
theorem dX10_solve_70 : decode cX10_solve 70 = .ok (.iload 4, 2) := by decide +kernel
theorem dX10_solve_72 : decode cX10_solve 72 = .ok (.ifCond .ne 58, 3) := by decide +kernel
theorem dX10_solve_75 : decode cX10_solve 75 = .ok (.aload_n 0, 1) := by decide +kernel
theorem dX10_solve_76 : decode cX10_solve 76 = .ok (.iload_n 3, 1) := by decide +kernel
theorem dX10_solve_77 : decode cX10_solve 77 = .ok (.invokevirtual 205, 3) := by decide +kernel
theorem dX10_solve_80 : decode cX10_solve 80 = .ok (.ifCond .eq 34, 3) := by decide +kernel
theorem dX10_solve_83 : decode cX10_solve 83 = .ok (.aload_n 0, 1) := by decide +kernel
theorem dX10_solve_84 : decode cX10_solve 84 = .ok (.iload_n 3, 1) := by decide +kernel
theorem dX10_solve_85 : decode cX10_solve 85 = .ok (.invokevirtual 208, 3) := by decide +kernel
theorem dX10_solve_88 : decode cX10_solve 88 = .ok (.aload_n 0, 1) := by decide +kernel
theorem dX10_solve_89 : decode cX10_solve 89 = .ok (.getfield 72, 3) := by decide +kernel
theorem dX10_solve_92 : decode cX10_solve 92 = .ok (.aload_n 0, 1) := by decide +kernel
theorem dX10_solve_93 : decode cX10_solve 93 = .ok (.aload_n 0, 1) := by decide +kernel
theorem dX10_solve_94 : decode cX10_solve 94 = .ok (.getfield 81, 3) := by decide +kernel
theorem dX10_solve_97 : decode cX10_solve 97 = .ok (.invokevirtual 189, 3) := by decide +kernel
theorem dX10_solve_100 : decode cX10_solve 100 = .ok (.iaload, 1) := by decide +kernel
theorem dX10_solve_101 : decode cX10_solve 101 = .ok (.iload_n 2, 1) := by decide +kernel
theorem dX10_solve_102 : decode cX10_solve 102 = .ok (.iconst 1, 1) := by decide +kernel
theorem dX10_solve_103 : decode cX10_solve 103 = .ok (.isub, 1) := by decide +kernel
theorem dX10_solve_104 : decode cX10_solve 104 = .ok (.if_icmp .ne 7, 3) := by decide +kernel
theorem dX10_solve_107 : decode cX10_solve 107 = .ok (.iconst 1, 1) := by decide +kernel
theorem dX10_solve_108 : decode cX10_solve 108 = .ok (.goto 4, 3) := by decide +kernel
theorem dX10_solve_111 : decode cX10_solve 111 = .ok (.iconst 0, 1) := by decide +kernel
theorem dX10_solve_112 : decode cX10_solve 112 = .ok (.istore 4, 2) := by decide +kernel
theorem dX10_solve_114 : decode cX10_solve 114 = .ok (.iload_n 3, 1) := by decide +kernel
theorem dX10_solve_115 : decode cX10_solve 115 = .ok (.iload 4, 2) := by decide +kernel
theorem dX10_solve_117 : decode cX10_solve 117 = .ok (.ifCond .eq 7, 3) := by decide +kernel
theorem dX10_solve_120 : decode cX10_solve 120 = .ok (.iconst 0, 1) := by decide +kernel
theorem dX10_solve_121 : decode cX10_solve 121 = .ok (.goto 4, 3) := by decide +kernel
theorem dX10_solve_124 : decode cX10_solve 124 = .ok (.iconst 1, 1) := by decide +kernel
theorem dX10_solve_125 : decode cX10_solve 125 = .ok (.iadd, 1) := by decide +kernel
theorem dX10_solve_126 : decode cX10_solve 126 = .ok (.istore_n 3, 1) := by decide +kernel
theorem dX10_solve_127 : decode cX10_solve 127 = .ok (.goto (-57), 3) := by decide +kernel
theorem dX10_solve_130 : decode cX10_solve 130 = .ok (.aload_n 0, 1) := by decide +kernel
theorem dX10_solve_131 : decode cX10_solve 131 = .ok (.iload_n 3, 1) := by decide +kernel
theorem dX10_solve_132 : decode cX10_solve 132 = .ok (.invokevirtual 135, 3) := by decide +kernel
theorem dX10_solve_135 : decode cX10_solve 135 = .ok (.iconst 1, 1) := by decide +kernel
theorem dX10_solve_136 : decode cX10_solve 136 = .ok (.istore 5, 2) := by decide +kernel
theorem dX10_solve_138 : decode cX10_solve 138 = .ok (.iload 5, 2) := by decide +kernel
theorem dX10_solve_140 : decode cX10_solve 140 = .ok (.aload_n 0, 1) := by decide +kernel
theorem dX10_solve_141 : decode cX10_solve 141 = .ok (.getfield 7, 3) := by decide +kernel
theorem dX10_solve_144 : decode cX10_solve 144 = .ok (.if_icmp .gt 23, 3) := by decide +kernel
theorem dX10_solve_147 : decode cX10_solve 147 = .ok (.aload_n 0, 1) := by decide +kernel
theorem dX10_solve_148 : decode cX10_solve 148 = .ok (.getfield 78, 3) := by decide +kernel
theorem dX10_solve_151 : decode cX10_solve 151 = .ok (.iload 5, 2) := by decide +kernel
theorem dX10_solve_153 : decode cX10_solve 153 = .ok (.aload_n 0, 1) := by decide +kernel
theorem dX10_solve_154 : decode cX10_solve 154 = .ok (.getfield 81, 3) := by decide +kernel
theorem dX10_solve_157 : decode cX10_solve 157 = .ok (.iload 5, 2) := by decide +kernel
theorem dX10_solve_159 : decode cX10_solve 159 = .ok (.iaload, 1) := by decide +kernel
theorem dX10_solve_160 : decode cX10_solve 160 = .ok (.iastore, 1) := by decide +kernel
theorem dX10_solve_161 : decode cX10_solve 161 = .ok (.iinc 5 1, 3) := by decide +kernel
theorem dX10_solve_164 : decode cX10_solve 164 = .ok (.goto (-26), 3) := by decide +kernel
theorem dX10_solve_167 : decode cX10_solve 167 = .ok (.iinc 2 (-1), 3) := by decide +kernel
theorem dX10_solve_170 : decode cX10_solve 170 = .ok (.goto (-109), 3) := by decide +kernel
theorem dX10_solve_173 : decode cX10_solve 173 = .ok (.aload_n 0, 1) := by decide +kernel
theorem dX10_solve_174 : decode cX10_solve 174 = .ok (.iload_n 1, 1) := by decide +kernel
theorem dX10_solve_175 : decode cX10_solve 175 = .ok (.invokevirtual 168, 3) := by decide +kernel
theorem dX10_solve_178 : decode cX10_solve 178 = .ok (.ireturn, 1) := by decide +kernel
theorem dX10_countAt_0 : decode cX10_countAt 0 = .ok (.aload_n 0, 1) := by decide +kernel
theorem dX10_countAt_1 : decode cX10_countAt 1 = .ok (.invokevirtual 211, 3) := by decide +kernel
theorem dX10_countAt_4 : decode cX10_countAt 4 = .ok (.aload_n 0, 1) := by decide +kernel
theorem dX10_countAt_5 : decode cX10_countAt 5 = .ok (.iload_n 1, 1) := by decide +kernel
theorem dX10_countAt_6 : decode cX10_countAt 6 = .ok (.iconst 0, 1) := by decide +kernel
theorem dX10_countAt_7 : decode cX10_countAt 7 = .ok (.sipush 5039, 3) := by decide +kernel
theorem dX10_countAt_10 : decode cX10_countAt 10 = .ok (.invokestatic 90, 3) := by decide +kernel
theorem dX10_countAt_13 : decode cX10_countAt 13 = .ok (.ifCond .eq 12, 3) := by decide +kernel
theorem dX10_countAt_16 : decode cX10_countAt 16 = .ok (.aload_n 0, 1) := by decide +kernel
theorem dX10_countAt_17 : decode cX10_countAt 17 = .ok (.getfield 84, 3) := by decide +kernel
theorem dX10_countAt_20 : decode cX10_countAt 20 = .ok (.iload_n 1, 1) := by decide +kernel
theorem dX10_countAt_21 : decode cX10_countAt 21 = .ok (.iaload, 1) := by decide +kernel
theorem dX10_countAt_22 : decode cX10_countAt 22 = .ok (.goto 4, 3) := by decide +kernel
theorem dX10_countAt_25 : decode cX10_countAt 25 = .ok (.iconst 0, 1) := by decide +kernel
theorem dX10_countAt_26 : decode cX10_countAt 26 = .ok (.invokevirtual 105, 3) := by decide +kernel
theorem dX10_countAt_29 : decode cX10_countAt 29 = .ok (.ireturn, 1) := by decide +kernel
theorem dX10_reachable_0 : decode cX10_reachable 0 = .ok (.aload_n 0, 1) := by decide +kernel
theorem dX10_reachable_1 : decode cX10_reachable 1 = .ok (.invokevirtual 211, 3) := by decide +kernel
theorem dX10_reachable_4 : decode cX10_reachable 4 = .ok (.aload_n 0, 1) := by decide +kernel
theorem dX10_reachable_5 : decode cX10_reachable 5 = .ok (.aload_n 0, 1) := by decide +kernel
theorem dX10_reachable_6 : decode cX10_reachable 6 = .ok (.getfield 196, 3) := by decide +kernel
theorem dX10_reachable_9 : decode cX10_reachable 9 = .ok (.invokevirtual 105, 3) := by decide +kernel
theorem dX10_reachable_12 : decode cX10_reachable 12 = .ok (.ireturn, 1) := by decide +kernel
theorem dX10_greatestDepth_0 : decode cX10_greatestDepth 0 = .ok (.aload_n 0, 1) := by decide +kernel
theorem dX10_greatestDepth_1 : decode cX10_greatestDepth 1 = .ok (.invokevirtual 211, 3) := by decide +kernel
theorem dX10_greatestDepth_4 : decode cX10_greatestDepth 4 = .ok (.aload_n 0, 1) := by decide +kernel
theorem dX10_greatestDepth_5 : decode cX10_greatestDepth 5 = .ok (.aload_n 0, 1) := by decide +kernel
theorem dX10_greatestDepth_6 : decode cX10_greatestDepth 6 = .ok (.getfield 202, 3) := by decide +kernel
theorem dX10_greatestDepth_9 : decode cX10_greatestDepth 9 = .ok (.invokevirtual 105, 3) := by decide +kernel
theorem dX10_greatestDepth_12 : decode cX10_greatestDepth 12 = .ok (.ireturn, 1) := by decide +kernel
theorem dX10_averageDepth_0 : decode cX10_averageDepth 0 = .ok (.aload_n 0, 1) := by decide +kernel
theorem dX10_averageDepth_1 : decode cX10_averageDepth 1 = .ok (.invokevirtual 211, 3) := by decide +kernel
theorem dX10_averageDepth_4 : decode cX10_averageDepth 4 = .ok (.iconst 0, 1) := by decide +kernel
theorem dX10_averageDepth_5 : decode cX10_averageDepth 5 = .ok (.istore_n 1, 1) := by decide +kernel
theorem dX10_averageDepth_6 : decode cX10_averageDepth 6 = .ok (.iconst 0, 1) := by decide +kernel
theorem dX10_averageDepth_7 : decode cX10_averageDepth 7 = .ok (.istore_n 2, 1) := by decide +kernel
theorem dX10_averageDepth_8 : decode cX10_averageDepth 8 = .ok (.iload_n 2, 1) := by decide +kernel
theorem dX10_averageDepth_9 : decode cX10_averageDepth 9 = .ok (.aload_n 0, 1) := by decide +kernel
theorem dX10_averageDepth_10 : decode cX10_averageDepth 10 = .ok (.getfield 202, 3) := by decide +kernel
theorem dX10_averageDepth_13 : decode cX10_averageDepth 13 = .ok (.if_icmp .gt 20, 3) := by decide +kernel
theorem dX10_averageDepth_16 : decode cX10_averageDepth 16 = .ok (.iload_n 1, 1) := by decide +kernel
theorem dX10_averageDepth_17 : decode cX10_averageDepth 17 = .ok (.iload_n 2, 1) := by decide +kernel
theorem dX10_averageDepth_18 : decode cX10_averageDepth 18 = .ok (.aload_n 0, 1) := by decide +kernel
theorem dX10_averageDepth_19 : decode cX10_averageDepth 19 = .ok (.getfield 84, 3) := by decide +kernel
theorem dX10_averageDepth_22 : decode cX10_averageDepth 22 = .ok (.iload_n 2, 1) := by decide +kernel
theorem dX10_averageDepth_23 : decode cX10_averageDepth 23 = .ok (.iaload, 1) := by decide +kernel
theorem dX10_averageDepth_24 : decode cX10_averageDepth 24 = .ok (.imul, 1) := by decide +kernel
theorem dX10_averageDepth_25 : decode cX10_averageDepth 25 = .ok (.iadd, 1) := by decide +kernel
theorem dX10_averageDepth_26 : decode cX10_averageDepth 26 = .ok (.istore_n 1, 1) := by decide +kernel
theorem dX10_averageDepth_27 : decode cX10_averageDepth 27 = .ok (.iinc 2 1, 3) := by decide +kernel
theorem dX10_averageDepth_30 : decode cX10_averageDepth 30 = .ok (.goto (-22), 3) := by decide +kernel
theorem dX10_averageDepth_33 : decode cX10_averageDepth 33 = .ok (.aload_n 0, 1) := by decide +kernel
theorem dX10_averageDepth_34 : decode cX10_averageDepth 34 = .ok (.iconst 0, 1) := by decide +kernel
theorem dX10_averageDepth_35 : decode cX10_averageDepth 35 = .ok (.putfield 87, 3) := by decide +kernel
theorem dX10_averageDepth_38 : decode cX10_averageDepth 38 = .ok (.iload_n 1, 1) := by decide +kernel
theorem dX10_averageDepth_39 : decode cX10_averageDepth 39 = .ok (.i2d, 1) := by decide +kernel
theorem dX10_averageDepth_40 : decode cX10_averageDepth 40 = .ok (.aload_n 0, 1) := by decide +kernel
theorem dX10_averageDepth_41 : decode cX10_averageDepth 41 = .ok (.getfield 196, 3) := by decide +kernel
theorem dX10_averageDepth_44 : decode cX10_averageDepth 44 = .ok (.i2d, 1) := by decide +kernel
theorem dX10_averageDepth_45 : decode cX10_averageDepth 45 = .ok (.ddiv, 1) := by decide +kernel
theorem dX10_averageDepth_46 : decode cX10_averageDepth 46 = .ok (.dreturn, 1) := by decide +kernel
theorem dX10_orbit_0 : decode cX10_orbit 0 = .ok (.aload_n 0, 1) := by decide +kernel
theorem dX10_orbit_1 : decode cX10_orbit 1 = .ok (.iload_n 1, 1) := by decide +kernel
theorem dX10_orbit_2 : decode cX10_orbit 2 = .ok (.invokevirtual 118, 3) := by decide +kernel
theorem dX10_orbit_5 : decode cX10_orbit 5 = .ok (.ifCond .ne 9, 3) := by decide +kernel
theorem dX10_orbit_8 : decode cX10_orbit 8 = .ok (.aload_n 0, 1) := by decide +kernel
theorem dX10_orbit_9 : decode cX10_orbit 9 = .ok (.iconst 1, 1) := by decide +kernel
theorem dX10_orbit_10 : decode cX10_orbit 10 = .ok (.invokevirtual 94, 3) := by decide +kernel
theorem dX10_orbit_13 : decode cX10_orbit 13 = .ok (.ireturn, 1) := by decide +kernel
theorem dX10_orbit_14 : decode cX10_orbit 14 = .ok (.iconst 1, 1) := by decide +kernel
theorem dX10_orbit_15 : decode cX10_orbit 15 = .ok (.iload_n 1, 1) := by decide +kernel
theorem dX10_orbit_16 : decode cX10_orbit 16 = .ok (.iconst 1, 1) := by decide +kernel
theorem dX10_orbit_17 : decode cX10_orbit 17 = .ok (.isub, 1) := by decide +kernel
theorem dX10_orbit_18 : decode cX10_orbit 18 = .ok (.ishl, 1) := by decide +kernel
theorem dX10_orbit_19 : decode cX10_orbit 19 = .ok (.istore_n 2, 1) := by decide +kernel
theorem dX10_orbit_20 : decode cX10_orbit 20 = .ok (.iconst 0, 1) := by decide +kernel
theorem dX10_orbit_21 : decode cX10_orbit 21 = .ok (.istore_n 3, 1) := by decide +kernel
theorem dX10_orbit_22 : decode cX10_orbit 22 = .ok (.iload_n 3, 1) := by decide +kernel
theorem dX10_orbit_23 : decode cX10_orbit 23 = .ok (.iload_n 2, 1) := by decide +kernel
theorem dX10_orbit_24 : decode cX10_orbit 24 = .ok (.if_icmp .eq 87, 3) := by decide +kernel
theorem dX10_orbit_27 : decode cX10_orbit 27 = .ok (.iload_n 2, 1) := by decide +kernel
theorem dX10_orbit_28 : decode cX10_orbit 28 = .ok (.istore_n 3, 1) := by decide +kernel
theorem dX10_orbit_29 : decode cX10_orbit 29 = .ok (.iconst 0, 1) := by decide +kernel
theorem dX10_orbit_30 : decode cX10_orbit 30 = .ok (.istore 4, 2) := by decide +kernel
theorem dX10_orbit_32 : decode cX10_orbit 32 = .ok (.iload 4, 2) := by decide +kernel
theorem dX10_orbit_34 : decode cX10_orbit 34 = .ok (.bipush 10, 2) := by decide +kernel
theorem dX10_orbit_36 : decode cX10_orbit 36 = .ok (.if_icmp .ge 72, 3) := by decide +kernel
theorem dX10_orbit_39 : decode cX10_orbit 39 = .ok (.iconst 1, 1) := by decide +kernel
theorem dX10_orbit_40 : decode cX10_orbit 40 = .ok (.istore 5, 2) := by decide +kernel
theorem dX10_orbit_42 : decode cX10_orbit 42 = .ok (.iload 5, 2) := by decide +kernel
theorem dX10_orbit_44 : decode cX10_orbit 44 = .ok (.aload_n 0, 1) := by decide +kernel
theorem dX10_orbit_45 : decode cX10_orbit 45 = .ok (.getfield 7, 3) := by decide +kernel
theorem dX10_orbit_48 : decode cX10_orbit 48 = .ok (.if_icmp .gt 54, 3) := by decide +kernel
theorem dX10_orbit_51 : decode cX10_orbit 51 = .ok (.aload_n 0, 1) := by decide +kernel
theorem dX10_orbit_52 : decode cX10_orbit 52 = .ok (.iload 4, 2) := by decide +kernel
theorem dX10_orbit_54 : decode cX10_orbit 54 = .ok (.invokevirtual 205, 3) := by decide +kernel
theorem dX10_orbit_57 : decode cX10_orbit 57 = .ok (.ifCond .eq 45, 3) := by decide +kernel
theorem dX10_orbit_60 : decode cX10_orbit 60 = .ok (.iload_n 2, 1) := by decide +kernel
theorem dX10_orbit_61 : decode cX10_orbit 61 = .ok (.iload_n 2, 1) := by decide +kernel
theorem dX10_orbit_62 : decode cX10_orbit 62 = .ok (.iload 5, 2) := by decide +kernel
theorem dX10_orbit_64 : decode cX10_orbit 64 = .ok (.iconst 1, 1) := by decide +kernel
theorem dX10_orbit_65 : decode cX10_orbit 65 = .ok (.isub, 1) := by decide +kernel
theorem dX10_orbit_66 : decode cX10_orbit 66 = .ok (.ishr, 1) := by decide +kernel
theorem dX10_orbit_67 : decode cX10_orbit 67 = .ok (.iconst 1, 1) := by decide +kernel
theorem dX10_orbit_68 : decode cX10_orbit 68 = .ok (.iand, 1) := by decide +kernel
theorem dX10_orbit_69 : decode cX10_orbit 69 = .ok (.iconst 1, 1) := by decide +kernel
theorem dX10_orbit_70 : decode cX10_orbit 70 = .ok (.if_icmp .ne 23, 3) := by decide +kernel
theorem dX10_orbit_73 : decode cX10_orbit 73 = .ok (.iconst 1, 1) := by decide +kernel
theorem dX10_orbit_74 : decode cX10_orbit 74 = .ok (.aload_n 0, 1) := by decide +kernel
theorem dX10_orbit_75 : decode cX10_orbit 75 = .ok (.getfield 21, 3) := by decide +kernel
theorem dX10_orbit_78 : decode cX10_orbit 78 = .ok (.bipush 8, 2) := by decide +kernel
theorem dX10_orbit_80 : decode cX10_orbit 80 = .ok (.iload 4, 2) := by decide +kernel
theorem dX10_orbit_82 : decode cX10_orbit 82 = .ok (.imul, 1) := by decide +kernel
theorem dX10_orbit_83 : decode cX10_orbit 83 = .ok (.iload 5, 2) := by decide +kernel
theorem dX10_orbit_85 : decode cX10_orbit 85 = .ok (.iadd, 1) := by decide +kernel
theorem dX10_orbit_86 : decode cX10_orbit 86 = .ok (.iaload, 1) := by decide +kernel
theorem dX10_orbit_87 : decode cX10_orbit 87 = .ok (.iconst 1, 1) := by decide +kernel
theorem dX10_orbit_88 : decode cX10_orbit 88 = .ok (.isub, 1) := by decide +kernel
theorem dX10_orbit_89 : decode cX10_orbit 89 = .ok (.ishl, 1) := by decide +kernel
theorem dX10_orbit_90 : decode cX10_orbit 90 = .ok (.goto 4, 3) := by decide +kernel
theorem dX10_orbit_93 : decode cX10_orbit 93 = .ok (.iconst 0, 1) := by decide +kernel
theorem dX10_orbit_94 : decode cX10_orbit 94 = .ok (.ior, 1) := by decide +kernel
theorem dX10_orbit_95 : decode cX10_orbit 95 = .ok (.istore_n 2, 1) := by decide +kernel
theorem dX10_orbit_96 : decode cX10_orbit 96 = .ok (.iinc 5 1, 3) := by decide +kernel
theorem dX10_orbit_99 : decode cX10_orbit 99 = .ok (.goto (-57), 3) := by decide +kernel
theorem dX10_orbit_102 : decode cX10_orbit 102 = .ok (.iinc 4 1, 3) := by decide +kernel
theorem dX10_orbit_105 : decode cX10_orbit 105 = .ok (.goto (-73), 3) := by decide +kernel
theorem dX10_orbit_108 : decode cX10_orbit 108 = .ok (.goto (-86), 3) := by decide +kernel
theorem dX10_orbit_111 : decode cX10_orbit 111 = .ok (.aload_n 0, 1) := by decide +kernel
theorem dX10_orbit_112 : decode cX10_orbit 112 = .ok (.iload_n 2, 1) := by decide +kernel
theorem dX10_orbit_113 : decode cX10_orbit 113 = .ok (.invokevirtual 105, 3) := by decide +kernel
theorem dX10_orbit_116 : decode cX10_orbit 116 = .ok (.ireturn, 1) := by decide +kernel
theorem dX10_shortLed_0 : decode cX10_shortLed 0 = .ok (.iload_n 1, 1) := by decide +kernel
theorem dX10_shortLed_1 : decode cX10_shortLed 1 = .ok (.iconst 1, 1) := by decide +kernel
theorem dX10_shortLed_2 : decode cX10_shortLed 2 = .ok (.if_icmp .ne 7, 3) := by decide +kernel
theorem dX10_shortLed_5 : decode cX10_shortLed 5 = .ok (.iload_n 2, 1) := by decide +kernel
theorem dX10_shortLed_6 : decode cX10_shortLed 6 = .ok (.goto 7, 3) := by decide +kernel
theorem dX10_shortLed_9 : decode cX10_shortLed 9 = .ok (.iload_n 2, 1) := by decide +kernel
theorem dX10_shortLed_10 : decode cX10_shortLed 10 = .ok (.bipush 10, 2) := by decide +kernel
theorem dX10_shortLed_12 : decode cX10_shortLed 12 = .ok (.idiv, 1) := by decide +kernel
theorem dX10_shortLed_13 : decode cX10_shortLed 13 = .ok (.istore 5, 2) := by decide +kernel
theorem dX10_shortLed_15 : decode cX10_shortLed 15 = .ok (.iload_n 2, 1) := by decide +kernel
theorem dX10_shortLed_16 : decode cX10_shortLed 16 = .ok (.bipush 10, 2) := by decide +kernel
theorem dX10_shortLed_18 : decode cX10_shortLed 18 = .ok (.irem, 1) := by decide +kernel
theorem dX10_shortLed_19 : decode cX10_shortLed 19 = .ok (.istore 6, 2) := by decide +kernel
theorem dX10_shortLed_21 : decode cX10_shortLed 21 = .ok (.iload_n 1, 1) := by decide +kernel
theorem dX10_shortLed_22 : decode cX10_shortLed 22 = .ok (.iconst 1, 1) := by decide +kernel
theorem dX10_shortLed_23 : decode cX10_shortLed 23 = .ok (.if_icmp .ne 28, 3) := by decide +kernel
theorem dX10_shortLed_26 : decode cX10_shortLed 26 = .ok (.aload_n 0, 1) := by decide +kernel
theorem dX10_shortLed_27 : decode cX10_shortLed 27 = .ok (.getfield 21, 3) := by decide +kernel
theorem dX10_shortLed_30 : decode cX10_shortLed 30 = .ok (.bipush 8, 2) := by decide +kernel
theorem dX10_shortLed_32 : decode cX10_shortLed 32 = .ok (.iload_n 3, 1) := by decide +kernel
theorem dX10_shortLed_33 : decode cX10_shortLed 33 = .ok (.ifCond .eq 10, 3) := by decide +kernel
theorem dX10_shortLed_36 : decode cX10_shortLed 36 = .ok (.iload 5, 2) := by decide +kernel
theorem dX10_shortLed_38 : decode cX10_shortLed 38 = .ok (.iconst 1, 1) := by decide +kernel
theorem dX10_shortLed_39 : decode cX10_shortLed 39 = .ok (.ixor, 1) := by decide +kernel
theorem dX10_shortLed_40 : decode cX10_shortLed 40 = .ok (.goto 5, 3) := by decide +kernel
theorem dX10_shortLed_43 : decode cX10_shortLed 43 = .ok (.iload 5, 2) := by decide +kernel
theorem dX10_shortLed_45 : decode cX10_shortLed 45 = .ok (.imul, 1) := by decide +kernel
theorem dX10_shortLed_46 : decode cX10_shortLed 46 = .ok (.iload 4, 2) := by decide +kernel
theorem dX10_shortLed_48 : decode cX10_shortLed 48 = .ok (.iadd, 1) := by decide +kernel
theorem dX10_shortLed_49 : decode cX10_shortLed 49 = .ok (.iaload, 1) := by decide +kernel
theorem dX10_shortLed_50 : decode cX10_shortLed 50 = .ok (.ireturn, 1) := by decide +kernel
theorem dX10_shortLed_51 : decode cX10_shortLed 51 = .ok (.aload_n 0, 1) := by decide +kernel
theorem dX10_shortLed_52 : decode cX10_shortLed 52 = .ok (.getfield 21, 3) := by decide +kernel
theorem dX10_shortLed_55 : decode cX10_shortLed 55 = .ok (.bipush 8, 2) := by decide +kernel
theorem dX10_shortLed_57 : decode cX10_shortLed 57 = .ok (.iload_n 3, 1) := by decide +kernel
theorem dX10_shortLed_58 : decode cX10_shortLed 58 = .ok (.ifCond .eq 10, 3) := by decide +kernel
theorem dX10_shortLed_61 : decode cX10_shortLed 61 = .ok (.iload 6, 2) := by decide +kernel
theorem dX10_shortLed_63 : decode cX10_shortLed 63 = .ok (.iconst 1, 1) := by decide +kernel
theorem dX10_shortLed_64 : decode cX10_shortLed 64 = .ok (.ixor, 1) := by decide +kernel
theorem dX10_shortLed_65 : decode cX10_shortLed 65 = .ok (.goto 5, 3) := by decide +kernel
theorem dX10_shortLed_68 : decode cX10_shortLed 68 = .ok (.iload 5, 2) := by decide +kernel
theorem dX10_shortLed_70 : decode cX10_shortLed 70 = .ok (.imul, 1) := by decide +kernel
theorem dX10_shortLed_71 : decode cX10_shortLed 71 = .ok (.iload 4, 2) := by decide +kernel
theorem dX10_shortLed_73 : decode cX10_shortLed 73 = .ok (.iadd, 1) := by decide +kernel
theorem dX10_shortLed_74 : decode cX10_shortLed 74 = .ok (.iaload, 1) := by decide +kernel
theorem dX10_shortLed_75 : decode cX10_shortLed 75 = .ok (.istore 7, 2) := by decide +kernel
theorem dX10_shortLed_77 : decode cX10_shortLed 77 = .ok (.aload_n 0, 1) := by decide +kernel
theorem dX10_shortLed_78 : decode cX10_shortLed 78 = .ok (.getfield 21, 3) := by decide +kernel
theorem dX10_shortLed_81 : decode cX10_shortLed 81 = .ok (.bipush 8, 2) := by decide +kernel
theorem dX10_shortLed_83 : decode cX10_shortLed 83 = .ok (.iload_n 3, 1) := by decide +kernel
theorem dX10_shortLed_84 : decode cX10_shortLed 84 = .ok (.ifCond .eq 10, 3) := by decide +kernel
theorem dX10_shortLed_87 : decode cX10_shortLed 87 = .ok (.iload 5, 2) := by decide +kernel
theorem dX10_shortLed_89 : decode cX10_shortLed 89 = .ok (.iconst 1, 1) := by decide +kernel
theorem dX10_shortLed_90 : decode cX10_shortLed 90 = .ok (.ixor, 1) := by decide +kernel
theorem dX10_shortLed_91 : decode cX10_shortLed 91 = .ok (.goto 5, 3) := by decide +kernel
theorem dX10_shortLed_94 : decode cX10_shortLed 94 = .ok (.iload 6, 2) := by decide +kernel
theorem dX10_shortLed_96 : decode cX10_shortLed 96 = .ok (.imul, 1) := by decide +kernel
theorem dX10_shortLed_97 : decode cX10_shortLed 97 = .ok (.iload 7, 2) := by decide +kernel
theorem dX10_shortLed_99 : decode cX10_shortLed 99 = .ok (.iadd, 1) := by decide +kernel
theorem dX10_shortLed_100 : decode cX10_shortLed 100 = .ok (.iaload, 1) := by decide +kernel
theorem dX10_shortLed_101 : decode cX10_shortLed 101 = .ok (.ireturn, 1) := by decide +kernel
theorem dX10_isShort_0 : decode cX10_isShort 0 = .ok (.aload_n 0, 1) := by decide +kernel
theorem dX10_isShort_1 : decode cX10_isShort 1 = .ok (.iload_n 2, 1) := by decide +kernel
theorem dX10_isShort_2 : decode cX10_isShort 2 = .ok (.bipush 10, 2) := by decide +kernel
theorem dX10_isShort_4 : decode cX10_isShort 4 = .ok (.irem, 1) := by decide +kernel
theorem dX10_isShort_5 : decode cX10_isShort 5 = .ok (.invokevirtual 205, 3) := by decide +kernel
theorem dX10_isShort_8 : decode cX10_isShort 8 = .ok (.ifCond .eq 23, 3) := by decide +kernel
theorem dX10_isShort_11 : decode cX10_isShort 11 = .ok (.iload_n 1, 1) := by decide +kernel
theorem dX10_isShort_12 : decode cX10_isShort 12 = .ok (.iconst 1, 1) := by decide +kernel
theorem dX10_isShort_13 : decode cX10_isShort 13 = .ok (.if_icmp .eq 14, 3) := by decide +kernel
theorem dX10_isShort_16 : decode cX10_isShort 16 = .ok (.aload_n 0, 1) := by decide +kernel
theorem dX10_isShort_17 : decode cX10_isShort 17 = .ok (.iload_n 2, 1) := by decide +kernel
theorem dX10_isShort_18 : decode cX10_isShort 18 = .ok (.bipush 10, 2) := by decide +kernel
theorem dX10_isShort_20 : decode cX10_isShort 20 = .ok (.idiv, 1) := by decide +kernel
theorem dX10_isShort_21 : decode cX10_isShort 21 = .ok (.invokevirtual 205, 3) := by decide +kernel
theorem dX10_isShort_24 : decode cX10_isShort 24 = .ok (.ifCond .eq 7, 3) := by decide +kernel
theorem dX10_isShort_27 : decode cX10_isShort 27 = .ok (.iconst 1, 1) := by decide +kernel
theorem dX10_isShort_28 : decode cX10_isShort 28 = .ok (.goto 4, 3) := by decide +kernel
theorem dX10_isShort_31 : decode cX10_isShort 31 = .ok (.iconst 0, 1) := by decide +kernel
theorem dX10_isShort_32 : decode cX10_isShort 32 = .ok (.ireturn, 1) := by decide +kernel
theorem dX10_movedBy_0 : decode cX10_movedBy 0 = .ok (.iconst 0, 1) := by decide +kernel
theorem dX10_movedBy_1 : decode cX10_movedBy 1 = .ok (.istore 5, 2) := by decide +kernel
theorem dX10_movedBy_3 : decode cX10_movedBy 3 = .ok (.iconst 1, 1) := by decide +kernel
theorem dX10_movedBy_4 : decode cX10_movedBy 4 = .ok (.istore 6, 2) := by decide +kernel
theorem dX10_movedBy_6 : decode cX10_movedBy 6 = .ok (.iload 6, 2) := by decide +kernel
theorem dX10_movedBy_8 : decode cX10_movedBy 8 = .ok (.aload_n 0, 1) := by decide +kernel
theorem dX10_movedBy_9 : decode cX10_movedBy 9 = .ok (.getfield 7, 3) := by decide +kernel
theorem dX10_movedBy_12 : decode cX10_movedBy 12 = .ok (.if_icmp .gt 64, 3) := by decide +kernel
theorem dX10_movedBy_15 : decode cX10_movedBy 15 = .ok (.aload_n 0, 1) := by decide +kernel
theorem dX10_movedBy_16 : decode cX10_movedBy 16 = .ok (.iload_n 3, 1) := by decide +kernel
theorem dX10_movedBy_17 : decode cX10_movedBy 17 = .ok (.iload 4, 2) := by decide +kernel
theorem dX10_movedBy_19 : decode cX10_movedBy 19 = .ok (.iconst 0, 1) := by decide +kernel
theorem dX10_movedBy_20 : decode cX10_movedBy 20 = .ok (.aload_n 0, 1) := by decide +kernel
theorem dX10_movedBy_21 : decode cX10_movedBy 21 = .ok (.iload_n 1, 1) := by decide +kernel
theorem dX10_movedBy_22 : decode cX10_movedBy 22 = .ok (.iload_n 2, 1) := by decide +kernel
theorem dX10_movedBy_23 : decode cX10_movedBy 23 = .ok (.iconst 0, 1) := by decide +kernel
theorem dX10_movedBy_24 : decode cX10_movedBy 24 = .ok (.iload 6, 2) := by decide +kernel
theorem dX10_movedBy_26 : decode cX10_movedBy 26 = .ok (.invokevirtual 217, 3) := by decide +kernel
theorem dX10_movedBy_29 : decode cX10_movedBy 29 = .ok (.invokevirtual 217, 3) := by decide +kernel
theorem dX10_movedBy_32 : decode cX10_movedBy 32 = .ok (.istore 7, 2) := by decide +kernel
theorem dX10_movedBy_34 : decode cX10_movedBy 34 = .ok (.aload_n 0, 1) := by decide +kernel
theorem dX10_movedBy_35 : decode cX10_movedBy 35 = .ok (.iload_n 3, 1) := by decide +kernel
theorem dX10_movedBy_36 : decode cX10_movedBy 36 = .ok (.iload 4, 2) := by decide +kernel
theorem dX10_movedBy_38 : decode cX10_movedBy 38 = .ok (.iconst 1, 1) := by decide +kernel
theorem dX10_movedBy_39 : decode cX10_movedBy 39 = .ok (.aload_n 0, 1) := by decide +kernel
theorem dX10_movedBy_40 : decode cX10_movedBy 40 = .ok (.iload_n 1, 1) := by decide +kernel
theorem dX10_movedBy_41 : decode cX10_movedBy 41 = .ok (.iload_n 2, 1) := by decide +kernel
theorem dX10_movedBy_42 : decode cX10_movedBy 42 = .ok (.iconst 1, 1) := by decide +kernel
theorem dX10_movedBy_43 : decode cX10_movedBy 43 = .ok (.iload 7, 2) := by decide +kernel
theorem dX10_movedBy_45 : decode cX10_movedBy 45 = .ok (.invokevirtual 217, 3) := by decide +kernel
theorem dX10_movedBy_48 : decode cX10_movedBy 48 = .ok (.invokevirtual 217, 3) := by decide +kernel
theorem dX10_movedBy_51 : decode cX10_movedBy 51 = .ok (.istore 7, 2) := by decide +kernel
theorem dX10_movedBy_53 : decode cX10_movedBy 53 = .ok (.iload 5, 2) := by decide +kernel
theorem dX10_movedBy_55 : decode cX10_movedBy 55 = .ok (.iload 7, 2) := by decide +kernel
theorem dX10_movedBy_57 : decode cX10_movedBy 57 = .ok (.iload 6, 2) := by decide +kernel
theorem dX10_movedBy_59 : decode cX10_movedBy 59 = .ok (.if_icmp .eq 7, 3) := by decide +kernel
theorem dX10_movedBy_62 : decode cX10_movedBy 62 = .ok (.iconst 1, 1) := by decide +kernel
theorem dX10_movedBy_63 : decode cX10_movedBy 63 = .ok (.goto 4, 3) := by decide +kernel
theorem dX10_movedBy_66 : decode cX10_movedBy 66 = .ok (.iconst 0, 1) := by decide +kernel
theorem dX10_movedBy_67 : decode cX10_movedBy 67 = .ok (.iadd, 1) := by decide +kernel
theorem dX10_movedBy_68 : decode cX10_movedBy 68 = .ok (.istore 5, 2) := by decide +kernel
theorem dX10_movedBy_70 : decode cX10_movedBy 70 = .ok (.iinc 6 1, 3) := by decide +kernel
theorem dX10_movedBy_73 : decode cX10_movedBy 73 = .ok (.goto (-67), 3) := by decide +kernel
theorem dX10_movedBy_76 : decode cX10_movedBy 76 = .ok (.iload 5, 2) := by decide +kernel
theorem dX10_movedBy_78 : decode cX10_movedBy 78 = .ok (.ireturn, 1) := by decide +kernel
theorem dX10_comesShort_0 : decode cX10_comesShort 0 = .ok (.iload_n 1, 1) := by decide +kernel
theorem dX10_comesShort_1 : decode cX10_comesShort 1 = .ok (.iconst 1, 1) := by decide +kernel
theorem dX10_comesShort_2 : decode cX10_comesShort 2 = .ok (.if_icmp .ne 21, 3) := by decide +kernel
theorem dX10_comesShort_5 : decode cX10_comesShort 5 = .ok (.aload_n 0, 1) := by decide +kernel
theorem dX10_comesShort_6 : decode cX10_comesShort 6 = .ok (.iload_n 3, 1) := by decide +kernel
theorem dX10_comesShort_7 : decode cX10_comesShort 7 = .ok (.ifCond .eq 9, 3) := by decide +kernel
theorem dX10_comesShort_10 : decode cX10_comesShort 10 = .ok (.iload_n 2, 1) := by decide +kernel
theorem dX10_comesShort_11 : decode cX10_comesShort 11 = .ok (.iconst 1, 1) := by decide +kernel
theorem dX10_comesShort_12 : decode cX10_comesShort 12 = .ok (.ixor, 1) := by decide +kernel
theorem dX10_comesShort_13 : decode cX10_comesShort 13 = .ok (.goto 4, 3) := by decide +kernel
theorem dX10_comesShort_16 : decode cX10_comesShort 16 = .ok (.iload_n 2, 1) := by decide +kernel
theorem dX10_comesShort_17 : decode cX10_comesShort 17 = .ok (.invokevirtual 135, 3) := by decide +kernel
theorem dX10_comesShort_20 : decode cX10_comesShort 20 = .ok (.goto 45, 3) := by decide +kernel
theorem dX10_comesShort_23 : decode cX10_comesShort 23 = .ok (.aload_n 0, 1) := by decide +kernel
theorem dX10_comesShort_24 : decode cX10_comesShort 24 = .ok (.iload_n 3, 1) := by decide +kernel
theorem dX10_comesShort_25 : decode cX10_comesShort 25 = .ok (.ifCond .eq 12, 3) := by decide +kernel
theorem dX10_comesShort_28 : decode cX10_comesShort 28 = .ok (.iload_n 2, 1) := by decide +kernel
theorem dX10_comesShort_29 : decode cX10_comesShort 29 = .ok (.bipush 10, 2) := by decide +kernel
theorem dX10_comesShort_31 : decode cX10_comesShort 31 = .ok (.irem, 1) := by decide +kernel
theorem dX10_comesShort_32 : decode cX10_comesShort 32 = .ok (.iconst 1, 1) := by decide +kernel
theorem dX10_comesShort_33 : decode cX10_comesShort 33 = .ok (.ixor, 1) := by decide +kernel
theorem dX10_comesShort_34 : decode cX10_comesShort 34 = .ok (.goto 7, 3) := by decide +kernel
theorem dX10_comesShort_37 : decode cX10_comesShort 37 = .ok (.iload_n 2, 1) := by decide +kernel
theorem dX10_comesShort_38 : decode cX10_comesShort 38 = .ok (.bipush 10, 2) := by decide +kernel
theorem dX10_comesShort_40 : decode cX10_comesShort 40 = .ok (.idiv, 1) := by decide +kernel
theorem dX10_comesShort_41 : decode cX10_comesShort 41 = .ok (.invokevirtual 135, 3) := by decide +kernel
theorem dX10_comesShort_44 : decode cX10_comesShort 44 = .ok (.aload_n 0, 1) := by decide +kernel
theorem dX10_comesShort_45 : decode cX10_comesShort 45 = .ok (.iload_n 3, 1) := by decide +kernel
theorem dX10_comesShort_46 : decode cX10_comesShort 46 = .ok (.ifCond .eq 12, 3) := by decide +kernel
theorem dX10_comesShort_49 : decode cX10_comesShort 49 = .ok (.iload_n 2, 1) := by decide +kernel
theorem dX10_comesShort_50 : decode cX10_comesShort 50 = .ok (.bipush 10, 2) := by decide +kernel
theorem dX10_comesShort_52 : decode cX10_comesShort 52 = .ok (.idiv, 1) := by decide +kernel
theorem dX10_comesShort_53 : decode cX10_comesShort 53 = .ok (.iconst 1, 1) := by decide +kernel
theorem dX10_comesShort_54 : decode cX10_comesShort 54 = .ok (.ixor, 1) := by decide +kernel
theorem dX10_comesShort_55 : decode cX10_comesShort 55 = .ok (.goto 7, 3) := by decide +kernel
theorem dX10_comesShort_58 : decode cX10_comesShort 58 = .ok (.iload_n 2, 1) := by decide +kernel
theorem dX10_comesShort_59 : decode cX10_comesShort 59 = .ok (.bipush 10, 2) := by decide +kernel
theorem dX10_comesShort_61 : decode cX10_comesShort 61 = .ok (.irem, 1) := by decide +kernel
theorem dX10_comesShort_62 : decode cX10_comesShort 62 = .ok (.invokevirtual 135, 3) := by decide +kernel
theorem dX10_comesShort_65 : decode cX10_comesShort 65 = .ok (.return_, 1) := by decide +kernel
theorem dX10_finds_0 : decode cX10_finds 0 = .ok (.iload_n 3, 1) := by decide +kernel
theorem dX10_finds_1 : decode cX10_finds 1 = .ok (.iconst 1, 1) := by decide +kernel
theorem dX10_finds_2 : decode cX10_finds 2 = .ok (.if_icmp .ne 8, 3) := by decide +kernel
theorem dX10_finds_5 : decode cX10_finds 5 = .ok (.bipush 10, 2) := by decide +kernel
theorem dX10_finds_7 : decode cX10_finds 7 = .ok (.goto 5, 3) := by decide +kernel
theorem dX10_finds_10 : decode cX10_finds 10 = .ok (.bipush 100, 2) := by decide +kernel
theorem dX10_finds_12 : decode cX10_finds 12 = .ok (.istore 5, 2) := by decide +kernel
theorem dX10_finds_14 : decode cX10_finds 14 = .ok (.iload 4, 2) := by decide +kernel
theorem dX10_finds_16 : decode cX10_finds 16 = .ok (.iconst 1, 1) := by decide +kernel
theorem dX10_finds_17 : decode cX10_finds 17 = .ok (.if_icmp .ne 8, 3) := by decide +kernel
theorem dX10_finds_20 : decode cX10_finds 20 = .ok (.bipush 10, 2) := by decide +kernel
theorem dX10_finds_22 : decode cX10_finds 22 = .ok (.goto 5, 3) := by decide +kernel
theorem dX10_finds_25 : decode cX10_finds 25 = .ok (.bipush 100, 2) := by decide +kernel
theorem dX10_finds_27 : decode cX10_finds 27 = .ok (.istore 6, 2) := by decide +kernel
theorem dX10_finds_29 : decode cX10_finds 29 = .ok (.iconst 0, 1) := by decide +kernel
theorem dX10_finds_30 : decode cX10_finds 30 = .ok (.istore 7, 2) := by decide +kernel
theorem dX10_finds_32 : decode cX10_finds 32 = .ok (.iload 7, 2) := by decide +kernel
theorem dX10_finds_34 : decode cX10_finds 34 = .ok (.iload 5, 2) := by decide +kernel
theorem dX10_finds_36 : decode cX10_finds 36 = .ok (.if_icmp .ge 101, 3) := by decide +kernel
theorem dX10_finds_39 : decode cX10_finds 39 = .ok (.iconst 0, 1) := by decide +kernel
theorem dX10_finds_40 : decode cX10_finds 40 = .ok (.istore 8, 2) := by decide +kernel
theorem dX10_finds_42 : decode cX10_finds 42 = .ok (.iload 8, 2) := by decide +kernel
theorem dX10_finds_44 : decode cX10_finds 44 = .ok (.iload 6, 2) := by decide +kernel
theorem dX10_finds_46 : decode cX10_finds 46 = .ok (.if_icmp .ge 85, 3) := by decide +kernel
theorem dX10_finds_49 : decode cX10_finds 49 = .ok (.aload_n 0, 1) := by decide +kernel
theorem dX10_finds_50 : decode cX10_finds 50 = .ok (.iload_n 3, 1) := by decide +kernel
theorem dX10_finds_51 : decode cX10_finds 51 = .ok (.iload 7, 2) := by decide +kernel
theorem dX10_finds_53 : decode cX10_finds 53 = .ok (.invokevirtual 221, 3) := by decide +kernel
theorem dX10_finds_56 : decode cX10_finds 56 = .ok (.ifCond .eq 75, 3) := by decide +kernel
theorem dX10_finds_59 : decode cX10_finds 59 = .ok (.aload_n 0, 1) := by decide +kernel
theorem dX10_finds_60 : decode cX10_finds 60 = .ok (.iload 4, 2) := by decide +kernel
theorem dX10_finds_62 : decode cX10_finds 62 = .ok (.iload 8, 2) := by decide +kernel
theorem dX10_finds_64 : decode cX10_finds 64 = .ok (.invokevirtual 221, 3) := by decide +kernel
theorem dX10_finds_67 : decode cX10_finds 67 = .ok (.ifCond .eq 58, 3) := by decide +kernel
theorem dX10_finds_70 : decode cX10_finds 70 = .ok (.aload_n 0, 1) := by decide +kernel
theorem dX10_finds_71 : decode cX10_finds 71 = .ok (.iload_n 3, 1) := by decide +kernel
theorem dX10_finds_72 : decode cX10_finds 72 = .ok (.iload 7, 2) := by decide +kernel
theorem dX10_finds_74 : decode cX10_finds 74 = .ok (.iload 4, 2) := by decide +kernel
theorem dX10_finds_76 : decode cX10_finds 76 = .ok (.iload 8, 2) := by decide +kernel
theorem dX10_finds_78 : decode cX10_finds 78 = .ok (.invokevirtual 225, 3) := by decide +kernel
theorem dX10_finds_81 : decode cX10_finds 81 = .ok (.iload_n 2, 1) := by decide +kernel
theorem dX10_finds_82 : decode cX10_finds 82 = .ok (.if_icmp .ne 43, 3) := by decide +kernel
theorem dX10_finds_85 : decode cX10_finds 85 = .ok (.aload_n 0, 1) := by decide +kernel
theorem dX10_finds_86 : decode cX10_finds 86 = .ok (.invokevirtual 165, 3) := by decide +kernel
theorem dX10_finds_89 : decode cX10_finds 89 = .ok (.aload_n 0, 1) := by decide +kernel
theorem dX10_finds_90 : decode cX10_finds 90 = .ok (.iload_n 3, 1) := by decide +kernel
theorem dX10_finds_91 : decode cX10_finds 91 = .ok (.iload 7, 2) := by decide +kernel
theorem dX10_finds_93 : decode cX10_finds 93 = .ok (.iconst 0, 1) := by decide +kernel
theorem dX10_finds_94 : decode cX10_finds 94 = .ok (.invokevirtual 229, 3) := by decide +kernel
theorem dX10_finds_97 : decode cX10_finds 97 = .ok (.aload_n 0, 1) := by decide +kernel
theorem dX10_finds_98 : decode cX10_finds 98 = .ok (.iload 4, 2) := by decide +kernel
theorem dX10_finds_100 : decode cX10_finds 100 = .ok (.iload 8, 2) := by decide +kernel
theorem dX10_finds_102 : decode cX10_finds 102 = .ok (.iconst 0, 1) := by decide +kernel
theorem dX10_finds_103 : decode cX10_finds 103 = .ok (.invokevirtual 229, 3) := by decide +kernel
theorem dX10_finds_106 : decode cX10_finds 106 = .ok (.aload_n 0, 1) := by decide +kernel
theorem dX10_finds_107 : decode cX10_finds 107 = .ok (.iload_n 3, 1) := by decide +kernel
theorem dX10_finds_108 : decode cX10_finds 108 = .ok (.iload 7, 2) := by decide +kernel
theorem dX10_finds_110 : decode cX10_finds 110 = .ok (.iconst 1, 1) := by decide +kernel
theorem dX10_finds_111 : decode cX10_finds 111 = .ok (.invokevirtual 229, 3) := by decide +kernel
theorem dX10_finds_114 : decode cX10_finds 114 = .ok (.aload_n 0, 1) := by decide +kernel
theorem dX10_finds_115 : decode cX10_finds 115 = .ok (.iload 4, 2) := by decide +kernel
theorem dX10_finds_117 : decode cX10_finds 117 = .ok (.iload 8, 2) := by decide +kernel
theorem dX10_finds_119 : decode cX10_finds 119 = .ok (.iconst 1, 1) := by decide +kernel
theorem dX10_finds_120 : decode cX10_finds 120 = .ok (.invokevirtual 229, 3) := by decide +kernel
theorem dX10_finds_123 : decode cX10_finds 123 = .ok (.iconst 1, 1) := by decide +kernel
theorem dX10_finds_124 : decode cX10_finds 124 = .ok (.ireturn, 1) := by decide +kernel
theorem dX10_finds_125 : decode cX10_finds 125 = .ok (.iinc 8 1, 3) := by decide +kernel
theorem dX10_finds_128 : decode cX10_finds 128 = .ok (.goto (-86), 3) := by decide +kernel
theorem dX10_finds_131 : decode cX10_finds 131 = .ok (.iinc 7 1, 3) := by decide +kernel
theorem dX10_finds_134 : decode cX10_finds 134 = .ok (.goto (-102), 3) := by decide +kernel
theorem dX10_finds_137 : decode cX10_finds 137 = .ok (.iconst 0, 1) := by decide +kernel
theorem dX10_finds_138 : decode cX10_finds 138 = .ok (.ireturn, 1) := by decide +kernel
theorem dX10_findCommutator_0 : decode cX10_findCommutator 0 = .ok (.iload_n 1, 1) := by decide +kernel
theorem dX10_findCommutator_1 : decode cX10_findCommutator 1 = .ok (.invokestatic 162, 3) := by decide +kernel
theorem dX10_findCommutator_4 : decode cX10_findCommutator 4 = .ok (.ifCond .ne 9, 3) := by decide +kernel
theorem dX10_findCommutator_7 : decode cX10_findCommutator 7 = .ok (.aload_n 0, 1) := by decide +kernel
theorem dX10_findCommutator_8 : decode cX10_findCommutator 8 = .ok (.iconst 1, 1) := by decide +kernel
theorem dX10_findCommutator_9 : decode cX10_findCommutator 9 = .ok (.invokevirtual 94, 3) := by decide +kernel
theorem dX10_findCommutator_12 : decode cX10_findCommutator 12 = .ok (.ireturn, 1) := by decide +kernel
theorem dX10_findCommutator_13 : decode cX10_findCommutator 13 = .ok (.aload_n 0, 1) := by decide +kernel
theorem dX10_findCommutator_14 : decode cX10_findCommutator 14 = .ok (.iload_n 1, 1) := by decide +kernel
theorem dX10_findCommutator_15 : decode cX10_findCommutator 15 = .ok (.iload_n 2, 1) := by decide +kernel
theorem dX10_findCommutator_16 : decode cX10_findCommutator 16 = .ok (.iconst 1, 1) := by decide +kernel
theorem dX10_findCommutator_17 : decode cX10_findCommutator 17 = .ok (.iconst 1, 1) := by decide +kernel
theorem dX10_findCommutator_18 : decode cX10_findCommutator 18 = .ok (.invokevirtual 233, 3) := by decide +kernel
theorem dX10_findCommutator_21 : decode cX10_findCommutator 21 = .ok (.ifCond .ne 36, 3) := by decide +kernel
theorem dX10_findCommutator_24 : decode cX10_findCommutator 24 = .ok (.aload_n 0, 1) := by decide +kernel
theorem dX10_findCommutator_25 : decode cX10_findCommutator 25 = .ok (.iload_n 1, 1) := by decide +kernel
theorem dX10_findCommutator_26 : decode cX10_findCommutator 26 = .ok (.iload_n 2, 1) := by decide +kernel
theorem dX10_findCommutator_27 : decode cX10_findCommutator 27 = .ok (.iconst 1, 1) := by decide +kernel
theorem dX10_findCommutator_28 : decode cX10_findCommutator 28 = .ok (.iconst 2, 1) := by decide +kernel
theorem dX10_findCommutator_29 : decode cX10_findCommutator 29 = .ok (.invokevirtual 233, 3) := by decide +kernel
theorem dX10_findCommutator_32 : decode cX10_findCommutator 32 = .ok (.ifCond .ne 25, 3) := by decide +kernel
theorem dX10_findCommutator_35 : decode cX10_findCommutator 35 = .ok (.aload_n 0, 1) := by decide +kernel
theorem dX10_findCommutator_36 : decode cX10_findCommutator 36 = .ok (.iload_n 1, 1) := by decide +kernel
theorem dX10_findCommutator_37 : decode cX10_findCommutator 37 = .ok (.iload_n 2, 1) := by decide +kernel
theorem dX10_findCommutator_38 : decode cX10_findCommutator 38 = .ok (.iconst 2, 1) := by decide +kernel
theorem dX10_findCommutator_39 : decode cX10_findCommutator 39 = .ok (.iconst 1, 1) := by decide +kernel
theorem dX10_findCommutator_40 : decode cX10_findCommutator 40 = .ok (.invokevirtual 233, 3) := by decide +kernel
theorem dX10_findCommutator_43 : decode cX10_findCommutator 43 = .ok (.ifCond .ne 14, 3) := by decide +kernel
theorem dX10_findCommutator_46 : decode cX10_findCommutator 46 = .ok (.aload_n 0, 1) := by decide +kernel
theorem dX10_findCommutator_47 : decode cX10_findCommutator 47 = .ok (.iload_n 1, 1) := by decide +kernel
theorem dX10_findCommutator_48 : decode cX10_findCommutator 48 = .ok (.iload_n 2, 1) := by decide +kernel
theorem dX10_findCommutator_49 : decode cX10_findCommutator 49 = .ok (.iconst 2, 1) := by decide +kernel
theorem dX10_findCommutator_50 : decode cX10_findCommutator 50 = .ok (.iconst 2, 1) := by decide +kernel
theorem dX10_findCommutator_51 : decode cX10_findCommutator 51 = .ok (.invokevirtual 233, 3) := by decide +kernel
theorem dX10_findCommutator_54 : decode cX10_findCommutator 54 = .ok (.ifCond .eq 7, 3) := by decide +kernel
theorem dX10_findCommutator_57 : decode cX10_findCommutator 57 = .ok (.iconst 1, 1) := by decide +kernel
theorem dX10_findCommutator_58 : decode cX10_findCommutator 58 = .ok (.goto 4, 3) := by decide +kernel
theorem dX10_findCommutator_61 : decode cX10_findCommutator 61 = .ok (.iconst 0, 1) := by decide +kernel
theorem dX10_findCommutator_62 : decode cX10_findCommutator 62 = .ok (.istore_n 3, 1) := by decide +kernel
theorem dX10_findCommutator_63 : decode cX10_findCommutator 63 = .ok (.iload_n 3, 1) := by decide +kernel
theorem dX10_findCommutator_64 : decode cX10_findCommutator 64 = .ok (.ifCond .eq 11, 3) := by decide +kernel
theorem dX10_findCommutator_67 : decode cX10_findCommutator 67 = .ok (.aload_n 0, 1) := by decide +kernel
theorem dX10_findCommutator_68 : decode cX10_findCommutator 68 = .ok (.iload_n 1, 1) := by decide +kernel
theorem dX10_findCommutator_69 : decode cX10_findCommutator 69 = .ok (.invokevirtual 168, 3) := by decide +kernel
theorem dX10_findCommutator_72 : decode cX10_findCommutator 72 = .ok (.goto 8, 3) := by decide +kernel
theorem dX10_findCommutator_75 : decode cX10_findCommutator 75 = .ok (.aload_n 0, 1) := by decide +kernel
theorem dX10_findCommutator_76 : decode cX10_findCommutator 76 = .ok (.iconst 2, 1) := by decide +kernel
theorem dX10_findCommutator_77 : decode cX10_findCommutator 77 = .ok (.invokevirtual 94, 3) := by decide +kernel
theorem dX10_findCommutator_80 : decode cX10_findCommutator 80 = .ok (.ireturn, 1) := by decide +kernel
theorem dX10_isRow_0 : decode cX10_isRow 0 = .ok (.iload_n 0, 1) := by decide +kernel
theorem dX10_isRow_1 : decode cX10_isRow 1 = .ok (.iconst 0, 1) := by decide +kernel
theorem dX10_isRow_2 : decode cX10_isRow 2 = .ok (.iconst 1, 1) := by decide +kernel
theorem dX10_isRow_3 : decode cX10_isRow 3 = .ok (.invokestatic 90, 3) := by decide +kernel
theorem dX10_isRow_6 : decode cX10_isRow 6 = .ok (.ireturn, 1) := by decide +kernel
theorem dX10_fillShares_0 : decode cX10_fillShares 0 = .ok (.iload_n 1, 1) := by decide +kernel
theorem dX10_fillShares_1 : decode cX10_fillShares 1 = .ok (.invokestatic 237, 3) := by decide +kernel
theorem dX10_fillShares_4 : decode cX10_fillShares 4 = .ok (.ifCond .ne 9, 3) := by decide +kernel
theorem dX10_fillShares_7 : decode cX10_fillShares 7 = .ok (.aload_n 0, 1) := by decide +kernel
theorem dX10_fillShares_8 : decode cX10_fillShares 8 = .ok (.iconst 1, 1) := by decide +kernel
theorem dX10_fillShares_9 : decode cX10_fillShares 9 = .ok (.invokevirtual 94, 3) := by decide +kernel
theorem dX10_fillShares_12 : decode cX10_fillShares 12 = .ok (.ireturn, 1) := by decide +kernel
theorem dX10_fillShares_13 : decode cX10_fillShares 13 = .ok (.aload_n 0, 1) := by decide +kernel
theorem dX10_fillShares_14 : decode cX10_fillShares 14 = .ok (.invokevirtual 211, 3) := by decide +kernel
theorem dX10_fillShares_17 : decode cX10_fillShares 17 = .ok (.iconst 0, 1) := by decide +kernel
theorem dX10_fillShares_18 : decode cX10_fillShares 18 = .ok (.istore_n 2, 1) := by decide +kernel
theorem dX10_fillShares_19 : decode cX10_fillShares 19 = .ok (.iload_n 2, 1) := by decide +kernel
theorem dX10_fillShares_20 : decode cX10_fillShares 20 = .ok (.bipush 24, 2) := by decide +kernel
theorem dX10_fillShares_22 : decode cX10_fillShares 22 = .ok (.if_icmp .ge 54, 3) := by decide +kernel
theorem dX10_fillShares_25 : decode cX10_fillShares 25 = .ok (.iload_n 1, 1) := by decide +kernel
theorem dX10_fillShares_26 : decode cX10_fillShares 26 = .ok (.ifCond .ne 25, 3) := by decide +kernel
theorem dX10_fillShares_29 : decode cX10_fillShares 29 = .ok (.aload_n 0, 1) := by decide +kernel
theorem dX10_fillShares_30 : decode cX10_fillShares 30 = .ok (.getfield 37, 3) := by decide +kernel
theorem dX10_fillShares_33 : decode cX10_fillShares 33 = .ok (.iload_n 2, 1) := by decide +kernel
theorem dX10_fillShares_34 : decode cX10_fillShares 34 = .ok (.aload_n 0, 1) := by decide +kernel
theorem dX10_fillShares_35 : decode cX10_fillShares 35 = .ok (.getfield 84, 3) := by decide +kernel
theorem dX10_fillShares_38 : decode cX10_fillShares 38 = .ok (.iload_n 2, 1) := by decide +kernel
theorem dX10_fillShares_39 : decode cX10_fillShares 39 = .ok (.iaload, 1) := by decide +kernel
theorem dX10_fillShares_40 : decode cX10_fillShares 40 = .ok (.i2f, 1) := by decide +kernel
theorem dX10_fillShares_41 : decode cX10_fillShares 41 = .ok (.aload_n 0, 1) := by decide +kernel
theorem dX10_fillShares_42 : decode cX10_fillShares 42 = .ok (.getfield 196, 3) := by decide +kernel
theorem dX10_fillShares_45 : decode cX10_fillShares 45 = .ok (.i2f, 1) := by decide +kernel
theorem dX10_fillShares_46 : decode cX10_fillShares 46 = .ok (.fdiv, 1) := by decide +kernel
theorem dX10_fillShares_47 : decode cX10_fillShares 47 = .ok (.fastore, 1) := by decide +kernel
theorem dX10_fillShares_48 : decode cX10_fillShares 48 = .ok (.goto 22, 3) := by decide +kernel
theorem dX10_fillShares_51 : decode cX10_fillShares 51 = .ok (.aload_n 0, 1) := by decide +kernel
theorem dX10_fillShares_52 : decode cX10_fillShares 52 = .ok (.getfield 41, 3) := by decide +kernel
theorem dX10_fillShares_55 : decode cX10_fillShares 55 = .ok (.iload_n 2, 1) := by decide +kernel
theorem dX10_fillShares_56 : decode cX10_fillShares 56 = .ok (.aload_n 0, 1) := by decide +kernel
theorem dX10_fillShares_57 : decode cX10_fillShares 57 = .ok (.getfield 84, 3) := by decide +kernel
theorem dX10_fillShares_60 : decode cX10_fillShares 60 = .ok (.iload_n 2, 1) := by decide +kernel
theorem dX10_fillShares_61 : decode cX10_fillShares 61 = .ok (.iaload, 1) := by decide +kernel
theorem dX10_fillShares_62 : decode cX10_fillShares 62 = .ok (.i2d, 1) := by decide +kernel
theorem dX10_fillShares_63 : decode cX10_fillShares 63 = .ok (.aload_n 0, 1) := by decide +kernel
theorem dX10_fillShares_64 : decode cX10_fillShares 64 = .ok (.getfield 196, 3) := by decide +kernel
theorem dX10_fillShares_67 : decode cX10_fillShares 67 = .ok (.i2d, 1) := by decide +kernel
theorem dX10_fillShares_68 : decode cX10_fillShares 68 = .ok (.ddiv, 1) := by decide +kernel
theorem dX10_fillShares_69 : decode cX10_fillShares 69 = .ok (.dastore, 1) := by decide +kernel
theorem dX10_fillShares_70 : decode cX10_fillShares 70 = .ok (.iinc 2 1, 3) := by decide +kernel
theorem dX10_fillShares_73 : decode cX10_fillShares 73 = .ok (.goto (-54), 3) := by decide +kernel
theorem dX10_fillShares_76 : decode cX10_fillShares 76 = .ok (.aload_n 0, 1) := by decide +kernel
theorem dX10_fillShares_77 : decode cX10_fillShares 77 = .ok (.aload_n 0, 1) := by decide +kernel
theorem dX10_fillShares_78 : decode cX10_fillShares 78 = .ok (.getfield 202, 3) := by decide +kernel
theorem dX10_fillShares_81 : decode cX10_fillShares 81 = .ok (.bipush 24, 2) := by decide +kernel
theorem dX10_fillShares_83 : decode cX10_fillShares 83 = .ok (.if_icmp .ge 7, 3) := by decide +kernel
theorem dX10_fillShares_86 : decode cX10_fillShares 86 = .ok (.iconst 0, 1) := by decide +kernel
theorem dX10_fillShares_87 : decode cX10_fillShares 87 = .ok (.goto 12, 3) := by decide +kernel
theorem dX10_fillShares_90 : decode cX10_fillShares 90 = .ok (.aload_n 0, 1) := by decide +kernel
theorem dX10_fillShares_91 : decode cX10_fillShares 91 = .ok (.getfield 202, 3) := by decide +kernel
theorem dX10_fillShares_94 : decode cX10_fillShares 94 = .ok (.bipush 24, 2) := by decide +kernel
theorem dX10_fillShares_96 : decode cX10_fillShares 96 = .ok (.isub, 1) := by decide +kernel
theorem dX10_fillShares_97 : decode cX10_fillShares 97 = .ok (.iconst 1, 1) := by decide +kernel
theorem dX10_fillShares_98 : decode cX10_fillShares 98 = .ok (.iadd, 1) := by decide +kernel
theorem dX10_fillShares_99 : decode cX10_fillShares 99 = .ok (.invokevirtual 105, 3) := by decide +kernel
theorem dX10_fillShares_102 : decode cX10_fillShares 102 = .ok (.ireturn, 1) := by decide +kernel
theorem dX10_scale_0 : decode cX10_scale 0 = .ok (.iload_n 1, 1) := by decide +kernel
theorem dX10_scale_1 : decode cX10_scale 1 = .ok (.invokestatic 237, 3) := by decide +kernel
theorem dX10_scale_4 : decode cX10_scale 4 = .ok (.ifCond .eq 13, 3) := by decide +kernel
theorem dX10_scale_7 : decode cX10_scale 7 = .ok (.iload_n 2, 1) := by decide +kernel
theorem dX10_scale_8 : decode cX10_scale 8 = .ok (.iconst 0, 1) := by decide +kernel
theorem dX10_scale_9 : decode cX10_scale 9 = .ok (.bipush 23, 2) := by decide +kernel
theorem dX10_scale_11 : decode cX10_scale 11 = .ok (.invokestatic 90, 3) := by decide +kernel
theorem dX10_scale_14 : decode cX10_scale 14 = .ok (.ifCond .ne 9, 3) := by decide +kernel
theorem dX10_scale_17 : decode cX10_scale 17 = .ok (.aload_n 0, 1) := by decide +kernel
theorem dX10_scale_18 : decode cX10_scale 18 = .ok (.iconst 1, 1) := by decide +kernel
theorem dX10_scale_19 : decode cX10_scale 19 = .ok (.invokevirtual 94, 3) := by decide +kernel
theorem dX10_scale_22 : decode cX10_scale 22 = .ok (.ireturn, 1) := by decide +kernel
theorem dX10_scale_23 : decode cX10_scale 23 = .ok (.iload_n 3, 1) := by decide +kernel
theorem dX10_scale_24 : decode cX10_scale 24 = .ok (.sipush (-1000), 3) := by decide +kernel
theorem dX10_scale_27 : decode cX10_scale 27 = .ok (.sipush 1000, 3) := by decide +kernel
theorem dX10_scale_30 : decode cX10_scale 30 = .ok (.invokestatic 90, 3) := by decide +kernel
theorem dX10_scale_33 : decode cX10_scale 33 = .ok (.ifCond .ne 9, 3) := by decide +kernel
theorem dX10_scale_36 : decode cX10_scale 36 = .ok (.aload_n 0, 1) := by decide +kernel
theorem dX10_scale_37 : decode cX10_scale 37 = .ok (.iconst 2, 1) := by decide +kernel
theorem dX10_scale_38 : decode cX10_scale 38 = .ok (.invokevirtual 94, 3) := by decide +kernel
theorem dX10_scale_41 : decode cX10_scale 41 = .ok (.ireturn, 1) := by decide +kernel
theorem dX10_scale_42 : decode cX10_scale 42 = .ok (.iload_n 1, 1) := by decide +kernel
theorem dX10_scale_43 : decode cX10_scale 43 = .ok (.ifCond .ne 52, 3) := by decide +kernel
theorem dX10_scale_46 : decode cX10_scale 46 = .ok (.aload_n 0, 1) := by decide +kernel
theorem dX10_scale_47 : decode cX10_scale 47 = .ok (.getfield 37, 3) := by decide +kernel
theorem dX10_scale_50 : decode cX10_scale 50 = .ok (.iload_n 2, 1) := by decide +kernel
theorem dX10_scale_51 : decode cX10_scale 51 = .ok (.faload, 1) := by decide +kernel
theorem dX10_scale_52 : decode cX10_scale 52 = .ok (.iload_n 3, 1) := by decide +kernel
theorem dX10_scale_53 : decode cX10_scale 53 = .ok (.i2f, 1) := by decide +kernel
theorem dX10_scale_54 : decode cX10_scale 54 = .ok (.fmul, 1) := by decide +kernel
theorem dX10_scale_55 : decode cX10_scale 55 = .ok (.fstore 4, 2) := by decide +kernel
theorem dX10_scale_57 : decode cX10_scale 57 = .ok (.fload 4, 2) := by decide +kernel
theorem dX10_scale_59 : decode cX10_scale 59 = .ok (.ldc 240, 2) := by decide +kernel
theorem dX10_scale_61 : decode cX10_scale 61 = .ok (.fcmp .l, 1) := by decide +kernel
theorem dX10_scale_62 : decode cX10_scale 62 = .ok (.ifCond .gt 11, 3) := by decide +kernel
theorem dX10_scale_65 : decode cX10_scale 65 = .ok (.fload 4, 2) := by decide +kernel
theorem dX10_scale_67 : decode cX10_scale 67 = .ok (.ldc 241, 2) := by decide +kernel
theorem dX10_scale_69 : decode cX10_scale 69 = .ok (.fcmp .g, 1) := by decide +kernel
theorem dX10_scale_70 : decode cX10_scale 70 = .ok (.ifCond .ge 9, 3) := by decide +kernel
theorem dX10_scale_73 : decode cX10_scale 73 = .ok (.aload_n 0, 1) := by decide +kernel
theorem dX10_scale_74 : decode cX10_scale 74 = .ok (.iconst 3, 1) := by decide +kernel
theorem dX10_scale_75 : decode cX10_scale 75 = .ok (.invokevirtual 94, 3) := by decide +kernel
theorem dX10_scale_78 : decode cX10_scale 78 = .ok (.ireturn, 1) := by decide +kernel
theorem dX10_scale_79 : decode cX10_scale 79 = .ok (.aload_n 0, 1) := by decide +kernel
theorem dX10_scale_80 : decode cX10_scale 80 = .ok (.getfield 37, 3) := by decide +kernel
theorem dX10_scale_83 : decode cX10_scale 83 = .ok (.iload_n 2, 1) := by decide +kernel
theorem dX10_scale_84 : decode cX10_scale 84 = .ok (.fload 4, 2) := by decide +kernel
theorem dX10_scale_86 : decode cX10_scale 86 = .ok (.fastore, 1) := by decide +kernel
theorem dX10_scale_87 : decode cX10_scale 87 = .ok (.aload_n 0, 1) := by decide +kernel
theorem dX10_scale_88 : decode cX10_scale 88 = .ok (.fload 4, 2) := by decide +kernel
theorem dX10_scale_90 : decode cX10_scale 90 = .ok (.f2i, 1) := by decide +kernel
theorem dX10_scale_91 : decode cX10_scale 91 = .ok (.invokevirtual 105, 3) := by decide +kernel
theorem dX10_scale_94 : decode cX10_scale 94 = .ok (.ireturn, 1) := by decide +kernel
theorem dX10_scale_95 : decode cX10_scale 95 = .ok (.aload_n 0, 1) := by decide +kernel
theorem dX10_scale_96 : decode cX10_scale 96 = .ok (.getfield 41, 3) := by decide +kernel
theorem dX10_scale_99 : decode cX10_scale 99 = .ok (.iload_n 2, 1) := by decide +kernel
theorem dX10_scale_100 : decode cX10_scale 100 = .ok (.daload, 1) := by decide +kernel
theorem dX10_scale_101 : decode cX10_scale 101 = .ok (.iload_n 3, 1) := by decide +kernel
theorem dX10_scale_102 : decode cX10_scale 102 = .ok (.i2d, 1) := by decide +kernel
theorem dX10_scale_103 : decode cX10_scale 103 = .ok (.dmul, 1) := by decide +kernel
theorem dX10_scale_104 : decode cX10_scale 104 = .ok (.dstore 4, 2) := by decide +kernel
theorem dX10_scale_106 : decode cX10_scale 106 = .ok (.dload 4, 2) := by decide +kernel
theorem dX10_scale_108 : decode cX10_scale 108 = .ok (.ldc2_w 242, 3) := by decide +kernel
theorem dX10_scale_111 : decode cX10_scale 111 = .ok (.dcmp .l, 1) := by decide +kernel
theorem dX10_scale_112 : decode cX10_scale 112 = .ok (.ifCond .gt 12, 3) := by decide +kernel
theorem dX10_scale_115 : decode cX10_scale 115 = .ok (.dload 4, 2) := by decide +kernel
theorem dX10_scale_117 : decode cX10_scale 117 = .ok (.ldc2_w 244, 3) := by decide +kernel
theorem dX10_scale_120 : decode cX10_scale 120 = .ok (.dcmp .g, 1) := by decide +kernel
theorem dX10_scale_121 : decode cX10_scale 121 = .ok (.ifCond .ge 9, 3) := by decide +kernel
theorem dX10_scale_124 : decode cX10_scale 124 = .ok (.aload_n 0, 1) := by decide +kernel
theorem dX10_scale_125 : decode cX10_scale 125 = .ok (.iconst 3, 1) := by decide +kernel
theorem dX10_scale_126 : decode cX10_scale 126 = .ok (.invokevirtual 94, 3) := by decide +kernel
theorem dX10_scale_129 : decode cX10_scale 129 = .ok (.ireturn, 1) := by decide +kernel
theorem dX10_scale_130 : decode cX10_scale 130 = .ok (.aload_n 0, 1) := by decide +kernel
theorem dX10_scale_131 : decode cX10_scale 131 = .ok (.getfield 41, 3) := by decide +kernel
theorem dX10_scale_134 : decode cX10_scale 134 = .ok (.iload_n 2, 1) := by decide +kernel
theorem dX10_scale_135 : decode cX10_scale 135 = .ok (.dload 4, 2) := by decide +kernel
theorem dX10_scale_137 : decode cX10_scale 137 = .ok (.dastore, 1) := by decide +kernel
theorem dX10_scale_138 : decode cX10_scale 138 = .ok (.aload_n 0, 1) := by decide +kernel
theorem dX10_scale_139 : decode cX10_scale 139 = .ok (.dload 4, 2) := by decide +kernel
theorem dX10_scale_141 : decode cX10_scale 141 = .ok (.d2i, 1) := by decide +kernel
theorem dX10_scale_142 : decode cX10_scale 142 = .ok (.invokevirtual 105, 3) := by decide +kernel
theorem dX10_scale_145 : decode cX10_scale 145 = .ok (.ireturn, 1) := by decide +kernel
theorem dX10_remainder_0 : decode cX10_remainder 0 = .ok (.aload_n 0, 1) := by decide +kernel
theorem dX10_remainder_1 : decode cX10_remainder 1 = .ok (.iload_n 1, 1) := by decide +kernel
theorem dX10_remainder_2 : decode cX10_remainder 2 = .ok (.invokestatic 237, 3) := by decide +kernel
theorem dX10_remainder_5 : decode cX10_remainder 5 = .ok (.ifCond .eq 13, 3) := by decide +kernel
theorem dX10_remainder_8 : decode cX10_remainder 8 = .ok (.iload_n 2, 1) := by decide +kernel
theorem dX10_remainder_9 : decode cX10_remainder 9 = .ok (.iconst 0, 1) := by decide +kernel
theorem dX10_remainder_10 : decode cX10_remainder 10 = .ok (.bipush 23, 2) := by decide +kernel
theorem dX10_remainder_12 : decode cX10_remainder 12 = .ok (.invokestatic 90, 3) := by decide +kernel
theorem dX10_remainder_15 : decode cX10_remainder 15 = .ok (.ifCond .ne 7, 3) := by decide +kernel
theorem dX10_remainder_18 : decode cX10_remainder 18 = .ok (.iconst 1, 1) := by decide +kernel
theorem dX10_remainder_19 : decode cX10_remainder 19 = .ok (.goto 12, 3) := by decide +kernel
theorem dX10_remainder_22 : decode cX10_remainder 22 = .ok (.iload_n 3, 1) := by decide +kernel
theorem dX10_remainder_23 : decode cX10_remainder 23 = .ok (.ifCond .ne 7, 3) := by decide +kernel
theorem dX10_remainder_26 : decode cX10_remainder 26 = .ok (.iconst 2, 1) := by decide +kernel
theorem dX10_remainder_27 : decode cX10_remainder 27 = .ok (.goto 4, 3) := by decide +kernel
theorem dX10_remainder_30 : decode cX10_remainder 30 = .ok (.iconst 0, 1) := by decide +kernel
theorem dX10_remainder_31 : decode cX10_remainder 31 = .ok (.putfield 87, 3) := by decide +kernel
theorem dX10_remainder_34 : decode cX10_remainder 34 = .ok (.aload_n 0, 1) := by decide +kernel
theorem dX10_remainder_35 : decode cX10_remainder 35 = .ok (.getfield 87, 3) := by decide +kernel
theorem dX10_remainder_38 : decode cX10_remainder 38 = .ok (.ifCond .eq 5, 3) := by decide +kernel
theorem dX10_remainder_41 : decode cX10_remainder 41 = .ok (.dconst 0, 1) := by decide +kernel
theorem dX10_remainder_42 : decode cX10_remainder 42 = .ok (.dreturn, 1) := by decide +kernel
theorem dX10_remainder_43 : decode cX10_remainder 43 = .ok (.iload_n 1, 1) := by decide +kernel
theorem dX10_remainder_44 : decode cX10_remainder 44 = .ok (.ifCond .ne 16, 3) := by decide +kernel
theorem dX10_remainder_47 : decode cX10_remainder 47 = .ok (.aload_n 0, 1) := by decide +kernel
theorem dX10_remainder_48 : decode cX10_remainder 48 = .ok (.getfield 37, 3) := by decide +kernel
theorem dX10_remainder_51 : decode cX10_remainder 51 = .ok (.iload_n 2, 1) := by decide +kernel
theorem dX10_remainder_52 : decode cX10_remainder 52 = .ok (.faload, 1) := by decide +kernel
theorem dX10_remainder_53 : decode cX10_remainder 53 = .ok (.iload_n 3, 1) := by decide +kernel
theorem dX10_remainder_54 : decode cX10_remainder 54 = .ok (.i2f, 1) := by decide +kernel
theorem dX10_remainder_55 : decode cX10_remainder 55 = .ok (.frem, 1) := by decide +kernel
theorem dX10_remainder_56 : decode cX10_remainder 56 = .ok (.f2d, 1) := by decide +kernel
theorem dX10_remainder_57 : decode cX10_remainder 57 = .ok (.goto 12, 3) := by decide +kernel
theorem dX10_remainder_60 : decode cX10_remainder 60 = .ok (.aload_n 0, 1) := by decide +kernel
theorem dX10_remainder_61 : decode cX10_remainder 61 = .ok (.getfield 41, 3) := by decide +kernel
theorem dX10_remainder_64 : decode cX10_remainder 64 = .ok (.iload_n 2, 1) := by decide +kernel
theorem dX10_remainder_65 : decode cX10_remainder 65 = .ok (.daload, 1) := by decide +kernel
theorem dX10_remainder_66 : decode cX10_remainder 66 = .ok (.iload_n 3, 1) := by decide +kernel
theorem dX10_remainder_67 : decode cX10_remainder 67 = .ok (.i2d, 1) := by decide +kernel
theorem dX10_remainder_68 : decode cX10_remainder 68 = .ok (.drem, 1) := by decide +kernel
theorem dX10_remainder_69 : decode cX10_remainder 69 = .ok (.dreturn, 1) := by decide +kernel
theorem dX10_copy_0 : decode cX10_copy 0 = .ok (.iconst 0, 1) := by decide +kernel
theorem dX10_copy_1 : decode cX10_copy 1 = .ok (.istore_n 2, 1) := by decide +kernel
theorem dX10_copy_2 : decode cX10_copy 2 = .ok (.iload_n 2, 1) := by decide +kernel
theorem dX10_copy_3 : decode cX10_copy 3 = .ok (.aload_n 0, 1) := by decide +kernel
theorem dX10_copy_4 : decode cX10_copy 4 = .ok (.arraylength, 1) := by decide +kernel
theorem dX10_copy_5 : decode cX10_copy 5 = .ok (.if_icmp .ge 15, 3) := by decide +kernel
theorem dX10_copy_8 : decode cX10_copy 8 = .ok (.aload_n 1, 1) := by decide +kernel
theorem dX10_copy_9 : decode cX10_copy 9 = .ok (.iload_n 2, 1) := by decide +kernel
theorem dX10_copy_10 : decode cX10_copy 10 = .ok (.aload_n 0, 1) := by decide +kernel
theorem dX10_copy_11 : decode cX10_copy 11 = .ok (.iload_n 2, 1) := by decide +kernel
theorem dX10_copy_12 : decode cX10_copy 12 = .ok (.iaload, 1) := by decide +kernel
theorem dX10_copy_13 : decode cX10_copy 13 = .ok (.iastore, 1) := by decide +kernel
theorem dX10_copy_14 : decode cX10_copy 14 = .ok (.iinc 2 1, 3) := by decide +kernel
theorem dX10_copy_17 : decode cX10_copy 17 = .ok (.goto (-15), 3) := by decide +kernel
theorem dX10_copy_20 : decode cX10_copy 20 = .ok (.return_, 1) := by decide +kernel
theorem dX10_snapshot_0 : decode cX10_snapshot 0 = .ok (.aload_n 0, 1) := by decide +kernel
theorem dX10_snapshot_1 : decode cX10_snapshot 1 = .ok (.iconst 0, 1) := by decide +kernel
theorem dX10_snapshot_2 : decode cX10_snapshot 2 = .ok (.putfield 87, 3) := by decide +kernel
theorem dX10_snapshot_5 : decode cX10_snapshot 5 = .ok (.aload_n 0, 1) := by decide +kernel
theorem dX10_snapshot_6 : decode cX10_snapshot 6 = .ok (.iconst 1, 1) := by decide +kernel
theorem dX10_snapshot_7 : decode cX10_snapshot 7 = .ok (.putfield 98, 3) := by decide +kernel
theorem dX10_snapshot_10 : decode cX10_snapshot 10 = .ok (.aload_n 0, 1) := by decide +kernel
theorem dX10_snapshot_11 : decode cX10_snapshot 11 = .ok (.getfield 13, 3) := by decide +kernel
theorem dX10_snapshot_14 : decode cX10_snapshot 14 = .ok (.aload_n 0, 1) := by decide +kernel
theorem dX10_snapshot_15 : decode cX10_snapshot 15 = .ok (.getfield 45, 3) := by decide +kernel
theorem dX10_snapshot_18 : decode cX10_snapshot 18 = .ok (.invokestatic 246, 3) := by decide +kernel
theorem dX10_snapshot_21 : decode cX10_snapshot 21 = .ok (.aload_n 0, 1) := by decide +kernel
theorem dX10_snapshot_22 : decode cX10_snapshot 22 = .ok (.getfield 21, 3) := by decide +kernel
theorem dX10_snapshot_25 : decode cX10_snapshot 25 = .ok (.aload_n 0, 1) := by decide +kernel
theorem dX10_snapshot_26 : decode cX10_snapshot 26 = .ok (.getfield 51, 3) := by decide +kernel
theorem dX10_snapshot_29 : decode cX10_snapshot 29 = .ok (.invokestatic 246, 3) := by decide +kernel
theorem dX10_snapshot_32 : decode cX10_snapshot 32 = .ok (.aload_n 0, 1) := by decide +kernel
theorem dX10_snapshot_33 : decode cX10_snapshot 33 = .ok (.getfield 24, 3) := by decide +kernel
theorem dX10_snapshot_36 : decode cX10_snapshot 36 = .ok (.aload_n 0, 1) := by decide +kernel
theorem dX10_snapshot_37 : decode cX10_snapshot 37 = .ok (.getfield 54, 3) := by decide +kernel
theorem dX10_snapshot_40 : decode cX10_snapshot 40 = .ok (.invokestatic 246, 3) := by decide +kernel
theorem dX10_snapshot_43 : decode cX10_snapshot 43 = .ok (.aload_n 0, 1) := by decide +kernel
theorem dX10_snapshot_44 : decode cX10_snapshot 44 = .ok (.getfield 27, 3) := by decide +kernel
theorem dX10_snapshot_47 : decode cX10_snapshot 47 = .ok (.aload_n 0, 1) := by decide +kernel
theorem dX10_snapshot_48 : decode cX10_snapshot 48 = .ok (.getfield 57, 3) := by decide +kernel
theorem dX10_snapshot_51 : decode cX10_snapshot 51 = .ok (.invokestatic 246, 3) := by decide +kernel
theorem dX10_snapshot_54 : decode cX10_snapshot 54 = .ok (.iconst 0, 1) := by decide +kernel
theorem dX10_snapshot_55 : decode cX10_snapshot 55 = .ok (.istore_n 1, 1) := by decide +kernel
theorem dX10_snapshot_56 : decode cX10_snapshot 56 = .ok (.iload_n 1, 1) := by decide +kernel
theorem dX10_snapshot_57 : decode cX10_snapshot 57 = .ok (.iconst 5, 1) := by decide +kernel
theorem dX10_snapshot_58 : decode cX10_snapshot 58 = .ok (.if_icmp .ge 21, 3) := by decide +kernel
theorem dX10_snapshot_61 : decode cX10_snapshot 61 = .ok (.aload_n 0, 1) := by decide +kernel
theorem dX10_snapshot_62 : decode cX10_snapshot 62 = .ok (.getfield 48, 3) := by decide +kernel
theorem dX10_snapshot_65 : decode cX10_snapshot 65 = .ok (.iload_n 1, 1) := by decide +kernel
theorem dX10_snapshot_66 : decode cX10_snapshot 66 = .ok (.aload_n 0, 1) := by decide +kernel
theorem dX10_snapshot_67 : decode cX10_snapshot 67 = .ok (.getfield 17, 3) := by decide +kernel
theorem dX10_snapshot_70 : decode cX10_snapshot 70 = .ok (.iload_n 1, 1) := by decide +kernel
theorem dX10_snapshot_71 : decode cX10_snapshot 71 = .ok (.baload, 1) := by decide +kernel
theorem dX10_snapshot_72 : decode cX10_snapshot 72 = .ok (.bastore, 1) := by decide +kernel
theorem dX10_snapshot_73 : decode cX10_snapshot 73 = .ok (.iinc 1 1, 3) := by decide +kernel
theorem dX10_snapshot_76 : decode cX10_snapshot 76 = .ok (.goto (-20), 3) := by decide +kernel
theorem dX10_snapshot_79 : decode cX10_snapshot 79 = .ok (.return_, 1) := by decide +kernel
theorem dX10_restore_0 : decode cX10_restore 0 = .ok (.aload_n 0, 1) := by decide +kernel
theorem dX10_restore_1 : decode cX10_restore 1 = .ok (.aload_n 0, 1) := by decide +kernel
theorem dX10_restore_2 : decode cX10_restore 2 = .ok (.getfield 98, 3) := by decide +kernel
theorem dX10_restore_5 : decode cX10_restore 5 = .ok (.ifCond .eq 7, 3) := by decide +kernel
theorem dX10_restore_8 : decode cX10_restore 8 = .ok (.iconst 0, 1) := by decide +kernel
theorem dX10_restore_9 : decode cX10_restore 9 = .ok (.goto 4, 3) := by decide +kernel
theorem dX10_restore_12 : decode cX10_restore 12 = .ok (.iconst 1, 1) := by decide +kernel
theorem dX10_restore_13 : decode cX10_restore 13 = .ok (.putfield 87, 3) := by decide +kernel
theorem dX10_restore_16 : decode cX10_restore 16 = .ok (.aload_n 0, 1) := by decide +kernel
theorem dX10_restore_17 : decode cX10_restore 17 = .ok (.getfield 87, 3) := by decide +kernel
theorem dX10_restore_20 : decode cX10_restore 20 = .ok (.ifCond .eq 4, 3) := by decide +kernel
theorem dX10_restore_23 : decode cX10_restore 23 = .ok (.return_, 1) := by decide +kernel
theorem dX10_restore_24 : decode cX10_restore 24 = .ok (.aload_n 0, 1) := by decide +kernel
theorem dX10_restore_25 : decode cX10_restore 25 = .ok (.getfield 45, 3) := by decide +kernel
theorem dX10_restore_28 : decode cX10_restore 28 = .ok (.aload_n 0, 1) := by decide +kernel
theorem dX10_restore_29 : decode cX10_restore 29 = .ok (.getfield 13, 3) := by decide +kernel
theorem dX10_restore_32 : decode cX10_restore 32 = .ok (.invokestatic 246, 3) := by decide +kernel
theorem dX10_restore_35 : decode cX10_restore 35 = .ok (.aload_n 0, 1) := by decide +kernel
theorem dX10_restore_36 : decode cX10_restore 36 = .ok (.getfield 51, 3) := by decide +kernel
theorem dX10_restore_39 : decode cX10_restore 39 = .ok (.aload_n 0, 1) := by decide +kernel
theorem dX10_restore_40 : decode cX10_restore 40 = .ok (.getfield 21, 3) := by decide +kernel
theorem dX10_restore_43 : decode cX10_restore 43 = .ok (.invokestatic 246, 3) := by decide +kernel
theorem dX10_restore_46 : decode cX10_restore 46 = .ok (.aload_n 0, 1) := by decide +kernel
theorem dX10_restore_47 : decode cX10_restore 47 = .ok (.getfield 54, 3) := by decide +kernel
theorem dX10_restore_50 : decode cX10_restore 50 = .ok (.aload_n 0, 1) := by decide +kernel
theorem dX10_restore_51 : decode cX10_restore 51 = .ok (.getfield 24, 3) := by decide +kernel
theorem dX10_restore_54 : decode cX10_restore 54 = .ok (.invokestatic 246, 3) := by decide +kernel
theorem dX10_restore_57 : decode cX10_restore 57 = .ok (.aload_n 0, 1) := by decide +kernel
theorem dX10_restore_58 : decode cX10_restore 58 = .ok (.getfield 57, 3) := by decide +kernel
theorem dX10_restore_61 : decode cX10_restore 61 = .ok (.aload_n 0, 1) := by decide +kernel
theorem dX10_restore_62 : decode cX10_restore 62 = .ok (.getfield 27, 3) := by decide +kernel
theorem dX10_restore_65 : decode cX10_restore 65 = .ok (.invokestatic 246, 3) := by decide +kernel
theorem dX10_restore_68 : decode cX10_restore 68 = .ok (.iconst 0, 1) := by decide +kernel
theorem dX10_restore_69 : decode cX10_restore 69 = .ok (.istore_n 1, 1) := by decide +kernel
theorem dX10_restore_70 : decode cX10_restore 70 = .ok (.iload_n 1, 1) := by decide +kernel
theorem dX10_restore_71 : decode cX10_restore 71 = .ok (.iconst 5, 1) := by decide +kernel
theorem dX10_restore_72 : decode cX10_restore 72 = .ok (.if_icmp .ge 21, 3) := by decide +kernel
theorem dX10_restore_75 : decode cX10_restore 75 = .ok (.aload_n 0, 1) := by decide +kernel
theorem dX10_restore_76 : decode cX10_restore 76 = .ok (.getfield 17, 3) := by decide +kernel
theorem dX10_restore_79 : decode cX10_restore 79 = .ok (.iload_n 1, 1) := by decide +kernel
theorem dX10_restore_80 : decode cX10_restore 80 = .ok (.aload_n 0, 1) := by decide +kernel
theorem dX10_restore_81 : decode cX10_restore 81 = .ok (.getfield 48, 3) := by decide +kernel
theorem dX10_restore_84 : decode cX10_restore 84 = .ok (.iload_n 1, 1) := by decide +kernel
theorem dX10_restore_85 : decode cX10_restore 85 = .ok (.baload, 1) := by decide +kernel
theorem dX10_restore_86 : decode cX10_restore 86 = .ok (.bastore, 1) := by decide +kernel
theorem dX10_restore_87 : decode cX10_restore 87 = .ok (.iinc 1 1, 3) := by decide +kernel
theorem dX10_restore_90 : decode cX10_restore 90 = .ok (.goto (-20), 3) := by decide +kernel
theorem dX10_restore_93 : decode cX10_restore 93 = .ok (.aload_n 0, 1) := by decide +kernel
theorem dX10_restore_94 : decode cX10_restore 94 = .ok (.iconst 0, 1) := by decide +kernel
theorem dX10_restore_95 : decode cX10_restore 95 = .ok (.putfield 102, 3) := by decide +kernel
theorem dX10_restore_98 : decode cX10_restore 98 = .ok (.return_, 1) := by decide +kernel
theorem dJx00060_init_a7421_0 : decode cJx00060_init_a7421 0 = .ok (.aload_n 0, 1) := by decide +kernel
theorem dJx00060_init_a7421_1 : decode cJx00060_init_a7421 1 = .ok (.aload_n 1, 1) := by decide +kernel
theorem dJx00060_init_a7421_2 : decode cJx00060_init_a7421 2 = .ok (.invokespecial 7, 3) := by decide +kernel
theorem dJx00060_init_a7421_5 : decode cJx00060_init_a7421 5 = .ok (.return_, 1) := by decide +kernel
theorem dJ6_bitCount_0f7a4_0 : decode cJ6_bitCount_0f7a4 0 = .ok (.iload_n 0, 1) := by decide +kernel
theorem dJ6_bitCount_0f7a4_1 : decode cJ6_bitCount_0f7a4 1 = .ok (.iload_n 0, 1) := by decide +kernel
theorem dJ6_bitCount_0f7a4_2 : decode cJ6_bitCount_0f7a4 2 = .ok (.iconst 1, 1) := by decide +kernel
theorem dJ6_bitCount_0f7a4_3 : decode cJ6_bitCount_0f7a4 3 = .ok (.iushr, 1) := by decide +kernel
theorem dJ6_bitCount_0f7a4_4 : decode cJ6_bitCount_0f7a4 4 = .ok (.ldc_w 265, 3) := by decide +kernel
theorem dJ6_bitCount_0f7a4_7 : decode cJ6_bitCount_0f7a4 7 = .ok (.iand, 1) := by decide +kernel
theorem dJ6_bitCount_0f7a4_8 : decode cJ6_bitCount_0f7a4 8 = .ok (.isub, 1) := by decide +kernel
theorem dJ6_bitCount_0f7a4_9 : decode cJ6_bitCount_0f7a4 9 = .ok (.istore_n 0, 1) := by decide +kernel
theorem dJ6_bitCount_0f7a4_10 : decode cJ6_bitCount_0f7a4 10 = .ok (.iload_n 0, 1) := by decide +kernel
theorem dJ6_bitCount_0f7a4_11 : decode cJ6_bitCount_0f7a4 11 = .ok (.ldc_w 266, 3) := by decide +kernel
theorem dJ6_bitCount_0f7a4_14 : decode cJ6_bitCount_0f7a4 14 = .ok (.iand, 1) := by decide +kernel
theorem dJ6_bitCount_0f7a4_15 : decode cJ6_bitCount_0f7a4 15 = .ok (.iload_n 0, 1) := by decide +kernel
theorem dJ6_bitCount_0f7a4_16 : decode cJ6_bitCount_0f7a4 16 = .ok (.iconst 2, 1) := by decide +kernel
theorem dJ6_bitCount_0f7a4_17 : decode cJ6_bitCount_0f7a4 17 = .ok (.iushr, 1) := by decide +kernel
theorem dJ6_bitCount_0f7a4_18 : decode cJ6_bitCount_0f7a4 18 = .ok (.ldc_w 266, 3) := by decide +kernel
theorem dJ6_bitCount_0f7a4_21 : decode cJ6_bitCount_0f7a4 21 = .ok (.iand, 1) := by decide +kernel
theorem dJ6_bitCount_0f7a4_22 : decode cJ6_bitCount_0f7a4 22 = .ok (.iadd, 1) := by decide +kernel
theorem dJ6_bitCount_0f7a4_23 : decode cJ6_bitCount_0f7a4 23 = .ok (.istore_n 0, 1) := by decide +kernel
theorem dJ6_bitCount_0f7a4_24 : decode cJ6_bitCount_0f7a4 24 = .ok (.iload_n 0, 1) := by decide +kernel
theorem dJ6_bitCount_0f7a4_25 : decode cJ6_bitCount_0f7a4 25 = .ok (.iload_n 0, 1) := by decide +kernel
theorem dJ6_bitCount_0f7a4_26 : decode cJ6_bitCount_0f7a4 26 = .ok (.iconst 4, 1) := by decide +kernel
theorem dJ6_bitCount_0f7a4_27 : decode cJ6_bitCount_0f7a4 27 = .ok (.iushr, 1) := by decide +kernel
theorem dJ6_bitCount_0f7a4_28 : decode cJ6_bitCount_0f7a4 28 = .ok (.iadd, 1) := by decide +kernel
theorem dJ6_bitCount_0f7a4_29 : decode cJ6_bitCount_0f7a4 29 = .ok (.ldc_w 267, 3) := by decide +kernel
theorem dJ6_bitCount_0f7a4_32 : decode cJ6_bitCount_0f7a4 32 = .ok (.iand, 1) := by decide +kernel
theorem dJ6_bitCount_0f7a4_33 : decode cJ6_bitCount_0f7a4 33 = .ok (.istore_n 0, 1) := by decide +kernel
theorem dJ6_bitCount_0f7a4_34 : decode cJ6_bitCount_0f7a4 34 = .ok (.iload_n 0, 1) := by decide +kernel
theorem dJ6_bitCount_0f7a4_35 : decode cJ6_bitCount_0f7a4 35 = .ok (.iload_n 0, 1) := by decide +kernel
theorem dJ6_bitCount_0f7a4_36 : decode cJ6_bitCount_0f7a4 36 = .ok (.bipush 8, 2) := by decide +kernel
theorem dJ6_bitCount_0f7a4_38 : decode cJ6_bitCount_0f7a4 38 = .ok (.iushr, 1) := by decide +kernel
theorem dJ6_bitCount_0f7a4_39 : decode cJ6_bitCount_0f7a4 39 = .ok (.iadd, 1) := by decide +kernel
theorem dJ6_bitCount_0f7a4_40 : decode cJ6_bitCount_0f7a4 40 = .ok (.istore_n 0, 1) := by decide +kernel
theorem dJ6_bitCount_0f7a4_41 : decode cJ6_bitCount_0f7a4 41 = .ok (.iload_n 0, 1) := by decide +kernel
theorem dJ6_bitCount_0f7a4_42 : decode cJ6_bitCount_0f7a4 42 = .ok (.iload_n 0, 1) := by decide +kernel
theorem dJ6_bitCount_0f7a4_43 : decode cJ6_bitCount_0f7a4 43 = .ok (.bipush 16, 2) := by decide +kernel
theorem dJ6_bitCount_0f7a4_45 : decode cJ6_bitCount_0f7a4 45 = .ok (.iushr, 1) := by decide +kernel
theorem dJ6_bitCount_0f7a4_46 : decode cJ6_bitCount_0f7a4 46 = .ok (.iadd, 1) := by decide +kernel
theorem dJ6_bitCount_0f7a4_47 : decode cJ6_bitCount_0f7a4 47 = .ok (.istore_n 0, 1) := by decide +kernel
theorem dJ6_bitCount_0f7a4_48 : decode cJ6_bitCount_0f7a4 48 = .ok (.iload_n 0, 1) := by decide +kernel
theorem dJ6_bitCount_0f7a4_49 : decode cJ6_bitCount_0f7a4 49 = .ok (.bipush 63, 2) := by decide +kernel
theorem dJ6_bitCount_0f7a4_51 : decode cJ6_bitCount_0f7a4 51 = .ok (.iand, 1) := by decide +kernel
theorem dJ6_bitCount_0f7a4_52 : decode cJ6_bitCount_0f7a4 52 = .ok (.ireturn, 1) := by decide +kernel
theorem dJ9_abs_0f7a4_0 : decode cJ9_abs_0f7a4 0 = .ok (.iload_n 0, 1) := by decide +kernel
theorem dJ9_abs_0f7a4_1 : decode cJ9_abs_0f7a4 1 = .ok (.ifCond .ge 8, 3) := by decide +kernel
theorem dJ9_abs_0f7a4_4 : decode cJ9_abs_0f7a4 4 = .ok (.iload_n 0, 1) := by decide +kernel
theorem dJ9_abs_0f7a4_5 : decode cJ9_abs_0f7a4 5 = .ok (.ineg, 1) := by decide +kernel
theorem dJ9_abs_0f7a4_6 : decode cJ9_abs_0f7a4 6 = .ok (.goto 4, 3) := by decide +kernel
theorem dJ9_abs_0f7a4_9 : decode cJ9_abs_0f7a4 9 = .ok (.iload_n 0, 1) := by decide +kernel
theorem dJ9_abs_0f7a4_10 : decode cJ9_abs_0f7a4 10 = .ok (.ireturn, 1) := by decide +kernel
theorem dJ9_max_7cf53_0 : decode cJ9_max_7cf53 0 = .ok (.iload_n 0, 1) := by decide +kernel
theorem dJ9_max_7cf53_1 : decode cJ9_max_7cf53 1 = .ok (.iload_n 1, 1) := by decide +kernel
theorem dJ9_max_7cf53_2 : decode cJ9_max_7cf53 2 = .ok (.if_icmp .lt 7, 3) := by decide +kernel
theorem dJ9_max_7cf53_5 : decode cJ9_max_7cf53 5 = .ok (.iload_n 0, 1) := by decide +kernel
theorem dJ9_max_7cf53_6 : decode cJ9_max_7cf53 6 = .ok (.goto 4, 3) := by decide +kernel
theorem dJ9_max_7cf53_9 : decode cJ9_max_7cf53 9 = .ok (.iload_n 1, 1) := by decide +kernel
theorem dJ9_max_7cf53_10 : decode cJ9_max_7cf53 10 = .ok (.ireturn, 1) := by decide +kernel
theorem dL_reset_0 : decode cL_reset 0 = .ok (.aload_n 2, 1) := by decide +kernel
theorem dL_reset_1 : decode cL_reset 1 = .ok (.iconst 0, 1) := by decide +kernel
theorem dL_reset_2 : decode cL_reset 2 = .ok (.aload_n 0, 1) := by decide +kernel
theorem dL_reset_3 : decode cL_reset 3 = .ok (.iload_n 1, 1) := by decide +kernel
theorem dL_reset_4 : decode cL_reset 4 = .ok (.invokevirtual 7, 3) := by decide +kernel
theorem dL_reset_7 : decode cL_reset 7 = .ok (.i2l, 1) := by decide +kernel
theorem dL_reset_8 : decode cL_reset 8 = .ok (.lastore, 1) := by decide +kernel
theorem dL_reset_9 : decode cL_reset 9 = .ok (.goto 6, 3) := by decide +kernel
theorem dL_reset_12 : decode cL_reset 12 = .ok (.astore_n 3, 1) := by decide +kernel
theorem dL_reset_13 : decode cL_reset 13 = .ok (.iconst 1, 1) := by decide +kernel
theorem dL_reset_14 : decode cL_reset 14 = .ok (.ireturn, 1) := by decide +kernel
theorem dL_reset_15 : decode cL_reset 15 = .ok (.iconst 0, 1) := by decide +kernel
theorem dL_reset_16 : decode cL_reset 16 = .ok (.ireturn, 1) := by decide +kernel
theorem dL_append_0 : decode cL_append 0 = .ok (.aload_n 2, 1) := by decide +kernel
theorem dL_append_1 : decode cL_append 1 = .ok (.iconst 0, 1) := by decide +kernel
theorem dL_append_2 : decode cL_append 2 = .ok (.aload_n 0, 1) := by decide +kernel
theorem dL_append_3 : decode cL_append 3 = .ok (.iload_n 1, 1) := by decide +kernel
theorem dL_append_4 : decode cL_append 4 = .ok (.invokevirtual 15, 3) := by decide +kernel
theorem dL_append_7 : decode cL_append 7 = .ok (.i2l, 1) := by decide +kernel
theorem dL_append_8 : decode cL_append 8 = .ok (.lastore, 1) := by decide +kernel
theorem dL_append_9 : decode cL_append 9 = .ok (.goto 9, 3) := by decide +kernel
theorem dL_append_12 : decode cL_append 12 = .ok (.astore_n 3, 1) := by decide +kernel
theorem dL_append_13 : decode cL_append 13 = .ok (.iconst 1, 1) := by decide +kernel
theorem dL_append_14 : decode cL_append 14 = .ok (.ireturn, 1) := by decide +kernel
theorem dL_append_15 : decode cL_append 15 = .ok (.astore_n 3, 1) := by decide +kernel
theorem dL_append_16 : decode cL_append 16 = .ok (.iconst 2, 1) := by decide +kernel
theorem dL_append_17 : decode cL_append 17 = .ok (.ireturn, 1) := by decide +kernel
theorem dL_append_18 : decode cL_append 18 = .ok (.iconst 0, 1) := by decide +kernel
theorem dL_append_19 : decode cL_append 19 = .ok (.ireturn, 1) := by decide +kernel
theorem dL_define_0 : decode cL_define 0 = .ok (.aload_n 2, 1) := by decide +kernel
theorem dL_define_1 : decode cL_define 1 = .ok (.iconst 0, 1) := by decide +kernel
theorem dL_define_2 : decode cL_define 2 = .ok (.aload_n 0, 1) := by decide +kernel
theorem dL_define_3 : decode cL_define 3 = .ok (.iload_n 1, 1) := by decide +kernel
theorem dL_define_4 : decode cL_define 4 = .ok (.invokevirtual 21, 3) := by decide +kernel
theorem dL_define_7 : decode cL_define 7 = .ok (.i2l, 1) := by decide +kernel
theorem dL_define_8 : decode cL_define 8 = .ok (.lastore, 1) := by decide +kernel
theorem dL_define_9 : decode cL_define 9 = .ok (.goto 9, 3) := by decide +kernel
theorem dL_define_12 : decode cL_define 12 = .ok (.astore_n 3, 1) := by decide +kernel
theorem dL_define_13 : decode cL_define 13 = .ok (.iconst 1, 1) := by decide +kernel
theorem dL_define_14 : decode cL_define 14 = .ok (.ireturn, 1) := by decide +kernel
theorem dL_define_15 : decode cL_define 15 = .ok (.astore_n 3, 1) := by decide +kernel
theorem dL_define_16 : decode cL_define 16 = .ok (.iconst 2, 1) := by decide +kernel
theorem dL_define_17 : decode cL_define 17 = .ok (.ireturn, 1) := by decide +kernel
theorem dL_define_18 : decode cL_define 18 = .ok (.iconst 0, 1) := by decide +kernel
theorem dL_define_19 : decode cL_define 19 = .ok (.ireturn, 1) := by decide +kernel
theorem dL_store_0 : decode cL_store 0 = .ok (.aload_n 2, 1) := by decide +kernel
theorem dL_store_1 : decode cL_store 1 = .ok (.iconst 0, 1) := by decide +kernel
theorem dL_store_2 : decode cL_store 2 = .ok (.aload_n 0, 1) := by decide +kernel
theorem dL_store_3 : decode cL_store 3 = .ok (.iload_n 1, 1) := by decide +kernel
theorem dL_store_4 : decode cL_store 4 = .ok (.invokevirtual 26, 3) := by decide +kernel
theorem dL_store_7 : decode cL_store 7 = .ok (.i2l, 1) := by decide +kernel
theorem dL_store_8 : decode cL_store 8 = .ok (.lastore, 1) := by decide +kernel
theorem dL_store_9 : decode cL_store 9 = .ok (.goto 15, 3) := by decide +kernel
theorem dL_store_12 : decode cL_store 12 = .ok (.astore_n 3, 1) := by decide +kernel
theorem dL_store_13 : decode cL_store 13 = .ok (.iconst 1, 1) := by decide +kernel
theorem dL_store_14 : decode cL_store 14 = .ok (.ireturn, 1) := by decide +kernel
theorem dL_store_15 : decode cL_store 15 = .ok (.astore_n 3, 1) := by decide +kernel
theorem dL_store_16 : decode cL_store 16 = .ok (.iconst 2, 1) := by decide +kernel
theorem dL_store_17 : decode cL_store 17 = .ok (.ireturn, 1) := by decide +kernel
theorem dL_store_18 : decode cL_store 18 = .ok (.astore_n 3, 1) := by decide +kernel
theorem dL_store_19 : decode cL_store 19 = .ok (.iconst 3, 1) := by decide +kernel
theorem dL_store_20 : decode cL_store 20 = .ok (.ireturn, 1) := by decide +kernel
theorem dL_store_21 : decode cL_store 21 = .ok (.astore_n 3, 1) := by decide +kernel
theorem dL_store_22 : decode cL_store 22 = .ok (.iconst 4, 1) := by decide +kernel
theorem dL_store_23 : decode cL_store 23 = .ok (.ireturn, 1) := by decide +kernel
theorem dL_store_24 : decode cL_store 24 = .ok (.iconst 0, 1) := by decide +kernel
theorem dL_store_25 : decode cL_store 25 = .ok (.ireturn, 1) := by decide +kernel
theorem dL_errorPosition_0 : decode cL_errorPosition 0 = .ok (.aload_n 1, 1) := by decide +kernel
theorem dL_errorPosition_1 : decode cL_errorPosition 1 = .ok (.iconst 0, 1) := by decide +kernel
theorem dL_errorPosition_2 : decode cL_errorPosition 2 = .ok (.aload_n 0, 1) := by decide +kernel
theorem dL_errorPosition_3 : decode cL_errorPosition 3 = .ok (.invokevirtual 31, 3) := by decide +kernel
theorem dL_errorPosition_6 : decode cL_errorPosition 6 = .ok (.i2l, 1) := by decide +kernel
theorem dL_errorPosition_7 : decode cL_errorPosition 7 = .ok (.lastore, 1) := by decide +kernel
theorem dL_errorPosition_8 : decode cL_errorPosition 8 = .ok (.goto 6, 3) := by decide +kernel
theorem dL_errorPosition_11 : decode cL_errorPosition 11 = .ok (.astore_n 2, 1) := by decide +kernel
theorem dL_errorPosition_12 : decode cL_errorPosition 12 = .ok (.iconst 1, 1) := by decide +kernel
theorem dL_errorPosition_13 : decode cL_errorPosition 13 = .ok (.ireturn, 1) := by decide +kernel
theorem dL_errorPosition_14 : decode cL_errorPosition 14 = .ok (.iconst 0, 1) := by decide +kernel
theorem dL_errorPosition_15 : decode cL_errorPosition 15 = .ok (.ireturn, 1) := by decide +kernel
theorem dL_target_0 : decode cL_target 0 = .ok (.aload_n 3, 1) := by decide +kernel
theorem dL_target_1 : decode cL_target 1 = .ok (.iconst 0, 1) := by decide +kernel
theorem dL_target_2 : decode cL_target 2 = .ok (.aload_n 0, 1) := by decide +kernel
theorem dL_target_3 : decode cL_target 3 = .ok (.iload_n 1, 1) := by decide +kernel
theorem dL_target_4 : decode cL_target 4 = .ok (.iload_n 2, 1) := by decide +kernel
theorem dL_target_5 : decode cL_target 5 = .ok (.invokevirtual 37, 3) := by decide +kernel
theorem dL_target_8 : decode cL_target 8 = .ok (.i2l, 1) := by decide +kernel
theorem dL_target_9 : decode cL_target 9 = .ok (.lastore, 1) := by decide +kernel
theorem dL_target_10 : decode cL_target 10 = .ok (.goto 11, 3) := by decide +kernel
theorem dL_target_13 : decode cL_target 13 = .ok (.astore 4, 2) := by decide +kernel
theorem dL_target_15 : decode cL_target 15 = .ok (.iconst 1, 1) := by decide +kernel
theorem dL_target_16 : decode cL_target 16 = .ok (.ireturn, 1) := by decide +kernel
theorem dL_target_17 : decode cL_target 17 = .ok (.astore 4, 2) := by decide +kernel
theorem dL_target_19 : decode cL_target 19 = .ok (.iconst 2, 1) := by decide +kernel
theorem dL_target_20 : decode cL_target 20 = .ok (.ireturn, 1) := by decide +kernel
theorem dL_target_21 : decode cL_target 21 = .ok (.iconst 0, 1) := by decide +kernel
theorem dL_target_22 : decode cL_target 22 = .ok (.ireturn, 1) := by decide +kernel
theorem dL_wordLength_0 : decode cL_wordLength 0 = .ok (.aload_n 2, 1) := by decide +kernel
theorem dL_wordLength_1 : decode cL_wordLength 1 = .ok (.iconst 0, 1) := by decide +kernel
theorem dL_wordLength_2 : decode cL_wordLength 2 = .ok (.aload_n 0, 1) := by decide +kernel
theorem dL_wordLength_3 : decode cL_wordLength 3 = .ok (.iload_n 1, 1) := by decide +kernel
theorem dL_wordLength_4 : decode cL_wordLength 4 = .ok (.invokevirtual 41, 3) := by decide +kernel
theorem dL_wordLength_7 : decode cL_wordLength 7 = .ok (.i2l, 1) := by decide +kernel
theorem dL_wordLength_8 : decode cL_wordLength 8 = .ok (.lastore, 1) := by decide +kernel
theorem dL_wordLength_9 : decode cL_wordLength 9 = .ok (.goto 6, 3) := by decide +kernel
theorem dL_wordLength_12 : decode cL_wordLength 12 = .ok (.astore_n 3, 1) := by decide +kernel
theorem dL_wordLength_13 : decode cL_wordLength 13 = .ok (.iconst 1, 1) := by decide +kernel
theorem dL_wordLength_14 : decode cL_wordLength 14 = .ok (.ireturn, 1) := by decide +kernel
theorem dL_wordLength_15 : decode cL_wordLength 15 = .ok (.iconst 0, 1) := by decide +kernel
theorem dL_wordLength_16 : decode cL_wordLength 16 = .ok (.ireturn, 1) := by decide +kernel
theorem dL_letter_0 : decode cL_letter 0 = .ok (.aload_n 3, 1) := by decide +kernel
theorem dL_letter_1 : decode cL_letter 1 = .ok (.iconst 0, 1) := by decide +kernel
theorem dL_letter_2 : decode cL_letter 2 = .ok (.aload_n 0, 1) := by decide +kernel
theorem dL_letter_3 : decode cL_letter 3 = .ok (.iload_n 1, 1) := by decide +kernel
theorem dL_letter_4 : decode cL_letter 4 = .ok (.iload_n 2, 1) := by decide +kernel
theorem dL_letter_5 : decode cL_letter 5 = .ok (.invokevirtual 44, 3) := by decide +kernel
theorem dL_letter_8 : decode cL_letter 8 = .ok (.i2l, 1) := by decide +kernel
theorem dL_letter_9 : decode cL_letter 9 = .ok (.lastore, 1) := by decide +kernel
theorem dL_letter_10 : decode cL_letter 10 = .ok (.goto 7, 3) := by decide +kernel
theorem dL_letter_13 : decode cL_letter 13 = .ok (.astore 4, 2) := by decide +kernel
theorem dL_letter_15 : decode cL_letter 15 = .ok (.iconst 1, 1) := by decide +kernel
theorem dL_letter_16 : decode cL_letter 16 = .ok (.ireturn, 1) := by decide +kernel
theorem dL_letter_17 : decode cL_letter 17 = .ok (.iconst 0, 1) := by decide +kernel
theorem dL_letter_18 : decode cL_letter 18 = .ok (.ireturn, 1) := by decide +kernel
theorem dL_invert_0 : decode cL_invert 0 = .ok (.aload_n 3, 1) := by decide +kernel
theorem dL_invert_1 : decode cL_invert 1 = .ok (.iconst 0, 1) := by decide +kernel
theorem dL_invert_2 : decode cL_invert 2 = .ok (.aload_n 0, 1) := by decide +kernel
theorem dL_invert_3 : decode cL_invert 3 = .ok (.iload_n 1, 1) := by decide +kernel
theorem dL_invert_4 : decode cL_invert 4 = .ok (.iload_n 2, 1) := by decide +kernel
theorem dL_invert_5 : decode cL_invert 5 = .ok (.invokevirtual 47, 3) := by decide +kernel
theorem dL_invert_8 : decode cL_invert 8 = .ok (.i2l, 1) := by decide +kernel
theorem dL_invert_9 : decode cL_invert 9 = .ok (.lastore, 1) := by decide +kernel
theorem dL_invert_10 : decode cL_invert 10 = .ok (.goto 7, 3) := by decide +kernel
theorem dL_invert_13 : decode cL_invert 13 = .ok (.astore 4, 2) := by decide +kernel
theorem dL_invert_15 : decode cL_invert 15 = .ok (.iconst 1, 1) := by decide +kernel
theorem dL_invert_16 : decode cL_invert 16 = .ok (.ireturn, 1) := by decide +kernel
theorem dL_invert_17 : decode cL_invert 17 = .ok (.iconst 0, 1) := by decide +kernel
theorem dL_invert_18 : decode cL_invert 18 = .ok (.ireturn, 1) := by decide +kernel
theorem dL_conjugate_0 : decode cL_conjugate 0 = .ok (.aload 4, 2) := by decide +kernel
theorem dL_conjugate_2 : decode cL_conjugate 2 = .ok (.iconst 0, 1) := by decide +kernel
theorem dL_conjugate_3 : decode cL_conjugate 3 = .ok (.aload_n 0, 1) := by decide +kernel
theorem dL_conjugate_4 : decode cL_conjugate 4 = .ok (.iload_n 1, 1) := by decide +kernel
theorem dL_conjugate_5 : decode cL_conjugate 5 = .ok (.iload_n 2, 1) := by decide +kernel
theorem dL_conjugate_6 : decode cL_conjugate 6 = .ok (.iload_n 3, 1) := by decide +kernel
theorem dL_conjugate_7 : decode cL_conjugate 7 = .ok (.invokevirtual 50, 3) := by decide +kernel
theorem dL_conjugate_10 : decode cL_conjugate 10 = .ok (.i2l, 1) := by decide +kernel
theorem dL_conjugate_11 : decode cL_conjugate 11 = .ok (.lastore, 1) := by decide +kernel
theorem dL_conjugate_12 : decode cL_conjugate 12 = .ok (.goto 11, 3) := by decide +kernel
theorem dL_conjugate_15 : decode cL_conjugate 15 = .ok (.astore 5, 2) := by decide +kernel
theorem dL_conjugate_17 : decode cL_conjugate 17 = .ok (.iconst 1, 1) := by decide +kernel
theorem dL_conjugate_18 : decode cL_conjugate 18 = .ok (.ireturn, 1) := by decide +kernel
theorem dL_conjugate_19 : decode cL_conjugate 19 = .ok (.astore 5, 2) := by decide +kernel
theorem dL_conjugate_21 : decode cL_conjugate 21 = .ok (.iconst 2, 1) := by decide +kernel
theorem dL_conjugate_22 : decode cL_conjugate 22 = .ok (.ireturn, 1) := by decide +kernel
theorem dL_conjugate_23 : decode cL_conjugate 23 = .ok (.iconst 0, 1) := by decide +kernel
theorem dL_conjugate_24 : decode cL_conjugate 24 = .ok (.ireturn, 1) := by decide +kernel
theorem dL_commutator_0 : decode cL_commutator 0 = .ok (.aload 4, 2) := by decide +kernel
theorem dL_commutator_2 : decode cL_commutator 2 = .ok (.iconst 0, 1) := by decide +kernel
theorem dL_commutator_3 : decode cL_commutator 3 = .ok (.aload_n 0, 1) := by decide +kernel
theorem dL_commutator_4 : decode cL_commutator 4 = .ok (.iload_n 1, 1) := by decide +kernel
theorem dL_commutator_5 : decode cL_commutator 5 = .ok (.iload_n 2, 1) := by decide +kernel
theorem dL_commutator_6 : decode cL_commutator 6 = .ok (.iload_n 3, 1) := by decide +kernel
theorem dL_commutator_7 : decode cL_commutator 7 = .ok (.invokevirtual 54, 3) := by decide +kernel
theorem dL_commutator_10 : decode cL_commutator 10 = .ok (.i2l, 1) := by decide +kernel
theorem dL_commutator_11 : decode cL_commutator 11 = .ok (.lastore, 1) := by decide +kernel
theorem dL_commutator_12 : decode cL_commutator 12 = .ok (.goto 11, 3) := by decide +kernel
theorem dL_commutator_15 : decode cL_commutator 15 = .ok (.astore 5, 2) := by decide +kernel
theorem dL_commutator_17 : decode cL_commutator 17 = .ok (.iconst 1, 1) := by decide +kernel
theorem dL_commutator_18 : decode cL_commutator 18 = .ok (.ireturn, 1) := by decide +kernel
theorem dL_commutator_19 : decode cL_commutator 19 = .ok (.astore 5, 2) := by decide +kernel
theorem dL_commutator_21 : decode cL_commutator 21 = .ok (.iconst 2, 1) := by decide +kernel
theorem dL_commutator_22 : decode cL_commutator 22 = .ok (.ireturn, 1) := by decide +kernel
theorem dL_commutator_23 : decode cL_commutator 23 = .ok (.iconst 0, 1) := by decide +kernel
theorem dL_commutator_24 : decode cL_commutator 24 = .ok (.ireturn, 1) := by decide +kernel
theorem dL_order_0 : decode cL_order 0 = .ok (.aload_n 2, 1) := by decide +kernel
theorem dL_order_1 : decode cL_order 1 = .ok (.iconst 0, 1) := by decide +kernel
theorem dL_order_2 : decode cL_order 2 = .ok (.aload_n 0, 1) := by decide +kernel
theorem dL_order_3 : decode cL_order 3 = .ok (.iload_n 1, 1) := by decide +kernel
theorem dL_order_4 : decode cL_order 4 = .ok (.invokevirtual 57, 3) := by decide +kernel
theorem dL_order_7 : decode cL_order 7 = .ok (.i2l, 1) := by decide +kernel
theorem dL_order_8 : decode cL_order 8 = .ok (.lastore, 1) := by decide +kernel
theorem dL_order_9 : decode cL_order 9 = .ok (.goto 6, 3) := by decide +kernel
theorem dL_order_12 : decode cL_order 12 = .ok (.astore_n 3, 1) := by decide +kernel
theorem dL_order_13 : decode cL_order 13 = .ok (.iconst 1, 1) := by decide +kernel
theorem dL_order_14 : decode cL_order 14 = .ok (.ireturn, 1) := by decide +kernel
theorem dL_order_15 : decode cL_order 15 = .ok (.iconst 0, 1) := by decide +kernel
theorem dL_order_16 : decode cL_order 16 = .ok (.ireturn, 1) := by decide +kernel
theorem dL_isOdd_0 : decode cL_isOdd 0 = .ok (.aload_n 2, 1) := by decide +kernel
theorem dL_isOdd_1 : decode cL_isOdd 1 = .ok (.iconst 0, 1) := by decide +kernel
theorem dL_isOdd_2 : decode cL_isOdd 2 = .ok (.aload_n 0, 1) := by decide +kernel
theorem dL_isOdd_3 : decode cL_isOdd 3 = .ok (.iload_n 1, 1) := by decide +kernel
theorem dL_isOdd_4 : decode cL_isOdd 4 = .ok (.invokevirtual 60, 3) := by decide +kernel
theorem dL_isOdd_7 : decode cL_isOdd 7 = .ok (.ifCond .eq 7, 3) := by decide +kernel
theorem dL_isOdd_10 : decode cL_isOdd 10 = .ok (.lconst 1, 1) := by decide +kernel
theorem dL_isOdd_11 : decode cL_isOdd 11 = .ok (.goto 4, 3) := by decide +kernel
theorem dL_isOdd_14 : decode cL_isOdd 14 = .ok (.lconst 0, 1) := by decide +kernel
theorem dL_isOdd_15 : decode cL_isOdd 15 = .ok (.lastore, 1) := by decide +kernel
theorem dL_isOdd_16 : decode cL_isOdd 16 = .ok (.goto 6, 3) := by decide +kernel
theorem dL_isOdd_19 : decode cL_isOdd 19 = .ok (.astore_n 3, 1) := by decide +kernel
theorem dL_isOdd_20 : decode cL_isOdd 20 = .ok (.iconst 1, 1) := by decide +kernel
theorem dL_isOdd_21 : decode cL_isOdd 21 = .ok (.ireturn, 1) := by decide +kernel
theorem dL_isOdd_22 : decode cL_isOdd 22 = .ok (.iconst 0, 1) := by decide +kernel
theorem dL_isOdd_23 : decode cL_isOdd 23 = .ok (.ireturn, 1) := by decide +kernel
theorem dL_cycleLength_0 : decode cL_cycleLength 0 = .ok (.aload_n 3, 1) := by decide +kernel
theorem dL_cycleLength_1 : decode cL_cycleLength 1 = .ok (.iconst 0, 1) := by decide +kernel
theorem dL_cycleLength_2 : decode cL_cycleLength 2 = .ok (.aload_n 0, 1) := by decide +kernel
theorem dL_cycleLength_3 : decode cL_cycleLength 3 = .ok (.iload_n 1, 1) := by decide +kernel
theorem dL_cycleLength_4 : decode cL_cycleLength 4 = .ok (.iload_n 2, 1) := by decide +kernel
theorem dL_cycleLength_5 : decode cL_cycleLength 5 = .ok (.invokevirtual 64, 3) := by decide +kernel
theorem dL_cycleLength_8 : decode cL_cycleLength 8 = .ok (.i2l, 1) := by decide +kernel
theorem dL_cycleLength_9 : decode cL_cycleLength 9 = .ok (.lastore, 1) := by decide +kernel
theorem dL_cycleLength_10 : decode cL_cycleLength 10 = .ok (.goto 7, 3) := by decide +kernel
theorem dL_cycleLength_13 : decode cL_cycleLength 13 = .ok (.astore 4, 2) := by decide +kernel
theorem dL_cycleLength_15 : decode cL_cycleLength 15 = .ok (.iconst 1, 1) := by decide +kernel
theorem dL_cycleLength_16 : decode cL_cycleLength 16 = .ok (.ireturn, 1) := by decide +kernel
theorem dL_cycleLength_17 : decode cL_cycleLength 17 = .ok (.iconst 0, 1) := by decide +kernel
theorem dL_cycleLength_18 : decode cL_cycleLength 18 = .ok (.ireturn, 1) := by decide +kernel
theorem dL_isSame_0 : decode cL_isSame 0 = .ok (.aload_n 3, 1) := by decide +kernel
theorem dL_isSame_1 : decode cL_isSame 1 = .ok (.iconst 0, 1) := by decide +kernel
theorem dL_isSame_2 : decode cL_isSame 2 = .ok (.aload_n 0, 1) := by decide +kernel
theorem dL_isSame_3 : decode cL_isSame 3 = .ok (.iload_n 1, 1) := by decide +kernel
theorem dL_isSame_4 : decode cL_isSame 4 = .ok (.iload_n 2, 1) := by decide +kernel
theorem dL_isSame_5 : decode cL_isSame 5 = .ok (.invokevirtual 67, 3) := by decide +kernel
theorem dL_isSame_8 : decode cL_isSame 8 = .ok (.ifCond .eq 7, 3) := by decide +kernel
theorem dL_isSame_11 : decode cL_isSame 11 = .ok (.lconst 1, 1) := by decide +kernel
theorem dL_isSame_12 : decode cL_isSame 12 = .ok (.goto 4, 3) := by decide +kernel
theorem dL_isSame_15 : decode cL_isSame 15 = .ok (.lconst 0, 1) := by decide +kernel
theorem dL_isSame_16 : decode cL_isSame 16 = .ok (.lastore, 1) := by decide +kernel
theorem dL_isSame_17 : decode cL_isSame 17 = .ok (.goto 7, 3) := by decide +kernel
theorem dL_isSame_20 : decode cL_isSame 20 = .ok (.astore 4, 2) := by decide +kernel
theorem dL_isSame_22 : decode cL_isSame 22 = .ok (.iconst 1, 1) := by decide +kernel
theorem dL_isSame_23 : decode cL_isSame 23 = .ok (.ireturn, 1) := by decide +kernel
theorem dL_isSame_24 : decode cL_isSame 24 = .ok (.iconst 0, 1) := by decide +kernel
theorem dL_isSame_25 : decode cL_isSame 25 = .ok (.ireturn, 1) := by decide +kernel
theorem dL_perform_0 : decode cL_perform 0 = .ok (.aload_n 3, 1) := by decide +kernel
theorem dL_perform_1 : decode cL_perform 1 = .ok (.iconst 0, 1) := by decide +kernel
theorem dL_perform_2 : decode cL_perform 2 = .ok (.aload_n 0, 1) := by decide +kernel
theorem dL_perform_3 : decode cL_perform 3 = .ok (.iload_n 1, 1) := by decide +kernel
theorem dL_perform_4 : decode cL_perform 4 = .ok (.iload_n 2, 1) := by decide +kernel
theorem dL_perform_5 : decode cL_perform 5 = .ok (.invokevirtual 71, 3) := by decide +kernel
theorem dL_perform_8 : decode cL_perform 8 = .ok (.i2l, 1) := by decide +kernel
theorem dL_perform_9 : decode cL_perform 9 = .ok (.lastore, 1) := by decide +kernel
theorem dL_perform_10 : decode cL_perform 10 = .ok (.goto 11, 3) := by decide +kernel
theorem dL_perform_13 : decode cL_perform 13 = .ok (.astore 4, 2) := by decide +kernel
theorem dL_perform_15 : decode cL_perform 15 = .ok (.iconst 1, 1) := by decide +kernel
theorem dL_perform_16 : decode cL_perform 16 = .ok (.ireturn, 1) := by decide +kernel
theorem dL_perform_17 : decode cL_perform 17 = .ok (.astore 4, 2) := by decide +kernel
theorem dL_perform_19 : decode cL_perform 19 = .ok (.iconst 2, 1) := by decide +kernel
theorem dL_perform_20 : decode cL_perform 20 = .ok (.ireturn, 1) := by decide +kernel
theorem dL_perform_21 : decode cL_perform 21 = .ok (.iconst 0, 1) := by decide +kernel
theorem dL_perform_22 : decode cL_perform 22 = .ok (.ireturn, 1) := by decide +kernel
theorem dL_exchange_0 : decode cL_exchange 0 = .ok (.aload_n 3, 1) := by decide +kernel
theorem dL_exchange_1 : decode cL_exchange 1 = .ok (.iconst 0, 1) := by decide +kernel
theorem dL_exchange_2 : decode cL_exchange 2 = .ok (.aload_n 0, 1) := by decide +kernel
theorem dL_exchange_3 : decode cL_exchange 3 = .ok (.iload_n 1, 1) := by decide +kernel
theorem dL_exchange_4 : decode cL_exchange 4 = .ok (.iload_n 2, 1) := by decide +kernel
theorem dL_exchange_5 : decode cL_exchange 5 = .ok (.invokevirtual 74, 3) := by decide +kernel
theorem dL_exchange_8 : decode cL_exchange 8 = .ok (.i2l, 1) := by decide +kernel
theorem dL_exchange_9 : decode cL_exchange 9 = .ok (.lastore, 1) := by decide +kernel
theorem dL_exchange_10 : decode cL_exchange 10 = .ok (.goto 7, 3) := by decide +kernel
theorem dL_exchange_13 : decode cL_exchange 13 = .ok (.astore 4, 2) := by decide +kernel
theorem dL_exchange_15 : decode cL_exchange 15 = .ok (.iconst 1, 1) := by decide +kernel
theorem dL_exchange_16 : decode cL_exchange 16 = .ok (.ireturn, 1) := by decide +kernel
theorem dL_exchange_17 : decode cL_exchange 17 = .ok (.iconst 0, 1) := by decide +kernel
theorem dL_exchange_18 : decode cL_exchange 18 = .ok (.ireturn, 1) := by decide +kernel
theorem dL_token_0 : decode cL_token 0 = .ok (.aload_n 2, 1) := by decide +kernel
theorem dL_token_1 : decode cL_token 1 = .ok (.iconst 0, 1) := by decide +kernel
theorem dL_token_2 : decode cL_token 2 = .ok (.aload_n 0, 1) := by decide +kernel
theorem dL_token_3 : decode cL_token 3 = .ok (.iload_n 1, 1) := by decide +kernel
theorem dL_token_4 : decode cL_token 4 = .ok (.invokevirtual 77, 3) := by decide +kernel
theorem dL_token_7 : decode cL_token 7 = .ok (.i2l, 1) := by decide +kernel
theorem dL_token_8 : decode cL_token 8 = .ok (.lastore, 1) := by decide +kernel
theorem dL_token_9 : decode cL_token 9 = .ok (.goto 6, 3) := by decide +kernel
theorem dL_token_12 : decode cL_token 12 = .ok (.astore_n 3, 1) := by decide +kernel
theorem dL_token_13 : decode cL_token 13 = .ok (.iconst 1, 1) := by decide +kernel
theorem dL_token_14 : decode cL_token 14 = .ok (.ireturn, 1) := by decide +kernel
theorem dL_token_15 : decode cL_token 15 = .ok (.iconst 0, 1) := by decide +kernel
theorem dL_token_16 : decode cL_token 16 = .ok (.ireturn, 1) := by decide +kernel
theorem dL_depth_0 : decode cL_depth 0 = .ok (.aload_n 1, 1) := by decide +kernel
theorem dL_depth_1 : decode cL_depth 1 = .ok (.iconst 0, 1) := by decide +kernel
theorem dL_depth_2 : decode cL_depth 2 = .ok (.aload_n 0, 1) := by decide +kernel
theorem dL_depth_3 : decode cL_depth 3 = .ok (.invokevirtual 80, 3) := by decide +kernel
theorem dL_depth_6 : decode cL_depth 6 = .ok (.i2l, 1) := by decide +kernel
theorem dL_depth_7 : decode cL_depth 7 = .ok (.lastore, 1) := by decide +kernel
theorem dL_depth_8 : decode cL_depth 8 = .ok (.goto 6, 3) := by decide +kernel
theorem dL_depth_11 : decode cL_depth 11 = .ok (.astore_n 2, 1) := by decide +kernel
theorem dL_depth_12 : decode cL_depth 12 = .ok (.iconst 1, 1) := by decide +kernel
theorem dL_depth_13 : decode cL_depth 13 = .ok (.ireturn, 1) := by decide +kernel
theorem dL_depth_14 : decode cL_depth 14 = .ok (.iconst 0, 1) := by decide +kernel
theorem dL_depth_15 : decode cL_depth 15 = .ok (.ireturn, 1) := by decide +kernel
theorem dL_solve_0 : decode cL_solve 0 = .ok (.aload_n 2, 1) := by decide +kernel
theorem dL_solve_1 : decode cL_solve 1 = .ok (.iconst 0, 1) := by decide +kernel
theorem dL_solve_2 : decode cL_solve 2 = .ok (.aload_n 0, 1) := by decide +kernel
theorem dL_solve_3 : decode cL_solve 3 = .ok (.iload_n 1, 1) := by decide +kernel
theorem dL_solve_4 : decode cL_solve 4 = .ok (.invokevirtual 83, 3) := by decide +kernel
theorem dL_solve_7 : decode cL_solve 7 = .ok (.i2l, 1) := by decide +kernel
theorem dL_solve_8 : decode cL_solve 8 = .ok (.lastore, 1) := by decide +kernel
theorem dL_solve_9 : decode cL_solve 9 = .ok (.goto 9, 3) := by decide +kernel
theorem dL_solve_12 : decode cL_solve 12 = .ok (.astore_n 3, 1) := by decide +kernel
theorem dL_solve_13 : decode cL_solve 13 = .ok (.iconst 1, 1) := by decide +kernel
theorem dL_solve_14 : decode cL_solve 14 = .ok (.ireturn, 1) := by decide +kernel
theorem dL_solve_15 : decode cL_solve 15 = .ok (.astore_n 3, 1) := by decide +kernel
theorem dL_solve_16 : decode cL_solve 16 = .ok (.iconst 2, 1) := by decide +kernel
theorem dL_solve_17 : decode cL_solve 17 = .ok (.ireturn, 1) := by decide +kernel
theorem dL_solve_18 : decode cL_solve 18 = .ok (.iconst 0, 1) := by decide +kernel
theorem dL_solve_19 : decode cL_solve 19 = .ok (.ireturn, 1) := by decide +kernel
theorem dL_orbit_0 : decode cL_orbit 0 = .ok (.aload_n 2, 1) := by decide +kernel
theorem dL_orbit_1 : decode cL_orbit 1 = .ok (.iconst 0, 1) := by decide +kernel
theorem dL_orbit_2 : decode cL_orbit 2 = .ok (.aload_n 0, 1) := by decide +kernel
theorem dL_orbit_3 : decode cL_orbit 3 = .ok (.iload_n 1, 1) := by decide +kernel
theorem dL_orbit_4 : decode cL_orbit 4 = .ok (.invokevirtual 86, 3) := by decide +kernel
theorem dL_orbit_7 : decode cL_orbit 7 = .ok (.i2l, 1) := by decide +kernel
theorem dL_orbit_8 : decode cL_orbit 8 = .ok (.lastore, 1) := by decide +kernel
theorem dL_orbit_9 : decode cL_orbit 9 = .ok (.goto 6, 3) := by decide +kernel
theorem dL_orbit_12 : decode cL_orbit 12 = .ok (.astore_n 3, 1) := by decide +kernel
theorem dL_orbit_13 : decode cL_orbit 13 = .ok (.iconst 1, 1) := by decide +kernel
theorem dL_orbit_14 : decode cL_orbit 14 = .ok (.ireturn, 1) := by decide +kernel
theorem dL_orbit_15 : decode cL_orbit 15 = .ok (.iconst 0, 1) := by decide +kernel
theorem dL_orbit_16 : decode cL_orbit 16 = .ok (.ireturn, 1) := by decide +kernel
theorem dL_findCommutator_0 : decode cL_findCommutator 0 = .ok (.aload_n 3, 1) := by decide +kernel
theorem dL_findCommutator_1 : decode cL_findCommutator 1 = .ok (.iconst 0, 1) := by decide +kernel
theorem dL_findCommutator_2 : decode cL_findCommutator 2 = .ok (.aload_n 0, 1) := by decide +kernel
theorem dL_findCommutator_3 : decode cL_findCommutator 3 = .ok (.iload_n 1, 1) := by decide +kernel
theorem dL_findCommutator_4 : decode cL_findCommutator 4 = .ok (.iload_n 2, 1) := by decide +kernel
theorem dL_findCommutator_5 : decode cL_findCommutator 5 = .ok (.invokevirtual 89, 3) := by decide +kernel
theorem dL_findCommutator_8 : decode cL_findCommutator 8 = .ok (.i2l, 1) := by decide +kernel
theorem dL_findCommutator_9 : decode cL_findCommutator 9 = .ok (.lastore, 1) := by decide +kernel
theorem dL_findCommutator_10 : decode cL_findCommutator 10 = .ok (.goto 11, 3) := by decide +kernel
theorem dL_findCommutator_13 : decode cL_findCommutator 13 = .ok (.astore 4, 2) := by decide +kernel
theorem dL_findCommutator_15 : decode cL_findCommutator 15 = .ok (.iconst 1, 1) := by decide +kernel
theorem dL_findCommutator_16 : decode cL_findCommutator 16 = .ok (.ireturn, 1) := by decide +kernel
theorem dL_findCommutator_17 : decode cL_findCommutator 17 = .ok (.astore 4, 2) := by decide +kernel
theorem dL_findCommutator_19 : decode cL_findCommutator 19 = .ok (.iconst 2, 1) := by decide +kernel
theorem dL_findCommutator_20 : decode cL_findCommutator 20 = .ok (.ireturn, 1) := by decide +kernel
theorem dL_findCommutator_21 : decode cL_findCommutator 21 = .ok (.iconst 0, 1) := by decide +kernel
theorem dL_findCommutator_22 : decode cL_findCommutator 22 = .ok (.ireturn, 1) := by decide +kernel
theorem dL_fillShares_0 : decode cL_fillShares 0 = .ok (.aload_n 2, 1) := by decide +kernel
theorem dL_fillShares_1 : decode cL_fillShares 1 = .ok (.iconst 0, 1) := by decide +kernel
theorem dL_fillShares_2 : decode cL_fillShares 2 = .ok (.aload_n 0, 1) := by decide +kernel
theorem dL_fillShares_3 : decode cL_fillShares 3 = .ok (.iload_n 1, 1) := by decide +kernel
theorem dL_fillShares_4 : decode cL_fillShares 4 = .ok (.invokevirtual 92, 3) := by decide +kernel
theorem dL_fillShares_7 : decode cL_fillShares 7 = .ok (.i2l, 1) := by decide +kernel
theorem dL_fillShares_8 : decode cL_fillShares 8 = .ok (.lastore, 1) := by decide +kernel
theorem dL_fillShares_9 : decode cL_fillShares 9 = .ok (.goto 6, 3) := by decide +kernel
theorem dL_fillShares_12 : decode cL_fillShares 12 = .ok (.astore_n 3, 1) := by decide +kernel
theorem dL_fillShares_13 : decode cL_fillShares 13 = .ok (.iconst 1, 1) := by decide +kernel
theorem dL_fillShares_14 : decode cL_fillShares 14 = .ok (.ireturn, 1) := by decide +kernel
theorem dL_fillShares_15 : decode cL_fillShares 15 = .ok (.iconst 0, 1) := by decide +kernel
theorem dL_fillShares_16 : decode cL_fillShares 16 = .ok (.ireturn, 1) := by decide +kernel
theorem dL_scale_0 : decode cL_scale 0 = .ok (.aload 4, 2) := by decide +kernel
theorem dL_scale_2 : decode cL_scale 2 = .ok (.iconst 0, 1) := by decide +kernel
theorem dL_scale_3 : decode cL_scale 3 = .ok (.aload_n 0, 1) := by decide +kernel
theorem dL_scale_4 : decode cL_scale 4 = .ok (.iload_n 1, 1) := by decide +kernel
theorem dL_scale_5 : decode cL_scale 5 = .ok (.iload_n 2, 1) := by decide +kernel
theorem dL_scale_6 : decode cL_scale 6 = .ok (.iload_n 3, 1) := by decide +kernel
theorem dL_scale_7 : decode cL_scale 7 = .ok (.invokevirtual 95, 3) := by decide +kernel
theorem dL_scale_10 : decode cL_scale 10 = .ok (.i2l, 1) := by decide +kernel
theorem dL_scale_11 : decode cL_scale 11 = .ok (.lastore, 1) := by decide +kernel
theorem dL_scale_12 : decode cL_scale 12 = .ok (.goto 15, 3) := by decide +kernel
theorem dL_scale_15 : decode cL_scale 15 = .ok (.astore 5, 2) := by decide +kernel
theorem dL_scale_17 : decode cL_scale 17 = .ok (.iconst 1, 1) := by decide +kernel
theorem dL_scale_18 : decode cL_scale 18 = .ok (.ireturn, 1) := by decide +kernel
theorem dL_scale_19 : decode cL_scale 19 = .ok (.astore 5, 2) := by decide +kernel
theorem dL_scale_21 : decode cL_scale 21 = .ok (.iconst 2, 1) := by decide +kernel
theorem dL_scale_22 : decode cL_scale 22 = .ok (.ireturn, 1) := by decide +kernel
theorem dL_scale_23 : decode cL_scale 23 = .ok (.astore 5, 2) := by decide +kernel
theorem dL_scale_25 : decode cL_scale 25 = .ok (.iconst 3, 1) := by decide +kernel
theorem dL_scale_26 : decode cL_scale 26 = .ok (.ireturn, 1) := by decide +kernel
theorem dL_scale_27 : decode cL_scale 27 = .ok (.iconst 0, 1) := by decide +kernel
theorem dL_scale_28 : decode cL_scale 28 = .ok (.ireturn, 1) := by decide +kernel
theorem dL_remainder_0 : decode cL_remainder 0 = .ok (.aload 4, 2) := by decide +kernel
theorem dL_remainder_2 : decode cL_remainder 2 = .ok (.iconst 0, 1) := by decide +kernel
theorem dL_remainder_3 : decode cL_remainder 3 = .ok (.aload_n 0, 1) := by decide +kernel
theorem dL_remainder_4 : decode cL_remainder 4 = .ok (.iload_n 1, 1) := by decide +kernel
theorem dL_remainder_5 : decode cL_remainder 5 = .ok (.iload_n 2, 1) := by decide +kernel
theorem dL_remainder_6 : decode cL_remainder 6 = .ok (.iload_n 3, 1) := by decide +kernel
theorem dL_remainder_7 : decode cL_remainder 7 = .ok (.invokevirtual 98, 3) := by decide +kernel
theorem dL_remainder_10 : decode cL_remainder 10 = .ok (.dastore, 1) := by decide +kernel
theorem dL_remainder_11 : decode cL_remainder 11 = .ok (.goto 11, 3) := by decide +kernel
theorem dL_remainder_14 : decode cL_remainder 14 = .ok (.astore 5, 2) := by decide +kernel
theorem dL_remainder_16 : decode cL_remainder 16 = .ok (.iconst 1, 1) := by decide +kernel
theorem dL_remainder_17 : decode cL_remainder 17 = .ok (.ireturn, 1) := by decide +kernel
theorem dL_remainder_18 : decode cL_remainder 18 = .ok (.astore 5, 2) := by decide +kernel
theorem dL_remainder_20 : decode cL_remainder 20 = .ok (.iconst 2, 1) := by decide +kernel
theorem dL_remainder_21 : decode cL_remainder 21 = .ok (.ireturn, 1) := by decide +kernel
theorem dL_remainder_22 : decode cL_remainder 22 = .ok (.iconst 0, 1) := by decide +kernel
theorem dL_remainder_23 : decode cL_remainder 23 = .ok (.ireturn, 1) := by decide +kernel
theorem dL_restore_0 : decode cL_restore 0 = .ok (.aload_n 0, 1) := by decide +kernel
theorem dL_restore_1 : decode cL_restore 1 = .ok (.invokevirtual 102, 3) := by decide +kernel
theorem dL_restore_4 : decode cL_restore 4 = .ok (.goto 6, 3) := by decide +kernel
theorem dL_restore_7 : decode cL_restore 7 = .ok (.astore_n 1, 1) := by decide +kernel
theorem dL_restore_8 : decode cL_restore 8 = .ok (.iconst 1, 1) := by decide +kernel
theorem dL_restore_9 : decode cL_restore 9 = .ok (.ireturn, 1) := by decide +kernel
theorem dL_restore_10 : decode cL_restore 10 = .ok (.iconst 0, 1) := by decide +kernel
theorem dL_restore_11 : decode cL_restore 11 = .ok (.ireturn, 1) := by decide +kernel
