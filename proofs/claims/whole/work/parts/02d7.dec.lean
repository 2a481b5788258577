theorem dX9_split_0 : decode cX9_split 0 = .ok (.aload_n 0, 1) := by decide +kernel
theorem dX9_split_1 : decode cX9_split 1 = .ok (.iconst 0, 1) := by decide +kernel
theorem dX9_split_2 : decode cX9_split 2 = .ok (.putfield 48, 3) := by decide +kernel
theorem dX9_split_5 : decode cX9_split 5 = .ok (.iconst 0, 1) := by decide +kernel
theorem dX9_split_6 : decode cX9_split 6 = .ok (.istore_n 1, 1) := by decide +kernel
theorem dX9_split_7 : decode cX9_split 7 = .ok (.iconst 0, 1) := by decide +kernel
theorem dX9_split_8 : decode cX9_split 8 = .ok (.istore_n 2, 1) := by decide +kernel
theorem dX9_split_9 : decode cX9_split 9 = .ok (.iload_n 2, 1) := by decide +kernel
theorem dX9_split_10 : decode cX9_split 10 = .ok (.aload_n 0, 1) := by decide +kernel
theorem dX9_split_11 : decode cX9_split 11 = .ok (.getfield 40, 3) := by decide +kernel
theorem dX9_split_14 : decode cX9_split 14 = .ok (.if_icmp .ge 145, 3) := by decide +kernel
theorem dX9_split_17 : decode cX9_split 17 = .ok (.iload_n 2, 1) := by decide +kernel
theorem dX9_split_18 : decode cX9_split 18 = .ok (.iconst 1, 1) := by decide +kernel
theorem dX9_split_19 : decode cX9_split 19 = .ok (.iadd, 1) := by decide +kernel
theorem dX9_split_20 : decode cX9_split 20 = .ok (.istore_n 1, 1) := by decide +kernel
theorem dX9_split_21 : decode cX9_split 21 = .ok (.aload_n 0, 1) := by decide +kernel
theorem dX9_split_22 : decode cX9_split 22 = .ok (.getfield 9, 3) := by decide +kernel
theorem dX9_split_25 : decode cX9_split 25 = .ok (.iload_n 2, 1) := by decide +kernel
theorem dX9_split_26 : decode cX9_split 26 = .ok (.iaload, 1) := by decide +kernel
theorem dX9_split_27 : decode cX9_split 27 = .ok (.invokestatic 51, 3) := by decide +kernel
theorem dX9_split_30 : decode cX9_split 30 = .ok (.ifCond .eq 18, 3) := by decide +kernel
theorem dX9_split_33 : decode cX9_split 33 = .ok (.aload_n 0, 1) := by decide +kernel
theorem dX9_split_34 : decode cX9_split 34 = .ok (.iload_n 2, 1) := by decide +kernel
theorem dX9_split_35 : decode cX9_split 35 = .ok (.invokevirtual 55, 3) := by decide +kernel
theorem dX9_split_38 : decode cX9_split 38 = .ok (.istore_n 1, 1) := by decide +kernel
theorem dX9_split_39 : decode cX9_split 39 = .ok (.aload_n 0, 1) := by decide +kernel
theorem dX9_split_40 : decode cX9_split 40 = .ok (.iload_n 2, 1) := by decide +kernel
theorem dX9_split_41 : decode cX9_split 41 = .ok (.iload_n 1, 1) := by decide +kernel
theorem dX9_split_42 : decode cX9_split 42 = .ok (.invokevirtual 59, 3) := by decide +kernel
theorem dX9_split_45 : decode cX9_split 45 = .ok (.goto 103, 3) := by decide +kernel
theorem dX9_split_48 : decode cX9_split 48 = .ok (.aload_n 0, 1) := by decide +kernel
theorem dX9_split_49 : decode cX9_split 49 = .ok (.getfield 9, 3) := by decide +kernel
theorem dX9_split_52 : decode cX9_split 52 = .ok (.iload_n 2, 1) := by decide +kernel
theorem dX9_split_53 : decode cX9_split 53 = .ok (.iaload, 1) := by decide +kernel
theorem dX9_split_54 : decode cX9_split 54 = .ok (.invokestatic 63, 3) := by decide +kernel
theorem dX9_split_57 : decode cX9_split 57 = .ok (.ifCond .eq 38, 3) := by decide +kernel
theorem dX9_split_60 : decode cX9_split 60 = .ok (.aload_n 0, 1) := by decide +kernel
theorem dX9_split_61 : decode cX9_split 61 = .ok (.iload_n 2, 1) := by decide +kernel
theorem dX9_split_62 : decode cX9_split 62 = .ok (.invokevirtual 55, 3) := by decide +kernel
theorem dX9_split_65 : decode cX9_split 65 = .ok (.istore_n 1, 1) := by decide +kernel
theorem dX9_split_66 : decode cX9_split 66 = .ok (.aload_n 0, 1) := by decide +kernel
theorem dX9_split_67 : decode cX9_split 67 = .ok (.iload_n 2, 1) := by decide +kernel
theorem dX9_split_68 : decode cX9_split 68 = .ok (.iload_n 1, 1) := by decide +kernel
theorem dX9_split_69 : decode cX9_split 69 = .ok (.invokevirtual 66, 3) := by decide +kernel
theorem dX9_split_72 : decode cX9_split 72 = .ok (.lstore_n 3, 1) := by decide +kernel
theorem dX9_split_73 : decode cX9_split 73 = .ok (.aload_n 0, 1) := by decide +kernel
theorem dX9_split_74 : decode cX9_split 74 = .ok (.lload_n 3, 1) := by decide +kernel
theorem dX9_split_75 : decode cX9_split 75 = .ok (.ldc2_w 70, 3) := by decide +kernel
theorem dX9_split_78 : decode cX9_split 78 = .ok (.lcmp, 1) := by decide +kernel
theorem dX9_split_79 : decode cX9_split 79 = .ok (.ifCond .ne 7, 3) := by decide +kernel
theorem dX9_split_82 : decode cX9_split 82 = .ok (.iconst 1, 1) := by decide +kernel
theorem dX9_split_83 : decode cX9_split 83 = .ok (.goto 4, 3) := by decide +kernel
theorem dX9_split_86 : decode cX9_split 86 = .ok (.iconst 3, 1) := by decide +kernel
theorem dX9_split_87 : decode cX9_split 87 = .ok (.iload_n 2, 1) := by decide +kernel
theorem dX9_split_88 : decode cX9_split 88 = .ok (.lload_n 3, 1) := by decide +kernel
theorem dX9_split_89 : decode cX9_split 89 = .ok (.invokevirtual 72, 3) := by decide +kernel
theorem dX9_split_92 : decode cX9_split 92 = .ok (.goto 56, 3) := by decide +kernel
theorem dX9_split_95 : decode cX9_split 95 = .ok (.aload_n 0, 1) := by decide +kernel
theorem dX9_split_96 : decode cX9_split 96 = .ok (.getfield 9, 3) := by decide +kernel
theorem dX9_split_99 : decode cX9_split 99 = .ok (.iload_n 2, 1) := by decide +kernel
theorem dX9_split_100 : decode cX9_split 100 = .ok (.iaload, 1) := by decide +kernel
theorem dX9_split_101 : decode cX9_split 101 = .ok (.bipush 32, 2) := by decide +kernel
theorem dX9_split_103 : decode cX9_split 103 = .ok (.if_icmp .eq 45, 3) := by decide +kernel
theorem dX9_split_106 : decode cX9_split 106 = .ok (.aload_n 0, 1) := by decide +kernel
theorem dX9_split_107 : decode cX9_split 107 = .ok (.getfield 9, 3) := by decide +kernel
theorem dX9_split_110 : decode cX9_split 110 = .ok (.iload_n 2, 1) := by decide +kernel
theorem dX9_split_111 : decode cX9_split 111 = .ok (.iaload, 1) := by decide +kernel
theorem dX9_split_112 : decode cX9_split 112 = .ok (.bipush 10, 2) := by decide +kernel
theorem dX9_split_114 : decode cX9_split 114 = .ok (.if_icmp .eq 34, 3) := by decide +kernel
theorem dX9_split_117 : decode cX9_split 117 = .ok (.aload_n 0, 1) := by decide +kernel
theorem dX9_split_118 : decode cX9_split 118 = .ok (.ldc 76, 2) := by decide +kernel
theorem dX9_split_120 : decode cX9_split 120 = .ok (.aload_n 0, 1) := by decide +kernel
theorem dX9_split_121 : decode cX9_split 121 = .ok (.getfield 9, 3) := by decide +kernel
theorem dX9_split_124 : decode cX9_split 124 = .ok (.iload_n 2, 1) := by decide +kernel
theorem dX9_split_125 : decode cX9_split 125 = .ok (.iaload, 1) := by decide +kernel
theorem dX9_split_126 : decode cX9_split 126 = .ok (.i2c, 1) := by decide +kernel
theorem dX9_split_127 : decode cX9_split 127 = .ok (.invokevirtual 78, 3) := by decide +kernel
theorem dX9_split_130 : decode cX9_split 130 = .ok (.ifCond .ge 7, 3) := by decide +kernel
theorem dX9_split_133 : decode cX9_split 133 = .ok (.iconst 1, 1) := by decide +kernel
theorem dX9_split_134 : decode cX9_split 134 = .ok (.goto 9, 3) := by decide +kernel
theorem dX9_split_137 : decode cX9_split 137 = .ok (.aload_n 0, 1) := by decide +kernel
theorem dX9_split_138 : decode cX9_split 138 = .ok (.getfield 9, 3) := by decide +kernel
theorem dX9_split_141 : decode cX9_split 141 = .ok (.iload_n 2, 1) := by decide +kernel
theorem dX9_split_142 : decode cX9_split 142 = .ok (.iaload, 1) := by decide +kernel
theorem dX9_split_143 : decode cX9_split 143 = .ok (.iload_n 2, 1) := by decide +kernel
theorem dX9_split_144 : decode cX9_split 144 = .ok (.lconst 0, 1) := by decide +kernel
theorem dX9_split_145 : decode cX9_split 145 = .ok (.invokevirtual 72, 3) := by decide +kernel
theorem dX9_split_148 : decode cX9_split 148 = .ok (.iload_n 2, 1) := by decide +kernel
theorem dX9_split_149 : decode cX9_split 149 = .ok (.iconst 1, 1) := by decide +kernel
theorem dX9_split_150 : decode cX9_split 150 = .ok (.iadd, 1) := by decide +kernel
theorem dX9_split_151 : decode cX9_split 151 = .ok (.iload_n 1, 1) := by decide +kernel
theorem dX9_split_152 : decode cX9_split 152 = .ok (.invokestatic 81, 3) := by decide +kernel
theorem dX9_split_155 : decode cX9_split 155 = .ok (.istore_n 2, 1) := by decide +kernel
theorem dX9_split_156 : decode cX9_split 156 = .ok (.goto (-147), 3) := by decide +kernel
theorem dX9_split_159 : decode cX9_split 159 = .ok (.aload_n 0, 1) := by decide +kernel
theorem dX9_split_160 : decode cX9_split 160 = .ok (.iconst 0, 1) := by decide +kernel
theorem dX9_split_161 : decode cX9_split 161 = .ok (.aload_n 0, 1) := by decide +kernel
theorem dX9_split_162 : decode cX9_split 162 = .ok (.getfield 40, 3) := by decide +kernel
theorem dX9_split_165 : decode cX9_split 165 = .ok (.lconst 0, 1) := by decide +kernel
theorem dX9_split_166 : decode cX9_split 166 = .ok (.invokevirtual 72, 3) := by decide +kernel
theorem dX9_split_169 : decode cX9_split 169 = .ok (.aload_n 0, 1) := by decide +kernel
theorem dX9_split_170 : decode cX9_split 170 = .ok (.iconst 0, 1) := by decide +kernel
theorem dX9_split_171 : decode cX9_split 171 = .ok (.putfield 40, 3) := by decide +kernel
theorem dX9_split_174 : decode cX9_split 174 = .ok (.return_, 1) := by decide +kernel
theorem dX9_typeIn_0 : decode cX9_typeIn 0 = .ok (.aload_n 0, 1) := by decide +kernel
theorem dX9_typeIn_1 : decode cX9_typeIn 1 = .ok (.getfield 9, 3) := by decide +kernel
theorem dX9_typeIn_4 : decode cX9_typeIn 4 = .ok (.iload_n 1, 1) := by decide +kernel
theorem dX9_typeIn_5 : decode cX9_typeIn 5 = .ok (.iaload, 1) := by decide +kernel
theorem dX9_typeIn_6 : decode cX9_typeIn 6 = .ok (.istore_n 3, 1) := by decide +kernel
theorem dX9_typeIn_7 : decode cX9_typeIn 7 = .ok (.iload_n 2, 1) := by decide +kernel
theorem dX9_typeIn_8 : decode cX9_typeIn 8 = .ok (.iload_n 1, 1) := by decide +kernel
theorem dX9_typeIn_9 : decode cX9_typeIn 9 = .ok (.isub, 1) := by decide +kernel
theorem dX9_typeIn_10 : decode cX9_typeIn 10 = .ok (.iconst 3, 1) := by decide +kernel
theorem dX9_typeIn_11 : decode cX9_typeIn 11 = .ok (.if_icmp .ne 20, 3) := by decide +kernel
theorem dX9_typeIn_14 : decode cX9_typeIn 14 = .ok (.aload_n 0, 1) := by decide +kernel
theorem dX9_typeIn_15 : decode cX9_typeIn 15 = .ok (.getfield 9, 3) := by decide +kernel
theorem dX9_typeIn_18 : decode cX9_typeIn 18 = .ok (.iload_n 2, 1) := by decide +kernel
theorem dX9_typeIn_19 : decode cX9_typeIn 19 = .ok (.iconst 1, 1) := by decide +kernel
theorem dX9_typeIn_20 : decode cX9_typeIn 20 = .ok (.isub, 1) := by decide +kernel
theorem dX9_typeIn_21 : decode cX9_typeIn 21 = .ok (.iaload, 1) := by decide +kernel
theorem dX9_typeIn_22 : decode cX9_typeIn 22 = .ok (.bipush 98, 2) := by decide +kernel
theorem dX9_typeIn_24 : decode cX9_typeIn 24 = .ok (.if_icmp .ne 7, 3) := by decide +kernel
theorem dX9_typeIn_27 : decode cX9_typeIn 27 = .ok (.iconst 1, 1) := by decide +kernel
theorem dX9_typeIn_28 : decode cX9_typeIn 28 = .ok (.goto 4, 3) := by decide +kernel
theorem dX9_typeIn_31 : decode cX9_typeIn 31 = .ok (.iconst 0, 1) := by decide +kernel
theorem dX9_typeIn_32 : decode cX9_typeIn 32 = .ok (.istore 4, 2) := by decide +kernel
theorem dX9_typeIn_34 : decode cX9_typeIn 34 = .ok (.iload_n 3, 1) := by decide +kernel
theorem dX9_typeIn_35 : decode cX9_typeIn 35 = .ok (.bipush 117, 2) := by decide +kernel
theorem dX9_typeIn_37 : decode cX9_typeIn 37 = .ok (.if_icmp .eq 9, 3) := by decide +kernel
theorem dX9_typeIn_40 : decode cX9_typeIn 40 = .ok (.iload_n 3, 1) := by decide +kernel
theorem dX9_typeIn_41 : decode cX9_typeIn 41 = .ok (.bipush 115, 2) := by decide +kernel
theorem dX9_typeIn_43 : decode cX9_typeIn 43 = .ok (.if_icmp .ne 15, 3) := by decide +kernel
theorem dX9_typeIn_46 : decode cX9_typeIn 46 = .ok (.iload_n 2, 1) := by decide +kernel
theorem dX9_typeIn_47 : decode cX9_typeIn 47 = .ok (.iload_n 1, 1) := by decide +kernel
theorem dX9_typeIn_48 : decode cX9_typeIn 48 = .ok (.isub, 1) := by decide +kernel
theorem dX9_typeIn_49 : decode cX9_typeIn 49 = .ok (.iconst 2, 1) := by decide +kernel
theorem dX9_typeIn_50 : decode cX9_typeIn 50 = .ok (.if_icmp .eq 10, 3) := by decide +kernel
theorem dX9_typeIn_53 : decode cX9_typeIn 53 = .ok (.iload 4, 2) := by decide +kernel
theorem dX9_typeIn_55 : decode cX9_typeIn 55 = .ok (.ifCond .ne 5, 3) := by decide +kernel
theorem dX9_typeIn_58 : decode cX9_typeIn 58 = .ok (.iconst (-1), 1) := by decide +kernel
theorem dX9_typeIn_59 : decode cX9_typeIn 59 = .ok (.ireturn, 1) := by decide +kernel
theorem dX9_typeIn_60 : decode cX9_typeIn 60 = .ok (.aload_n 0, 1) := by decide +kernel
theorem dX9_typeIn_61 : decode cX9_typeIn 61 = .ok (.getfield 9, 3) := by decide +kernel
theorem dX9_typeIn_64 : decode cX9_typeIn 64 = .ok (.iload_n 1, 1) := by decide +kernel
theorem dX9_typeIn_65 : decode cX9_typeIn 65 = .ok (.iconst 1, 1) := by decide +kernel
theorem dX9_typeIn_66 : decode cX9_typeIn 66 = .ok (.iadd, 1) := by decide +kernel
theorem dX9_typeIn_67 : decode cX9_typeIn 67 = .ok (.iaload, 1) := by decide +kernel
theorem dX9_typeIn_68 : decode cX9_typeIn 68 = .ok (.bipush 48, 2) := by decide +kernel
theorem dX9_typeIn_70 : decode cX9_typeIn 70 = .ok (.isub, 1) := by decide +kernel
theorem dX9_typeIn_71 : decode cX9_typeIn 71 = .ok (.istore 5, 2) := by decide +kernel
theorem dX9_typeIn_73 : decode cX9_typeIn 73 = .ok (.iload 5, 2) := by decide +kernel
theorem dX9_typeIn_75 : decode cX9_typeIn 75 = .ok (.iconst 1, 1) := by decide +kernel
theorem dX9_typeIn_76 : decode cX9_typeIn 76 = .ok (.if_icmp .lt 10, 3) := by decide +kernel
theorem dX9_typeIn_79 : decode cX9_typeIn 79 = .ok (.iload 5, 2) := by decide +kernel
theorem dX9_typeIn_81 : decode cX9_typeIn 81 = .ok (.bipush 8, 2) := by decide +kernel
theorem dX9_typeIn_83 : decode cX9_typeIn 83 = .ok (.if_icmp .le 5, 3) := by decide +kernel
theorem dX9_typeIn_86 : decode cX9_typeIn 86 = .ok (.iconst (-1), 1) := by decide +kernel
theorem dX9_typeIn_87 : decode cX9_typeIn 87 = .ok (.ireturn, 1) := by decide +kernel
theorem dX9_typeIn_88 : decode cX9_typeIn 88 = .ok (.iload 5, 2) := by decide +kernel
theorem dX9_typeIn_90 : decode cX9_typeIn 90 = .ok (.iload_n 3, 1) := by decide +kernel
theorem dX9_typeIn_91 : decode cX9_typeIn 91 = .ok (.bipush 115, 2) := by decide +kernel
theorem dX9_typeIn_93 : decode cX9_typeIn 93 = .ok (.if_icmp .ne 8, 3) := by decide +kernel
theorem dX9_typeIn_96 : decode cX9_typeIn 96 = .ok (.bipush 16, 2) := by decide +kernel
theorem dX9_typeIn_98 : decode cX9_typeIn 98 = .ok (.goto 4, 3) := by decide +kernel
theorem dX9_typeIn_101 : decode cX9_typeIn 101 = .ok (.iconst 0, 1) := by decide +kernel
theorem dX9_typeIn_102 : decode cX9_typeIn 102 = .ok (.ior, 1) := by decide +kernel
theorem dX9_typeIn_103 : decode cX9_typeIn 103 = .ok (.iload 4, 2) := by decide +kernel
theorem dX9_typeIn_105 : decode cX9_typeIn 105 = .ok (.ifCond .eq 8, 3) := by decide +kernel
theorem dX9_typeIn_108 : decode cX9_typeIn 108 = .ok (.bipush 32, 2) := by decide +kernel
theorem dX9_typeIn_110 : decode cX9_typeIn 110 = .ok (.goto 4, 3) := by decide +kernel
theorem dX9_typeIn_113 : decode cX9_typeIn 113 = .ok (.iconst 0, 1) := by decide +kernel
theorem dX9_typeIn_114 : decode cX9_typeIn 114 = .ok (.ior, 1) := by decide +kernel
theorem dX9_typeIn_115 : decode cX9_typeIn 115 = .ok (.ireturn, 1) := by decide +kernel
