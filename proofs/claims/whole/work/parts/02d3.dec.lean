theorem dX12_joinAll_0 : decode cX12_joinAll 0 = .ok (.aload_n 0, 1) := by decide +kernel
theorem dX12_joinAll_1 : decode cX12_joinAll 1 = .ok (.getfield 195, 3) := by decide +kernel
theorem dX12_joinAll_4 : decode cX12_joinAll 4 = .ok (.ifCond .le 45, 3) := by decide +kernel
theorem dX12_joinAll_7 : decode cX12_joinAll 7 = .ok (.aload_n 0, 1) := by decide +kernel
theorem dX12_joinAll_8 : decode cX12_joinAll 8 = .ok (.aload_n 0, 1) := by decide +kernel
theorem dX12_joinAll_9 : decode cX12_joinAll 9 = .ok (.getfield 189, 3) := by decide +kernel
theorem dX12_joinAll_12 : decode cX12_joinAll 12 = .ok (.aload_n 0, 1) := by decide +kernel
theorem dX12_joinAll_13 : decode cX12_joinAll 13 = .ok (.getfield 195, 3) := by decide +kernel
theorem dX12_joinAll_16 : decode cX12_joinAll 16 = .ok (.iconst 1, 1) := by decide +kernel
theorem dX12_joinAll_17 : decode cX12_joinAll 17 = .ok (.isub, 1) := by decide +kernel
theorem dX12_joinAll_18 : decode cX12_joinAll 18 = .ok (.iaload, 1) := by decide +kernel
theorem dX12_joinAll_19 : decode cX12_joinAll 19 = .ok (.invokevirtual 526, 3) := by decide +kernel
theorem dX12_joinAll_22 : decode cX12_joinAll 22 = .ok (.iload_n 1, 1) := by decide +kernel
theorem dX12_joinAll_23 : decode cX12_joinAll 23 = .ok (.if_icmp .lt 26, 3) := by decide +kernel
theorem dX12_joinAll_26 : decode cX12_joinAll 26 = .ok (.aload_n 0, 1) := by decide +kernel
theorem dX12_joinAll_27 : decode cX12_joinAll 27 = .ok (.getfield 189, 3) := by decide +kernel
theorem dX12_joinAll_30 : decode cX12_joinAll 30 = .ok (.aload_n 0, 1) := by decide +kernel
theorem dX12_joinAll_31 : decode cX12_joinAll 31 = .ok (.getfield 195, 3) := by decide +kernel
theorem dX12_joinAll_34 : decode cX12_joinAll 34 = .ok (.iconst 1, 1) := by decide +kernel
theorem dX12_joinAll_35 : decode cX12_joinAll 35 = .ok (.isub, 1) := by decide +kernel
theorem dX12_joinAll_36 : decode cX12_joinAll 36 = .ok (.iaload, 1) := by decide +kernel
theorem dX12_joinAll_37 : decode cX12_joinAll 37 = .ok (.bipush 18, 2) := by decide +kernel
theorem dX12_joinAll_39 : decode cX12_joinAll 39 = .ok (.if_icmp .eq 10, 3) := by decide +kernel
theorem dX12_joinAll_42 : decode cX12_joinAll 42 = .ok (.aload_n 0, 1) := by decide +kernel
theorem dX12_joinAll_43 : decode cX12_joinAll 43 = .ok (.invokevirtual 533, 3) := by decide +kernel
theorem dX12_joinAll_46 : decode cX12_joinAll 46 = .ok (.goto (-46), 3) := by decide +kernel
theorem dX12_joinAll_49 : decode cX12_joinAll 49 = .ok (.return_, 1) := by decide +kernel
theorem dX12_joined_0 : decode cX12_joined 0 = .ok (.iload_n 1, 1) := by decide +kernel
theorem dX12_joined_1 : decode cX12_joined 1 = .ok (.tableswitch 165 7 16 #[55, 60, 65, 70, 70, 102, 107, 120, 133, 146], 55) := by decide +kernel
theorem dX12_joined_56 : decode cX12_joined 56 = .ok (.lload_n 2, 1) := by decide +kernel
theorem dX12_joined_57 : decode cX12_joined 57 = .ok (.lload 4, 2) := by decide +kernel
theorem dX12_joined_59 : decode cX12_joined 59 = .ok (.ladd, 1) := by decide +kernel
theorem dX12_joined_60 : decode cX12_joined 60 = .ok (.lreturn, 1) := by decide +kernel
theorem dX12_joined_61 : decode cX12_joined 61 = .ok (.lload_n 2, 1) := by decide +kernel
theorem dX12_joined_62 : decode cX12_joined 62 = .ok (.lload 4, 2) := by decide +kernel
theorem dX12_joined_64 : decode cX12_joined 64 = .ok (.lsub, 1) := by decide +kernel
theorem dX12_joined_65 : decode cX12_joined 65 = .ok (.lreturn, 1) := by decide +kernel
theorem dX12_joined_66 : decode cX12_joined 66 = .ok (.lload_n 2, 1) := by decide +kernel
theorem dX12_joined_67 : decode cX12_joined 67 = .ok (.lload 4, 2) := by decide +kernel
theorem dX12_joined_69 : decode cX12_joined 69 = .ok (.lmul, 1) := by decide +kernel
theorem dX12_joined_70 : decode cX12_joined 70 = .ok (.lreturn, 1) := by decide +kernel
theorem dX12_joined_71 : decode cX12_joined 71 = .ok (.lload 4, 2) := by decide +kernel
theorem dX12_joined_73 : decode cX12_joined 73 = .ok (.lconst 0, 1) := by decide +kernel
theorem dX12_joined_74 : decode cX12_joined 74 = .ok (.lcmp, 1) := by decide +kernel
theorem dX12_joined_75 : decode cX12_joined 75 = .ok (.ifCond .ne 10, 3) := by decide +kernel
theorem dX12_joined_78 : decode cX12_joined 78 = .ok (.aload_n 0, 1) := by decide +kernel
theorem dX12_joined_79 : decode cX12_joined 79 = .ok (.iconst 1, 1) := by decide +kernel
theorem dX12_joined_80 : decode cX12_joined 80 = .ok (.putfield 274, 3) := by decide +kernel
theorem dX12_joined_83 : decode cX12_joined 83 = .ok (.lconst 0, 1) := by decide +kernel
theorem dX12_joined_84 : decode cX12_joined 84 = .ok (.lreturn, 1) := by decide +kernel
theorem dX12_joined_85 : decode cX12_joined 85 = .ok (.iload_n 1, 1) := by decide +kernel
theorem dX12_joined_86 : decode cX12_joined 86 = .ok (.bipush 10, 2) := by decide +kernel
theorem dX12_joined_88 : decode cX12_joined 88 = .ok (.if_icmp .ne 10, 3) := by decide +kernel
theorem dX12_joined_91 : decode cX12_joined 91 = .ok (.lload_n 2, 1) := by decide +kernel
theorem dX12_joined_92 : decode cX12_joined 92 = .ok (.lload 4, 2) := by decide +kernel
theorem dX12_joined_94 : decode cX12_joined 94 = .ok (.ldiv, 1) := by decide +kernel
theorem dX12_joined_95 : decode cX12_joined 95 = .ok (.goto 7, 3) := by decide +kernel
theorem dX12_joined_98 : decode cX12_joined 98 = .ok (.lload_n 2, 1) := by decide +kernel
theorem dX12_joined_99 : decode cX12_joined 99 = .ok (.lload 4, 2) := by decide +kernel
theorem dX12_joined_101 : decode cX12_joined 101 = .ok (.lrem, 1) := by decide +kernel
theorem dX12_joined_102 : decode cX12_joined 102 = .ok (.lreturn, 1) := by decide +kernel
theorem dX12_joined_103 : decode cX12_joined 103 = .ok (.lload_n 2, 1) := by decide +kernel
theorem dX12_joined_104 : decode cX12_joined 104 = .ok (.lload 4, 2) := by decide +kernel
theorem dX12_joined_106 : decode cX12_joined 106 = .ok (.land, 1) := by decide +kernel
theorem dX12_joined_107 : decode cX12_joined 107 = .ok (.lreturn, 1) := by decide +kernel
theorem dX12_joined_108 : decode cX12_joined 108 = .ok (.lload_n 2, 1) := by decide +kernel
theorem dX12_joined_109 : decode cX12_joined 109 = .ok (.lload 4, 2) := by decide +kernel
theorem dX12_joined_111 : decode cX12_joined 111 = .ok (.lcmp, 1) := by decide +kernel
theorem dX12_joined_112 : decode cX12_joined 112 = .ok (.ifCond .ne 7, 3) := by decide +kernel
theorem dX12_joined_115 : decode cX12_joined 115 = .ok (.lconst 1, 1) := by decide +kernel
theorem dX12_joined_116 : decode cX12_joined 116 = .ok (.goto 4, 3) := by decide +kernel
theorem dX12_joined_119 : decode cX12_joined 119 = .ok (.lconst 0, 1) := by decide +kernel
theorem dX12_joined_120 : decode cX12_joined 120 = .ok (.lreturn, 1) := by decide +kernel
theorem dX12_joined_121 : decode cX12_joined 121 = .ok (.lload_n 2, 1) := by decide +kernel
theorem dX12_joined_122 : decode cX12_joined 122 = .ok (.lload 4, 2) := by decide +kernel
theorem dX12_joined_124 : decode cX12_joined 124 = .ok (.lcmp, 1) := by decide +kernel
theorem dX12_joined_125 : decode cX12_joined 125 = .ok (.ifCond .ge 7, 3) := by decide +kernel
theorem dX12_joined_128 : decode cX12_joined 128 = .ok (.lconst 1, 1) := by decide +kernel
theorem dX12_joined_129 : decode cX12_joined 129 = .ok (.goto 4, 3) := by decide +kernel
theorem dX12_joined_132 : decode cX12_joined 132 = .ok (.lconst 0, 1) := by decide +kernel
theorem dX12_joined_133 : decode cX12_joined 133 = .ok (.lreturn, 1) := by decide +kernel
theorem dX12_joined_134 : decode cX12_joined 134 = .ok (.lload_n 2, 1) := by decide +kernel
theorem dX12_joined_135 : decode cX12_joined 135 = .ok (.lload 4, 2) := by decide +kernel
theorem dX12_joined_137 : decode cX12_joined 137 = .ok (.lcmp, 1) := by decide +kernel
theorem dX12_joined_138 : decode cX12_joined 138 = .ok (.ifCond .le 7, 3) := by decide +kernel
theorem dX12_joined_141 : decode cX12_joined 141 = .ok (.lconst 1, 1) := by decide +kernel
theorem dX12_joined_142 : decode cX12_joined 142 = .ok (.goto 4, 3) := by decide +kernel
theorem dX12_joined_145 : decode cX12_joined 145 = .ok (.lconst 0, 1) := by decide +kernel
theorem dX12_joined_146 : decode cX12_joined 146 = .ok (.lreturn, 1) := by decide +kernel
theorem dX12_joined_147 : decode cX12_joined 147 = .ok (.lload_n 2, 1) := by decide +kernel
theorem dX12_joined_148 : decode cX12_joined 148 = .ok (.lconst 0, 1) := by decide +kernel
theorem dX12_joined_149 : decode cX12_joined 149 = .ok (.lcmp, 1) := by decide +kernel
theorem dX12_joined_150 : decode cX12_joined 150 = .ok (.ifCond .eq 14, 3) := by decide +kernel
theorem dX12_joined_153 : decode cX12_joined 153 = .ok (.lload 4, 2) := by decide +kernel
theorem dX12_joined_155 : decode cX12_joined 155 = .ok (.lconst 0, 1) := by decide +kernel
theorem dX12_joined_156 : decode cX12_joined 156 = .ok (.lcmp, 1) := by decide +kernel
theorem dX12_joined_157 : decode cX12_joined 157 = .ok (.ifCond .eq 7, 3) := by decide +kernel
theorem dX12_joined_160 : decode cX12_joined 160 = .ok (.lconst 1, 1) := by decide +kernel
theorem dX12_joined_161 : decode cX12_joined 161 = .ok (.goto 4, 3) := by decide +kernel
theorem dX12_joined_164 : decode cX12_joined 164 = .ok (.lconst 0, 1) := by decide +kernel
theorem dX12_joined_165 : decode cX12_joined 165 = .ok (.lreturn, 1) := by decide +kernel
theorem dX12_joined_166 : decode cX12_joined 166 = .ok (.lload_n 2, 1) := by decide +kernel
theorem dX12_joined_167 : decode cX12_joined 167 = .ok (.lconst 0, 1) := by decide +kernel
theorem dX12_joined_168 : decode cX12_joined 168 = .ok (.lcmp, 1) := by decide +kernel
theorem dX12_joined_169 : decode cX12_joined 169 = .ok (.ifCond .ne 10, 3) := by decide +kernel
theorem dX12_joined_172 : decode cX12_joined 172 = .ok (.lload 4, 2) := by decide +kernel
theorem dX12_joined_174 : decode cX12_joined 174 = .ok (.lconst 0, 1) := by decide +kernel
theorem dX12_joined_175 : decode cX12_joined 175 = .ok (.lcmp, 1) := by decide +kernel
theorem dX12_joined_176 : decode cX12_joined 176 = .ok (.ifCond .eq 7, 3) := by decide +kernel
theorem dX12_joined_179 : decode cX12_joined 179 = .ok (.lconst 1, 1) := by decide +kernel
theorem dX12_joined_180 : decode cX12_joined 180 = .ok (.goto 4, 3) := by decide +kernel
theorem dX12_joined_183 : decode cX12_joined 183 = .ok (.lconst 0, 1) := by decide +kernel
theorem dX12_joined_184 : decode cX12_joined 184 = .ok (.lreturn, 1) := by decide +kernel
theorem dX12_kid_0 : decode cX12_kid 0 = .ok (.aload_n 0, 1) := by decide +kernel
theorem dX12_kid_1 : decode cX12_kid 1 = .ok (.iload_n 1, 1) := by decide +kernel
theorem dX12_kid_2 : decode cX12_kid 2 = .ok (.iload_n 2, 1) := by decide +kernel
theorem dX12_kid_3 : decode cX12_kid 3 = .ok (.invokevirtual 688, 3) := by decide +kernel
theorem dX12_kid_6 : decode cX12_kid 6 = .ok (.ifCond .eq 23, 3) := by decide +kernel
theorem dX12_kid_9 : decode cX12_kid 9 = .ok (.aload_n 0, 1) := by decide +kernel
theorem dX12_kid_10 : decode cX12_kid 10 = .ok (.aload_n 0, 1) := by decide +kernel
theorem dX12_kid_11 : decode cX12_kid 11 = .ok (.sipush 400, 3) := by decide +kernel
theorem dX12_kid_14 : decode cX12_kid 14 = .ok (.iload_n 1, 1) := by decide +kernel
theorem dX12_kid_15 : decode cX12_kid 15 = .ok (.imul, 1) := by decide +kernel
theorem dX12_kid_16 : decode cX12_kid 16 = .ok (.iload_n 2, 1) := by decide +kernel
theorem dX12_kid_17 : decode cX12_kid 17 = .ok (.iadd, 1) := by decide +kernel
theorem dX12_kid_18 : decode cX12_kid 18 = .ok (.iload_n 3, 1) := by decide +kernel
theorem dX12_kid_19 : decode cX12_kid 19 = .ok (.i2l, 1) := by decide +kernel
theorem dX12_kid_20 : decode cX12_kid 20 = .ok (.invokevirtual 694, 3) := by decide +kernel
theorem dX12_kid_23 : decode cX12_kid 23 = .ok (.invokevirtual 691, 3) := by decide +kernel
theorem dX12_kid_26 : decode cX12_kid 26 = .ok (.goto 4, 3) := by decide +kernel
theorem dX12_kid_29 : decode cX12_kid 29 = .ok (.iconst (-1), 1) := by decide +kernel
theorem dX12_kid_30 : decode cX12_kid 30 = .ok (.ireturn, 1) := by decide +kernel
theorem dX12_kidBegun_0 : decode cX12_kidBegun 0 = .ok (.aload_n 0, 1) := by decide +kernel
theorem dX12_kidBegun_1 : decode cX12_kidBegun 1 = .ok (.getfield 98, 3) := by decide +kernel
theorem dX12_kidBegun_4 : decode cX12_kidBegun 4 = .ok (.iload_n 2, 1) := by decide +kernel
theorem dX12_kidBegun_5 : decode cX12_kidBegun 5 = .ok (.iaload, 1) := by decide +kernel
theorem dX12_kidBegun_6 : decode cX12_kidBegun 6 = .ok (.iconst 1, 1) := by decide +kernel
theorem dX12_kidBegun_7 : decode cX12_kidBegun 7 = .ok (.if_icmp .eq 22, 3) := by decide +kernel
theorem dX12_kidBegun_10 : decode cX12_kidBegun 10 = .ok (.aload_n 0, 1) := by decide +kernel
theorem dX12_kidBegun_11 : decode cX12_kidBegun 11 = .ok (.aload_n 0, 1) := by decide +kernel
theorem dX12_kidBegun_12 : decode cX12_kidBegun 12 = .ok (.getfield 107, 3) := by decide +kernel
theorem dX12_kidBegun_15 : decode cX12_kidBegun 15 = .ok (.iload_n 2, 1) := by decide +kernel
theorem dX12_kidBegun_16 : decode cX12_kidBegun 16 = .ok (.iaload, 1) := by decide +kernel
theorem dX12_kidBegun_17 : decode cX12_kidBegun 17 = .ok (.iload_n 1, 1) := by decide +kernel
theorem dX12_kidBegun_18 : decode cX12_kidBegun 18 = .ok (.aload_n 0, 1) := by decide +kernel
theorem dX12_kidBegun_19 : decode cX12_kidBegun 19 = .ok (.getfield 223, 3) := by decide +kernel
theorem dX12_kidBegun_22 : decode cX12_kidBegun 22 = .ok (.iload_n 1, 1) := by decide +kernel
theorem dX12_kidBegun_23 : decode cX12_kidBegun 23 = .ok (.iaload, 1) := by decide +kernel
theorem dX12_kidBegun_24 : decode cX12_kidBegun 24 = .ok (.iconst (-1), 1) := by decide +kernel
theorem dX12_kidBegun_25 : decode cX12_kidBegun 25 = .ok (.invokevirtual 590, 3) := by decide +kernel
theorem dX12_kidBegun_28 : decode cX12_kidBegun 28 = .ok (.return_, 1) := by decide +kernel
theorem dX12_kidBegun_29 : decode cX12_kidBegun 29 = .ok (.aload_n 0, 1) := by decide +kernel
theorem dX12_kidBegun_30 : decode cX12_kidBegun 30 = .ok (.iconst 1, 1) := by decide +kernel
theorem dX12_kidBegun_31 : decode cX12_kidBegun 31 = .ok (.iload_n 1, 1) := by decide +kernel
theorem dX12_kidBegun_32 : decode cX12_kidBegun 32 = .ok (.aload_n 0, 1) := by decide +kernel
theorem dX12_kidBegun_33 : decode cX12_kidBegun 33 = .ok (.getfield 223, 3) := by decide +kernel
theorem dX12_kidBegun_36 : decode cX12_kidBegun 36 = .ok (.iload_n 1, 1) := by decide +kernel
theorem dX12_kidBegun_37 : decode cX12_kidBegun 37 = .ok (.iaload, 1) := by decide +kernel
theorem dX12_kidBegun_38 : decode cX12_kidBegun 38 = .ok (.iload_n 2, 1) := by decide +kernel
theorem dX12_kidBegun_39 : decode cX12_kidBegun 39 = .ok (.invokevirtual 580, 3) := by decide +kernel
theorem dX12_kidBegun_42 : decode cX12_kidBegun 42 = .ok (.istore_n 3, 1) := by decide +kernel
theorem dX12_kidBegun_43 : decode cX12_kidBegun 43 = .ok (.aload_n 0, 1) := by decide +kernel
theorem dX12_kidBegun_44 : decode cX12_kidBegun 44 = .ok (.getfield 262, 3) := by decide +kernel
theorem dX12_kidBegun_47 : decode cX12_kidBegun 47 = .ok (.ifCond .eq 4, 3) := by decide +kernel
theorem dX12_kidBegun_50 : decode cX12_kidBegun 50 = .ok (.return_, 1) := by decide +kernel
theorem dX12_kidBegun_51 : decode cX12_kidBegun 51 = .ok (.aload_n 0, 1) := by decide +kernel
theorem dX12_kidBegun_52 : decode cX12_kidBegun 52 = .ok (.iload_n 3, 1) := by decide +kernel
theorem dX12_kidBegun_53 : decode cX12_kidBegun 53 = .ok (.aload_n 0, 1) := by decide +kernel
theorem dX12_kidBegun_54 : decode cX12_kidBegun 54 = .ok (.getfield 101, 3) := by decide +kernel
theorem dX12_kidBegun_57 : decode cX12_kidBegun 57 = .ok (.iload_n 2, 1) := by decide +kernel
theorem dX12_kidBegun_58 : decode cX12_kidBegun 58 = .ok (.iaload, 1) := by decide +kernel
theorem dX12_kidBegun_59 : decode cX12_kidBegun 59 = .ok (.bipush 15, 2) := by decide +kernel
theorem dX12_kidBegun_61 : decode cX12_kidBegun 61 = .ok (.iand, 1) := by decide +kernel
theorem dX12_kidBegun_62 : decode cX12_kidBegun 62 = .ok (.i2l, 1) := by decide +kernel
theorem dX12_kidBegun_63 : decode cX12_kidBegun 63 = .ok (.invokevirtual 602, 3) := by decide +kernel
theorem dX12_kidBegun_66 : decode cX12_kidBegun 66 = .ok (.ifCond .eq 18, 3) := by decide +kernel
theorem dX12_kidBegun_69 : decode cX12_kidBegun 69 = .ok (.aload_n 0, 1) := by decide +kernel
theorem dX12_kidBegun_70 : decode cX12_kidBegun 70 = .ok (.getfield 223, 3) := by decide +kernel
theorem dX12_kidBegun_73 : decode cX12_kidBegun 73 = .ok (.iload_n 1, 1) := by decide +kernel
theorem dX12_kidBegun_74 : decode cX12_kidBegun 74 = .ok (.aload_n 0, 1) := by decide +kernel
theorem dX12_kidBegun_75 : decode cX12_kidBegun 75 = .ok (.getfield 223, 3) := by decide +kernel
theorem dX12_kidBegun_78 : decode cX12_kidBegun 78 = .ok (.iload_n 3, 1) := by decide +kernel
theorem dX12_kidBegun_79 : decode cX12_kidBegun 79 = .ok (.iaload, 1) := by decide +kernel
theorem dX12_kidBegun_80 : decode cX12_kidBegun 80 = .ok (.iastore, 1) := by decide +kernel
theorem dX12_kidBegun_81 : decode cX12_kidBegun 81 = .ok (.goto 19, 3) := by decide +kernel
theorem dX12_kidBegun_84 : decode cX12_kidBegun 84 = .ok (.aload_n 0, 1) := by decide +kernel
theorem dX12_kidBegun_85 : decode cX12_kidBegun 85 = .ok (.getfield 268, 3) := by decide +kernel
theorem dX12_kidBegun_88 : decode cX12_kidBegun 88 = .ok (.aload_n 0, 1) := by decide +kernel
theorem dX12_kidBegun_89 : decode cX12_kidBegun 89 = .ok (.getfield 271, 3) := by decide +kernel
theorem dX12_kidBegun_92 : decode cX12_kidBegun 92 = .ok (.iconst 1, 1) := by decide +kernel
theorem dX12_kidBegun_93 : decode cX12_kidBegun 93 = .ok (.isub, 1) := by decide +kernel
theorem dX12_kidBegun_94 : decode cX12_kidBegun 94 = .ok (.iconst 0, 1) := by decide +kernel
theorem dX12_kidBegun_95 : decode cX12_kidBegun 95 = .ok (.iastore, 1) := by decide +kernel
theorem dX12_kidBegun_96 : decode cX12_kidBegun 96 = .ok (.aload_n 0, 1) := by decide +kernel
theorem dX12_kidBegun_97 : decode cX12_kidBegun 97 = .ok (.invokevirtual 605, 3) := by decide +kernel
theorem dX12_kidBegun_100 : decode cX12_kidBegun 100 = .ok (.return_, 1) := by decide +kernel
theorem dX12_kidOf_0 : decode cX12_kidOf 0 = .ok (.lload_n 2, 1) := by decide +kernel
theorem dX12_kidOf_1 : decode cX12_kidOf 1 = .ok (.lconst 0, 1) := by decide +kernel
theorem dX12_kidOf_2 : decode cX12_kidOf 2 = .ok (.lcmp, 1) := by decide +kernel
theorem dX12_kidOf_3 : decode cX12_kidOf 3 = .ok (.ifCond .lt 15, 3) := by decide +kernel
theorem dX12_kidOf_6 : decode cX12_kidOf 6 = .ok (.lload_n 2, 1) := by decide +kernel
theorem dX12_kidOf_7 : decode cX12_kidOf 7 = .ok (.aload_n 0, 1) := by decide +kernel
theorem dX12_kidOf_8 : decode cX12_kidOf 8 = .ok (.getfield 229, 3) := by decide +kernel
theorem dX12_kidOf_11 : decode cX12_kidOf 11 = .ok (.iload_n 1, 1) := by decide +kernel
theorem dX12_kidOf_12 : decode cX12_kidOf 12 = .ok (.iaload, 1) := by decide +kernel
theorem dX12_kidOf_13 : decode cX12_kidOf 13 = .ok (.i2l, 1) := by decide +kernel
theorem dX12_kidOf_14 : decode cX12_kidOf 14 = .ok (.lcmp, 1) := by decide +kernel
theorem dX12_kidOf_15 : decode cX12_kidOf 15 = .ok (.ifCond .lt 5, 3) := by decide +kernel
theorem dX12_kidOf_18 : decode cX12_kidOf 18 = .ok (.iconst (-1), 1) := by decide +kernel
theorem dX12_kidOf_19 : decode cX12_kidOf 19 = .ok (.ireturn, 1) := by decide +kernel
theorem dX12_kidOf_20 : decode cX12_kidOf 20 = .ok (.aload_n 0, 1) := by decide +kernel
theorem dX12_kidOf_21 : decode cX12_kidOf 21 = .ok (.getfield 244, 3) := by decide +kernel
theorem dX12_kidOf_24 : decode cX12_kidOf 24 = .ok (.iload_n 1, 1) := by decide +kernel
theorem dX12_kidOf_25 : decode cX12_kidOf 25 = .ok (.iaload, 1) := by decide +kernel
theorem dX12_kidOf_26 : decode cX12_kidOf 26 = .ok (.istore 4, 2) := by decide +kernel
theorem dX12_kidOf_28 : decode cX12_kidOf 28 = .ok (.iconst 0, 1) := by decide +kernel
theorem dX12_kidOf_29 : decode cX12_kidOf 29 = .ok (.istore 5, 2) := by decide +kernel
theorem dX12_kidOf_31 : decode cX12_kidOf 31 = .ok (.iload 5, 2) := by decide +kernel
theorem dX12_kidOf_33 : decode cX12_kidOf 33 = .ok (.i2l, 1) := by decide +kernel
theorem dX12_kidOf_34 : decode cX12_kidOf 34 = .ok (.lload_n 2, 1) := by decide +kernel
theorem dX12_kidOf_35 : decode cX12_kidOf 35 = .ok (.lcmp, 1) := by decide +kernel
theorem dX12_kidOf_36 : decode cX12_kidOf 36 = .ok (.ifCond .ge 18, 3) := by decide +kernel
theorem dX12_kidOf_39 : decode cX12_kidOf 39 = .ok (.aload_n 0, 1) := by decide +kernel
theorem dX12_kidOf_40 : decode cX12_kidOf 40 = .ok (.getfield 250, 3) := by decide +kernel
theorem dX12_kidOf_43 : decode cX12_kidOf 43 = .ok (.iload 4, 2) := by decide +kernel
theorem dX12_kidOf_45 : decode cX12_kidOf 45 = .ok (.iaload, 1) := by decide +kernel
theorem dX12_kidOf_46 : decode cX12_kidOf 46 = .ok (.istore 4, 2) := by decide +kernel
theorem dX12_kidOf_48 : decode cX12_kidOf 48 = .ok (.iinc 5 1, 3) := by decide +kernel
theorem dX12_kidOf_51 : decode cX12_kidOf 51 = .ok (.goto (-20), 3) := by decide +kernel
theorem dX12_kidOf_54 : decode cX12_kidOf 54 = .ok (.iload 4, 2) := by decide +kernel
theorem dX12_kidOf_56 : decode cX12_kidOf 56 = .ok (.ireturn, 1) := by decide +kernel
theorem dX12_laid_0 : decode cX12_laid 0 = .ok (.aload_n 0, 1) := by decide +kernel
theorem dX12_laid_1 : decode cX12_laid 1 = .ok (.iconst 0, 1) := by decide +kernel
theorem dX12_laid_2 : decode cX12_laid 2 = .ok (.putfield 271, 3) := by decide +kernel
theorem dX12_laid_5 : decode cX12_laid 5 = .ok (.aload_n 0, 1) := by decide +kernel
theorem dX12_laid_6 : decode cX12_laid 6 = .ok (.iload_n 1, 1) := by decide +kernel
theorem dX12_laid_7 : decode cX12_laid 7 = .ok (.iconst (-1), 1) := by decide +kernel
theorem dX12_laid_8 : decode cX12_laid 8 = .ok (.iload_n 2, 1) := by decide +kernel
theorem dX12_laid_9 : decode cX12_laid 9 = .ok (.iconst (-1), 1) := by decide +kernel
theorem dX12_laid_10 : decode cX12_laid 10 = .ok (.invokevirtual 590, 3) := by decide +kernel
theorem dX12_laid_13 : decode cX12_laid 13 = .ok (.aload_n 0, 1) := by decide +kernel
theorem dX12_laid_14 : decode cX12_laid 14 = .ok (.getfield 271, 3) := by decide +kernel
theorem dX12_laid_17 : decode cX12_laid 17 = .ok (.ifCond .le 151, 3) := by decide +kernel
theorem dX12_laid_20 : decode cX12_laid 20 = .ok (.aload_n 0, 1) := by decide +kernel
theorem dX12_laid_21 : decode cX12_laid 21 = .ok (.getfield 262, 3) := by decide +kernel
theorem dX12_laid_24 : decode cX12_laid 24 = .ok (.ifCond .ne 144, 3) := by decide +kernel
theorem dX12_laid_27 : decode cX12_laid 27 = .ok (.aload_n 0, 1) := by decide +kernel
theorem dX12_laid_28 : decode cX12_laid 28 = .ok (.getfield 265, 3) := by decide +kernel
theorem dX12_laid_31 : decode cX12_laid 31 = .ok (.aload_n 0, 1) := by decide +kernel
theorem dX12_laid_32 : decode cX12_laid 32 = .ok (.getfield 271, 3) := by decide +kernel
theorem dX12_laid_35 : decode cX12_laid 35 = .ok (.iconst 1, 1) := by decide +kernel
theorem dX12_laid_36 : decode cX12_laid 36 = .ok (.isub, 1) := by decide +kernel
theorem dX12_laid_37 : decode cX12_laid 37 = .ok (.iaload, 1) := by decide +kernel
theorem dX12_laid_38 : decode cX12_laid 38 = .ok (.istore_n 3, 1) := by decide +kernel
theorem dX12_laid_39 : decode cX12_laid 39 = .ok (.aload_n 0, 1) := by decide +kernel
theorem dX12_laid_40 : decode cX12_laid 40 = .ok (.getfield 268, 3) := by decide +kernel
theorem dX12_laid_43 : decode cX12_laid 43 = .ok (.aload_n 0, 1) := by decide +kernel
theorem dX12_laid_44 : decode cX12_laid 44 = .ok (.getfield 271, 3) := by decide +kernel
theorem dX12_laid_47 : decode cX12_laid 47 = .ok (.iconst 1, 1) := by decide +kernel
theorem dX12_laid_48 : decode cX12_laid 48 = .ok (.isub, 1) := by decide +kernel
theorem dX12_laid_49 : decode cX12_laid 49 = .ok (.iaload, 1) := by decide +kernel
theorem dX12_laid_50 : decode cX12_laid 50 = .ok (.istore 4, 2) := by decide +kernel
theorem dX12_laid_52 : decode cX12_laid 52 = .ok (.aload_n 0, 1) := by decide +kernel
theorem dX12_laid_53 : decode cX12_laid 53 = .ok (.getfield 217, 3) := by decide +kernel
theorem dX12_laid_56 : decode cX12_laid 56 = .ok (.iload_n 3, 1) := by decide +kernel
theorem dX12_laid_57 : decode cX12_laid 57 = .ok (.iaload, 1) := by decide +kernel
theorem dX12_laid_58 : decode cX12_laid 58 = .ok (.ifCond .ne 69, 3) := by decide +kernel
theorem dX12_laid_61 : decode cX12_laid 61 = .ok (.aload_n 0, 1) := by decide +kernel
theorem dX12_laid_62 : decode cX12_laid 62 = .ok (.getfield 268, 3) := by decide +kernel
theorem dX12_laid_65 : decode cX12_laid 65 = .ok (.aload_n 0, 1) := by decide +kernel
theorem dX12_laid_66 : decode cX12_laid 66 = .ok (.getfield 271, 3) := by decide +kernel
theorem dX12_laid_69 : decode cX12_laid 69 = .ok (.iconst 1, 1) := by decide +kernel
theorem dX12_laid_70 : decode cX12_laid 70 = .ok (.isub, 1) := by decide +kernel
theorem dX12_laid_71 : decode cX12_laid 71 = .ok (.dup2, 1) := by decide +kernel
theorem dX12_laid_72 : decode cX12_laid 72 = .ok (.iaload, 1) := by decide +kernel
theorem dX12_laid_73 : decode cX12_laid 73 = .ok (.iconst 1, 1) := by decide +kernel
theorem dX12_laid_74 : decode cX12_laid 74 = .ok (.iadd, 1) := by decide +kernel
theorem dX12_laid_75 : decode cX12_laid 75 = .ok (.iastore, 1) := by decide +kernel
theorem dX12_laid_76 : decode cX12_laid 76 = .ok (.iload 4, 2) := by decide +kernel
theorem dX12_laid_78 : decode cX12_laid 78 = .ok (.aload_n 0, 1) := by decide +kernel
theorem dX12_laid_79 : decode cX12_laid 79 = .ok (.getfield 80, 3) := by decide +kernel
theorem dX12_laid_82 : decode cX12_laid 82 = .ok (.bipush 20, 2) := by decide +kernel
theorem dX12_laid_84 : decode cX12_laid 84 = .ok (.aload_n 0, 1) := by decide +kernel
theorem dX12_laid_85 : decode cX12_laid 85 = .ok (.getfield 67, 3) := by decide +kernel
theorem dX12_laid_88 : decode cX12_laid 88 = .ok (.imul, 1) := by decide +kernel
theorem dX12_laid_89 : decode cX12_laid 89 = .ok (.aload_n 0, 1) := by decide +kernel
theorem dX12_laid_90 : decode cX12_laid 90 = .ok (.getfield 235, 3) := by decide +kernel
theorem dX12_laid_93 : decode cX12_laid 93 = .ok (.iload_n 3, 1) := by decide +kernel
theorem dX12_laid_94 : decode cX12_laid 94 = .ok (.iaload, 1) := by decide +kernel
theorem dX12_laid_95 : decode cX12_laid 95 = .ok (.iadd, 1) := by decide +kernel
theorem dX12_laid_96 : decode cX12_laid 96 = .ok (.iaload, 1) := by decide +kernel
theorem dX12_laid_97 : decode cX12_laid 97 = .ok (.if_icmp .lt 10, 3) := by decide +kernel
theorem dX12_laid_100 : decode cX12_laid 100 = .ok (.aload_n 0, 1) := by decide +kernel
theorem dX12_laid_101 : decode cX12_laid 101 = .ok (.invokevirtual 593, 3) := by decide +kernel
theorem dX12_laid_104 : decode cX12_laid 104 = .ok (.goto 61, 3) := by decide +kernel
theorem dX12_laid_107 : decode cX12_laid 107 = .ok (.aload_n 0, 1) := by decide +kernel
theorem dX12_laid_108 : decode cX12_laid 108 = .ok (.iload_n 3, 1) := by decide +kernel
theorem dX12_laid_109 : decode cX12_laid 109 = .ok (.aload_n 0, 1) := by decide +kernel
theorem dX12_laid_110 : decode cX12_laid 110 = .ok (.aload_n 0, 1) := by decide +kernel
theorem dX12_laid_111 : decode cX12_laid 111 = .ok (.getfield 235, 3) := by decide +kernel
theorem dX12_laid_114 : decode cX12_laid 114 = .ok (.iload_n 3, 1) := by decide +kernel
theorem dX12_laid_115 : decode cX12_laid 115 = .ok (.iaload, 1) := by decide +kernel
theorem dX12_laid_116 : decode cX12_laid 116 = .ok (.iload 4, 2) := by decide +kernel
theorem dX12_laid_118 : decode cX12_laid 118 = .ok (.invokevirtual 447, 3) := by decide +kernel
theorem dX12_laid_121 : decode cX12_laid 121 = .ok (.invokevirtual 596, 3) := by decide +kernel
theorem dX12_laid_124 : decode cX12_laid 124 = .ok (.goto 41, 3) := by decide +kernel
theorem dX12_laid_127 : decode cX12_laid 127 = .ok (.iload 4, 2) := by decide +kernel
theorem dX12_laid_129 : decode cX12_laid 129 = .ok (.ifCond .ne 10, 3) := by decide +kernel
theorem dX12_laid_132 : decode cX12_laid 132 = .ok (.aload_n 0, 1) := by decide +kernel
theorem dX12_laid_133 : decode cX12_laid 133 = .ok (.invokevirtual 593, 3) := by decide +kernel
theorem dX12_laid_136 : decode cX12_laid 136 = .ok (.goto 29, 3) := by decide +kernel
theorem dX12_laid_139 : decode cX12_laid 139 = .ok (.aload_n 0, 1) := by decide +kernel
theorem dX12_laid_140 : decode cX12_laid 140 = .ok (.getfield 268, 3) := by decide +kernel
theorem dX12_laid_143 : decode cX12_laid 143 = .ok (.aload_n 0, 1) := by decide +kernel
theorem dX12_laid_144 : decode cX12_laid 144 = .ok (.getfield 271, 3) := by decide +kernel
theorem dX12_laid_147 : decode cX12_laid 147 = .ok (.iconst 1, 1) := by decide +kernel
theorem dX12_laid_148 : decode cX12_laid 148 = .ok (.isub, 1) := by decide +kernel
theorem dX12_laid_149 : decode cX12_laid 149 = .ok (.dup2, 1) := by decide +kernel
theorem dX12_laid_150 : decode cX12_laid 150 = .ok (.iaload, 1) := by decide +kernel
theorem dX12_laid_151 : decode cX12_laid 151 = .ok (.iconst 1, 1) := by decide +kernel
theorem dX12_laid_152 : decode cX12_laid 152 = .ok (.isub, 1) := by decide +kernel
theorem dX12_laid_153 : decode cX12_laid 153 = .ok (.iastore, 1) := by decide +kernel
theorem dX12_laid_154 : decode cX12_laid 154 = .ok (.aload_n 0, 1) := by decide +kernel
theorem dX12_laid_155 : decode cX12_laid 155 = .ok (.iload_n 3, 1) := by decide +kernel
theorem dX12_laid_156 : decode cX12_laid 156 = .ok (.aload_n 0, 1) := by decide +kernel
theorem dX12_laid_157 : decode cX12_laid 157 = .ok (.getfield 238, 3) := by decide +kernel
theorem dX12_laid_160 : decode cX12_laid 160 = .ok (.iload_n 3, 1) := by decide +kernel
theorem dX12_laid_161 : decode cX12_laid 161 = .ok (.iaload, 1) := by decide +kernel
theorem dX12_laid_162 : decode cX12_laid 162 = .ok (.invokevirtual 599, 3) := by decide +kernel
theorem dX12_laid_165 : decode cX12_laid 165 = .ok (.goto (-152), 3) := by decide +kernel
theorem dX12_laid_168 : decode cX12_laid 168 = .ok (.return_, 1) := by decide +kernel
theorem dX12_laidAt_0 : decode cX12_laidAt 0 = .ok (.aload_n 0, 1) := by decide +kernel
theorem dX12_laidAt_1 : decode cX12_laidAt 1 = .ok (.aload_n 0, 1) := by decide +kernel
theorem dX12_laidAt_2 : decode cX12_laidAt 2 = .ok (.getfield 67, 3) := by decide +kernel
theorem dX12_laidAt_5 : decode cX12_laidAt 5 = .ok (.putfield 173, 3) := by decide +kernel
theorem dX12_laidAt_8 : decode cX12_laidAt 8 = .ok (.aload_n 0, 1) := by decide +kernel
theorem dX12_laidAt_9 : decode cX12_laidAt 9 = .ok (.iload_n 1, 1) := by decide +kernel
theorem dX12_laidAt_10 : decode cX12_laidAt 10 = .ok (.putfield 256, 3) := by decide +kernel
theorem dX12_laidAt_13 : decode cX12_laidAt 13 = .ok (.aload_n 0, 1) := by decide +kernel
theorem dX12_laidAt_14 : decode cX12_laidAt 14 = .ok (.iload_n 2, 1) := by decide +kernel
theorem dX12_laidAt_15 : decode cX12_laidAt 15 = .ok (.putfield 259, 3) := by decide +kernel
theorem dX12_laidAt_18 : decode cX12_laidAt 18 = .ok (.aload_n 0, 1) := by decide +kernel
theorem dX12_laidAt_19 : decode cX12_laidAt 19 = .ok (.getfield 211, 3) := by decide +kernel
theorem dX12_laidAt_22 : decode cX12_laidAt 22 = .ok (.aload_n 0, 1) := by decide +kernel
theorem dX12_laidAt_23 : decode cX12_laidAt 23 = .ok (.getfield 256, 3) := by decide +kernel
theorem dX12_laidAt_26 : decode cX12_laidAt 26 = .ok (.aload_n 0, 1) := by decide +kernel
theorem dX12_laidAt_27 : decode cX12_laidAt 27 = .ok (.getfield 259, 3) := by decide +kernel
theorem dX12_laidAt_30 : decode cX12_laidAt 30 = .ok (.iastore, 1) := by decide +kernel
theorem dX12_laidAt_31 : decode cX12_laidAt 31 = .ok (.aload_n 0, 1) := by decide +kernel
theorem dX12_laidAt_32 : decode cX12_laidAt 32 = .ok (.getfield 214, 3) := by decide +kernel
theorem dX12_laidAt_35 : decode cX12_laidAt 35 = .ok (.aload_n 0, 1) := by decide +kernel
theorem dX12_laidAt_36 : decode cX12_laidAt 36 = .ok (.getfield 256, 3) := by decide +kernel
theorem dX12_laidAt_39 : decode cX12_laidAt 39 = .ok (.iconst 0, 1) := by decide +kernel
theorem dX12_laidAt_40 : decode cX12_laidAt 40 = .ok (.iastore, 1) := by decide +kernel
theorem dX12_laidAt_41 : decode cX12_laidAt 41 = .ok (.aload_n 0, 1) := by decide +kernel
theorem dX12_laidAt_42 : decode cX12_laidAt 42 = .ok (.iconst 0, 1) := by decide +kernel
theorem dX12_laidAt_43 : decode cX12_laidAt 43 = .ok (.putfield 262, 3) := by decide +kernel
theorem dX12_laidAt_46 : decode cX12_laidAt 46 = .ok (.aload_n 0, 1) := by decide +kernel
theorem dX12_laidAt_47 : decode cX12_laidAt 47 = .ok (.iload_n 3, 1) := by decide +kernel
theorem dX12_laidAt_48 : decode cX12_laidAt 48 = .ok (.iload 4, 2) := by decide +kernel
theorem dX12_laidAt_50 : decode cX12_laidAt 50 = .ok (.invokevirtual 682, 3) := by decide +kernel
theorem dX12_laidAt_53 : decode cX12_laidAt 53 = .ok (.aload_n 0, 1) := by decide +kernel
theorem dX12_laidAt_54 : decode cX12_laidAt 54 = .ok (.getfield 262, 3) := by decide +kernel
theorem dX12_laidAt_57 : decode cX12_laidAt 57 = .ok (.ifCond .ne 7, 3) := by decide +kernel
theorem dX12_laidAt_60 : decode cX12_laidAt 60 = .ok (.iconst 1, 1) := by decide +kernel
theorem dX12_laidAt_61 : decode cX12_laidAt 61 = .ok (.goto 4, 3) := by decide +kernel
theorem dX12_laidAt_64 : decode cX12_laidAt 64 = .ok (.iconst 0, 1) := by decide +kernel
theorem dX12_laidAt_65 : decode cX12_laidAt 65 = .ok (.ireturn, 1) := by decide +kernel
theorem dX12_lay_0 : decode cX12_lay 0 = .ok (.aload_n 0, 1) := by decide +kernel
theorem dX12_lay_1 : decode cX12_lay 1 = .ok (.iload_n 1, 1) := by decide +kernel
theorem dX12_lay_2 : decode cX12_lay 2 = .ok (.invokevirtual 293, 3) := by decide +kernel
theorem dX12_lay_5 : decode cX12_lay 5 = .ok (.ifCond .eq 11, 3) := by decide +kernel
theorem dX12_lay_8 : decode cX12_lay 8 = .ok (.aload_n 0, 1) := by decide +kernel
theorem dX12_lay_9 : decode cX12_lay 9 = .ok (.iload_n 2, 1) := by decide +kernel
theorem dX12_lay_10 : decode cX12_lay 10 = .ok (.invokevirtual 570, 3) := by decide +kernel
theorem dX12_lay_13 : decode cX12_lay 13 = .ok (.ifCond .ne 5, 3) := by decide +kernel
theorem dX12_lay_16 : decode cX12_lay 16 = .ok (.iconst (-1), 1) := by decide +kernel
theorem dX12_lay_17 : decode cX12_lay 17 = .ok (.ireturn, 1) := by decide +kernel
theorem dX12_lay_18 : decode cX12_lay 18 = .ok (.iload_n 3, 1) := by decide +kernel
theorem dX12_lay_19 : decode cX12_lay 19 = .ok (.ifCond .lt 13, 3) := by decide +kernel
theorem dX12_lay_22 : decode cX12_lay 22 = .ok (.iload_n 3, 1) := by decide +kernel
theorem dX12_lay_23 : decode cX12_lay 23 = .ok (.aload_n 0, 1) := by decide +kernel
theorem dX12_lay_24 : decode cX12_lay 24 = .ok (.getfield 13, 3) := by decide +kernel
theorem dX12_lay_27 : decode cX12_lay 27 = .ok (.iload_n 1, 1) := by decide +kernel
theorem dX12_lay_28 : decode cX12_lay 28 = .ok (.iaload, 1) := by decide +kernel
theorem dX12_lay_29 : decode cX12_lay 29 = .ok (.if_icmp .le 6, 3) := by decide +kernel
theorem dX12_lay_32 : decode cX12_lay 32 = .ok (.bipush (-3), 2) := by decide +kernel
theorem dX12_lay_34 : decode cX12_lay 34 = .ok (.ireturn, 1) := by decide +kernel
theorem dX12_lay_35 : decode cX12_lay 35 = .ok (.aload_n 0, 1) := by decide +kernel
theorem dX12_lay_36 : decode cX12_lay 36 = .ok (.getfield 208, 3) := by decide +kernel
theorem dX12_lay_39 : decode cX12_lay 39 = .ok (.bipush 6, 2) := by decide +kernel
theorem dX12_lay_41 : decode cX12_lay 41 = .ok (.if_icmp .ne 6, 3) := by decide +kernel
theorem dX12_lay_44 : decode cX12_lay 44 = .ok (.bipush (-2), 2) := by decide +kernel
theorem dX12_lay_46 : decode cX12_lay 46 = .ok (.ireturn, 1) := by decide +kernel
theorem dX12_lay_47 : decode cX12_lay 47 = .ok (.aload_n 0, 1) := by decide +kernel
theorem dX12_lay_48 : decode cX12_lay 48 = .ok (.aload_n 0, 1) := by decide +kernel
theorem dX12_lay_49 : decode cX12_lay 49 = .ok (.getfield 208, 3) := by decide +kernel
theorem dX12_lay_52 : decode cX12_lay 52 = .ok (.iload_n 1, 1) := by decide +kernel
theorem dX12_lay_53 : decode cX12_lay 53 = .ok (.iload_n 2, 1) := by decide +kernel
theorem dX12_lay_54 : decode cX12_lay 54 = .ok (.iload_n 3, 1) := by decide +kernel
theorem dX12_lay_55 : decode cX12_lay 55 = .ok (.invokevirtual 678, 3) := by decide +kernel
theorem dX12_lay_58 : decode cX12_lay 58 = .ok (.ifCond .ne 6, 3) := by decide +kernel
theorem dX12_lay_61 : decode cX12_lay 61 = .ok (.bipush (-6), 2) := by decide +kernel
theorem dX12_lay_63 : decode cX12_lay 63 = .ok (.ireturn, 1) := by decide +kernel
theorem dX12_lay_64 : decode cX12_lay 64 = .ok (.aload_n 0, 1) := by decide +kernel
theorem dX12_lay_65 : decode cX12_lay 65 = .ok (.dup, 1) := by decide +kernel
theorem dX12_lay_66 : decode cX12_lay 66 = .ok (.getfield 208, 3) := by decide +kernel
theorem dX12_lay_69 : decode cX12_lay 69 = .ok (.iconst 1, 1) := by decide +kernel
theorem dX12_lay_70 : decode cX12_lay 70 = .ok (.iadd, 1) := by decide +kernel
theorem dX12_lay_71 : decode cX12_lay 71 = .ok (.putfield 208, 3) := by decide +kernel
theorem dX12_lay_74 : decode cX12_lay 74 = .ok (.aload_n 0, 1) := by decide +kernel
theorem dX12_lay_75 : decode cX12_lay 75 = .ok (.getfield 208, 3) := by decide +kernel
theorem dX12_lay_78 : decode cX12_lay 78 = .ok (.iconst 1, 1) := by decide +kernel
theorem dX12_lay_79 : decode cX12_lay 79 = .ok (.isub, 1) := by decide +kernel
theorem dX12_lay_80 : decode cX12_lay 80 = .ok (.ireturn, 1) := by decide +kernel
theorem dX12_layer_0 : decode cX12_layer 0 = .ok (.aload_n 0, 1) := by decide +kernel
theorem dX12_layer_1 : decode cX12_layer 1 = .ok (.iload_n 1, 1) := by decide +kernel
theorem dX12_layer_2 : decode cX12_layer 2 = .ok (.invokevirtual 293, 3) := by decide +kernel
theorem dX12_layer_5 : decode cX12_layer 5 = .ok (.ifCond .ne 5, 3) := by decide +kernel
theorem dX12_layer_8 : decode cX12_layer 8 = .ok (.iconst (-1), 1) := by decide +kernel
theorem dX12_layer_9 : decode cX12_layer 9 = .ok (.ireturn, 1) := by decide +kernel
theorem dX12_layer_10 : decode cX12_layer 10 = .ok (.aload_n 0, 1) := by decide +kernel
theorem dX12_layer_11 : decode cX12_layer 11 = .ok (.getfield 17, 3) := by decide +kernel
theorem dX12_layer_14 : decode cX12_layer 14 = .ok (.iload_n 1, 1) := by decide +kernel
theorem dX12_layer_15 : decode cX12_layer 15 = .ok (.iaload, 1) := by decide +kernel
theorem dX12_layer_16 : decode cX12_layer 16 = .ok (.iconst 4, 1) := by decide +kernel
theorem dX12_layer_17 : decode cX12_layer 17 = .ok (.if_icmp .ne 6, 3) := by decide +kernel
theorem dX12_layer_20 : decode cX12_layer 20 = .ok (.bipush (-2), 2) := by decide +kernel
theorem dX12_layer_22 : decode cX12_layer 22 = .ok (.ireturn, 1) := by decide +kernel
theorem dX12_layer_23 : decode cX12_layer 23 = .ok (.iconst 0, 1) := by decide +kernel
theorem dX12_layer_24 : decode cX12_layer 24 = .ok (.istore_n 2, 1) := by decide +kernel
theorem dX12_layer_25 : decode cX12_layer 25 = .ok (.iload_n 2, 1) := by decide +kernel
theorem dX12_layer_26 : decode cX12_layer 26 = .ok (.sipush 2000, 3) := by decide +kernel
theorem dX12_layer_29 : decode cX12_layer 29 = .ok (.if_icmp .ge 27, 3) := by decide +kernel
theorem dX12_layer_32 : decode cX12_layer 32 = .ok (.aload_n 0, 1) := by decide +kernel
theorem dX12_layer_33 : decode cX12_layer 33 = .ok (.getfield 24, 3) := by decide +kernel
theorem dX12_layer_36 : decode cX12_layer 36 = .ok (.aload_n 0, 1) := by decide +kernel
theorem dX12_layer_37 : decode cX12_layer 37 = .ok (.iload_n 1, 1) := by decide +kernel
theorem dX12_layer_38 : decode cX12_layer 38 = .ok (.aload_n 0, 1) := by decide +kernel
theorem dX12_layer_39 : decode cX12_layer 39 = .ok (.getfield 17, 3) := by decide +kernel
theorem dX12_layer_42 : decode cX12_layer 42 = .ok (.iload_n 1, 1) := by decide +kernel
theorem dX12_layer_43 : decode cX12_layer 43 = .ok (.iaload, 1) := by decide +kernel
theorem dX12_layer_44 : decode cX12_layer 44 = .ok (.iload_n 2, 1) := by decide +kernel
theorem dX12_layer_45 : decode cX12_layer 45 = .ok (.invokevirtual 289, 3) := by decide +kernel
theorem dX12_layer_48 : decode cX12_layer 48 = .ok (.iconst (-1), 1) := by decide +kernel
theorem dX12_layer_49 : decode cX12_layer 49 = .ok (.iastore, 1) := by decide +kernel
theorem dX12_layer_50 : decode cX12_layer 50 = .ok (.iinc 2 1, 3) := by decide +kernel
theorem dX12_layer_53 : decode cX12_layer 53 = .ok (.goto (-28), 3) := by decide +kernel
theorem dX12_layer_56 : decode cX12_layer 56 = .ok (.aload_n 0, 1) := by decide +kernel
theorem dX12_layer_57 : decode cX12_layer 57 = .ok (.getfield 27, 3) := by decide +kernel
theorem dX12_layer_60 : decode cX12_layer 60 = .ok (.iconst 4, 1) := by decide +kernel
theorem dX12_layer_61 : decode cX12_layer 61 = .ok (.iload_n 1, 1) := by decide +kernel
theorem dX12_layer_62 : decode cX12_layer 62 = .ok (.imul, 1) := by decide +kernel
theorem dX12_layer_63 : decode cX12_layer 63 = .ok (.aload_n 0, 1) := by decide +kernel
theorem dX12_layer_64 : decode cX12_layer 64 = .ok (.getfield 17, 3) := by decide +kernel
theorem dX12_layer_67 : decode cX12_layer 67 = .ok (.iload_n 1, 1) := by decide +kernel
theorem dX12_layer_68 : decode cX12_layer 68 = .ok (.iaload, 1) := by decide +kernel
theorem dX12_layer_69 : decode cX12_layer 69 = .ok (.iadd, 1) := by decide +kernel
theorem dX12_layer_70 : decode cX12_layer 70 = .ok (.iconst 0, 1) := by decide +kernel
theorem dX12_layer_71 : decode cX12_layer 71 = .ok (.iastore, 1) := by decide +kernel
theorem dX12_layer_72 : decode cX12_layer 72 = .ok (.aload_n 0, 1) := by decide +kernel
theorem dX12_layer_73 : decode cX12_layer 73 = .ok (.getfield 17, 3) := by decide +kernel
theorem dX12_layer_76 : decode cX12_layer 76 = .ok (.iload_n 1, 1) := by decide +kernel
theorem dX12_layer_77 : decode cX12_layer 77 = .ok (.dup2, 1) := by decide +kernel
theorem dX12_layer_78 : decode cX12_layer 78 = .ok (.iaload, 1) := by decide +kernel
theorem dX12_layer_79 : decode cX12_layer 79 = .ok (.iconst 1, 1) := by decide +kernel
theorem dX12_layer_80 : decode cX12_layer 80 = .ok (.iadd, 1) := by decide +kernel
theorem dX12_layer_81 : decode cX12_layer 81 = .ok (.iastore, 1) := by decide +kernel
theorem dX12_layer_82 : decode cX12_layer 82 = .ok (.aload_n 0, 1) := by decide +kernel
theorem dX12_layer_83 : decode cX12_layer 83 = .ok (.getfield 17, 3) := by decide +kernel
theorem dX12_layer_86 : decode cX12_layer 86 = .ok (.iload_n 1, 1) := by decide +kernel
theorem dX12_layer_87 : decode cX12_layer 87 = .ok (.iaload, 1) := by decide +kernel
theorem dX12_layer_88 : decode cX12_layer 88 = .ok (.ireturn, 1) := by decide +kernel
theorem dX12_length_0 : decode cX12_length 0 = .ok (.aload_n 0, 1) := by decide +kernel
theorem dX12_length_1 : decode cX12_length 1 = .ok (.iload_n 1, 1) := by decide +kernel
theorem dX12_length_2 : decode cX12_length 2 = .ok (.invokevirtual 293, 3) := by decide +kernel
theorem dX12_length_5 : decode cX12_length 5 = .ok (.ifCond .eq 12, 3) := by decide +kernel
theorem dX12_length_8 : decode cX12_length 8 = .ok (.aload_n 0, 1) := by decide +kernel
theorem dX12_length_9 : decode cX12_length 9 = .ok (.getfield 13, 3) := by decide +kernel
theorem dX12_length_12 : decode cX12_length 12 = .ok (.iload_n 1, 1) := by decide +kernel
theorem dX12_length_13 : decode cX12_length 13 = .ok (.iaload, 1) := by decide +kernel
theorem dX12_length_14 : decode cX12_length 14 = .ok (.goto 4, 3) := by decide +kernel
theorem dX12_length_17 : decode cX12_length 17 = .ok (.iconst (-1), 1) := by decide +kernel
theorem dX12_length_18 : decode cX12_length 18 = .ok (.ireturn, 1) := by decide +kernel
theorem dX12_letter_0 : decode cX12_letter 0 = .ok (.iload_n 1, 1) := by decide +kernel
theorem dX12_letter_1 : decode cX12_letter 1 = .ok (.bipush 97, 2) := by decide +kernel
theorem dX12_letter_3 : decode cX12_letter 3 = .ok (.if_icmp .lt 13, 3) := by decide +kernel
theorem dX12_letter_6 : decode cX12_letter 6 = .ok (.iload_n 1, 1) := by decide +kernel
theorem dX12_letter_7 : decode cX12_letter 7 = .ok (.bipush 122, 2) := by decide +kernel
theorem dX12_letter_9 : decode cX12_letter 9 = .ok (.if_icmp .gt 7, 3) := by decide +kernel
theorem dX12_letter_12 : decode cX12_letter 12 = .ok (.iconst 1, 1) := by decide +kernel
theorem dX12_letter_13 : decode cX12_letter 13 = .ok (.goto 4, 3) := by decide +kernel
theorem dX12_letter_16 : decode cX12_letter 16 = .ok (.iconst 0, 1) := by decide +kernel
theorem dX12_letter_17 : decode cX12_letter 17 = .ok (.ireturn, 1) := by decide +kernel
theorem dX12_letter__0 : decode cX12_letter_ 0 = .ok (.aload_n 0, 1) := by decide +kernel
theorem dX12_letter__1 : decode cX12_letter_ 1 = .ok (.iload_n 1, 1) := by decide +kernel
theorem dX12_letter__2 : decode cX12_letter_ 2 = .ok (.iload_n 2, 1) := by decide +kernel
theorem dX12_letter__3 : decode cX12_letter_ 3 = .ok (.invokevirtual 688, 3) := by decide +kernel
theorem dX12_letter__6 : decode cX12_letter_ 6 = .ok (.ifCond .ne 5, 3) := by decide +kernel
theorem dX12_letter__9 : decode cX12_letter_ 9 = .ok (.iconst (-1), 1) := by decide +kernel
theorem dX12_letter__10 : decode cX12_letter_ 10 = .ok (.ireturn, 1) := by decide +kernel
theorem dX12_letter__11 : decode cX12_letter_ 11 = .ok (.sipush 400, 3) := by decide +kernel
theorem dX12_letter__14 : decode cX12_letter_ 14 = .ok (.iload_n 1, 1) := by decide +kernel
theorem dX12_letter__15 : decode cX12_letter_ 15 = .ok (.imul, 1) := by decide +kernel
theorem dX12_letter__16 : decode cX12_letter_ 16 = .ok (.iload_n 2, 1) := by decide +kernel
theorem dX12_letter__17 : decode cX12_letter_ 17 = .ok (.iadd, 1) := by decide +kernel
theorem dX12_letter__18 : decode cX12_letter_ 18 = .ok (.istore 5, 2) := by decide +kernel
theorem dX12_letter__20 : decode cX12_letter_ 20 = .ok (.iload_n 3, 1) := by decide +kernel
theorem dX12_letter__21 : decode cX12_letter_ 21 = .ok (.ifCond .ne 12, 3) := by decide +kernel
theorem dX12_letter__24 : decode cX12_letter_ 24 = .ok (.aload_n 0, 1) := by decide +kernel
theorem dX12_letter__25 : decode cX12_letter_ 25 = .ok (.iload 5, 2) := by decide +kernel
theorem dX12_letter__27 : decode cX12_letter_ 27 = .ok (.invokevirtual 698, 3) := by decide +kernel
theorem dX12_letter__30 : decode cX12_letter_ 30 = .ok (.goto 4, 3) := by decide +kernel
theorem dX12_letter__33 : decode cX12_letter_ 33 = .ok (.lconst 0, 1) := by decide +kernel
theorem dX12_letter__34 : decode cX12_letter_ 34 = .ok (.lstore 6, 2) := by decide +kernel
theorem dX12_letter__36 : decode cX12_letter_ 36 = .ok (.iload_n 3, 1) := by decide +kernel
theorem dX12_letter__37 : decode cX12_letter_ 37 = .ok (.iconst 1, 1) := by decide +kernel
theorem dX12_letter__38 : decode cX12_letter_ 38 = .ok (.if_icmp .ne 77, 3) := by decide +kernel
theorem dX12_letter__41 : decode cX12_letter_ 41 = .ok (.aload_n 0, 1) := by decide +kernel
theorem dX12_letter__42 : decode cX12_letter_ 42 = .ok (.getfield 217, 3) := by decide +kernel
theorem dX12_letter__45 : decode cX12_letter_ 45 = .ok (.iload 5, 2) := by decide +kernel
theorem dX12_letter__47 : decode cX12_letter_ 47 = .ok (.iaload, 1) := by decide +kernel
theorem dX12_letter__48 : decode cX12_letter_ 48 = .ok (.iconst 1, 1) := by decide +kernel
theorem dX12_letter__49 : decode cX12_letter_ 49 = .ok (.if_icmp .ne 66, 3) := by decide +kernel
theorem dX12_letter__52 : decode cX12_letter_ 52 = .ok (.aload_n 0, 1) := by decide +kernel
theorem dX12_letter__53 : decode cX12_letter_ 53 = .ok (.getfield 98, 3) := by decide +kernel
theorem dX12_letter__56 : decode cX12_letter_ 56 = .ok (.aload_n 0, 1) := by decide +kernel
theorem dX12_letter__57 : decode cX12_letter_ 57 = .ok (.getfield 238, 3) := by decide +kernel
theorem dX12_letter__60 : decode cX12_letter_ 60 = .ok (.iload 5, 2) := by decide +kernel
theorem dX12_letter__62 : decode cX12_letter_ 62 = .ok (.iaload, 1) := by decide +kernel
theorem dX12_letter__63 : decode cX12_letter_ 63 = .ok (.iaload, 1) := by decide +kernel
theorem dX12_letter__64 : decode cX12_letter_ 64 = .ok (.ifCond .ne 51, 3) := by decide +kernel
theorem dX12_letter__67 : decode cX12_letter_ 67 = .ok (.aload_n 0, 1) := by decide +kernel
theorem dX12_letter__68 : decode cX12_letter_ 68 = .ok (.getfield 104, 3) := by decide +kernel
theorem dX12_letter__71 : decode cX12_letter_ 71 = .ok (.aload_n 0, 1) := by decide +kernel
theorem dX12_letter__72 : decode cX12_letter_ 72 = .ok (.getfield 238, 3) := by decide +kernel
theorem dX12_letter__75 : decode cX12_letter_ 75 = .ok (.iload 5, 2) := by decide +kernel
theorem dX12_letter__77 : decode cX12_letter_ 77 = .ok (.iaload, 1) := by decide +kernel
theorem dX12_letter__78 : decode cX12_letter_ 78 = .ok (.iaload, 1) := by decide +kernel
theorem dX12_letter__79 : decode cX12_letter_ 79 = .ok (.ifCond .lt 36, 3) := by decide +kernel
theorem dX12_letter__82 : decode cX12_letter_ 82 = .ok (.aload_n 0, 1) := by decide +kernel
theorem dX12_letter__83 : decode cX12_letter_ 83 = .ok (.iload 5, 2) := by decide +kernel
theorem dX12_letter__85 : decode cX12_letter_ 85 = .ok (.aload_n 0, 1) := by decide +kernel
theorem dX12_letter__86 : decode cX12_letter_ 86 = .ok (.getfield 238, 3) := by decide +kernel
theorem dX12_letter__89 : decode cX12_letter_ 89 = .ok (.iload 5, 2) := by decide +kernel
theorem dX12_letter__91 : decode cX12_letter_ 91 = .ok (.iaload, 1) := by decide +kernel
theorem dX12_letter__92 : decode cX12_letter_ 92 = .ok (.invokevirtual 640, 3) := by decide +kernel
theorem dX12_letter__95 : decode cX12_letter_ 95 = .ok (.istore 8, 2) := by decide +kernel
theorem dX12_letter__97 : decode cX12_letter_ 97 = .ok (.iload 8, 2) := by decide +kernel
theorem dX12_letter__99 : decode cX12_letter_ 99 = .ok (.ifCond .ge 7, 3) := by decide +kernel
theorem dX12_letter__102 : decode cX12_letter_ 102 = .ok (.lconst 0, 1) := by decide +kernel
theorem dX12_letter__103 : decode cX12_letter_ 103 = .ok (.goto 10, 3) := by decide +kernel
theorem dX12_letter__106 : decode cX12_letter_ 106 = .ok (.aload_n 0, 1) := by decide +kernel
theorem dX12_letter__107 : decode cX12_letter_ 107 = .ok (.getfield 92, 3) := by decide +kernel
theorem dX12_letter__110 : decode cX12_letter_ 110 = .ok (.iload 8, 2) := by decide +kernel
theorem dX12_letter__112 : decode cX12_letter_ 112 = .ok (.laload, 1) := by decide +kernel
theorem dX12_letter__113 : decode cX12_letter_ 113 = .ok (.lstore 6, 2) := by decide +kernel
theorem dX12_letter__115 : decode cX12_letter_ 115 = .ok (.iconst 0, 1) := by decide +kernel
theorem dX12_letter__116 : decode cX12_letter_ 116 = .ok (.istore 8, 2) := by decide +kernel
theorem dX12_letter__118 : decode cX12_letter_ 118 = .ok (.lload 6, 2) := by decide +kernel
theorem dX12_letter__120 : decode cX12_letter_ 120 = .ok (.lstore 9, 2) := by decide +kernel
theorem dX12_letter__122 : decode cX12_letter_ 122 = .ok (.lload 9, 2) := by decide +kernel
theorem dX12_letter__124 : decode cX12_letter_ 124 = .ok (.lconst 0, 1) := by decide +kernel
theorem dX12_letter__125 : decode cX12_letter_ 125 = .ok (.lcmp, 1) := by decide +kernel
theorem dX12_letter__126 : decode cX12_letter_ 126 = .ok (.ifCond .eq 16, 3) := by decide +kernel
theorem dX12_letter__129 : decode cX12_letter_ 129 = .ok (.iinc 8 1, 3) := by decide +kernel
theorem dX12_letter__132 : decode cX12_letter_ 132 = .ok (.lload 9, 2) := by decide +kernel
theorem dX12_letter__134 : decode cX12_letter_ 134 = .ok (.bipush 8, 2) := by decide +kernel
theorem dX12_letter__136 : decode cX12_letter_ 136 = .ok (.lushr, 1) := by decide +kernel
theorem dX12_letter__137 : decode cX12_letter_ 137 = .ok (.lstore 9, 2) := by decide +kernel
theorem dX12_letter__139 : decode cX12_letter_ 139 = .ok (.goto (-17), 3) := by decide +kernel
theorem dX12_letter__142 : decode cX12_letter_ 142 = .ok (.iload 4, 2) := by decide +kernel
theorem dX12_letter__144 : decode cX12_letter_ 144 = .ok (.ifCond .lt 10, 3) := by decide +kernel
theorem dX12_letter__147 : decode cX12_letter_ 147 = .ok (.iload 4, 2) := by decide +kernel
theorem dX12_letter__149 : decode cX12_letter_ 149 = .ok (.iload 8, 2) := by decide +kernel
theorem dX12_letter__151 : decode cX12_letter_ 151 = .ok (.if_icmp .lt 7, 3) := by decide +kernel
theorem dX12_letter__154 : decode cX12_letter_ 154 = .ok (.iconst (-1), 1) := by decide +kernel
theorem dX12_letter__155 : decode cX12_letter_ 155 = .ok (.goto 21, 3) := by decide +kernel
theorem dX12_letter__158 : decode cX12_letter_ 158 = .ok (.lload 6, 2) := by decide +kernel
theorem dX12_letter__160 : decode cX12_letter_ 160 = .ok (.bipush 8, 2) := by decide +kernel
theorem dX12_letter__162 : decode cX12_letter_ 162 = .ok (.iload 8, 2) := by decide +kernel
theorem dX12_letter__164 : decode cX12_letter_ 164 = .ok (.iconst 1, 1) := by decide +kernel
theorem dX12_letter__165 : decode cX12_letter_ 165 = .ok (.isub, 1) := by decide +kernel
theorem dX12_letter__166 : decode cX12_letter_ 166 = .ok (.iload 4, 2) := by decide +kernel
theorem dX12_letter__168 : decode cX12_letter_ 168 = .ok (.isub, 1) := by decide +kernel
theorem dX12_letter__169 : decode cX12_letter_ 169 = .ok (.imul, 1) := by decide +kernel
theorem dX12_letter__170 : decode cX12_letter_ 170 = .ok (.lushr, 1) := by decide +kernel
theorem dX12_letter__171 : decode cX12_letter_ 171 = .ok (.ldc2_w 297, 3) := by decide +kernel
theorem dX12_letter__174 : decode cX12_letter_ 174 = .ok (.land, 1) := by decide +kernel
theorem dX12_letter__175 : decode cX12_letter_ 175 = .ok (.l2i, 1) := by decide +kernel
theorem dX12_letter__176 : decode cX12_letter_ 176 = .ok (.ireturn, 1) := by decide +kernel
theorem dX12_lookedUp_0 : decode cX12_lookedUp 0 = .ok (.iconst 0, 1) := by decide +kernel
theorem dX12_lookedUp_1 : decode cX12_lookedUp 1 = .ok (.istore_n 1, 1) := by decide +kernel
theorem dX12_lookedUp_2 : decode cX12_lookedUp 2 = .ok (.iload_n 1, 1) := by decide +kernel
theorem dX12_lookedUp_3 : decode cX12_lookedUp 3 = .ok (.aload_n 0, 1) := by decide +kernel
theorem dX12_lookedUp_4 : decode cX12_lookedUp 4 = .ok (.getfield 186, 3) := by decide +kernel
theorem dX12_lookedUp_7 : decode cX12_lookedUp 7 = .ok (.if_icmp .ge 125, 3) := by decide +kernel
theorem dX12_lookedUp_10 : decode cX12_lookedUp 10 = .ok (.aload_n 0, 1) := by decide +kernel
theorem dX12_lookedUp_11 : decode cX12_lookedUp 11 = .ok (.aload_n 0, 1) := by decide +kernel
theorem dX12_lookedUp_12 : decode cX12_lookedUp 12 = .ok (.getfield 176, 3) := by decide +kernel
theorem dX12_lookedUp_15 : decode cX12_lookedUp 15 = .ok (.iload_n 1, 1) := by decide +kernel
theorem dX12_lookedUp_16 : decode cX12_lookedUp 16 = .ok (.invokevirtual 447, 3) := by decide +kernel
theorem dX12_lookedUp_19 : decode cX12_lookedUp 19 = .ok (.istore_n 2, 1) := by decide +kernel
theorem dX12_lookedUp_20 : decode cX12_lookedUp 20 = .ok (.aload_n 0, 1) := by decide +kernel
theorem dX12_lookedUp_21 : decode cX12_lookedUp 21 = .ok (.getfield 98, 3) := by decide +kernel
theorem dX12_lookedUp_24 : decode cX12_lookedUp 24 = .ok (.iload_n 2, 1) := by decide +kernel
theorem dX12_lookedUp_25 : decode cX12_lookedUp 25 = .ok (.iaload, 1) := by decide +kernel
theorem dX12_lookedUp_26 : decode cX12_lookedUp 26 = .ok (.ifCond .eq 25, 3) := by decide +kernel
theorem dX12_lookedUp_29 : decode cX12_lookedUp 29 = .ok (.aload_n 0, 1) := by decide +kernel
theorem dX12_lookedUp_30 : decode cX12_lookedUp 30 = .ok (.getfield 98, 3) := by decide +kernel
theorem dX12_lookedUp_33 : decode cX12_lookedUp 33 = .ok (.iload_n 2, 1) := by decide +kernel
theorem dX12_lookedUp_34 : decode cX12_lookedUp 34 = .ok (.iaload, 1) := by decide +kernel
theorem dX12_lookedUp_35 : decode cX12_lookedUp 35 = .ok (.bipush 11, 2) := by decide +kernel
theorem dX12_lookedUp_37 : decode cX12_lookedUp 37 = .ok (.if_icmp .eq 14, 3) := by decide +kernel
theorem dX12_lookedUp_40 : decode cX12_lookedUp 40 = .ok (.aload_n 0, 1) := by decide +kernel
theorem dX12_lookedUp_41 : decode cX12_lookedUp 41 = .ok (.getfield 98, 3) := by decide +kernel
theorem dX12_lookedUp_44 : decode cX12_lookedUp 44 = .ok (.iload_n 2, 1) := by decide +kernel
theorem dX12_lookedUp_45 : decode cX12_lookedUp 45 = .ok (.iaload, 1) := by decide +kernel
theorem dX12_lookedUp_46 : decode cX12_lookedUp 46 = .ok (.bipush 8, 2) := by decide +kernel
theorem dX12_lookedUp_48 : decode cX12_lookedUp 48 = .ok (.if_icmp .ne 22, 3) := by decide +kernel
theorem dX12_lookedUp_51 : decode cX12_lookedUp 51 = .ok (.aload_n 0, 1) := by decide +kernel
theorem dX12_lookedUp_52 : decode cX12_lookedUp 52 = .ok (.getfield 128, 3) := by decide +kernel
theorem dX12_lookedUp_55 : decode cX12_lookedUp 55 = .ok (.iload_n 2, 1) := by decide +kernel
theorem dX12_lookedUp_56 : decode cX12_lookedUp 56 = .ok (.laload, 1) := by decide +kernel
theorem dX12_lookedUp_57 : decode cX12_lookedUp 57 = .ok (.aload_n 0, 1) := by decide +kernel
theorem dX12_lookedUp_58 : decode cX12_lookedUp 58 = .ok (.getfield 60, 3) := by decide +kernel
theorem dX12_lookedUp_61 : decode cX12_lookedUp 61 = .ok (.lcmp, 1) := by decide +kernel
theorem dX12_lookedUp_62 : decode cX12_lookedUp 62 = .ok (.ifCond .ne 8, 3) := by decide +kernel
theorem dX12_lookedUp_65 : decode cX12_lookedUp 65 = .ok (.bipush 16, 2) := by decide +kernel
theorem dX12_lookedUp_67 : decode cX12_lookedUp 67 = .ok (.iload_n 1, 1) := by decide +kernel
theorem dX12_lookedUp_68 : decode cX12_lookedUp 68 = .ok (.imul, 1) := by decide +kernel
theorem dX12_lookedUp_69 : decode cX12_lookedUp 69 = .ok (.ireturn, 1) := by decide +kernel
theorem dX12_lookedUp_70 : decode cX12_lookedUp 70 = .ok (.iconst 0, 1) := by decide +kernel
theorem dX12_lookedUp_71 : decode cX12_lookedUp 71 = .ok (.istore_n 3, 1) := by decide +kernel
theorem dX12_lookedUp_72 : decode cX12_lookedUp 72 = .ok (.aload_n 0, 1) := by decide +kernel
theorem dX12_lookedUp_73 : decode cX12_lookedUp 73 = .ok (.getfield 98, 3) := by decide +kernel
theorem dX12_lookedUp_76 : decode cX12_lookedUp 76 = .ok (.iload_n 2, 1) := by decide +kernel
theorem dX12_lookedUp_77 : decode cX12_lookedUp 77 = .ok (.iaload, 1) := by decide +kernel
theorem dX12_lookedUp_78 : decode cX12_lookedUp 78 = .ok (.iconst 4, 1) := by decide +kernel
theorem dX12_lookedUp_79 : decode cX12_lookedUp 79 = .ok (.if_icmp .ne 47, 3) := by decide +kernel
theorem dX12_lookedUp_82 : decode cX12_lookedUp 82 = .ok (.iload_n 3, 1) := by decide +kernel
theorem dX12_lookedUp_83 : decode cX12_lookedUp 83 = .ok (.aload_n 0, 1) := by decide +kernel
theorem dX12_lookedUp_84 : decode cX12_lookedUp 84 = .ok (.getfield 125, 3) := by decide +kernel
theorem dX12_lookedUp_87 : decode cX12_lookedUp 87 = .ok (.iload_n 2, 1) := by decide +kernel
theorem dX12_lookedUp_88 : decode cX12_lookedUp 88 = .ok (.iaload, 1) := by decide +kernel
theorem dX12_lookedUp_89 : decode cX12_lookedUp 89 = .ok (.if_icmp .ge 37, 3) := by decide +kernel
theorem dX12_lookedUp_92 : decode cX12_lookedUp 92 = .ok (.aload_n 0, 1) := by decide +kernel
theorem dX12_lookedUp_93 : decode cX12_lookedUp 93 = .ok (.getfield 131, 3) := by decide +kernel
theorem dX12_lookedUp_96 : decode cX12_lookedUp 96 = .ok (.bipush 16, 2) := by decide +kernel
theorem dX12_lookedUp_98 : decode cX12_lookedUp 98 = .ok (.iload_n 2, 1) := by decide +kernel
theorem dX12_lookedUp_99 : decode cX12_lookedUp 99 = .ok (.imul, 1) := by decide +kernel
theorem dX12_lookedUp_100 : decode cX12_lookedUp 100 = .ok (.iload_n 3, 1) := by decide +kernel
theorem dX12_lookedUp_101 : decode cX12_lookedUp 101 = .ok (.iadd, 1) := by decide +kernel
theorem dX12_lookedUp_102 : decode cX12_lookedUp 102 = .ok (.laload, 1) := by decide +kernel
theorem dX12_lookedUp_103 : decode cX12_lookedUp 103 = .ok (.aload_n 0, 1) := by decide +kernel
theorem dX12_lookedUp_104 : decode cX12_lookedUp 104 = .ok (.getfield 60, 3) := by decide +kernel
theorem dX12_lookedUp_107 : decode cX12_lookedUp 107 = .ok (.lcmp, 1) := by decide +kernel
theorem dX12_lookedUp_108 : decode cX12_lookedUp 108 = .ok (.ifCond .ne 12, 3) := by decide +kernel
theorem dX12_lookedUp_111 : decode cX12_lookedUp 111 = .ok (.bipush 16, 2) := by decide +kernel
theorem dX12_lookedUp_113 : decode cX12_lookedUp 113 = .ok (.iload_n 1, 1) := by decide +kernel
theorem dX12_lookedUp_114 : decode cX12_lookedUp 114 = .ok (.imul, 1) := by decide +kernel
theorem dX12_lookedUp_115 : decode cX12_lookedUp 115 = .ok (.iconst 1, 1) := by decide +kernel
theorem dX12_lookedUp_116 : decode cX12_lookedUp 116 = .ok (.iadd, 1) := by decide +kernel
theorem dX12_lookedUp_117 : decode cX12_lookedUp 117 = .ok (.iload_n 3, 1) := by decide +kernel
theorem dX12_lookedUp_118 : decode cX12_lookedUp 118 = .ok (.iadd, 1) := by decide +kernel
theorem dX12_lookedUp_119 : decode cX12_lookedUp 119 = .ok (.ireturn, 1) := by decide +kernel
theorem dX12_lookedUp_120 : decode cX12_lookedUp 120 = .ok (.iinc 3 1, 3) := by decide +kernel
theorem dX12_lookedUp_123 : decode cX12_lookedUp 123 = .ok (.goto (-51), 3) := by decide +kernel
theorem dX12_lookedUp_126 : decode cX12_lookedUp 126 = .ok (.iinc 1 1, 3) := by decide +kernel
theorem dX12_lookedUp_129 : decode cX12_lookedUp 129 = .ok (.goto (-127), 3) := by decide +kernel
theorem dX12_lookedUp_132 : decode cX12_lookedUp 132 = .ok (.iconst (-1), 1) := by decide +kernel
theorem dX12_lookedUp_133 : decode cX12_lookedUp 133 = .ok (.ireturn, 1) := by decide +kernel
theorem dX12_magic_0 : decode cX12_magic 0 = .ok (.aload_n 0, 1) := by decide +kernel
theorem dX12_magic_1 : decode cX12_magic 1 = .ok (.iload_n 1, 1) := by decide +kernel
theorem dX12_magic_2 : decode cX12_magic 2 = .ok (.invokevirtual 293, 3) := by decide +kernel
theorem dX12_magic_5 : decode cX12_magic 5 = .ok (.ifCond .eq 15, 3) := by decide +kernel
theorem dX12_magic_8 : decode cX12_magic 8 = .ok (.aload_n 0, 1) := by decide +kernel
theorem dX12_magic_9 : decode cX12_magic 9 = .ok (.iload_n 2, 1) := by decide +kernel
theorem dX12_magic_10 : decode cX12_magic 10 = .ok (.invokevirtual 570, 3) := by decide +kernel
theorem dX12_magic_13 : decode cX12_magic 13 = .ok (.ifCond .eq 7, 3) := by decide +kernel
theorem dX12_magic_16 : decode cX12_magic 16 = .ok (.iload_n 3, 1) := by decide +kernel
theorem dX12_magic_17 : decode cX12_magic 17 = .ok (.ifCond .ge 5, 3) := by decide +kernel
theorem dX12_magic_20 : decode cX12_magic 20 = .ok (.iconst (-1), 1) := by decide +kernel
theorem dX12_magic_21 : decode cX12_magic 21 = .ok (.ireturn, 1) := by decide +kernel
theorem dX12_magic_22 : decode cX12_magic 22 = .ok (.aload_n 0, 1) := by decide +kernel
theorem dX12_magic_23 : decode cX12_magic 23 = .ok (.aload_n 0, 1) := by decide +kernel
theorem dX12_magic_24 : decode cX12_magic 24 = .ok (.getfield 67, 3) := by decide +kernel
theorem dX12_magic_27 : decode cX12_magic 27 = .ok (.putfield 173, 3) := by decide +kernel
theorem dX12_magic_30 : decode cX12_magic 30 = .ok (.aload_n 0, 1) := by decide +kernel
theorem dX12_magic_31 : decode cX12_magic 31 = .ok (.iload_n 1, 1) := by decide +kernel
theorem dX12_magic_32 : decode cX12_magic 32 = .ok (.putfield 259, 3) := by decide +kernel
theorem dX12_magic_35 : decode cX12_magic 35 = .ok (.aload_n 0, 1) := by decide +kernel
theorem dX12_magic_36 : decode cX12_magic 36 = .ok (.iload_n 2, 1) := by decide +kernel
theorem dX12_magic_37 : decode cX12_magic 37 = .ok (.iconst 0, 1) := by decide +kernel
theorem dX12_magic_38 : decode cX12_magic 38 = .ok (.invokevirtual 447, 3) := by decide +kernel
theorem dX12_magic_41 : decode cX12_magic 41 = .ok (.istore 4, 2) := by decide +kernel
theorem dX12_magic_43 : decode cX12_magic 43 = .ok (.aload_n 0, 1) := by decide +kernel
theorem dX12_magic_44 : decode cX12_magic 44 = .ok (.getfield 80, 3) := by decide +kernel
theorem dX12_magic_47 : decode cX12_magic 47 = .ok (.bipush 20, 2) := by decide +kernel
theorem dX12_magic_49 : decode cX12_magic 49 = .ok (.aload_n 0, 1) := by decide +kernel
theorem dX12_magic_50 : decode cX12_magic 50 = .ok (.getfield 67, 3) := by decide +kernel
theorem dX12_magic_53 : decode cX12_magic 53 = .ok (.imul, 1) := by decide +kernel
theorem dX12_magic_54 : decode cX12_magic 54 = .ok (.iload_n 2, 1) := by decide +kernel
theorem dX12_magic_55 : decode cX12_magic 55 = .ok (.iadd, 1) := by decide +kernel
theorem dX12_magic_56 : decode cX12_magic 56 = .ok (.iaload, 1) := by decide +kernel
theorem dX12_magic_57 : decode cX12_magic 57 = .ok (.ifCond .eq 25, 3) := by decide +kernel
theorem dX12_magic_60 : decode cX12_magic 60 = .ok (.aload_n 0, 1) := by decide +kernel
theorem dX12_magic_61 : decode cX12_magic 61 = .ok (.getfield 98, 3) := by decide +kernel
theorem dX12_magic_64 : decode cX12_magic 64 = .ok (.iload 4, 2) := by decide +kernel
theorem dX12_magic_66 : decode cX12_magic 66 = .ok (.iaload, 1) := by decide +kernel
theorem dX12_magic_67 : decode cX12_magic 67 = .ok (.bipush 10, 2) := by decide +kernel
theorem dX12_magic_69 : decode cX12_magic 69 = .ok (.if_icmp .ne 13, 3) := by decide +kernel
theorem dX12_magic_72 : decode cX12_magic 72 = .ok (.aload_n 0, 1) := by decide +kernel
theorem dX12_magic_73 : decode cX12_magic 73 = .ok (.getfield 110, 3) := by decide +kernel
theorem dX12_magic_76 : decode cX12_magic 76 = .ok (.iload 4, 2) := by decide +kernel
theorem dX12_magic_78 : decode cX12_magic 78 = .ok (.iaload, 1) := by decide +kernel
theorem dX12_magic_79 : decode cX12_magic 79 = .ok (.ifCond .lt 5, 3) := by decide +kernel
theorem dX12_magic_82 : decode cX12_magic 82 = .ok (.iconst (-1), 1) := by decide +kernel
theorem dX12_magic_83 : decode cX12_magic 83 = .ok (.ireturn, 1) := by decide +kernel
theorem dX12_magic_84 : decode cX12_magic 84 = .ok (.iload_n 3, 1) := by decide +kernel
theorem dX12_magic_85 : decode cX12_magic 85 = .ok (.istore 5, 2) := by decide +kernel
theorem dX12_magic_87 : decode cX12_magic 87 = .ok (.iconst 0, 1) := by decide +kernel
theorem dX12_magic_88 : decode cX12_magic 88 = .ok (.istore 6, 2) := by decide +kernel
theorem dX12_magic_90 : decode cX12_magic 90 = .ok (.iload 6, 2) := by decide +kernel
theorem dX12_magic_92 : decode cX12_magic 92 = .ok (.aload_n 0, 1) := by decide +kernel
theorem dX12_magic_93 : decode cX12_magic 93 = .ok (.getfield 125, 3) := by decide +kernel
theorem dX12_magic_96 : decode cX12_magic 96 = .ok (.iload 4, 2) := by decide +kernel
theorem dX12_magic_98 : decode cX12_magic 98 = .ok (.iaload, 1) := by decide +kernel
theorem dX12_magic_99 : decode cX12_magic 99 = .ok (.iadd, 1) := by decide +kernel
theorem dX12_magic_100 : decode cX12_magic 100 = .ok (.aload_n 0, 1) := by decide +kernel
theorem dX12_magic_101 : decode cX12_magic 101 = .ok (.getfield 13, 3) := by decide +kernel
theorem dX12_magic_104 : decode cX12_magic 104 = .ok (.aload_n 0, 1) := by decide +kernel
theorem dX12_magic_105 : decode cX12_magic 105 = .ok (.getfield 259, 3) := by decide +kernel
theorem dX12_magic_108 : decode cX12_magic 108 = .ok (.iaload, 1) := by decide +kernel
theorem dX12_magic_109 : decode cX12_magic 109 = .ok (.if_icmp .gt 34, 3) := by decide +kernel
theorem dX12_magic_112 : decode cX12_magic 112 = .ok (.aload_n 0, 1) := by decide +kernel
theorem dX12_magic_113 : decode cX12_magic 113 = .ok (.iload 4, 2) := by decide +kernel
theorem dX12_magic_115 : decode cX12_magic 115 = .ok (.iload 6, 2) := by decide +kernel
theorem dX12_magic_117 : decode cX12_magic 117 = .ok (.invokevirtual 667, 3) := by decide +kernel
theorem dX12_magic_120 : decode cX12_magic 120 = .ok (.ifCond .ne 6, 3) := by decide +kernel
theorem dX12_magic_123 : decode cX12_magic 123 = .ok (.goto 14, 3) := by decide +kernel
theorem dX12_magic_126 : decode cX12_magic 126 = .ok (.iload 5, 2) := by decide +kernel
theorem dX12_magic_128 : decode cX12_magic 128 = .ok (.ifCond .ne 6, 3) := by decide +kernel
theorem dX12_magic_131 : decode cX12_magic 131 = .ok (.iload 6, 2) := by decide +kernel
theorem dX12_magic_133 : decode cX12_magic 133 = .ok (.ireturn, 1) := by decide +kernel
theorem dX12_magic_134 : decode cX12_magic 134 = .ok (.iinc 5 (-1), 3) := by decide +kernel
theorem dX12_magic_137 : decode cX12_magic 137 = .ok (.iinc 6 1, 3) := by decide +kernel
theorem dX12_magic_140 : decode cX12_magic 140 = .ok (.goto (-50), 3) := by decide +kernel
theorem dX12_magic_143 : decode cX12_magic 143 = .ok (.iconst (-1), 1) := by decide +kernel
theorem dX12_magic_144 : decode cX12_magic 144 = .ok (.ireturn, 1) := by decide +kernel
theorem dX12_magicAt_0 : decode cX12_magicAt 0 = .ok (.iconst 0, 1) := by decide +kernel
theorem dX12_magicAt_1 : decode cX12_magicAt 1 = .ok (.istore_n 3, 1) := by decide +kernel
theorem dX12_magicAt_2 : decode cX12_magicAt 2 = .ok (.iload_n 3, 1) := by decide +kernel
theorem dX12_magicAt_3 : decode cX12_magicAt 3 = .ok (.aload_n 0, 1) := by decide +kernel
theorem dX12_magicAt_4 : decode cX12_magicAt 4 = .ok (.getfield 125, 3) := by decide +kernel
theorem dX12_magicAt_7 : decode cX12_magicAt 7 = .ok (.iload_n 1, 1) := by decide +kernel
theorem dX12_magicAt_8 : decode cX12_magicAt 8 = .ok (.iaload, 1) := by decide +kernel
theorem dX12_magicAt_9 : decode cX12_magicAt 9 = .ok (.if_icmp .ge 54, 3) := by decide +kernel
theorem dX12_magicAt_12 : decode cX12_magicAt 12 = .ok (.aload_n 0, 1) := by decide +kernel
theorem dX12_magicAt_13 : decode cX12_magicAt 13 = .ok (.getfield 134, 3) := by decide +kernel
theorem dX12_magicAt_16 : decode cX12_magicAt 16 = .ok (.bipush 16, 2) := by decide +kernel
theorem dX12_magicAt_18 : decode cX12_magicAt 18 = .ok (.iload_n 1, 1) := by decide +kernel
theorem dX12_magicAt_19 : decode cX12_magicAt 19 = .ok (.imul, 1) := by decide +kernel
theorem dX12_magicAt_20 : decode cX12_magicAt 20 = .ok (.iload_n 3, 1) := by decide +kernel
theorem dX12_magicAt_21 : decode cX12_magicAt 21 = .ok (.iadd, 1) := by decide +kernel
theorem dX12_magicAt_22 : decode cX12_magicAt 22 = .ok (.laload, 1) := by decide +kernel
theorem dX12_magicAt_23 : decode cX12_magicAt 23 = .ok (.lconst 0, 1) := by decide +kernel
theorem dX12_magicAt_24 : decode cX12_magicAt 24 = .ok (.lcmp, 1) := by decide +kernel
theorem dX12_magicAt_25 : decode cX12_magicAt 25 = .ok (.ifCond .lt 32, 3) := by decide +kernel
theorem dX12_magicAt_28 : decode cX12_magicAt 28 = .ok (.aload_n 0, 1) := by decide +kernel
theorem dX12_magicAt_29 : decode cX12_magicAt 29 = .ok (.getfield 134, 3) := by decide +kernel
theorem dX12_magicAt_32 : decode cX12_magicAt 32 = .ok (.bipush 16, 2) := by decide +kernel
theorem dX12_magicAt_34 : decode cX12_magicAt 34 = .ok (.iload_n 1, 1) := by decide +kernel
theorem dX12_magicAt_35 : decode cX12_magicAt 35 = .ok (.imul, 1) := by decide +kernel
theorem dX12_magicAt_36 : decode cX12_magicAt 36 = .ok (.iload_n 3, 1) := by decide +kernel
theorem dX12_magicAt_37 : decode cX12_magicAt 37 = .ok (.iadd, 1) := by decide +kernel
theorem dX12_magicAt_38 : decode cX12_magicAt 38 = .ok (.laload, 1) := by decide +kernel
theorem dX12_magicAt_39 : decode cX12_magicAt 39 = .ok (.aload_n 0, 1) := by decide +kernel
theorem dX12_magicAt_40 : decode cX12_magicAt 40 = .ok (.aload_n 0, 1) := by decide +kernel
theorem dX12_magicAt_41 : decode cX12_magicAt 41 = .ok (.getfield 259, 3) := by decide +kernel
theorem dX12_magicAt_44 : decode cX12_magicAt 44 = .ok (.iload_n 2, 1) := by decide +kernel
theorem dX12_magicAt_45 : decode cX12_magicAt 45 = .ok (.iload_n 3, 1) := by decide +kernel
theorem dX12_magicAt_46 : decode cX12_magicAt 46 = .ok (.iadd, 1) := by decide +kernel
theorem dX12_magicAt_47 : decode cX12_magicAt 47 = .ok (.invokevirtual 299, 3) := by decide +kernel
theorem dX12_magicAt_50 : decode cX12_magicAt 50 = .ok (.i2l, 1) := by decide +kernel
theorem dX12_magicAt_51 : decode cX12_magicAt 51 = .ok (.lcmp, 1) := by decide +kernel
theorem dX12_magicAt_52 : decode cX12_magicAt 52 = .ok (.ifCond .eq 5, 3) := by decide +kernel
theorem dX12_magicAt_55 : decode cX12_magicAt 55 = .ok (.iconst 0, 1) := by decide +kernel
theorem dX12_magicAt_56 : decode cX12_magicAt 56 = .ok (.ireturn, 1) := by decide +kernel
theorem dX12_magicAt_57 : decode cX12_magicAt 57 = .ok (.iinc 3 1, 3) := by decide +kernel
theorem dX12_magicAt_60 : decode cX12_magicAt 60 = .ok (.goto (-58), 3) := by decide +kernel
theorem dX12_magicAt_63 : decode cX12_magicAt 63 = .ok (.iconst 1, 1) := by decide +kernel
theorem dX12_magicAt_64 : decode cX12_magicAt 64 = .ok (.ireturn, 1) := by decide +kernel
theorem dX12_magicLaid_0 : decode cX12_magicLaid 0 = .ok (.aload_n 0, 1) := by decide +kernel
theorem dX12_magicLaid_1 : decode cX12_magicLaid 1 = .ok (.iload_n 1, 1) := by decide +kernel
theorem dX12_magicLaid_2 : decode cX12_magicLaid 2 = .ok (.aload_n 0, 1) := by decide +kernel
theorem dX12_magicLaid_3 : decode cX12_magicLaid 3 = .ok (.getfield 125, 3) := by decide +kernel
theorem dX12_magicLaid_6 : decode cX12_magicLaid 6 = .ok (.iload_n 2, 1) := by decide +kernel
theorem dX12_magicLaid_7 : decode cX12_magicLaid 7 = .ok (.iaload, 1) := by decide +kernel
theorem dX12_magicLaid_8 : decode cX12_magicLaid 8 = .ok (.i2l, 1) := by decide +kernel
theorem dX12_magicLaid_9 : decode cX12_magicLaid 9 = .ok (.invokevirtual 602, 3) := by decide +kernel
theorem dX12_magicLaid_12 : decode cX12_magicLaid 12 = .ok (.ifCond .ne 5, 3) := by decide +kernel
theorem dX12_magicLaid_15 : decode cX12_magicLaid 15 = .ok (.iconst 0, 1) := by decide +kernel
theorem dX12_magicLaid_16 : decode cX12_magicLaid 16 = .ok (.ireturn, 1) := by decide +kernel
theorem dX12_magicLaid_17 : decode cX12_magicLaid 17 = .ok (.aload_n 0, 1) := by decide +kernel
theorem dX12_magicLaid_18 : decode cX12_magicLaid 18 = .ok (.iload_n 2, 1) := by decide +kernel
theorem dX12_magicLaid_19 : decode cX12_magicLaid 19 = .ok (.aload_n 0, 1) := by decide +kernel
theorem dX12_magicLaid_20 : decode cX12_magicLaid 20 = .ok (.getfield 220, 3) := by decide +kernel
theorem dX12_magicLaid_23 : decode cX12_magicLaid 23 = .ok (.iload_n 1, 1) := by decide +kernel
theorem dX12_magicLaid_24 : decode cX12_magicLaid 24 = .ok (.iaload, 1) := by decide +kernel
theorem dX12_magicLaid_25 : decode cX12_magicLaid 25 = .ok (.invokevirtual 667, 3) := by decide +kernel
theorem dX12_magicLaid_28 : decode cX12_magicLaid 28 = .ok (.ifCond .ne 9, 3) := by decide +kernel
theorem dX12_magicLaid_31 : decode cX12_magicLaid 31 = .ok (.aload_n 0, 1) := by decide +kernel
theorem dX12_magicLaid_32 : decode cX12_magicLaid 32 = .ok (.iload_n 1, 1) := by decide +kernel
theorem dX12_magicLaid_33 : decode cX12_magicLaid 33 = .ok (.iconst 2, 1) := by decide +kernel
theorem dX12_magicLaid_34 : decode cX12_magicLaid 34 = .ok (.invokevirtual 577, 3) := by decide +kernel
theorem dX12_magicLaid_37 : decode cX12_magicLaid 37 = .ok (.iconst 1, 1) := by decide +kernel
theorem dX12_magicLaid_38 : decode cX12_magicLaid 38 = .ok (.ireturn, 1) := by decide +kernel
theorem dX12_make_0 : decode cX12_make 0 = .ok (.aload_n 0, 1) := by decide +kernel
theorem dX12_make_1 : decode cX12_make 1 = .ok (.getfield 214, 3) := by decide +kernel
theorem dX12_make_4 : decode cX12_make 4 = .ok (.aload_n 0, 1) := by decide +kernel
theorem dX12_make_5 : decode cX12_make 5 = .ok (.getfield 256, 3) := by decide +kernel
theorem dX12_make_8 : decode cX12_make 8 = .ok (.iaload, 1) := by decide +kernel
theorem dX12_make_9 : decode cX12_make 9 = .ok (.sipush 400, 3) := by decide +kernel
theorem dX12_make_12 : decode cX12_make 12 = .ok (.if_icmp .ne 10, 3) := by decide +kernel
theorem dX12_make_15 : decode cX12_make 15 = .ok (.aload_n 0, 1) := by decide +kernel
theorem dX12_make_16 : decode cX12_make 16 = .ok (.iconst 1, 1) := by decide +kernel
theorem dX12_make_17 : decode cX12_make 17 = .ok (.putfield 262, 3) := by decide +kernel
theorem dX12_make_20 : decode cX12_make 20 = .ok (.iconst (-1), 1) := by decide +kernel
theorem dX12_make_21 : decode cX12_make 21 = .ok (.ireturn, 1) := by decide +kernel
theorem dX12_make_22 : decode cX12_make 22 = .ok (.sipush 400, 3) := by decide +kernel
theorem dX12_make_25 : decode cX12_make 25 = .ok (.aload_n 0, 1) := by decide +kernel
theorem dX12_make_26 : decode cX12_make 26 = .ok (.getfield 256, 3) := by decide +kernel
theorem dX12_make_29 : decode cX12_make 29 = .ok (.imul, 1) := by decide +kernel
theorem dX12_make_30 : decode cX12_make 30 = .ok (.aload_n 0, 1) := by decide +kernel
theorem dX12_make_31 : decode cX12_make 31 = .ok (.getfield 214, 3) := by decide +kernel
theorem dX12_make_34 : decode cX12_make 34 = .ok (.aload_n 0, 1) := by decide +kernel
theorem dX12_make_35 : decode cX12_make 35 = .ok (.getfield 256, 3) := by decide +kernel
theorem dX12_make_38 : decode cX12_make 38 = .ok (.iaload, 1) := by decide +kernel
theorem dX12_make_39 : decode cX12_make 39 = .ok (.iadd, 1) := by decide +kernel
theorem dX12_make_40 : decode cX12_make 40 = .ok (.istore 5, 2) := by decide +kernel
theorem dX12_make_42 : decode cX12_make 42 = .ok (.aload_n 0, 1) := by decide +kernel
theorem dX12_make_43 : decode cX12_make 43 = .ok (.getfield 214, 3) := by decide +kernel
theorem dX12_make_46 : decode cX12_make 46 = .ok (.aload_n 0, 1) := by decide +kernel
theorem dX12_make_47 : decode cX12_make 47 = .ok (.getfield 256, 3) := by decide +kernel
theorem dX12_make_50 : decode cX12_make 50 = .ok (.dup2, 1) := by decide +kernel
theorem dX12_make_51 : decode cX12_make 51 = .ok (.iaload, 1) := by decide +kernel
theorem dX12_make_52 : decode cX12_make 52 = .ok (.iconst 1, 1) := by decide +kernel
theorem dX12_make_53 : decode cX12_make 53 = .ok (.iadd, 1) := by decide +kernel
theorem dX12_make_54 : decode cX12_make 54 = .ok (.iastore, 1) := by decide +kernel
theorem dX12_make_55 : decode cX12_make 55 = .ok (.aload_n 0, 1) := by decide +kernel
theorem dX12_make_56 : decode cX12_make 56 = .ok (.getfield 217, 3) := by decide +kernel
theorem dX12_make_59 : decode cX12_make 59 = .ok (.iload 5, 2) := by decide +kernel
theorem dX12_make_61 : decode cX12_make 61 = .ok (.iload_n 1, 1) := by decide +kernel
theorem dX12_make_62 : decode cX12_make 62 = .ok (.iastore, 1) := by decide +kernel
theorem dX12_make_63 : decode cX12_make 63 = .ok (.aload_n 0, 1) := by decide +kernel
theorem dX12_make_64 : decode cX12_make 64 = .ok (.getfield 220, 3) := by decide +kernel
theorem dX12_make_67 : decode cX12_make 67 = .ok (.iload 5, 2) := by decide +kernel
theorem dX12_make_69 : decode cX12_make 69 = .ok (.iload_n 3, 1) := by decide +kernel
theorem dX12_make_70 : decode cX12_make 70 = .ok (.iastore, 1) := by decide +kernel
theorem dX12_make_71 : decode cX12_make 71 = .ok (.aload_n 0, 1) := by decide +kernel
theorem dX12_make_72 : decode cX12_make 72 = .ok (.getfield 223, 3) := by decide +kernel
theorem dX12_make_75 : decode cX12_make 75 = .ok (.iload 5, 2) := by decide +kernel
theorem dX12_make_77 : decode cX12_make 77 = .ok (.iload_n 3, 1) := by decide +kernel
theorem dX12_make_78 : decode cX12_make 78 = .ok (.iastore, 1) := by decide +kernel
theorem dX12_make_79 : decode cX12_make 79 = .ok (.aload_n 0, 1) := by decide +kernel
theorem dX12_make_80 : decode cX12_make 80 = .ok (.getfield 226, 3) := by decide +kernel
theorem dX12_make_83 : decode cX12_make 83 = .ok (.iload 5, 2) := by decide +kernel
theorem dX12_make_85 : decode cX12_make 85 = .ok (.iload_n 2, 1) := by decide +kernel
theorem dX12_make_86 : decode cX12_make 86 = .ok (.iastore, 1) := by decide +kernel
theorem dX12_make_87 : decode cX12_make 87 = .ok (.aload_n 0, 1) := by decide +kernel
theorem dX12_make_88 : decode cX12_make 88 = .ok (.getfield 229, 3) := by decide +kernel
theorem dX12_make_91 : decode cX12_make 91 = .ok (.iload 5, 2) := by decide +kernel
theorem dX12_make_93 : decode cX12_make 93 = .ok (.iconst 0, 1) := by decide +kernel
theorem dX12_make_94 : decode cX12_make 94 = .ok (.iastore, 1) := by decide +kernel
theorem dX12_make_95 : decode cX12_make 95 = .ok (.aload_n 0, 1) := by decide +kernel
theorem dX12_make_96 : decode cX12_make 96 = .ok (.getfield 232, 3) := by decide +kernel
theorem dX12_make_99 : decode cX12_make 99 = .ok (.iload 5, 2) := by decide +kernel
theorem dX12_make_101 : decode cX12_make 101 = .ok (.iconst 0, 1) := by decide +kernel
theorem dX12_make_102 : decode cX12_make 102 = .ok (.iastore, 1) := by decide +kernel
theorem dX12_make_103 : decode cX12_make 103 = .ok (.aload_n 0, 1) := by decide +kernel
theorem dX12_make_104 : decode cX12_make 104 = .ok (.getfield 235, 3) := by decide +kernel
theorem dX12_make_107 : decode cX12_make 107 = .ok (.iload 5, 2) := by decide +kernel
theorem dX12_make_109 : decode cX12_make 109 = .ok (.iconst (-1), 1) := by decide +kernel
theorem dX12_make_110 : decode cX12_make 110 = .ok (.iastore, 1) := by decide +kernel
theorem dX12_make_111 : decode cX12_make 111 = .ok (.aload_n 0, 1) := by decide +kernel
theorem dX12_make_112 : decode cX12_make 112 = .ok (.getfield 238, 3) := by decide +kernel
theorem dX12_make_115 : decode cX12_make 115 = .ok (.iload 5, 2) := by decide +kernel
theorem dX12_make_117 : decode cX12_make 117 = .ok (.iload 4, 2) := by decide +kernel
theorem dX12_make_119 : decode cX12_make 119 = .ok (.iastore, 1) := by decide +kernel
theorem dX12_make_120 : decode cX12_make 120 = .ok (.aload_n 0, 1) := by decide +kernel
theorem dX12_make_121 : decode cX12_make 121 = .ok (.getfield 241, 3) := by decide +kernel
theorem dX12_make_124 : decode cX12_make 124 = .ok (.iload 5, 2) := by decide +kernel
theorem dX12_make_126 : decode cX12_make 126 = .ok (.iconst 0, 1) := by decide +kernel
theorem dX12_make_127 : decode cX12_make 127 = .ok (.iastore, 1) := by decide +kernel
theorem dX12_make_128 : decode cX12_make 128 = .ok (.aload_n 0, 1) := by decide +kernel
theorem dX12_make_129 : decode cX12_make 129 = .ok (.getfield 244, 3) := by decide +kernel
theorem dX12_make_132 : decode cX12_make 132 = .ok (.iload 5, 2) := by decide +kernel
theorem dX12_make_134 : decode cX12_make 134 = .ok (.iconst (-1), 1) := by decide +kernel
theorem dX12_make_135 : decode cX12_make 135 = .ok (.iastore, 1) := by decide +kernel
theorem dX12_make_136 : decode cX12_make 136 = .ok (.aload_n 0, 1) := by decide +kernel
theorem dX12_make_137 : decode cX12_make 137 = .ok (.getfield 247, 3) := by decide +kernel
theorem dX12_make_140 : decode cX12_make 140 = .ok (.iload 5, 2) := by decide +kernel
theorem dX12_make_142 : decode cX12_make 142 = .ok (.iconst (-1), 1) := by decide +kernel
theorem dX12_make_143 : decode cX12_make 143 = .ok (.iastore, 1) := by decide +kernel
theorem dX12_make_144 : decode cX12_make 144 = .ok (.aload_n 0, 1) := by decide +kernel
theorem dX12_make_145 : decode cX12_make 145 = .ok (.getfield 250, 3) := by decide +kernel
theorem dX12_make_148 : decode cX12_make 148 = .ok (.iload 5, 2) := by decide +kernel
theorem dX12_make_150 : decode cX12_make 150 = .ok (.iconst (-1), 1) := by decide +kernel
theorem dX12_make_151 : decode cX12_make 151 = .ok (.iastore, 1) := by decide +kernel
theorem dX12_make_152 : decode cX12_make 152 = .ok (.aload_n 0, 1) := by decide +kernel
theorem dX12_make_153 : decode cX12_make 153 = .ok (.getfield 253, 3) := by decide +kernel
theorem dX12_make_156 : decode cX12_make 156 = .ok (.iload 5, 2) := by decide +kernel
theorem dX12_make_158 : decode cX12_make 158 = .ok (.iconst 0, 1) := by decide +kernel
theorem dX12_make_159 : decode cX12_make 159 = .ok (.bastore, 1) := by decide +kernel
theorem dX12_make_160 : decode cX12_make 160 = .ok (.iload_n 2, 1) := by decide +kernel
theorem dX12_make_161 : decode cX12_make 161 = .ok (.ifCond .lt 54, 3) := by decide +kernel
theorem dX12_make_164 : decode cX12_make 164 = .ok (.aload_n 0, 1) := by decide +kernel
theorem dX12_make_165 : decode cX12_make 165 = .ok (.getfield 229, 3) := by decide +kernel
theorem dX12_make_168 : decode cX12_make 168 = .ok (.iload_n 2, 1) := by decide +kernel
theorem dX12_make_169 : decode cX12_make 169 = .ok (.iaload, 1) := by decide +kernel
theorem dX12_make_170 : decode cX12_make 170 = .ok (.ifCond .ne 14, 3) := by decide +kernel
theorem dX12_make_173 : decode cX12_make 173 = .ok (.aload_n 0, 1) := by decide +kernel
theorem dX12_make_174 : decode cX12_make 174 = .ok (.getfield 244, 3) := by decide +kernel
theorem dX12_make_177 : decode cX12_make 177 = .ok (.iload_n 2, 1) := by decide +kernel
theorem dX12_make_178 : decode cX12_make 178 = .ok (.iload 5, 2) := by decide +kernel
theorem dX12_make_180 : decode cX12_make 180 = .ok (.iastore, 1) := by decide +kernel
theorem dX12_make_181 : decode cX12_make 181 = .ok (.goto 16, 3) := by decide +kernel
theorem dX12_make_184 : decode cX12_make 184 = .ok (.aload_n 0, 1) := by decide +kernel
theorem dX12_make_185 : decode cX12_make 185 = .ok (.getfield 250, 3) := by decide +kernel
theorem dX12_make_188 : decode cX12_make 188 = .ok (.aload_n 0, 1) := by decide +kernel
theorem dX12_make_189 : decode cX12_make 189 = .ok (.getfield 247, 3) := by decide +kernel
theorem dX12_make_192 : decode cX12_make 192 = .ok (.iload_n 2, 1) := by decide +kernel
theorem dX12_make_193 : decode cX12_make 193 = .ok (.iaload, 1) := by decide +kernel
theorem dX12_make_194 : decode cX12_make 194 = .ok (.iload 5, 2) := by decide +kernel
theorem dX12_make_196 : decode cX12_make 196 = .ok (.iastore, 1) := by decide +kernel
theorem dX12_make_197 : decode cX12_make 197 = .ok (.aload_n 0, 1) := by decide +kernel
theorem dX12_make_198 : decode cX12_make 198 = .ok (.getfield 247, 3) := by decide +kernel
theorem dX12_make_201 : decode cX12_make 201 = .ok (.iload_n 2, 1) := by decide +kernel
theorem dX12_make_202 : decode cX12_make 202 = .ok (.iload 5, 2) := by decide +kernel
theorem dX12_make_204 : decode cX12_make 204 = .ok (.iastore, 1) := by decide +kernel
theorem dX12_make_205 : decode cX12_make 205 = .ok (.aload_n 0, 1) := by decide +kernel
theorem dX12_make_206 : decode cX12_make 206 = .ok (.getfield 229, 3) := by decide +kernel
theorem dX12_make_209 : decode cX12_make 209 = .ok (.iload_n 2, 1) := by decide +kernel
theorem dX12_make_210 : decode cX12_make 210 = .ok (.dup2, 1) := by decide +kernel
theorem dX12_make_211 : decode cX12_make 211 = .ok (.iaload, 1) := by decide +kernel
theorem dX12_make_212 : decode cX12_make 212 = .ok (.iconst 1, 1) := by decide +kernel
theorem dX12_make_213 : decode cX12_make 213 = .ok (.iadd, 1) := by decide +kernel
theorem dX12_make_214 : decode cX12_make 214 = .ok (.iastore, 1) := by decide +kernel
theorem dX12_make_215 : decode cX12_make 215 = .ok (.iload 5, 2) := by decide +kernel
theorem dX12_make_217 : decode cX12_make 217 = .ok (.ireturn, 1) := by decide +kernel
theorem dX12_mask_0 : decode cX12_mask 0 = .ok (.lload_n 1, 1) := by decide +kernel
theorem dX12_mask_1 : decode cX12_mask 1 = .ok (.ldc2_w 487, 3) := by decide +kernel
theorem dX12_mask_4 : decode cX12_mask 4 = .ok (.lcmp, 1) := by decide +kernel
theorem dX12_mask_5 : decode cX12_mask 5 = .ok (.ifCond .lt 9, 3) := by decide +kernel
theorem dX12_mask_8 : decode cX12_mask 8 = .ok (.ldc2_w 521, 3) := by decide +kernel
theorem dX12_mask_11 : decode cX12_mask 11 = .ok (.goto 9, 3) := by decide +kernel
theorem dX12_mask_14 : decode cX12_mask 14 = .ok (.lconst 1, 1) := by decide +kernel
theorem dX12_mask_15 : decode cX12_mask 15 = .ok (.lload_n 1, 1) := by decide +kernel
theorem dX12_mask_16 : decode cX12_mask 16 = .ok (.l2i, 1) := by decide +kernel
theorem dX12_mask_17 : decode cX12_mask 17 = .ok (.lshl, 1) := by decide +kernel
theorem dX12_mask_18 : decode cX12_mask 18 = .ok (.lconst 1, 1) := by decide +kernel
theorem dX12_mask_19 : decode cX12_mask 19 = .ok (.lsub, 1) := by decide +kernel
theorem dX12_mask_20 : decode cX12_mask 20 = .ok (.lreturn, 1) := by decide +kernel
theorem dX12_masked_0 : decode cX12_masked 0 = .ok (.aload_n 0, 1) := by decide +kernel
theorem dX12_masked_1 : decode cX12_masked 1 = .ok (.iload_n 1, 1) := by decide +kernel
theorem dX12_masked_2 : decode cX12_masked 2 = .ok (.invokevirtual 293, 3) := by decide +kernel
theorem dX12_masked_5 : decode cX12_masked 5 = .ok (.ifCond .eq 24, 3) := by decide +kernel
theorem dX12_masked_8 : decode cX12_masked 8 = .ok (.aload_n 0, 1) := by decide +kernel
theorem dX12_masked_9 : decode cX12_masked 9 = .ok (.getfield 45, 3) := by decide +kernel
theorem dX12_masked_12 : decode cX12_masked 12 = .ok (.ifCond .eq 17, 3) := by decide +kernel
theorem dX12_masked_15 : decode cX12_masked 15 = .ok (.aload_n 0, 1) := by decide +kernel
theorem dX12_masked_16 : decode cX12_masked 16 = .ok (.getfield 45, 3) := by decide +kernel
theorem dX12_masked_19 : decode cX12_masked 19 = .ok (.iconst 2, 1) := by decide +kernel
theorem dX12_masked_20 : decode cX12_masked 20 = .ok (.irem, 1) := by decide +kernel
theorem dX12_masked_21 : decode cX12_masked 21 = .ok (.iconst 1, 1) := by decide +kernel
theorem dX12_masked_22 : decode cX12_masked 22 = .ok (.if_icmp .eq 7, 3) := by decide +kernel
theorem dX12_masked_25 : decode cX12_masked 25 = .ok (.iload_n 2, 1) := by decide +kernel
theorem dX12_masked_26 : decode cX12_masked 26 = .ok (.ifCond .ge 5, 3) := by decide +kernel
theorem dX12_masked_29 : decode cX12_masked 29 = .ok (.iconst (-1), 1) := by decide +kernel
theorem dX12_masked_30 : decode cX12_masked 30 = .ok (.ireturn, 1) := by decide +kernel
theorem dX12_masked_31 : decode cX12_masked 31 = .ok (.iload_n 2, 1) := by decide +kernel
theorem dX12_masked_32 : decode cX12_masked 32 = .ok (.istore_n 3, 1) := by decide +kernel
theorem dX12_masked_33 : decode cX12_masked 33 = .ok (.iconst 0, 1) := by decide +kernel
theorem dX12_masked_34 : decode cX12_masked 34 = .ok (.istore 4, 2) := by decide +kernel
theorem dX12_masked_36 : decode cX12_masked 36 = .ok (.iload 4, 2) := by decide +kernel
theorem dX12_masked_38 : decode cX12_masked 38 = .ok (.aload_n 0, 1) := by decide +kernel
theorem dX12_masked_39 : decode cX12_masked 39 = .ok (.getfield 45, 3) := by decide +kernel
theorem dX12_masked_42 : decode cX12_masked 42 = .ok (.iconst 2, 1) := by decide +kernel
theorem dX12_masked_43 : decode cX12_masked 43 = .ok (.idiv, 1) := by decide +kernel
theorem dX12_masked_44 : decode cX12_masked 44 = .ok (.iadd, 1) := by decide +kernel
theorem dX12_masked_45 : decode cX12_masked 45 = .ok (.aload_n 0, 1) := by decide +kernel
theorem dX12_masked_46 : decode cX12_masked 46 = .ok (.getfield 13, 3) := by decide +kernel
theorem dX12_masked_49 : decode cX12_masked 49 = .ok (.iload_n 1, 1) := by decide +kernel
theorem dX12_masked_50 : decode cX12_masked 50 = .ok (.iaload, 1) := by decide +kernel
theorem dX12_masked_51 : decode cX12_masked 51 = .ok (.if_icmp .gt 98, 3) := by decide +kernel
theorem dX12_masked_54 : decode cX12_masked 54 = .ok (.iconst 1, 1) := by decide +kernel
theorem dX12_masked_55 : decode cX12_masked 55 = .ok (.istore 5, 2) := by decide +kernel
theorem dX12_masked_57 : decode cX12_masked 57 = .ok (.iconst 0, 1) := by decide +kernel
theorem dX12_masked_58 : decode cX12_masked 58 = .ok (.istore 6, 2) := by decide +kernel
theorem dX12_masked_60 : decode cX12_masked 60 = .ok (.iload 6, 2) := by decide +kernel
theorem dX12_masked_62 : decode cX12_masked 62 = .ok (.aload_n 0, 1) := by decide +kernel
theorem dX12_masked_63 : decode cX12_masked 63 = .ok (.getfield 45, 3) := by decide +kernel
theorem dX12_masked_66 : decode cX12_masked 66 = .ok (.iconst 2, 1) := by decide +kernel
theorem dX12_masked_67 : decode cX12_masked 67 = .ok (.idiv, 1) := by decide +kernel
theorem dX12_masked_68 : decode cX12_masked 68 = .ok (.if_icmp .ge 57, 3) := by decide +kernel
theorem dX12_masked_71 : decode cX12_masked 71 = .ok (.iload 5, 2) := by decide +kernel
theorem dX12_masked_73 : decode cX12_masked 73 = .ok (.ifCond .eq 52, 3) := by decide +kernel
theorem dX12_masked_76 : decode cX12_masked 76 = .ok (.aload_n 0, 1) := by decide +kernel
theorem dX12_masked_77 : decode cX12_masked 77 = .ok (.getfield 42, 3) := by decide +kernel
theorem dX12_masked_80 : decode cX12_masked 80 = .ok (.iload 6, 2) := by decide +kernel
theorem dX12_masked_82 : decode cX12_masked 82 = .ok (.iaload, 1) := by decide +kernel
theorem dX12_masked_83 : decode cX12_masked 83 = .ok (.aload_n 0, 1) := by decide +kernel
theorem dX12_masked_84 : decode cX12_masked 84 = .ok (.iload_n 1, 1) := by decide +kernel
theorem dX12_masked_85 : decode cX12_masked 85 = .ok (.iload 4, 2) := by decide +kernel
theorem dX12_masked_87 : decode cX12_masked 87 = .ok (.iload 6, 2) := by decide +kernel
theorem dX12_masked_89 : decode cX12_masked 89 = .ok (.iadd, 1) := by decide +kernel
theorem dX12_masked_90 : decode cX12_masked 90 = .ok (.invokevirtual 299, 3) := by decide +kernel
theorem dX12_masked_93 : decode cX12_masked 93 = .ok (.ixor, 1) := by decide +kernel
theorem dX12_masked_94 : decode cX12_masked 94 = .ok (.aload_n 0, 1) := by decide +kernel
theorem dX12_masked_95 : decode cX12_masked 95 = .ok (.getfield 42, 3) := by decide +kernel
theorem dX12_masked_98 : decode cX12_masked 98 = .ok (.aload_n 0, 1) := by decide +kernel
theorem dX12_masked_99 : decode cX12_masked 99 = .ok (.getfield 45, 3) := by decide +kernel
theorem dX12_masked_102 : decode cX12_masked 102 = .ok (.iconst 2, 1) := by decide +kernel
theorem dX12_masked_103 : decode cX12_masked 103 = .ok (.idiv, 1) := by decide +kernel
theorem dX12_masked_104 : decode cX12_masked 104 = .ok (.iload 6, 2) := by decide +kernel
theorem dX12_masked_106 : decode cX12_masked 106 = .ok (.iadd, 1) := by decide +kernel
theorem dX12_masked_107 : decode cX12_masked 107 = .ok (.iaload, 1) := by decide +kernel
theorem dX12_masked_108 : decode cX12_masked 108 = .ok (.iand, 1) := by decide +kernel
theorem dX12_masked_109 : decode cX12_masked 109 = .ok (.ifCond .ne 7, 3) := by decide +kernel
theorem dX12_masked_112 : decode cX12_masked 112 = .ok (.iconst 1, 1) := by decide +kernel
theorem dX12_masked_113 : decode cX12_masked 113 = .ok (.goto 4, 3) := by decide +kernel
theorem dX12_masked_116 : decode cX12_masked 116 = .ok (.iconst 0, 1) := by decide +kernel
theorem dX12_masked_117 : decode cX12_masked 117 = .ok (.istore 5, 2) := by decide +kernel
theorem dX12_masked_119 : decode cX12_masked 119 = .ok (.iinc 6 1, 3) := by decide +kernel
theorem dX12_masked_122 : decode cX12_masked 122 = .ok (.goto (-62), 3) := by decide +kernel
theorem dX12_masked_125 : decode cX12_masked 125 = .ok (.iload 5, 2) := by decide +kernel
theorem dX12_masked_127 : decode cX12_masked 127 = .ok (.ifCond .ne 6, 3) := by decide +kernel
theorem dX12_masked_130 : decode cX12_masked 130 = .ok (.goto 13, 3) := by decide +kernel
theorem dX12_masked_133 : decode cX12_masked 133 = .ok (.iload_n 3, 1) := by decide +kernel
theorem dX12_masked_134 : decode cX12_masked 134 = .ok (.ifCond .ne 6, 3) := by decide +kernel
theorem dX12_masked_137 : decode cX12_masked 137 = .ok (.iload 4, 2) := by decide +kernel
theorem dX12_masked_139 : decode cX12_masked 139 = .ok (.ireturn, 1) := by decide +kernel
theorem dX12_masked_140 : decode cX12_masked 140 = .ok (.iinc 3 (-1), 3) := by decide +kernel
theorem dX12_masked_143 : decode cX12_masked 143 = .ok (.iinc 4 1, 3) := by decide +kernel
theorem dX12_masked_146 : decode cX12_masked 146 = .ok (.goto (-110), 3) := by decide +kernel
theorem dX12_masked_149 : decode cX12_masked 149 = .ok (.iconst (-1), 1) := by decide +kernel
theorem dX12_masked_150 : decode cX12_masked 150 = .ok (.ireturn, 1) := by decide +kernel
theorem dX12_moved_0 : decode cX12_moved 0 = .ok (.iload_n 1, 1) := by decide +kernel
theorem dX12_moved_1 : decode cX12_moved 1 = .ok (.ifCond .ge 7, 3) := by decide +kernel
theorem dX12_moved_4 : decode cX12_moved 4 = .ok (.iload_n 1, 1) := by decide +kernel
theorem dX12_moved_5 : decode cX12_moved 5 = .ok (.goto 6, 3) := by decide +kernel
theorem dX12_moved_8 : decode cX12_moved 8 = .ok (.iload_n 1, 1) := by decide +kernel
theorem dX12_moved_9 : decode cX12_moved 9 = .ok (.iload_n 2, 1) := by decide +kernel
theorem dX12_moved_10 : decode cX12_moved 10 = .ok (.isub, 1) := by decide +kernel
theorem dX12_moved_11 : decode cX12_moved 11 = .ok (.ireturn, 1) := by decide +kernel
theorem dX12_must_0 : decode cX12_must 0 = .ok (.iload_n 1, 1) := by decide +kernel
theorem dX12_must_1 : decode cX12_must 1 = .ok (.ifCond .ne 8, 3) := by decide +kernel
theorem dX12_must_4 : decode cX12_must 4 = .ok (.aload_n 0, 1) := by decide +kernel
theorem dX12_must_5 : decode cX12_must 5 = .ok (.iload_n 2, 1) := by decide +kernel
theorem dX12_must_6 : decode cX12_must 6 = .ok (.invokevirtual 397, 3) := by decide +kernel
theorem dX12_must_9 : decode cX12_must 9 = .ok (.aload_n 0, 1) := by decide +kernel
theorem dX12_must_10 : decode cX12_must 10 = .ok (.getfield 167, 3) := by decide +kernel
theorem dX12_must_13 : decode cX12_must 13 = .ok (.ifCond .ne 7, 3) := by decide +kernel
theorem dX12_must_16 : decode cX12_must 16 = .ok (.iconst 1, 1) := by decide +kernel
theorem dX12_must_17 : decode cX12_must 17 = .ok (.goto 4, 3) := by decide +kernel
theorem dX12_must_20 : decode cX12_must 20 = .ok (.iconst 0, 1) := by decide +kernel
theorem dX12_must_21 : decode cX12_must 21 = .ok (.ireturn, 1) := by decide +kernel
theorem dX12_nameOf_0 : decode cX12_nameOf 0 = .ok (.aload_n 0, 1) := by decide +kernel
theorem dX12_nameOf_1 : decode cX12_nameOf 1 = .ok (.getfield 226, 3) := by decide +kernel
theorem dX12_nameOf_4 : decode cX12_nameOf 4 = .ok (.iload_n 1, 1) := by decide +kernel
theorem dX12_nameOf_5 : decode cX12_nameOf 5 = .ok (.iaload, 1) := by decide +kernel
theorem dX12_nameOf_6 : decode cX12_nameOf 6 = .ok (.ifCond .lt 22, 3) := by decide +kernel
theorem dX12_nameOf_9 : decode cX12_nameOf 9 = .ok (.aload_n 0, 1) := by decide +kernel
theorem dX12_nameOf_10 : decode cX12_nameOf 10 = .ok (.getfield 217, 3) := by decide +kernel
theorem dX12_nameOf_13 : decode cX12_nameOf 13 = .ok (.aload_n 0, 1) := by decide +kernel
theorem dX12_nameOf_14 : decode cX12_nameOf 14 = .ok (.getfield 226, 3) := by decide +kernel
theorem dX12_nameOf_17 : decode cX12_nameOf 17 = .ok (.iload_n 1, 1) := by decide +kernel
theorem dX12_nameOf_18 : decode cX12_nameOf 18 = .ok (.iaload, 1) := by decide +kernel
theorem dX12_nameOf_19 : decode cX12_nameOf 19 = .ok (.iaload, 1) := by decide +kernel
theorem dX12_nameOf_20 : decode cX12_nameOf 20 = .ok (.iconst 2, 1) := by decide +kernel
theorem dX12_nameOf_21 : decode cX12_nameOf 21 = .ok (.if_icmp .ne 7, 3) := by decide +kernel
theorem dX12_nameOf_24 : decode cX12_nameOf 24 = .ok (.iconst 1, 1) := by decide +kernel
theorem dX12_nameOf_25 : decode cX12_nameOf 25 = .ok (.goto 4, 3) := by decide +kernel
theorem dX12_nameOf_28 : decode cX12_nameOf 28 = .ok (.iconst 0, 1) := by decide +kernel
theorem dX12_nameOf_29 : decode cX12_nameOf 29 = .ok (.istore_n 2, 1) := by decide +kernel
theorem dX12_nameOf_30 : decode cX12_nameOf 30 = .ok (.aload_n 0, 1) := by decide +kernel
theorem dX12_nameOf_31 : decode cX12_nameOf 31 = .ok (.getfield 217, 3) := by decide +kernel
theorem dX12_nameOf_34 : decode cX12_nameOf 34 = .ok (.iload_n 1, 1) := by decide +kernel
theorem dX12_nameOf_35 : decode cX12_nameOf 35 = .ok (.iaload, 1) := by decide +kernel
theorem dX12_nameOf_36 : decode cX12_nameOf 36 = .ok (.ifCond .ne 32, 3) := by decide +kernel
theorem dX12_nameOf_39 : decode cX12_nameOf 39 = .ok (.aload_n 0, 1) := by decide +kernel
theorem dX12_nameOf_40 : decode cX12_nameOf 40 = .ok (.getfield 238, 3) := by decide +kernel
theorem dX12_nameOf_43 : decode cX12_nameOf 43 = .ok (.iload_n 1, 1) := by decide +kernel
theorem dX12_nameOf_44 : decode cX12_nameOf 44 = .ok (.iaload, 1) := by decide +kernel
theorem dX12_nameOf_45 : decode cX12_nameOf 45 = .ok (.ifCond .ge 23, 3) := by decide +kernel
theorem dX12_nameOf_48 : decode cX12_nameOf 48 = .ok (.aload_n 0, 1) := by decide +kernel
theorem dX12_nameOf_49 : decode cX12_nameOf 49 = .ok (.getfield 76, 3) := by decide +kernel
theorem dX12_nameOf_52 : decode cX12_nameOf 52 = .ok (.bipush 20, 2) := by decide +kernel
theorem dX12_nameOf_54 : decode cX12_nameOf 54 = .ok (.aload_n 0, 1) := by decide +kernel
theorem dX12_nameOf_55 : decode cX12_nameOf 55 = .ok (.getfield 67, 3) := by decide +kernel
theorem dX12_nameOf_58 : decode cX12_nameOf 58 = .ok (.imul, 1) := by decide +kernel
theorem dX12_nameOf_59 : decode cX12_nameOf 59 = .ok (.aload_n 0, 1) := by decide +kernel
theorem dX12_nameOf_60 : decode cX12_nameOf 60 = .ok (.getfield 235, 3) := by decide +kernel
theorem dX12_nameOf_63 : decode cX12_nameOf 63 = .ok (.iload_n 1, 1) := by decide +kernel
theorem dX12_nameOf_64 : decode cX12_nameOf 64 = .ok (.iaload, 1) := by decide +kernel
theorem dX12_nameOf_65 : decode cX12_nameOf 65 = .ok (.iadd, 1) := by decide +kernel
theorem dX12_nameOf_66 : decode cX12_nameOf 66 = .ok (.laload, 1) := by decide +kernel
theorem dX12_nameOf_67 : decode cX12_nameOf 67 = .ok (.lreturn, 1) := by decide +kernel
theorem dX12_nameOf_68 : decode cX12_nameOf 68 = .ok (.aload_n 0, 1) := by decide +kernel
theorem dX12_nameOf_69 : decode cX12_nameOf 69 = .ok (.getfield 217, 3) := by decide +kernel
theorem dX12_nameOf_72 : decode cX12_nameOf 72 = .ok (.iload_n 1, 1) := by decide +kernel
theorem dX12_nameOf_73 : decode cX12_nameOf 73 = .ok (.iaload, 1) := by decide +kernel
theorem dX12_nameOf_74 : decode cX12_nameOf 74 = .ok (.bipush 8, 2) := by decide +kernel
theorem dX12_nameOf_76 : decode cX12_nameOf 76 = .ok (.if_icmp .eq 7, 3) := by decide +kernel
theorem dX12_nameOf_79 : decode cX12_nameOf 79 = .ok (.iload_n 2, 1) := by decide +kernel
theorem dX12_nameOf_80 : decode cX12_nameOf 80 = .ok (.ifCond .eq 5, 3) := by decide +kernel
theorem dX12_nameOf_83 : decode cX12_nameOf 83 = .ok (.lconst 0, 1) := by decide +kernel
theorem dX12_nameOf_84 : decode cX12_nameOf 84 = .ok (.lreturn, 1) := by decide +kernel
theorem dX12_nameOf_85 : decode cX12_nameOf 85 = .ok (.aload_n 0, 1) := by decide +kernel
theorem dX12_nameOf_86 : decode cX12_nameOf 86 = .ok (.getfield 217, 3) := by decide +kernel
theorem dX12_nameOf_89 : decode cX12_nameOf 89 = .ok (.iload_n 1, 1) := by decide +kernel
theorem dX12_nameOf_90 : decode cX12_nameOf 90 = .ok (.iaload, 1) := by decide +kernel
theorem dX12_nameOf_91 : decode cX12_nameOf 91 = .ok (.iconst 4, 1) := by decide +kernel
theorem dX12_nameOf_92 : decode cX12_nameOf 92 = .ok (.if_icmp .ne 29, 3) := by decide +kernel
theorem dX12_nameOf_95 : decode cX12_nameOf 95 = .ok (.aload_n 0, 1) := by decide +kernel
theorem dX12_nameOf_96 : decode cX12_nameOf 96 = .ok (.getfield 131, 3) := by decide +kernel
theorem dX12_nameOf_99 : decode cX12_nameOf 99 = .ok (.bipush 16, 2) := by decide +kernel
theorem dX12_nameOf_101 : decode cX12_nameOf 101 = .ok (.aload_n 0, 1) := by decide +kernel
theorem dX12_nameOf_102 : decode cX12_nameOf 102 = .ok (.getfield 238, 3) := by decide +kernel
theorem dX12_nameOf_105 : decode cX12_nameOf 105 = .ok (.iload_n 1, 1) := by decide +kernel
theorem dX12_nameOf_106 : decode cX12_nameOf 106 = .ok (.iaload, 1) := by decide +kernel
theorem dX12_nameOf_107 : decode cX12_nameOf 107 = .ok (.imul, 1) := by decide +kernel
theorem dX12_nameOf_108 : decode cX12_nameOf 108 = .ok (.aload_n 0, 1) := by decide +kernel
theorem dX12_nameOf_109 : decode cX12_nameOf 109 = .ok (.getfield 241, 3) := by decide +kernel
theorem dX12_nameOf_112 : decode cX12_nameOf 112 = .ok (.iload_n 1, 1) := by decide +kernel
theorem dX12_nameOf_113 : decode cX12_nameOf 113 = .ok (.iaload, 1) := by decide +kernel
theorem dX12_nameOf_114 : decode cX12_nameOf 114 = .ok (.iadd, 1) := by decide +kernel
theorem dX12_nameOf_115 : decode cX12_nameOf 115 = .ok (.iconst 1, 1) := by decide +kernel
theorem dX12_nameOf_116 : decode cX12_nameOf 116 = .ok (.isub, 1) := by decide +kernel
theorem dX12_nameOf_117 : decode cX12_nameOf 117 = .ok (.laload, 1) := by decide +kernel
theorem dX12_nameOf_118 : decode cX12_nameOf 118 = .ok (.goto 14, 3) := by decide +kernel
theorem dX12_nameOf_121 : decode cX12_nameOf 121 = .ok (.aload_n 0, 1) := by decide +kernel
theorem dX12_nameOf_122 : decode cX12_nameOf 122 = .ok (.getfield 128, 3) := by decide +kernel
theorem dX12_nameOf_125 : decode cX12_nameOf 125 = .ok (.aload_n 0, 1) := by decide +kernel
theorem dX12_nameOf_126 : decode cX12_nameOf 126 = .ok (.getfield 238, 3) := by decide +kernel
theorem dX12_nameOf_129 : decode cX12_nameOf 129 = .ok (.iload_n 1, 1) := by decide +kernel
theorem dX12_nameOf_130 : decode cX12_nameOf 130 = .ok (.iaload, 1) := by decide +kernel
theorem dX12_nameOf_131 : decode cX12_nameOf 131 = .ok (.laload, 1) := by decide +kernel
theorem dX12_nameOf_132 : decode cX12_nameOf 132 = .ok (.lreturn, 1) := by decide +kernel
theorem dX12_named_0 : decode cX12_named 0 = .ok (.aload_n 0, 1) := by decide +kernel
theorem dX12_named_1 : decode cX12_named 1 = .ok (.getfield 167, 3) := by decide +kernel
theorem dX12_named_4 : decode cX12_named 4 = .ok (.ifCond .gt 11, 3) := by decide +kernel
theorem dX12_named_7 : decode cX12_named 7 = .ok (.aload_n 0, 1) := by decide +kernel
theorem dX12_named_8 : decode cX12_named 8 = .ok (.iload_n 1, 1) := by decide +kernel
theorem dX12_named_9 : decode cX12_named 9 = .ok (.invokevirtual 454, 3) := by decide +kernel
theorem dX12_named_12 : decode cX12_named 12 = .ok (.ifCond .ne 4, 3) := by decide +kernel
theorem dX12_named_15 : decode cX12_named 15 = .ok (.return_, 1) := by decide +kernel
theorem dX12_named_16 : decode cX12_named 16 = .ok (.aload_n 0, 1) := by decide +kernel
theorem dX12_named_17 : decode cX12_named 17 = .ok (.getfield 128, 3) := by decide +kernel
theorem dX12_named_20 : decode cX12_named 20 = .ok (.iload_n 1, 1) := by decide +kernel
theorem dX12_named_21 : decode cX12_named 21 = .ok (.aload_n 0, 1) := by decide +kernel
theorem dX12_named_22 : decode cX12_named 22 = .ok (.getfield 60, 3) := by decide +kernel
theorem dX12_named_25 : decode cX12_named 25 = .ok (.lastore, 1) := by decide +kernel
theorem dX12_named_26 : decode cX12_named 26 = .ok (.aload_n 0, 1) := by decide +kernel
theorem dX12_named_27 : decode cX12_named 27 = .ok (.invokevirtual 408, 3) := by decide +kernel
theorem dX12_named_30 : decode cX12_named 30 = .ok (.return_, 1) := by decide +kernel
theorem dX12_named__0 : decode cX12_named_ 0 = .ok (.aload_n 0, 1) := by decide +kernel
theorem dX12_named__1 : decode cX12_named_ 1 = .ok (.aload_n 0, 1) := by decide +kernel
theorem dX12_named__2 : decode cX12_named_ 2 = .ok (.getfield 235, 3) := by decide +kernel
theorem dX12_named__5 : decode cX12_named_ 5 = .ok (.iload_n 1, 1) := by decide +kernel
theorem dX12_named__6 : decode cX12_named_ 6 = .ok (.iaload, 1) := by decide +kernel
theorem dX12_named__7 : decode cX12_named_ 7 = .ok (.iload_n 2, 1) := by decide +kernel
theorem dX12_named__8 : decode cX12_named_ 8 = .ok (.bipush 16, 2) := by decide +kernel
theorem dX12_named__10 : decode cX12_named_ 10 = .ok (.idiv, 1) := by decide +kernel
theorem dX12_named__11 : decode cX12_named_ 11 = .ok (.invokevirtual 447, 3) := by decide +kernel
theorem dX12_named__14 : decode cX12_named_ 14 = .ok (.istore_n 3, 1) := by decide +kernel
theorem dX12_named__15 : decode cX12_named_ 15 = .ok (.aload_n 0, 1) := by decide +kernel
theorem dX12_named__16 : decode cX12_named_ 16 = .ok (.getfield 244, 3) := by decide +kernel
theorem dX12_named__19 : decode cX12_named_ 19 = .ok (.iload_n 1, 1) := by decide +kernel
theorem dX12_named__20 : decode cX12_named_ 20 = .ok (.iaload, 1) := by decide +kernel
theorem dX12_named__21 : decode cX12_named_ 21 = .ok (.istore 4, 2) := by decide +kernel
theorem dX12_named__23 : decode cX12_named_ 23 = .ok (.iload 4, 2) := by decide +kernel
theorem dX12_named__25 : decode cX12_named_ 25 = .ok (.ifCond .lt 101, 3) := by decide +kernel
theorem dX12_named__28 : decode cX12_named_ 28 = .ok (.aload_n 0, 1) := by decide +kernel
theorem dX12_named__29 : decode cX12_named_ 29 = .ok (.getfield 238, 3) := by decide +kernel
theorem dX12_named__32 : decode cX12_named_ 32 = .ok (.iload 4, 2) := by decide +kernel
theorem dX12_named__34 : decode cX12_named_ 34 = .ok (.iaload, 1) := by decide +kernel
theorem dX12_named__35 : decode cX12_named_ 35 = .ok (.iload_n 3, 1) := by decide +kernel
theorem dX12_named__36 : decode cX12_named_ 36 = .ok (.if_icmp .ne 78, 3) := by decide +kernel
theorem dX12_named__39 : decode cX12_named_ 39 = .ok (.aload_n 0, 1) := by decide +kernel
theorem dX12_named__40 : decode cX12_named_ 40 = .ok (.getfield 232, 3) := by decide +kernel
theorem dX12_named__43 : decode cX12_named_ 43 = .ok (.iload 4, 2) := by decide +kernel
theorem dX12_named__45 : decode cX12_named_ 45 = .ok (.iaload, 1) := by decide +kernel
theorem dX12_named__46 : decode cX12_named_ 46 = .ok (.iconst 1, 1) := by decide +kernel
theorem dX12_named__47 : decode cX12_named_ 47 = .ok (.if_icmp .ne 6, 3) := by decide +kernel
theorem dX12_named__50 : decode cX12_named_ 50 = .ok (.goto 64, 3) := by decide +kernel
theorem dX12_named__53 : decode cX12_named_ 53 = .ok (.iload_n 2, 1) := by decide +kernel
theorem dX12_named__54 : decode cX12_named_ 54 = .ok (.bipush 16, 2) := by decide +kernel
theorem dX12_named__56 : decode cX12_named_ 56 = .ok (.irem, 1) := by decide +kernel
theorem dX12_named__57 : decode cX12_named_ 57 = .ok (.ifCond .ne 10, 3) := by decide +kernel
theorem dX12_named__60 : decode cX12_named_ 60 = .ok (.aload_n 0, 1) := by decide +kernel
theorem dX12_named__61 : decode cX12_named_ 61 = .ok (.iload 4, 2) := by decide +kernel
theorem dX12_named__63 : decode cX12_named_ 63 = .ok (.invokevirtual 643, 3) := by decide +kernel
theorem dX12_named__66 : decode cX12_named_ 66 = .ok (.lreturn, 1) := by decide +kernel
theorem dX12_named__67 : decode cX12_named_ 67 = .ok (.aload_n 0, 1) := by decide +kernel
theorem dX12_named__68 : decode cX12_named_ 68 = .ok (.getfield 244, 3) := by decide +kernel
theorem dX12_named__71 : decode cX12_named_ 71 = .ok (.iload 4, 2) := by decide +kernel
theorem dX12_named__73 : decode cX12_named_ 73 = .ok (.iaload, 1) := by decide +kernel
theorem dX12_named__74 : decode cX12_named_ 74 = .ok (.istore 5, 2) := by decide +kernel
theorem dX12_named__76 : decode cX12_named_ 76 = .ok (.iload 5, 2) := by decide +kernel
theorem dX12_named__78 : decode cX12_named_ 78 = .ok (.ifCond .lt 36, 3) := by decide +kernel
theorem dX12_named__81 : decode cX12_named_ 81 = .ok (.aload_n 0, 1) := by decide +kernel
theorem dX12_named__82 : decode cX12_named_ 82 = .ok (.getfield 241, 3) := by decide +kernel
theorem dX12_named__85 : decode cX12_named_ 85 = .ok (.iload 5, 2) := by decide +kernel
theorem dX12_named__87 : decode cX12_named_ 87 = .ok (.iaload, 1) := by decide +kernel
theorem dX12_named__88 : decode cX12_named_ 88 = .ok (.iload_n 2, 1) := by decide +kernel
theorem dX12_named__89 : decode cX12_named_ 89 = .ok (.bipush 16, 2) := by decide +kernel
theorem dX12_named__91 : decode cX12_named_ 91 = .ok (.irem, 1) := by decide +kernel
theorem dX12_named__92 : decode cX12_named_ 92 = .ok (.if_icmp .ne 10, 3) := by decide +kernel
theorem dX12_named__95 : decode cX12_named_ 95 = .ok (.aload_n 0, 1) := by decide +kernel
theorem dX12_named__96 : decode cX12_named_ 96 = .ok (.iload 5, 2) := by decide +kernel
theorem dX12_named__98 : decode cX12_named_ 98 = .ok (.invokevirtual 643, 3) := by decide +kernel
theorem dX12_named__101 : decode cX12_named_ 101 = .ok (.lreturn, 1) := by decide +kernel
theorem dX12_named__102 : decode cX12_named_ 102 = .ok (.aload_n 0, 1) := by decide +kernel
theorem dX12_named__103 : decode cX12_named_ 103 = .ok (.getfield 250, 3) := by decide +kernel
theorem dX12_named__106 : decode cX12_named_ 106 = .ok (.iload 5, 2) := by decide +kernel
theorem dX12_named__108 : decode cX12_named_ 108 = .ok (.iaload, 1) := by decide +kernel
theorem dX12_named__109 : decode cX12_named_ 109 = .ok (.istore 5, 2) := by decide +kernel
theorem dX12_named__111 : decode cX12_named_ 111 = .ok (.goto (-35), 3) := by decide +kernel
theorem dX12_named__114 : decode cX12_named_ 114 = .ok (.aload_n 0, 1) := by decide +kernel
theorem dX12_named__115 : decode cX12_named_ 115 = .ok (.getfield 250, 3) := by decide +kernel
theorem dX12_named__118 : decode cX12_named_ 118 = .ok (.iload 4, 2) := by decide +kernel
theorem dX12_named__120 : decode cX12_named_ 120 = .ok (.iaload, 1) := by decide +kernel
theorem dX12_named__121 : decode cX12_named_ 121 = .ok (.istore 4, 2) := by decide +kernel
theorem dX12_named__123 : decode cX12_named_ 123 = .ok (.goto (-100), 3) := by decide +kernel
theorem dX12_named__126 : decode cX12_named_ 126 = .ok (.aload_n 0, 1) := by decide +kernel
theorem dX12_named__127 : decode cX12_named_ 127 = .ok (.iconst 1, 1) := by decide +kernel
theorem dX12_named__128 : decode cX12_named_ 128 = .ok (.putfield 274, 3) := by decide +kernel
theorem dX12_named__131 : decode cX12_named_ 131 = .ok (.lconst 0, 1) := by decide +kernel
theorem dX12_named__132 : decode cX12_named_ 132 = .ok (.lreturn, 1) := by decide +kernel
theorem dX12_names_0 : decode cX12_names 0 = .ok (.iconst 0, 1) := by decide +kernel
theorem dX12_names_1 : decode cX12_names 1 = .ok (.istore_n 3, 1) := by decide +kernel
theorem dX12_names_2 : decode cX12_names 2 = .ok (.iconst 0, 1) := by decide +kernel
theorem dX12_names_3 : decode cX12_names 3 = .ok (.istore 4, 2) := by decide +kernel
theorem dX12_names_5 : decode cX12_names 5 = .ok (.iload 4, 2) := by decide +kernel
theorem dX12_names_7 : decode cX12_names 7 = .ok (.aload_n 0, 1) := by decide +kernel
theorem dX12_names_8 : decode cX12_names 8 = .ok (.getfield 80, 3) := by decide +kernel
theorem dX12_names_11 : decode cX12_names 11 = .ok (.bipush 20, 2) := by decide +kernel
theorem dX12_names_13 : decode cX12_names 13 = .ok (.aload_n 0, 1) := by decide +kernel
theorem dX12_names_14 : decode cX12_names 14 = .ok (.getfield 173, 3) := by decide +kernel
theorem dX12_names_17 : decode cX12_names 17 = .ok (.imul, 1) := by decide +kernel
theorem dX12_names_18 : decode cX12_names 18 = .ok (.iload_n 1, 1) := by decide +kernel
theorem dX12_names_19 : decode cX12_names 19 = .ok (.iadd, 1) := by decide +kernel
theorem dX12_names_20 : decode cX12_names 20 = .ok (.iaload, 1) := by decide +kernel
theorem dX12_names_21 : decode cX12_names 21 = .ok (.if_icmp .ge 160, 3) := by decide +kernel
theorem dX12_names_24 : decode cX12_names 24 = .ok (.aload_n 0, 1) := by decide +kernel
theorem dX12_names_25 : decode cX12_names 25 = .ok (.iload_n 1, 1) := by decide +kernel
theorem dX12_names_26 : decode cX12_names 26 = .ok (.iload 4, 2) := by decide +kernel
theorem dX12_names_28 : decode cX12_names 28 = .ok (.invokevirtual 447, 3) := by decide +kernel
theorem dX12_names_31 : decode cX12_names 31 = .ok (.istore 5, 2) := by decide +kernel
theorem dX12_names_33 : decode cX12_names 33 = .ok (.iload_n 3, 1) := by decide +kernel
theorem dX12_names_34 : decode cX12_names 34 = .ok (.aload_n 0, 1) := by decide +kernel
theorem dX12_names_35 : decode cX12_names 35 = .ok (.getfield 98, 3) := by decide +kernel
theorem dX12_names_38 : decode cX12_names 38 = .ok (.iload 5, 2) := by decide +kernel
theorem dX12_names_40 : decode cX12_names 40 = .ok (.iaload, 1) := by decide +kernel
theorem dX12_names_41 : decode cX12_names 41 = .ok (.iconst 2, 1) := by decide +kernel
theorem dX12_names_42 : decode cX12_names 42 = .ok (.if_icmp .eq 26, 3) := by decide +kernel
theorem dX12_names_45 : decode cX12_names 45 = .ok (.aload_n 0, 1) := by decide +kernel
theorem dX12_names_46 : decode cX12_names 46 = .ok (.getfield 98, 3) := by decide +kernel
theorem dX12_names_49 : decode cX12_names 49 = .ok (.iload 5, 2) := by decide +kernel
theorem dX12_names_51 : decode cX12_names 51 = .ok (.iaload, 1) := by decide +kernel
theorem dX12_names_52 : decode cX12_names 52 = .ok (.iconst 3, 1) := by decide +kernel
theorem dX12_names_53 : decode cX12_names 53 = .ok (.if_icmp .eq 15, 3) := by decide +kernel
theorem dX12_names_56 : decode cX12_names 56 = .ok (.aload_n 0, 1) := by decide +kernel
theorem dX12_names_57 : decode cX12_names 57 = .ok (.getfield 98, 3) := by decide +kernel
theorem dX12_names_60 : decode cX12_names 60 = .ok (.iload 5, 2) := by decide +kernel
theorem dX12_names_62 : decode cX12_names 62 = .ok (.iaload, 1) := by decide +kernel
theorem dX12_names_63 : decode cX12_names 63 = .ok (.bipush 8, 2) := by decide +kernel
theorem dX12_names_65 : decode cX12_names 65 = .ok (.if_icmp .ne 18, 3) := by decide +kernel
theorem dX12_names_68 : decode cX12_names 68 = .ok (.aload_n 0, 1) := by decide +kernel
theorem dX12_names_69 : decode cX12_names 69 = .ok (.getfield 107, 3) := by decide +kernel
theorem dX12_names_72 : decode cX12_names 72 = .ok (.iload 5, 2) := by decide +kernel
theorem dX12_names_74 : decode cX12_names 74 = .ok (.iaload, 1) := by decide +kernel
theorem dX12_names_75 : decode cX12_names 75 = .ok (.iload_n 2, 1) := by decide +kernel
theorem dX12_names_76 : decode cX12_names 76 = .ok (.if_icmp .ne 7, 3) := by decide +kernel
theorem dX12_names_79 : decode cX12_names 79 = .ok (.iconst 1, 1) := by decide +kernel
theorem dX12_names_80 : decode cX12_names 80 = .ok (.goto 4, 3) := by decide +kernel
theorem dX12_names_83 : decode cX12_names 83 = .ok (.iconst 0, 1) := by decide +kernel
theorem dX12_names_84 : decode cX12_names 84 = .ok (.ior, 1) := by decide +kernel
theorem dX12_names_85 : decode cX12_names 85 = .ok (.istore_n 3, 1) := by decide +kernel
theorem dX12_names_86 : decode cX12_names 86 = .ok (.iconst 0, 1) := by decide +kernel
theorem dX12_names_87 : decode cX12_names 87 = .ok (.istore 6, 2) := by decide +kernel
theorem dX12_names_89 : decode cX12_names 89 = .ok (.aload_n 0, 1) := by decide +kernel
theorem dX12_names_90 : decode cX12_names 90 = .ok (.getfield 98, 3) := by decide +kernel
theorem dX12_names_93 : decode cX12_names 93 = .ok (.iload 5, 2) := by decide +kernel
theorem dX12_names_95 : decode cX12_names 95 = .ok (.iaload, 1) := by decide +kernel
theorem dX12_names_96 : decode cX12_names 96 = .ok (.bipush 7, 2) := by decide +kernel
theorem dX12_names_98 : decode cX12_names 98 = .ok (.if_icmp .ne 46, 3) := by decide +kernel
theorem dX12_names_101 : decode cX12_names 101 = .ok (.iload 6, 2) := by decide +kernel
theorem dX12_names_103 : decode cX12_names 103 = .ok (.aload_n 0, 1) := by decide +kernel
theorem dX12_names_104 : decode cX12_names 104 = .ok (.getfield 125, 3) := by decide +kernel
theorem dX12_names_107 : decode cX12_names 107 = .ok (.iload 5, 2) := by decide +kernel
theorem dX12_names_109 : decode cX12_names 109 = .ok (.iaload, 1) := by decide +kernel
theorem dX12_names_110 : decode cX12_names 110 = .ok (.if_icmp .ge 34, 3) := by decide +kernel
theorem dX12_names_113 : decode cX12_names 113 = .ok (.iload_n 3, 1) := by decide +kernel
theorem dX12_names_114 : decode cX12_names 114 = .ok (.aload_n 0, 1) := by decide +kernel
theorem dX12_names_115 : decode cX12_names 115 = .ok (.getfield 137, 3) := by decide +kernel
theorem dX12_names_118 : decode cX12_names 118 = .ok (.bipush 16, 2) := by decide +kernel
theorem dX12_names_120 : decode cX12_names 120 = .ok (.iload 5, 2) := by decide +kernel
theorem dX12_names_122 : decode cX12_names 122 = .ok (.imul, 1) := by decide +kernel
theorem dX12_names_123 : decode cX12_names 123 = .ok (.iload 6, 2) := by decide +kernel
theorem dX12_names_125 : decode cX12_names 125 = .ok (.iadd, 1) := by decide +kernel
theorem dX12_names_126 : decode cX12_names 126 = .ok (.iaload, 1) := by decide +kernel
theorem dX12_names_127 : decode cX12_names 127 = .ok (.iload_n 2, 1) := by decide +kernel
theorem dX12_names_128 : decode cX12_names 128 = .ok (.if_icmp .ne 7, 3) := by decide +kernel
theorem dX12_names_131 : decode cX12_names 131 = .ok (.iconst 1, 1) := by decide +kernel
theorem dX12_names_132 : decode cX12_names 132 = .ok (.goto 4, 3) := by decide +kernel
theorem dX12_names_135 : decode cX12_names 135 = .ok (.iconst 0, 1) := by decide +kernel
theorem dX12_names_136 : decode cX12_names 136 = .ok (.ior, 1) := by decide +kernel
theorem dX12_names_137 : decode cX12_names 137 = .ok (.istore_n 3, 1) := by decide +kernel
theorem dX12_names_138 : decode cX12_names 138 = .ok (.iinc 6 1, 3) := by decide +kernel
theorem dX12_names_141 : decode cX12_names 141 = .ok (.goto (-52), 3) := by decide +kernel
theorem dX12_names_144 : decode cX12_names 144 = .ok (.iload_n 3, 1) := by decide +kernel
theorem dX12_names_145 : decode cX12_names 145 = .ok (.aload_n 0, 1) := by decide +kernel
theorem dX12_names_146 : decode cX12_names 146 = .ok (.getfield 98, 3) := by decide +kernel
theorem dX12_names_149 : decode cX12_names 149 = .ok (.iload 5, 2) := by decide +kernel
theorem dX12_names_151 : decode cX12_names 151 = .ok (.iaload, 1) := by decide +kernel
theorem dX12_names_152 : decode cX12_names 152 = .ok (.bipush 7, 2) := by decide +kernel
theorem dX12_names_154 : decode cX12_names 154 = .ok (.if_icmp .ne 18, 3) := by decide +kernel
theorem dX12_names_157 : decode cX12_names 157 = .ok (.aload_n 0, 1) := by decide +kernel
theorem dX12_names_158 : decode cX12_names 158 = .ok (.getfield 122, 3) := by decide +kernel
theorem dX12_names_161 : decode cX12_names 161 = .ok (.iload 5, 2) := by decide +kernel
theorem dX12_names_163 : decode cX12_names 163 = .ok (.iaload, 1) := by decide +kernel
theorem dX12_names_164 : decode cX12_names 164 = .ok (.iload_n 2, 1) := by decide +kernel
theorem dX12_names_165 : decode cX12_names 165 = .ok (.if_icmp .ne 7, 3) := by decide +kernel
theorem dX12_names_168 : decode cX12_names 168 = .ok (.iconst 1, 1) := by decide +kernel
theorem dX12_names_169 : decode cX12_names 169 = .ok (.goto 4, 3) := by decide +kernel
theorem dX12_names_172 : decode cX12_names 172 = .ok (.iconst 0, 1) := by decide +kernel
theorem dX12_names_173 : decode cX12_names 173 = .ok (.ior, 1) := by decide +kernel
theorem dX12_names_174 : decode cX12_names 174 = .ok (.istore_n 3, 1) := by decide +kernel
theorem dX12_names_175 : decode cX12_names 175 = .ok (.iinc 4 1, 3) := by decide +kernel
theorem dX12_names_178 : decode cX12_names 178 = .ok (.goto (-173), 3) := by decide +kernel
theorem dX12_names_181 : decode cX12_names 181 = .ok (.iload_n 3, 1) := by decide +kernel
theorem dX12_names_182 : decode cX12_names 182 = .ok (.ireturn, 1) := by decide +kernel
theorem dX12_next_0 : decode cX12_next 0 = .ok (.aload_n 0, 1) := by decide +kernel
theorem dX12_next_1 : decode cX12_next 1 = .ok (.aload_n 0, 1) := by decide +kernel
theorem dX12_next_2 : decode cX12_next 2 = .ok (.getfield 57, 3) := by decide +kernel
theorem dX12_next_5 : decode cX12_next 5 = .ok (.putfield 54, 3) := by decide +kernel
theorem dX12_next_8 : decode cX12_next 8 = .ok (.aload_n 0, 1) := by decide +kernel
theorem dX12_next_9 : decode cX12_next 9 = .ok (.getfield 54, 3) := by decide +kernel
theorem dX12_next_12 : decode cX12_next 12 = .ok (.aload_n 0, 1) := by decide +kernel
theorem dX12_next_13 : decode cX12_next 13 = .ok (.getfield 45, 3) := by decide +kernel
theorem dX12_next_16 : decode cX12_next 16 = .ok (.if_icmp .ge 44, 3) := by decide +kernel
theorem dX12_next_19 : decode cX12_next 19 = .ok (.aload_n 0, 1) := by decide +kernel
theorem dX12_next_20 : decode cX12_next 20 = .ok (.getfield 42, 3) := by decide +kernel
theorem dX12_next_23 : decode cX12_next 23 = .ok (.aload_n 0, 1) := by decide +kernel
theorem dX12_next_24 : decode cX12_next 24 = .ok (.getfield 54, 3) := by decide +kernel
theorem dX12_next_27 : decode cX12_next 27 = .ok (.iaload, 1) := by decide +kernel
theorem dX12_next_28 : decode cX12_next 28 = .ok (.bipush 32, 2) := by decide +kernel
theorem dX12_next_30 : decode cX12_next 30 = .ok (.if_icmp .eq 17, 3) := by decide +kernel
theorem dX12_next_33 : decode cX12_next 33 = .ok (.aload_n 0, 1) := by decide +kernel
theorem dX12_next_34 : decode cX12_next 34 = .ok (.getfield 42, 3) := by decide +kernel
theorem dX12_next_37 : decode cX12_next 37 = .ok (.aload_n 0, 1) := by decide +kernel
theorem dX12_next_38 : decode cX12_next 38 = .ok (.getfield 54, 3) := by decide +kernel
theorem dX12_next_41 : decode cX12_next 41 = .ok (.iaload, 1) := by decide +kernel
theorem dX12_next_42 : decode cX12_next 42 = .ok (.bipush 10, 2) := by decide +kernel
theorem dX12_next_44 : decode cX12_next 44 = .ok (.if_icmp .ne 16, 3) := by decide +kernel
theorem dX12_next_47 : decode cX12_next 47 = .ok (.aload_n 0, 1) := by decide +kernel
theorem dX12_next_48 : decode cX12_next 48 = .ok (.dup, 1) := by decide +kernel
theorem dX12_next_49 : decode cX12_next 49 = .ok (.getfield 54, 3) := by decide +kernel
theorem dX12_next_52 : decode cX12_next 52 = .ok (.iconst 1, 1) := by decide +kernel
theorem dX12_next_53 : decode cX12_next 53 = .ok (.iadd, 1) := by decide +kernel
theorem dX12_next_54 : decode cX12_next 54 = .ok (.putfield 54, 3) := by decide +kernel
theorem dX12_next_57 : decode cX12_next 57 = .ok (.goto (-49), 3) := by decide +kernel
theorem dX12_next_60 : decode cX12_next 60 = .ok (.aload_n 0, 1) := by decide +kernel
theorem dX12_next_61 : decode cX12_next 61 = .ok (.aload_n 0, 1) := by decide +kernel
theorem dX12_next_62 : decode cX12_next 62 = .ok (.getfield 54, 3) := by decide +kernel
theorem dX12_next_65 : decode cX12_next 65 = .ok (.putfield 57, 3) := by decide +kernel
theorem dX12_next_68 : decode cX12_next 68 = .ok (.aload_n 0, 1) := by decide +kernel
theorem dX12_next_69 : decode cX12_next 69 = .ok (.aload_n 0, 1) := by decide +kernel
theorem dX12_next_70 : decode cX12_next 70 = .ok (.getfield 54, 3) := by decide +kernel
theorem dX12_next_73 : decode cX12_next 73 = .ok (.invokevirtual 311, 3) := by decide +kernel
theorem dX12_next_76 : decode cX12_next 76 = .ok (.istore_n 1, 1) := by decide +kernel
theorem dX12_next_77 : decode cX12_next 77 = .ok (.aload_n 0, 1) := by decide +kernel
theorem dX12_next_78 : decode cX12_next 78 = .ok (.getfield 54, 3) := by decide +kernel
theorem dX12_next_81 : decode cX12_next 81 = .ok (.aload_n 0, 1) := by decide +kernel
theorem dX12_next_82 : decode cX12_next 82 = .ok (.getfield 45, 3) := by decide +kernel
theorem dX12_next_85 : decode cX12_next 85 = .ok (.if_icmp .lt 11, 3) := by decide +kernel
theorem dX12_next_88 : decode cX12_next 88 = .ok (.aload_n 0, 1) := by decide +kernel
theorem dX12_next_89 : decode cX12_next 89 = .ok (.iconst 0, 1) := by decide +kernel
theorem dX12_next_90 : decode cX12_next 90 = .ok (.putfield 51, 3) := by decide +kernel
theorem dX12_next_93 : decode cX12_next 93 = .ok (.goto 199, 3) := by decide +kernel
theorem dX12_next_96 : decode cX12_next 96 = .ok (.aload_n 0, 1) := by decide +kernel
theorem dX12_next_97 : decode cX12_next 97 = .ok (.iload_n 1, 1) := by decide +kernel
theorem dX12_next_98 : decode cX12_next 98 = .ok (.invokevirtual 315, 3) := by decide +kernel
theorem dX12_next_101 : decode cX12_next 101 = .ok (.ifCond .ne 11, 3) := by decide +kernel
theorem dX12_next_104 : decode cX12_next 104 = .ok (.aload_n 0, 1) := by decide +kernel
theorem dX12_next_105 : decode cX12_next 105 = .ok (.iload_n 1, 1) := by decide +kernel
theorem dX12_next_106 : decode cX12_next 106 = .ok (.invokevirtual 318, 3) := by decide +kernel
theorem dX12_next_109 : decode cX12_next 109 = .ok (.ifCond .eq 150, 3) := by decide +kernel
theorem dX12_next_112 : decode cX12_next 112 = .ok (.aload_n 0, 1) := by decide +kernel
theorem dX12_next_113 : decode cX12_next 113 = .ok (.aload_n 0, 1) := by decide +kernel
theorem dX12_next_114 : decode cX12_next 114 = .ok (.aload_n 0, 1) := by decide +kernel
theorem dX12_next_115 : decode cX12_next 115 = .ok (.getfield 57, 3) := by decide +kernel
theorem dX12_next_118 : decode cX12_next 118 = .ok (.invokevirtual 311, 3) := by decide +kernel
theorem dX12_next_121 : decode cX12_next 121 = .ok (.invokevirtual 315, 3) := by decide +kernel
theorem dX12_next_124 : decode cX12_next 124 = .ok (.ifCond .ne 18, 3) := by decide +kernel
theorem dX12_next_127 : decode cX12_next 127 = .ok (.aload_n 0, 1) := by decide +kernel
theorem dX12_next_128 : decode cX12_next 128 = .ok (.aload_n 0, 1) := by decide +kernel
theorem dX12_next_129 : decode cX12_next 129 = .ok (.aload_n 0, 1) := by decide +kernel
theorem dX12_next_130 : decode cX12_next 130 = .ok (.getfield 57, 3) := by decide +kernel
theorem dX12_next_133 : decode cX12_next 133 = .ok (.invokevirtual 311, 3) := by decide +kernel
theorem dX12_next_136 : decode cX12_next 136 = .ok (.invokevirtual 318, 3) := by decide +kernel
theorem dX12_next_139 : decode cX12_next 139 = .ok (.ifCond .eq 16, 3) := by decide +kernel
theorem dX12_next_142 : decode cX12_next 142 = .ok (.aload_n 0, 1) := by decide +kernel
theorem dX12_next_143 : decode cX12_next 143 = .ok (.dup, 1) := by decide +kernel
theorem dX12_next_144 : decode cX12_next 144 = .ok (.getfield 57, 3) := by decide +kernel
theorem dX12_next_147 : decode cX12_next 147 = .ok (.iconst 1, 1) := by decide +kernel
theorem dX12_next_148 : decode cX12_next 148 = .ok (.iadd, 1) := by decide +kernel
theorem dX12_next_149 : decode cX12_next 149 = .ok (.putfield 57, 3) := by decide +kernel
theorem dX12_next_152 : decode cX12_next 152 = .ok (.goto (-40), 3) := by decide +kernel
theorem dX12_next_155 : decode cX12_next 155 = .ok (.aload_n 0, 1) := by decide +kernel
theorem dX12_next_156 : decode cX12_next 156 = .ok (.iload_n 1, 1) := by decide +kernel
theorem dX12_next_157 : decode cX12_next 157 = .ok (.invokevirtual 315, 3) := by decide +kernel
theorem dX12_next_160 : decode cX12_next 160 = .ok (.ifCond .eq 29, 3) := by decide +kernel
theorem dX12_next_163 : decode cX12_next 163 = .ok (.aload_n 0, 1) := by decide +kernel
theorem dX12_next_164 : decode cX12_next 164 = .ok (.aload_n 0, 1) := by decide +kernel
theorem dX12_next_165 : decode cX12_next 165 = .ok (.getfield 57, 3) := by decide +kernel
theorem dX12_next_168 : decode cX12_next 168 = .ok (.aload_n 0, 1) := by decide +kernel
theorem dX12_next_169 : decode cX12_next 169 = .ok (.getfield 54, 3) := by decide +kernel
theorem dX12_next_172 : decode cX12_next 172 = .ok (.isub, 1) := by decide +kernel
theorem dX12_next_173 : decode cX12_next 173 = .ok (.bipush 8, 2) := by decide +kernel
theorem dX12_next_175 : decode cX12_next 175 = .ok (.if_icmp .le 7, 3) := by decide +kernel
theorem dX12_next_178 : decode cX12_next 178 = .ok (.iconst 4, 1) := by decide +kernel
theorem dX12_next_179 : decode cX12_next 179 = .ok (.goto 4, 3) := by decide +kernel
theorem dX12_next_182 : decode cX12_next 182 = .ok (.iconst 1, 1) := by decide +kernel
theorem dX12_next_183 : decode cX12_next 183 = .ok (.putfield 51, 3) := by decide +kernel
theorem dX12_next_186 : decode cX12_next 186 = .ok (.goto 19, 3) := by decide +kernel
theorem dX12_next_189 : decode cX12_next 189 = .ok (.aload_n 0, 1) := by decide +kernel
theorem dX12_next_190 : decode cX12_next 190 = .ok (.aload_n 0, 1) := by decide +kernel
theorem dX12_next_191 : decode cX12_next 191 = .ok (.invokevirtual 321, 3) := by decide +kernel
theorem dX12_next_194 : decode cX12_next 194 = .ok (.ifCond .eq 7, 3) := by decide +kernel
theorem dX12_next_197 : decode cX12_next 197 = .ok (.iconst 2, 1) := by decide +kernel
theorem dX12_next_198 : decode cX12_next 198 = .ok (.goto 4, 3) := by decide +kernel
theorem dX12_next_201 : decode cX12_next 201 = .ok (.iconst 4, 1) := by decide +kernel
theorem dX12_next_202 : decode cX12_next 202 = .ok (.putfield 51, 3) := by decide +kernel
theorem dX12_next_205 : decode cX12_next 205 = .ok (.aload_n 0, 1) := by decide +kernel
theorem dX12_next_206 : decode cX12_next 206 = .ok (.lconst 0, 1) := by decide +kernel
theorem dX12_next_207 : decode cX12_next 207 = .ok (.putfield 60, 3) := by decide +kernel
theorem dX12_next_210 : decode cX12_next 210 = .ok (.aload_n 0, 1) := by decide +kernel
theorem dX12_next_211 : decode cX12_next 211 = .ok (.getfield 54, 3) := by decide +kernel
theorem dX12_next_214 : decode cX12_next 214 = .ok (.istore_n 2, 1) := by decide +kernel
theorem dX12_next_215 : decode cX12_next 215 = .ok (.iload_n 2, 1) := by decide +kernel
theorem dX12_next_216 : decode cX12_next 216 = .ok (.aload_n 0, 1) := by decide +kernel
theorem dX12_next_217 : decode cX12_next 217 = .ok (.getfield 57, 3) := by decide +kernel
theorem dX12_next_220 : decode cX12_next 220 = .ok (.if_icmp .ge 36, 3) := by decide +kernel
theorem dX12_next_223 : decode cX12_next 223 = .ok (.aload_n 0, 1) := by decide +kernel
theorem dX12_next_224 : decode cX12_next 224 = .ok (.getfield 51, 3) := by decide +kernel
theorem dX12_next_227 : decode cX12_next 227 = .ok (.iconst 1, 1) := by decide +kernel
theorem dX12_next_228 : decode cX12_next 228 = .ok (.if_icmp .ne 28, 3) := by decide +kernel
theorem dX12_next_231 : decode cX12_next 231 = .ok (.aload_n 0, 1) := by decide +kernel
theorem dX12_next_232 : decode cX12_next 232 = .ok (.aload_n 0, 1) := by decide +kernel
theorem dX12_next_233 : decode cX12_next 233 = .ok (.getfield 60, 3) := by decide +kernel
theorem dX12_next_236 : decode cX12_next 236 = .ok (.bipush 8, 2) := by decide +kernel
theorem dX12_next_238 : decode cX12_next 238 = .ok (.lshl, 1) := by decide +kernel
theorem dX12_next_239 : decode cX12_next 239 = .ok (.aload_n 0, 1) := by decide +kernel
theorem dX12_next_240 : decode cX12_next 240 = .ok (.getfield 42, 3) := by decide +kernel
theorem dX12_next_243 : decode cX12_next 243 = .ok (.iload_n 2, 1) := by decide +kernel
theorem dX12_next_244 : decode cX12_next 244 = .ok (.iaload, 1) := by decide +kernel
theorem dX12_next_245 : decode cX12_next 245 = .ok (.i2l, 1) := by decide +kernel
theorem dX12_next_246 : decode cX12_next 246 = .ok (.lor, 1) := by decide +kernel
theorem dX12_next_247 : decode cX12_next 247 = .ok (.putfield 60, 3) := by decide +kernel
theorem dX12_next_250 : decode cX12_next 250 = .ok (.iinc 2 1, 3) := by decide +kernel
theorem dX12_next_253 : decode cX12_next 253 = .ok (.goto (-38), 3) := by decide +kernel
theorem dX12_next_256 : decode cX12_next 256 = .ok (.goto 36, 3) := by decide +kernel
theorem dX12_next_259 : decode cX12_next 259 = .ok (.aload_n 0, 1) := by decide +kernel
theorem dX12_next_260 : decode cX12_next 260 = .ok (.dup, 1) := by decide +kernel
theorem dX12_next_261 : decode cX12_next 261 = .ok (.getfield 57, 3) := by decide +kernel
theorem dX12_next_264 : decode cX12_next 264 = .ok (.iconst 1, 1) := by decide +kernel
theorem dX12_next_265 : decode cX12_next 265 = .ok (.iadd, 1) := by decide +kernel
theorem dX12_next_266 : decode cX12_next 266 = .ok (.putfield 57, 3) := by decide +kernel
theorem dX12_next_269 : decode cX12_next 269 = .ok (.aload_n 0, 1) := by decide +kernel
theorem dX12_next_270 : decode cX12_next 270 = .ok (.aload_n 0, 1) := by decide +kernel
theorem dX12_next_271 : decode cX12_next 271 = .ok (.iload_n 1, 1) := by decide +kernel
theorem dX12_next_272 : decode cX12_next 272 = .ok (.invokevirtual 325, 3) := by decide +kernel
theorem dX12_next_275 : decode cX12_next 275 = .ok (.ifCond .eq 7, 3) := by decide +kernel
theorem dX12_next_278 : decode cX12_next 278 = .ok (.iconst 3, 1) := by decide +kernel
theorem dX12_next_279 : decode cX12_next 279 = .ok (.goto 4, 3) := by decide +kernel
theorem dX12_next_282 : decode cX12_next 282 = .ok (.iconst 4, 1) := by decide +kernel
theorem dX12_next_283 : decode cX12_next 283 = .ok (.putfield 51, 3) := by decide +kernel
theorem dX12_next_286 : decode cX12_next 286 = .ok (.aload_n 0, 1) := by decide +kernel
theorem dX12_next_287 : decode cX12_next 287 = .ok (.iload_n 1, 1) := by decide +kernel
theorem dX12_next_288 : decode cX12_next 288 = .ok (.i2l, 1) := by decide +kernel
theorem dX12_next_289 : decode cX12_next 289 = .ok (.putfield 64, 3) := by decide +kernel
theorem dX12_next_292 : decode cX12_next 292 = .ok (.return_, 1) := by decide +kernel
theorem dX12_node_0 : decode cX12_node 0 = .ok (.aload_n 0, 1) := by decide +kernel
theorem dX12_node_1 : decode cX12_node 1 = .ok (.getfield 152, 3) := by decide +kernel
theorem dX12_node_4 : decode cX12_node 4 = .ok (.istore 6, 2) := by decide +kernel
theorem dX12_node_6 : decode cX12_node 6 = .ok (.aload_n 0, 1) := by decide +kernel
theorem dX12_node_7 : decode cX12_node 7 = .ok (.getfield 140, 3) := by decide +kernel
theorem dX12_node_10 : decode cX12_node 10 = .ok (.iload 6, 2) := by decide +kernel
theorem dX12_node_12 : decode cX12_node 12 = .ok (.iload_n 1, 1) := by decide +kernel
theorem dX12_node_13 : decode cX12_node 13 = .ok (.iastore, 1) := by decide +kernel
theorem dX12_node_14 : decode cX12_node 14 = .ok (.aload_n 0, 1) := by decide +kernel
theorem dX12_node_15 : decode cX12_node 15 = .ok (.getfield 143, 3) := by decide +kernel
theorem dX12_node_18 : decode cX12_node 18 = .ok (.iload 6, 2) := by decide +kernel
theorem dX12_node_20 : decode cX12_node 20 = .ok (.iload_n 2, 1) := by decide +kernel
theorem dX12_node_21 : decode cX12_node 21 = .ok (.iastore, 1) := by decide +kernel
theorem dX12_node_22 : decode cX12_node 22 = .ok (.aload_n 0, 1) := by decide +kernel
theorem dX12_node_23 : decode cX12_node 23 = .ok (.getfield 146, 3) := by decide +kernel
theorem dX12_node_26 : decode cX12_node 26 = .ok (.iload 6, 2) := by decide +kernel
theorem dX12_node_28 : decode cX12_node 28 = .ok (.iload_n 3, 1) := by decide +kernel
theorem dX12_node_29 : decode cX12_node 29 = .ok (.iastore, 1) := by decide +kernel
theorem dX12_node_30 : decode cX12_node 30 = .ok (.aload_n 0, 1) := by decide +kernel
theorem dX12_node_31 : decode cX12_node 31 = .ok (.getfield 149, 3) := by decide +kernel
theorem dX12_node_34 : decode cX12_node 34 = .ok (.iload 6, 2) := by decide +kernel
theorem dX12_node_36 : decode cX12_node 36 = .ok (.lload 4, 2) := by decide +kernel
theorem dX12_node_38 : decode cX12_node 38 = .ok (.lastore, 1) := by decide +kernel
theorem dX12_node_39 : decode cX12_node 39 = .ok (.aload_n 0, 1) := by decide +kernel
theorem dX12_node_40 : decode cX12_node 40 = .ok (.dup, 1) := by decide +kernel
theorem dX12_node_41 : decode cX12_node 41 = .ok (.getfield 152, 3) := by decide +kernel
theorem dX12_node_44 : decode cX12_node 44 = .ok (.iconst 1, 1) := by decide +kernel
theorem dX12_node_45 : decode cX12_node 45 = .ok (.iadd, 1) := by decide +kernel
theorem dX12_node_46 : decode cX12_node 46 = .ok (.putfield 152, 3) := by decide +kernel
theorem dX12_node_49 : decode cX12_node 49 = .ok (.iload 6, 2) := by decide +kernel
theorem dX12_node_51 : decode cX12_node 51 = .ok (.ireturn, 1) := by decide +kernel
theorem dX12_node__0 : decode cX12_node_ 0 = .ok (.aload_n 0, 1) := by decide +kernel
theorem dX12_node__1 : decode cX12_node_ 1 = .ok (.iload_n 1, 1) := by decide +kernel
theorem dX12_node__2 : decode cX12_node_ 2 = .ok (.iload_n 2, 1) := by decide +kernel
theorem dX12_node__3 : decode cX12_node_ 3 = .ok (.invokevirtual 688, 3) := by decide +kernel
theorem dX12_node__6 : decode cX12_node_ 6 = .ok (.ifCond .ne 5, 3) := by decide +kernel
theorem dX12_node__9 : decode cX12_node_ 9 = .ok (.iconst (-1), 1) := by decide +kernel
theorem dX12_node__10 : decode cX12_node_ 10 = .ok (.ireturn, 1) := by decide +kernel
theorem dX12_node__11 : decode cX12_node_ 11 = .ok (.sipush 400, 3) := by decide +kernel
theorem dX12_node__14 : decode cX12_node_ 14 = .ok (.iload_n 1, 1) := by decide +kernel
theorem dX12_node__15 : decode cX12_node_ 15 = .ok (.imul, 1) := by decide +kernel
theorem dX12_node__16 : decode cX12_node_ 16 = .ok (.iload_n 2, 1) := by decide +kernel
theorem dX12_node__17 : decode cX12_node_ 17 = .ok (.iadd, 1) := by decide +kernel
theorem dX12_node__18 : decode cX12_node_ 18 = .ok (.istore 4, 2) := by decide +kernel
theorem dX12_node__20 : decode cX12_node_ 20 = .ok (.iload_n 3, 1) := by decide +kernel
theorem dX12_node__21 : decode cX12_node_ 21 = .ok (.tableswitch 137 0 7 #[47, 55, 63, 71, 83, 91, 99, 115], 47) := by decide +kernel
theorem dX12_node__68 : decode cX12_node_ 68 = .ok (.aload_n 0, 1) := by decide +kernel
theorem dX12_node__69 : decode cX12_node_ 69 = .ok (.getfield 217, 3) := by decide +kernel
theorem dX12_node__72 : decode cX12_node_ 72 = .ok (.iload 4, 2) := by decide +kernel
theorem dX12_node__74 : decode cX12_node_ 74 = .ok (.iaload, 1) := by decide +kernel
theorem dX12_node__75 : decode cX12_node_ 75 = .ok (.ireturn, 1) := by decide +kernel
theorem dX12_node__76 : decode cX12_node_ 76 = .ok (.aload_n 0, 1) := by decide +kernel
theorem dX12_node__77 : decode cX12_node_ 77 = .ok (.getfield 220, 3) := by decide +kernel
theorem dX12_node__80 : decode cX12_node_ 80 = .ok (.iload 4, 2) := by decide +kernel
theorem dX12_node__82 : decode cX12_node_ 82 = .ok (.iaload, 1) := by decide +kernel
theorem dX12_node__83 : decode cX12_node_ 83 = .ok (.ireturn, 1) := by decide +kernel
theorem dX12_node__84 : decode cX12_node_ 84 = .ok (.aload_n 0, 1) := by decide +kernel
theorem dX12_node__85 : decode cX12_node_ 85 = .ok (.getfield 223, 3) := by decide +kernel
theorem dX12_node__88 : decode cX12_node_ 88 = .ok (.iload 4, 2) := by decide +kernel
theorem dX12_node__90 : decode cX12_node_ 90 = .ok (.iaload, 1) := by decide +kernel
theorem dX12_node__91 : decode cX12_node_ 91 = .ok (.ireturn, 1) := by decide +kernel
theorem dX12_node__92 : decode cX12_node_ 92 = .ok (.aload_n 0, 1) := by decide +kernel
theorem dX12_node__93 : decode cX12_node_ 93 = .ok (.aload_n 0, 1) := by decide +kernel
theorem dX12_node__94 : decode cX12_node_ 94 = .ok (.getfield 226, 3) := by decide +kernel
theorem dX12_node__97 : decode cX12_node_ 97 = .ok (.iload 4, 2) := by decide +kernel
theorem dX12_node__99 : decode cX12_node_ 99 = .ok (.iaload, 1) := by decide +kernel
theorem dX12_node__100 : decode cX12_node_ 100 = .ok (.invokevirtual 691, 3) := by decide +kernel
theorem dX12_node__103 : decode cX12_node_ 103 = .ok (.ireturn, 1) := by decide +kernel
theorem dX12_node__104 : decode cX12_node_ 104 = .ok (.aload_n 0, 1) := by decide +kernel
theorem dX12_node__105 : decode cX12_node_ 105 = .ok (.getfield 229, 3) := by decide +kernel
theorem dX12_node__108 : decode cX12_node_ 108 = .ok (.iload 4, 2) := by decide +kernel
theorem dX12_node__110 : decode cX12_node_ 110 = .ok (.iaload, 1) := by decide +kernel
theorem dX12_node__111 : decode cX12_node_ 111 = .ok (.ireturn, 1) := by decide +kernel
theorem dX12_node__112 : decode cX12_node_ 112 = .ok (.aload_n 0, 1) := by decide +kernel
theorem dX12_node__113 : decode cX12_node_ 113 = .ok (.getfield 232, 3) := by decide +kernel
theorem dX12_node__116 : decode cX12_node_ 116 = .ok (.iload 4, 2) := by decide +kernel
theorem dX12_node__118 : decode cX12_node_ 118 = .ok (.iaload, 1) := by decide +kernel
theorem dX12_node__119 : decode cX12_node_ 119 = .ok (.ireturn, 1) := by decide +kernel
theorem dX12_node__120 : decode cX12_node_ 120 = .ok (.aload_n 0, 1) := by decide +kernel
theorem dX12_node__121 : decode cX12_node_ 121 = .ok (.getfield 253, 3) := by decide +kernel
theorem dX12_node__124 : decode cX12_node_ 124 = .ok (.iload 4, 2) := by decide +kernel
theorem dX12_node__126 : decode cX12_node_ 126 = .ok (.baload, 1) := by decide +kernel
theorem dX12_node__127 : decode cX12_node_ 127 = .ok (.ifCond .eq 7, 3) := by decide +kernel
theorem dX12_node__130 : decode cX12_node_ 130 = .ok (.iconst 1, 1) := by decide +kernel
theorem dX12_node__131 : decode cX12_node_ 131 = .ok (.goto 4, 3) := by decide +kernel
theorem dX12_node__134 : decode cX12_node_ 134 = .ok (.iconst 0, 1) := by decide +kernel
theorem dX12_node__135 : decode cX12_node_ 135 = .ok (.ireturn, 1) := by decide +kernel
theorem dX12_node__136 : decode cX12_node_ 136 = .ok (.aload_n 0, 1) := by decide +kernel
theorem dX12_node__137 : decode cX12_node_ 137 = .ok (.getfield 217, 3) := by decide +kernel
theorem dX12_node__140 : decode cX12_node_ 140 = .ok (.iload 4, 2) := by decide +kernel
theorem dX12_node__142 : decode cX12_node_ 142 = .ok (.iaload, 1) := by decide +kernel
theorem dX12_node__143 : decode cX12_node_ 143 = .ok (.ifCond .ne 13, 3) := by decide +kernel
theorem dX12_node__146 : decode cX12_node_ 146 = .ok (.aload_n 0, 1) := by decide +kernel
theorem dX12_node__147 : decode cX12_node_ 147 = .ok (.getfield 235, 3) := by decide +kernel
theorem dX12_node__150 : decode cX12_node_ 150 = .ok (.iload 4, 2) := by decide +kernel
theorem dX12_node__152 : decode cX12_node_ 152 = .ok (.iaload, 1) := by decide +kernel
theorem dX12_node__153 : decode cX12_node_ 153 = .ok (.goto 4, 3) := by decide +kernel
theorem dX12_node__156 : decode cX12_node_ 156 = .ok (.iconst (-1), 1) := by decide +kernel
theorem dX12_node__157 : decode cX12_node_ 157 = .ok (.ireturn, 1) := by decide +kernel
theorem dX12_node__158 : decode cX12_node_ 158 = .ok (.iconst (-1), 1) := by decide +kernel
theorem dX12_node__159 : decode cX12_node_ 159 = .ok (.ireturn, 1) := by decide +kernel
theorem dX12_numeral_0 : decode cX12_numeral 0 = .ok (.aload_n 0, 1) := by decide +kernel
theorem dX12_numeral_1 : decode cX12_numeral 1 = .ok (.getfield 42, 3) := by decide +kernel
theorem dX12_numeral_4 : decode cX12_numeral 4 = .ok (.aload_n 0, 1) := by decide +kernel
theorem dX12_numeral_5 : decode cX12_numeral 5 = .ok (.getfield 54, 3) := by decide +kernel
theorem dX12_numeral_8 : decode cX12_numeral 8 = .ok (.iaload, 1) := by decide +kernel
theorem dX12_numeral_9 : decode cX12_numeral 9 = .ok (.bipush 48, 2) := by decide +kernel
theorem dX12_numeral_11 : decode cX12_numeral 11 = .ok (.if_icmp .ne 35, 3) := by decide +kernel
theorem dX12_numeral_14 : decode cX12_numeral 14 = .ok (.aload_n 0, 1) := by decide +kernel
theorem dX12_numeral_15 : decode cX12_numeral 15 = .ok (.aload_n 0, 1) := by decide +kernel
theorem dX12_numeral_16 : decode cX12_numeral 16 = .ok (.getfield 54, 3) := by decide +kernel
theorem dX12_numeral_19 : decode cX12_numeral 19 = .ok (.iconst 1, 1) := by decide +kernel
theorem dX12_numeral_20 : decode cX12_numeral 20 = .ok (.iadd, 1) := by decide +kernel
theorem dX12_numeral_21 : decode cX12_numeral 21 = .ok (.invokevirtual 311, 3) := by decide +kernel
theorem dX12_numeral_24 : decode cX12_numeral 24 = .ok (.bipush 120, 2) := by decide +kernel
theorem dX12_numeral_26 : decode cX12_numeral 26 = .ok (.if_icmp .ne 20, 3) := by decide +kernel
theorem dX12_numeral_29 : decode cX12_numeral 29 = .ok (.aload_n 0, 1) := by decide +kernel
theorem dX12_numeral_30 : decode cX12_numeral 30 = .ok (.getfield 57, 3) := by decide +kernel
theorem dX12_numeral_33 : decode cX12_numeral 33 = .ok (.aload_n 0, 1) := by decide +kernel
theorem dX12_numeral_34 : decode cX12_numeral 34 = .ok (.getfield 54, 3) := by decide +kernel
theorem dX12_numeral_37 : decode cX12_numeral 37 = .ok (.iconst 1, 1) := by decide +kernel
theorem dX12_numeral_38 : decode cX12_numeral 38 = .ok (.iadd, 1) := by decide +kernel
theorem dX12_numeral_39 : decode cX12_numeral 39 = .ok (.if_icmp .le 7, 3) := by decide +kernel
theorem dX12_numeral_42 : decode cX12_numeral 42 = .ok (.iconst 1, 1) := by decide +kernel
theorem dX12_numeral_43 : decode cX12_numeral 43 = .ok (.goto 4, 3) := by decide +kernel
theorem dX12_numeral_46 : decode cX12_numeral 46 = .ok (.iconst 0, 1) := by decide +kernel
theorem dX12_numeral_47 : decode cX12_numeral 47 = .ok (.istore_n 1, 1) := by decide +kernel
theorem dX12_numeral_48 : decode cX12_numeral 48 = .ok (.iload_n 1, 1) := by decide +kernel
theorem dX12_numeral_49 : decode cX12_numeral 49 = .ok (.ifCond .eq 12, 3) := by decide +kernel
theorem dX12_numeral_52 : decode cX12_numeral 52 = .ok (.aload_n 0, 1) := by decide +kernel
theorem dX12_numeral_53 : decode cX12_numeral 53 = .ok (.getfield 54, 3) := by decide +kernel
theorem dX12_numeral_56 : decode cX12_numeral 56 = .ok (.iconst 2, 1) := by decide +kernel
theorem dX12_numeral_57 : decode cX12_numeral 57 = .ok (.iadd, 1) := by decide +kernel
theorem dX12_numeral_58 : decode cX12_numeral 58 = .ok (.goto 7, 3) := by decide +kernel
theorem dX12_numeral_61 : decode cX12_numeral 61 = .ok (.aload_n 0, 1) := by decide +kernel
theorem dX12_numeral_62 : decode cX12_numeral 62 = .ok (.getfield 54, 3) := by decide +kernel
theorem dX12_numeral_65 : decode cX12_numeral 65 = .ok (.istore_n 2, 1) := by decide +kernel
theorem dX12_numeral_66 : decode cX12_numeral 66 = .ok (.aload_n 0, 1) := by decide +kernel
theorem dX12_numeral_67 : decode cX12_numeral 67 = .ok (.getfield 57, 3) := by decide +kernel
theorem dX12_numeral_70 : decode cX12_numeral 70 = .ok (.iload_n 2, 1) := by decide +kernel
theorem dX12_numeral_71 : decode cX12_numeral 71 = .ok (.isub, 1) := by decide +kernel
theorem dX12_numeral_72 : decode cX12_numeral 72 = .ok (.istore_n 3, 1) := by decide +kernel
theorem dX12_numeral_73 : decode cX12_numeral 73 = .ok (.aload_n 0, 1) := by decide +kernel
theorem dX12_numeral_74 : decode cX12_numeral 74 = .ok (.lconst 0, 1) := by decide +kernel
theorem dX12_numeral_75 : decode cX12_numeral 75 = .ok (.putfield 64, 3) := by decide +kernel
theorem dX12_numeral_78 : decode cX12_numeral 78 = .ok (.iload_n 2, 1) := by decide +kernel
theorem dX12_numeral_79 : decode cX12_numeral 79 = .ok (.istore 4, 2) := by decide +kernel
theorem dX12_numeral_81 : decode cX12_numeral 81 = .ok (.iload 4, 2) := by decide +kernel
theorem dX12_numeral_83 : decode cX12_numeral 83 = .ok (.aload_n 0, 1) := by decide +kernel
theorem dX12_numeral_84 : decode cX12_numeral 84 = .ok (.getfield 57, 3) := by decide +kernel
theorem dX12_numeral_87 : decode cX12_numeral 87 = .ok (.if_icmp .ge 96, 3) := by decide +kernel
theorem dX12_numeral_90 : decode cX12_numeral 90 = .ok (.aload_n 0, 1) := by decide +kernel
theorem dX12_numeral_91 : decode cX12_numeral 91 = .ok (.getfield 42, 3) := by decide +kernel
theorem dX12_numeral_94 : decode cX12_numeral 94 = .ok (.iload 4, 2) := by decide +kernel
theorem dX12_numeral_96 : decode cX12_numeral 96 = .ok (.iaload, 1) := by decide +kernel
theorem dX12_numeral_97 : decode cX12_numeral 97 = .ok (.istore 5, 2) := by decide +kernel
theorem dX12_numeral_99 : decode cX12_numeral 99 = .ok (.aload_n 0, 1) := by decide +kernel
theorem dX12_numeral_100 : decode cX12_numeral 100 = .ok (.iload 5, 2) := by decide +kernel
theorem dX12_numeral_102 : decode cX12_numeral 102 = .ok (.invokevirtual 318, 3) := by decide +kernel
theorem dX12_numeral_105 : decode cX12_numeral 105 = .ok (.ifCond .ne 23, 3) := by decide +kernel
theorem dX12_numeral_108 : decode cX12_numeral 108 = .ok (.iload_n 1, 1) := by decide +kernel
theorem dX12_numeral_109 : decode cX12_numeral 109 = .ok (.ifCond .eq 17, 3) := by decide +kernel
theorem dX12_numeral_112 : decode cX12_numeral 112 = .ok (.iload 5, 2) := by decide +kernel
theorem dX12_numeral_114 : decode cX12_numeral 114 = .ok (.bipush 97, 2) := by decide +kernel
theorem dX12_numeral_116 : decode cX12_numeral 116 = .ok (.if_icmp .lt 10, 3) := by decide +kernel
theorem dX12_numeral_119 : decode cX12_numeral 119 = .ok (.iload 5, 2) := by decide +kernel
theorem dX12_numeral_121 : decode cX12_numeral 121 = .ok (.bipush 102, 2) := by decide +kernel
theorem dX12_numeral_123 : decode cX12_numeral 123 = .ok (.if_icmp .le 5, 3) := by decide +kernel
theorem dX12_numeral_126 : decode cX12_numeral 126 = .ok (.iconst 0, 1) := by decide +kernel
theorem dX12_numeral_127 : decode cX12_numeral 127 = .ok (.ireturn, 1) := by decide +kernel
theorem dX12_numeral_128 : decode cX12_numeral 128 = .ok (.aload_n 0, 1) := by decide +kernel
theorem dX12_numeral_129 : decode cX12_numeral 129 = .ok (.aload_n 0, 1) := by decide +kernel
theorem dX12_numeral_130 : decode cX12_numeral 130 = .ok (.getfield 64, 3) := by decide +kernel
theorem dX12_numeral_133 : decode cX12_numeral 133 = .ok (.iload_n 1, 1) := by decide +kernel
theorem dX12_numeral_134 : decode cX12_numeral 134 = .ok (.ifCond .eq 9, 3) := by decide +kernel
theorem dX12_numeral_137 : decode cX12_numeral 137 = .ok (.ldc2_w 328, 3) := by decide +kernel
theorem dX12_numeral_140 : decode cX12_numeral 140 = .ok (.goto 6, 3) := by decide +kernel
theorem dX12_numeral_143 : decode cX12_numeral 143 = .ok (.ldc2_w 330, 3) := by decide +kernel
theorem dX12_numeral_146 : decode cX12_numeral 146 = .ok (.lmul, 1) := by decide +kernel
theorem dX12_numeral_147 : decode cX12_numeral 147 = .ok (.aload_n 0, 1) := by decide +kernel
theorem dX12_numeral_148 : decode cX12_numeral 148 = .ok (.iload 5, 2) := by decide +kernel
theorem dX12_numeral_150 : decode cX12_numeral 150 = .ok (.invokevirtual 318, 3) := by decide +kernel
theorem dX12_numeral_153 : decode cX12_numeral 153 = .ok (.ifCond .eq 11, 3) := by decide +kernel
theorem dX12_numeral_156 : decode cX12_numeral 156 = .ok (.iload 5, 2) := by decide +kernel
theorem dX12_numeral_158 : decode cX12_numeral 158 = .ok (.bipush 48, 2) := by decide +kernel
theorem dX12_numeral_160 : decode cX12_numeral 160 = .ok (.isub, 1) := by decide +kernel
theorem dX12_numeral_161 : decode cX12_numeral 161 = .ok (.goto 11, 3) := by decide +kernel
theorem dX12_numeral_164 : decode cX12_numeral 164 = .ok (.iload 5, 2) := by decide +kernel
theorem dX12_numeral_166 : decode cX12_numeral 166 = .ok (.bipush 97, 2) := by decide +kernel
theorem dX12_numeral_168 : decode cX12_numeral 168 = .ok (.isub, 1) := by decide +kernel
theorem dX12_numeral_169 : decode cX12_numeral 169 = .ok (.bipush 10, 2) := by decide +kernel
theorem dX12_numeral_171 : decode cX12_numeral 171 = .ok (.iadd, 1) := by decide +kernel
theorem dX12_numeral_172 : decode cX12_numeral 172 = .ok (.i2l, 1) := by decide +kernel
theorem dX12_numeral_173 : decode cX12_numeral 173 = .ok (.ladd, 1) := by decide +kernel
theorem dX12_numeral_174 : decode cX12_numeral 174 = .ok (.putfield 64, 3) := by decide +kernel
theorem dX12_numeral_177 : decode cX12_numeral 177 = .ok (.iinc 4 1, 3) := by decide +kernel
theorem dX12_numeral_180 : decode cX12_numeral 180 = .ok (.goto (-99), 3) := by decide +kernel
theorem dX12_numeral_183 : decode cX12_numeral 183 = .ok (.iload_n 3, 1) := by decide +kernel
theorem dX12_numeral_184 : decode cX12_numeral 184 = .ok (.ifCond .le 22, 3) := by decide +kernel
theorem dX12_numeral_187 : decode cX12_numeral 187 = .ok (.iload_n 3, 1) := by decide +kernel
theorem dX12_numeral_188 : decode cX12_numeral 188 = .ok (.iload_n 1, 1) := by decide +kernel
theorem dX12_numeral_189 : decode cX12_numeral 189 = .ok (.ifCond .eq 8, 3) := by decide +kernel
theorem dX12_numeral_192 : decode cX12_numeral 192 = .ok (.bipush 8, 2) := by decide +kernel
theorem dX12_numeral_194 : decode cX12_numeral 194 = .ok (.goto 5, 3) := by decide +kernel
theorem dX12_numeral_197 : decode cX12_numeral 197 = .ok (.bipush 9, 2) := by decide +kernel
theorem dX12_numeral_199 : decode cX12_numeral 199 = .ok (.if_icmp .gt 7, 3) := by decide +kernel
theorem dX12_numeral_202 : decode cX12_numeral 202 = .ok (.iconst 1, 1) := by decide +kernel
theorem dX12_numeral_203 : decode cX12_numeral 203 = .ok (.goto 4, 3) := by decide +kernel
theorem dX12_numeral_206 : decode cX12_numeral 206 = .ok (.iconst 0, 1) := by decide +kernel
theorem dX12_numeral_207 : decode cX12_numeral 207 = .ok (.ireturn, 1) := by decide +kernel
theorem dX12_opens_0 : decode cX12_opens 0 = .ok (.aload_n 0, 1) := by decide +kernel
theorem dX12_opens_1 : decode cX12_opens 1 = .ok (.getfield 265, 3) := by decide +kernel
theorem dX12_opens_4 : decode cX12_opens 4 = .ok (.aload_n 0, 1) := by decide +kernel
theorem dX12_opens_5 : decode cX12_opens 5 = .ok (.getfield 271, 3) := by decide +kernel
theorem dX12_opens_8 : decode cX12_opens 8 = .ok (.iload_n 1, 1) := by decide +kernel
theorem dX12_opens_9 : decode cX12_opens 9 = .ok (.iastore, 1) := by decide +kernel
theorem dX12_opens_10 : decode cX12_opens 10 = .ok (.aload_n 0, 1) := by decide +kernel
theorem dX12_opens_11 : decode cX12_opens 11 = .ok (.getfield 268, 3) := by decide +kernel
theorem dX12_opens_14 : decode cX12_opens 14 = .ok (.aload_n 0, 1) := by decide +kernel
theorem dX12_opens_15 : decode cX12_opens 15 = .ok (.getfield 271, 3) := by decide +kernel
theorem dX12_opens_18 : decode cX12_opens 18 = .ok (.iload_n 2, 1) := by decide +kernel
theorem dX12_opens_19 : decode cX12_opens 19 = .ok (.iastore, 1) := by decide +kernel
theorem dX12_opens_20 : decode cX12_opens 20 = .ok (.aload_n 0, 1) := by decide +kernel
theorem dX12_opens_21 : decode cX12_opens 21 = .ok (.dup, 1) := by decide +kernel
theorem dX12_opens_22 : decode cX12_opens 22 = .ok (.getfield 271, 3) := by decide +kernel
theorem dX12_opens_25 : decode cX12_opens 25 = .ok (.iconst 1, 1) := by decide +kernel
theorem dX12_opens_26 : decode cX12_opens 26 = .ok (.iadd, 1) := by decide +kernel
theorem dX12_opens_27 : decode cX12_opens 27 = .ok (.putfield 271, 3) := by decide +kernel
theorem dX12_opens_30 : decode cX12_opens 30 = .ok (.return_, 1) := by decide +kernel
theorem dX12_operand_0 : decode cX12_operand 0 = .ok (.iconst 0, 1) := by decide +kernel
theorem dX12_operand_1 : decode cX12_operand 1 = .ok (.istore_n 1, 1) := by decide +kernel
theorem dX12_operand_2 : decode cX12_operand 2 = .ok (.iload_n 1, 1) := by decide +kernel
theorem dX12_operand_3 : decode cX12_operand 3 = .ok (.ifCond .ne 123, 3) := by decide +kernel
theorem dX12_operand_6 : decode cX12_operand 6 = .ok (.aload_n 0, 1) := by decide +kernel
theorem dX12_operand_7 : decode cX12_operand 7 = .ok (.getfield 167, 3) := by decide +kernel
theorem dX12_operand_10 : decode cX12_operand 10 = .ok (.ifCond .ne 116, 3) := by decide +kernel
theorem dX12_operand_13 : decode cX12_operand 13 = .ok (.aload_n 0, 1) := by decide +kernel
theorem dX12_operand_14 : decode cX12_operand 14 = .ok (.bipush 45, 2) := by decide +kernel
theorem dX12_operand_16 : decode cX12_operand 16 = .ok (.invokevirtual 401, 3) := by decide +kernel
theorem dX12_operand_19 : decode cX12_operand 19 = .ok (.ifCond .eq 7, 3) := by decide +kernel
theorem dX12_operand_22 : decode cX12_operand 22 = .ok (.iconst 5, 1) := by decide +kernel
theorem dX12_operand_23 : decode cX12_operand 23 = .ok (.goto 33, 3) := by decide +kernel
theorem dX12_operand_26 : decode cX12_operand 26 = .ok (.aload_n 0, 1) := by decide +kernel
theorem dX12_operand_27 : decode cX12_operand 27 = .ok (.ldc2_w 388, 3) := by decide +kernel
theorem dX12_operand_30 : decode cX12_operand 30 = .ok (.invokevirtual 334, 3) := by decide +kernel
theorem dX12_operand_33 : decode cX12_operand 33 = .ok (.ifCond .eq 8, 3) := by decide +kernel
theorem dX12_operand_36 : decode cX12_operand 36 = .ok (.bipush 6, 2) := by decide +kernel
theorem dX12_operand_38 : decode cX12_operand 38 = .ok (.goto 18, 3) := by decide +kernel
theorem dX12_operand_41 : decode cX12_operand 41 = .ok (.aload_n 0, 1) := by decide +kernel
theorem dX12_operand_42 : decode cX12_operand 42 = .ok (.bipush 40, 2) := by decide +kernel
theorem dX12_operand_44 : decode cX12_operand 44 = .ok (.invokevirtual 401, 3) := by decide +kernel
theorem dX12_operand_47 : decode cX12_operand 47 = .ok (.ifCond .eq 8, 3) := by decide +kernel
theorem dX12_operand_50 : decode cX12_operand 50 = .ok (.bipush 18, 2) := by decide +kernel
theorem dX12_operand_52 : decode cX12_operand 52 = .ok (.goto 4, 3) := by decide +kernel
theorem dX12_operand_55 : decode cX12_operand 55 = .ok (.iconst (-1), 1) := by decide +kernel
theorem dX12_operand_56 : decode cX12_operand 56 = .ok (.istore_n 2, 1) := by decide +kernel
theorem dX12_operand_57 : decode cX12_operand 57 = .ok (.iload_n 2, 1) := by decide +kernel
theorem dX12_operand_58 : decode cX12_operand 58 = .ok (.iconst (-1), 1) := by decide +kernel
theorem dX12_operand_59 : decode cX12_operand 59 = .ok (.if_icmp .ne 8, 3) := by decide +kernel
theorem dX12_operand_62 : decode cX12_operand 62 = .ok (.iconst 1, 1) := by decide +kernel
theorem dX12_operand_63 : decode cX12_operand 63 = .ok (.istore_n 1, 1) := by decide +kernel
theorem dX12_operand_64 : decode cX12_operand 64 = .ok (.goto 59, 3) := by decide +kernel
theorem dX12_operand_67 : decode cX12_operand 67 = .ok (.aload_n 0, 1) := by decide +kernel
theorem dX12_operand_68 : decode cX12_operand 68 = .ok (.aload_n 0, 1) := by decide +kernel
theorem dX12_operand_69 : decode cX12_operand 69 = .ok (.getfield 179, 3) := by decide +kernel
theorem dX12_operand_72 : decode cX12_operand 72 = .ok (.bipush 15, 2) := by decide +kernel
theorem dX12_operand_74 : decode cX12_operand 74 = .ok (.if_icmp .ge 7, 3) := by decide +kernel
theorem dX12_operand_77 : decode cX12_operand 77 = .ok (.iconst 1, 1) := by decide +kernel
theorem dX12_operand_78 : decode cX12_operand 78 = .ok (.goto 4, 3) := by decide +kernel
theorem dX12_operand_81 : decode cX12_operand 81 = .ok (.iconst 0, 1) := by decide +kernel
theorem dX12_operand_82 : decode cX12_operand 82 = .ok (.iconst 5, 1) := by decide +kernel
theorem dX12_operand_83 : decode cX12_operand 83 = .ok (.invokevirtual 404, 3) := by decide +kernel
theorem dX12_operand_86 : decode cX12_operand 86 = .ok (.ifCond .eq 37, 3) := by decide +kernel
theorem dX12_operand_89 : decode cX12_operand 89 = .ok (.aload_n 0, 1) := by decide +kernel
theorem dX12_operand_90 : decode cX12_operand 90 = .ok (.dup, 1) := by decide +kernel
theorem dX12_operand_91 : decode cX12_operand 91 = .ok (.getfield 179, 3) := by decide +kernel
theorem dX12_operand_94 : decode cX12_operand 94 = .ok (.iconst 1, 1) := by decide +kernel
theorem dX12_operand_95 : decode cX12_operand 95 = .ok (.iadd, 1) := by decide +kernel
theorem dX12_operand_96 : decode cX12_operand 96 = .ok (.putfield 179, 3) := by decide +kernel
theorem dX12_operand_99 : decode cX12_operand 99 = .ok (.aload_n 0, 1) := by decide +kernel
theorem dX12_operand_100 : decode cX12_operand 100 = .ok (.getfield 189, 3) := by decide +kernel
theorem dX12_operand_103 : decode cX12_operand 103 = .ok (.aload_n 0, 1) := by decide +kernel
theorem dX12_operand_104 : decode cX12_operand 104 = .ok (.getfield 195, 3) := by decide +kernel
theorem dX12_operand_107 : decode cX12_operand 107 = .ok (.iload_n 2, 1) := by decide +kernel
theorem dX12_operand_108 : decode cX12_operand 108 = .ok (.iastore, 1) := by decide +kernel
theorem dX12_operand_109 : decode cX12_operand 109 = .ok (.aload_n 0, 1) := by decide +kernel
theorem dX12_operand_110 : decode cX12_operand 110 = .ok (.dup, 1) := by decide +kernel
theorem dX12_operand_111 : decode cX12_operand 111 = .ok (.getfield 195, 3) := by decide +kernel
theorem dX12_operand_114 : decode cX12_operand 114 = .ok (.iconst 1, 1) := by decide +kernel
theorem dX12_operand_115 : decode cX12_operand 115 = .ok (.iadd, 1) := by decide +kernel
theorem dX12_operand_116 : decode cX12_operand 116 = .ok (.putfield 195, 3) := by decide +kernel
theorem dX12_operand_119 : decode cX12_operand 119 = .ok (.aload_n 0, 1) := by decide +kernel
theorem dX12_operand_120 : decode cX12_operand 120 = .ok (.invokevirtual 408, 3) := by decide +kernel
theorem dX12_operand_123 : decode cX12_operand 123 = .ok (.goto (-121), 3) := by decide +kernel
theorem dX12_operand_126 : decode cX12_operand 126 = .ok (.aload_n 0, 1) := by decide +kernel
theorem dX12_operand_127 : decode cX12_operand 127 = .ok (.getfield 167, 3) := by decide +kernel
theorem dX12_operand_130 : decode cX12_operand 130 = .ok (.ifCond .le 4, 3) := by decide +kernel
theorem dX12_operand_133 : decode cX12_operand 133 = .ok (.return_, 1) := by decide +kernel
theorem dX12_operand_134 : decode cX12_operand 134 = .ok (.aload_n 0, 1) := by decide +kernel
theorem dX12_operand_135 : decode cX12_operand 135 = .ok (.invokevirtual 545, 3) := by decide +kernel
theorem dX12_operand_138 : decode cX12_operand 138 = .ok (.istore_n 2, 1) := by decide +kernel
theorem dX12_operand_139 : decode cX12_operand 139 = .ok (.aload_n 0, 1) := by decide +kernel
theorem dX12_operand_140 : decode cX12_operand 140 = .ok (.getfield 167, 3) := by decide +kernel
theorem dX12_operand_143 : decode cX12_operand 143 = .ok (.ifCond .le 4, 3) := by decide +kernel
theorem dX12_operand_146 : decode cX12_operand 146 = .ok (.return_, 1) := by decide +kernel
theorem dX12_operand_147 : decode cX12_operand 147 = .ok (.aload_n 0, 1) := by decide +kernel
theorem dX12_operand_148 : decode cX12_operand 148 = .ok (.getfield 192, 3) := by decide +kernel
theorem dX12_operand_151 : decode cX12_operand 151 = .ok (.aload_n 0, 1) := by decide +kernel
theorem dX12_operand_152 : decode cX12_operand 152 = .ok (.getfield 198, 3) := by decide +kernel
theorem dX12_operand_155 : decode cX12_operand 155 = .ok (.iload_n 2, 1) := by decide +kernel
theorem dX12_operand_156 : decode cX12_operand 156 = .ok (.iastore, 1) := by decide +kernel
theorem dX12_operand_157 : decode cX12_operand 157 = .ok (.aload_n 0, 1) := by decide +kernel
theorem dX12_operand_158 : decode cX12_operand 158 = .ok (.dup, 1) := by decide +kernel
theorem dX12_operand_159 : decode cX12_operand 159 = .ok (.getfield 198, 3) := by decide +kernel
theorem dX12_operand_162 : decode cX12_operand 162 = .ok (.iconst 1, 1) := by decide +kernel
theorem dX12_operand_163 : decode cX12_operand 163 = .ok (.iadd, 1) := by decide +kernel
theorem dX12_operand_164 : decode cX12_operand 164 = .ok (.putfield 198, 3) := by decide +kernel
theorem dX12_operand_167 : decode cX12_operand 167 = .ok (.aload_n 0, 1) := by decide +kernel
theorem dX12_operand_168 : decode cX12_operand 168 = .ok (.bipush 6, 2) := by decide +kernel
theorem dX12_operand_170 : decode cX12_operand 170 = .ok (.invokevirtual 542, 3) := by decide +kernel
theorem dX12_operand_173 : decode cX12_operand 173 = .ok (.return_, 1) := by decide +kernel
theorem dX12_operator_0 : decode cX12_operator 0 = .ok (.aload_n 0, 1) := by decide +kernel
theorem dX12_operator_1 : decode cX12_operator 1 = .ok (.ldc2_w 386, 3) := by decide +kernel
theorem dX12_operator_4 : decode cX12_operator 4 = .ok (.invokevirtual 334, 3) := by decide +kernel
theorem dX12_operator_7 : decode cX12_operator 7 = .ok (.ifCond .eq 6, 3) := by decide +kernel
theorem dX12_operator_10 : decode cX12_operator 10 = .ok (.bipush 17, 2) := by decide +kernel
theorem dX12_operator_12 : decode cX12_operator 12 = .ok (.ireturn, 1) := by decide +kernel
theorem dX12_operator_13 : decode cX12_operator 13 = .ok (.aload_n 0, 1) := by decide +kernel
theorem dX12_operator_14 : decode cX12_operator 14 = .ok (.ldc2_w 384, 3) := by decide +kernel
theorem dX12_operator_17 : decode cX12_operator 17 = .ok (.invokevirtual 334, 3) := by decide +kernel
theorem dX12_operator_20 : decode cX12_operator 20 = .ok (.ifCond .eq 6, 3) := by decide +kernel
theorem dX12_operator_23 : decode cX12_operator 23 = .ok (.bipush 16, 2) := by decide +kernel
theorem dX12_operator_25 : decode cX12_operator 25 = .ok (.ireturn, 1) := by decide +kernel
theorem dX12_operator_26 : decode cX12_operator 26 = .ok (.aload_n 0, 1) := by decide +kernel
theorem dX12_operator_27 : decode cX12_operator 27 = .ok (.getfield 51, 3) := by decide +kernel
theorem dX12_operator_30 : decode cX12_operator 30 = .ok (.iconst 3, 1) := by decide +kernel
theorem dX12_operator_31 : decode cX12_operator 31 = .ok (.if_icmp .eq 5, 3) := by decide +kernel
theorem dX12_operator_34 : decode cX12_operator 34 = .ok (.iconst (-1), 1) := by decide +kernel
theorem dX12_operator_35 : decode cX12_operator 35 = .ok (.ireturn, 1) := by decide +kernel
theorem dX12_operator_36 : decode cX12_operator 36 = .ok (.aload_n 0, 1) := by decide +kernel
theorem dX12_operator_37 : decode cX12_operator 37 = .ok (.getfield 64, 3) := by decide +kernel
theorem dX12_operator_40 : decode cX12_operator 40 = .ok (.l2i, 1) := by decide +kernel
theorem dX12_operator_41 : decode cX12_operator 41 = .ok (.istore_n 1, 1) := by decide +kernel
theorem dX12_operator_42 : decode cX12_operator 42 = .ok (.iload_n 1, 1) := by decide +kernel
theorem dX12_operator_43 : decode cX12_operator 43 = .ok (.bipush 61, 2) := by decide +kernel
theorem dX12_operator_45 : decode cX12_operator 45 = .ok (.if_icmp .ne 8, 3) := by decide +kernel
theorem dX12_operator_48 : decode cX12_operator 48 = .ok (.bipush 13, 2) := by decide +kernel
theorem dX12_operator_50 : decode cX12_operator 50 = .ok (.goto 92, 3) := by decide +kernel
theorem dX12_operator_53 : decode cX12_operator 53 = .ok (.iload_n 1, 1) := by decide +kernel
theorem dX12_operator_54 : decode cX12_operator 54 = .ok (.bipush 60, 2) := by decide +kernel
theorem dX12_operator_56 : decode cX12_operator 56 = .ok (.if_icmp .ne 8, 3) := by decide +kernel
theorem dX12_operator_59 : decode cX12_operator 59 = .ok (.bipush 14, 2) := by decide +kernel
theorem dX12_operator_61 : decode cX12_operator 61 = .ok (.goto 81, 3) := by decide +kernel
theorem dX12_operator_64 : decode cX12_operator 64 = .ok (.iload_n 1, 1) := by decide +kernel
theorem dX12_operator_65 : decode cX12_operator 65 = .ok (.bipush 62, 2) := by decide +kernel
theorem dX12_operator_67 : decode cX12_operator 67 = .ok (.if_icmp .ne 8, 3) := by decide +kernel
theorem dX12_operator_70 : decode cX12_operator 70 = .ok (.bipush 15, 2) := by decide +kernel
theorem dX12_operator_72 : decode cX12_operator 72 = .ok (.goto 70, 3) := by decide +kernel
theorem dX12_operator_75 : decode cX12_operator 75 = .ok (.iload_n 1, 1) := by decide +kernel
theorem dX12_operator_76 : decode cX12_operator 76 = .ok (.bipush 43, 2) := by decide +kernel
theorem dX12_operator_78 : decode cX12_operator 78 = .ok (.if_icmp .ne 8, 3) := by decide +kernel
theorem dX12_operator_81 : decode cX12_operator 81 = .ok (.bipush 7, 2) := by decide +kernel
theorem dX12_operator_83 : decode cX12_operator 83 = .ok (.goto 59, 3) := by decide +kernel
theorem dX12_operator_86 : decode cX12_operator 86 = .ok (.iload_n 1, 1) := by decide +kernel
theorem dX12_operator_87 : decode cX12_operator 87 = .ok (.bipush 45, 2) := by decide +kernel
theorem dX12_operator_89 : decode cX12_operator 89 = .ok (.if_icmp .ne 8, 3) := by decide +kernel
theorem dX12_operator_92 : decode cX12_operator 92 = .ok (.bipush 8, 2) := by decide +kernel
theorem dX12_operator_94 : decode cX12_operator 94 = .ok (.goto 48, 3) := by decide +kernel
theorem dX12_operator_97 : decode cX12_operator 97 = .ok (.iload_n 1, 1) := by decide +kernel
theorem dX12_operator_98 : decode cX12_operator 98 = .ok (.bipush 42, 2) := by decide +kernel
theorem dX12_operator_100 : decode cX12_operator 100 = .ok (.if_icmp .ne 8, 3) := by decide +kernel
theorem dX12_operator_103 : decode cX12_operator 103 = .ok (.bipush 9, 2) := by decide +kernel
theorem dX12_operator_105 : decode cX12_operator 105 = .ok (.goto 37, 3) := by decide +kernel
theorem dX12_operator_108 : decode cX12_operator 108 = .ok (.iload_n 1, 1) := by decide +kernel
theorem dX12_operator_109 : decode cX12_operator 109 = .ok (.bipush 47, 2) := by decide +kernel
theorem dX12_operator_111 : decode cX12_operator 111 = .ok (.if_icmp .ne 8, 3) := by decide +kernel
theorem dX12_operator_114 : decode cX12_operator 114 = .ok (.bipush 10, 2) := by decide +kernel
theorem dX12_operator_116 : decode cX12_operator 116 = .ok (.goto 26, 3) := by decide +kernel
theorem dX12_operator_119 : decode cX12_operator 119 = .ok (.iload_n 1, 1) := by decide +kernel
theorem dX12_operator_120 : decode cX12_operator 120 = .ok (.bipush 37, 2) := by decide +kernel
theorem dX12_operator_122 : decode cX12_operator 122 = .ok (.if_icmp .ne 8, 3) := by decide +kernel
theorem dX12_operator_125 : decode cX12_operator 125 = .ok (.bipush 11, 2) := by decide +kernel
theorem dX12_operator_127 : decode cX12_operator 127 = .ok (.goto 15, 3) := by decide +kernel
theorem dX12_operator_130 : decode cX12_operator 130 = .ok (.iload_n 1, 1) := by decide +kernel
theorem dX12_operator_131 : decode cX12_operator 131 = .ok (.bipush 38, 2) := by decide +kernel
theorem dX12_operator_133 : decode cX12_operator 133 = .ok (.if_icmp .ne 8, 3) := by decide +kernel
theorem dX12_operator_136 : decode cX12_operator 136 = .ok (.bipush 12, 2) := by decide +kernel
theorem dX12_operator_138 : decode cX12_operator 138 = .ok (.goto 4, 3) := by decide +kernel
theorem dX12_operator_141 : decode cX12_operator 141 = .ok (.iconst (-1), 1) := by decide +kernel
theorem dX12_operator_142 : decode cX12_operator 142 = .ok (.ireturn, 1) := by decide +kernel
theorem dX12_out_0 : decode cX12_out 0 = .ok (.aload_n 0, 1) := by decide +kernel
theorem dX12_out_1 : decode cX12_out 1 = .ok (.getfield 286, 3) := by decide +kernel
theorem dX12_out_4 : decode cX12_out 4 = .ok (.lreturn, 1) := by decide +kernel
theorem dX12_outward_0 : decode cX12_outward 0 = .ok (.iload_n 1, 1) := by decide +kernel
theorem dX12_outward_1 : decode cX12_outward 1 = .ok (.ifCond .ge 7, 3) := by decide +kernel
theorem dX12_outward_4 : decode cX12_outward 4 = .ok (.iconst (-1), 1) := by decide +kernel
theorem dX12_outward_5 : decode cX12_outward 5 = .ok (.goto 13, 3) := by decide +kernel
theorem dX12_outward_8 : decode cX12_outward 8 = .ok (.iload_n 1, 1) := by decide +kernel
theorem dX12_outward_9 : decode cX12_outward 9 = .ok (.sipush 400, 3) := by decide +kernel
theorem dX12_outward_12 : decode cX12_outward 12 = .ok (.aload_n 0, 1) := by decide +kernel
theorem dX12_outward_13 : decode cX12_outward 13 = .ok (.getfield 256, 3) := by decide +kernel
theorem dX12_outward_16 : decode cX12_outward 16 = .ok (.imul, 1) := by decide +kernel
theorem dX12_outward_17 : decode cX12_outward 17 = .ok (.isub, 1) := by decide +kernel
theorem dX12_outward_18 : decode cX12_outward 18 = .ok (.ireturn, 1) := by decide +kernel
theorem dX12_pair_0 : decode cX12_pair 0 = .ok (.aload_n 0, 1) := by decide +kernel
theorem dX12_pair_1 : decode cX12_pair 1 = .ok (.getfield 167, 3) := by decide +kernel
theorem dX12_pair_4 : decode cX12_pair 4 = .ok (.ifCond .gt 15, 3) := by decide +kernel
theorem dX12_pair_7 : decode cX12_pair 7 = .ok (.aload_n 0, 1) := by decide +kernel
theorem dX12_pair_8 : decode cX12_pair 8 = .ok (.aload_n 0, 1) := by decide +kernel
theorem dX12_pair_9 : decode cX12_pair 9 = .ok (.invokevirtual 418, 3) := by decide +kernel
theorem dX12_pair_12 : decode cX12_pair 12 = .ok (.iconst 2, 1) := by decide +kernel
theorem dX12_pair_13 : decode cX12_pair 13 = .ok (.invokevirtual 404, 3) := by decide +kernel
theorem dX12_pair_16 : decode cX12_pair 16 = .ok (.ifCond .ne 4, 3) := by decide +kernel
theorem dX12_pair_19 : decode cX12_pair 19 = .ok (.return_, 1) := by decide +kernel
theorem dX12_pair_20 : decode cX12_pair 20 = .ok (.iconst 0, 1) := by decide +kernel
theorem dX12_pair_21 : decode cX12_pair 21 = .ok (.istore_n 2, 1) := by decide +kernel
theorem dX12_pair_22 : decode cX12_pair 22 = .ok (.iload_n 2, 1) := by decide +kernel
theorem dX12_pair_23 : decode cX12_pair 23 = .ok (.aload_n 0, 1) := by decide +kernel
theorem dX12_pair_24 : decode cX12_pair 24 = .ok (.getfield 89, 3) := by decide +kernel
theorem dX12_pair_27 : decode cX12_pair 27 = .ok (.iload_n 1, 1) := by decide +kernel
theorem dX12_pair_28 : decode cX12_pair 28 = .ok (.iaload, 1) := by decide +kernel
theorem dX12_pair_29 : decode cX12_pair 29 = .ok (.if_icmp .ge 33, 3) := by decide +kernel
theorem dX12_pair_32 : decode cX12_pair 32 = .ok (.aload_n 0, 1) := by decide +kernel
theorem dX12_pair_33 : decode cX12_pair 33 = .ok (.getfield 92, 3) := by decide +kernel
theorem dX12_pair_36 : decode cX12_pair 36 = .ok (.bipush 10, 2) := by decide +kernel
theorem dX12_pair_38 : decode cX12_pair 38 = .ok (.iload_n 1, 1) := by decide +kernel
theorem dX12_pair_39 : decode cX12_pair 39 = .ok (.imul, 1) := by decide +kernel
theorem dX12_pair_40 : decode cX12_pair 40 = .ok (.iload_n 2, 1) := by decide +kernel
theorem dX12_pair_41 : decode cX12_pair 41 = .ok (.iadd, 1) := by decide +kernel
theorem dX12_pair_42 : decode cX12_pair 42 = .ok (.laload, 1) := by decide +kernel
theorem dX12_pair_43 : decode cX12_pair 43 = .ok (.aload_n 0, 1) := by decide +kernel
theorem dX12_pair_44 : decode cX12_pair 44 = .ok (.getfield 60, 3) := by decide +kernel
theorem dX12_pair_47 : decode cX12_pair 47 = .ok (.lcmp, 1) := by decide +kernel
theorem dX12_pair_48 : decode cX12_pair 48 = .ok (.ifCond .ne 8, 3) := by decide +kernel
theorem dX12_pair_51 : decode cX12_pair 51 = .ok (.aload_n 0, 1) := by decide +kernel
theorem dX12_pair_52 : decode cX12_pair 52 = .ok (.iconst 3, 1) := by decide +kernel
theorem dX12_pair_53 : decode cX12_pair 53 = .ok (.invokevirtual 397, 3) := by decide +kernel
theorem dX12_pair_56 : decode cX12_pair 56 = .ok (.iinc 2 1, 3) := by decide +kernel
theorem dX12_pair_59 : decode cX12_pair 59 = .ok (.goto (-37), 3) := by decide +kernel
theorem dX12_pair_62 : decode cX12_pair 62 = .ok (.aload_n 0, 1) := by decide +kernel
theorem dX12_pair_63 : decode cX12_pair 63 = .ok (.aload_n 0, 1) := by decide +kernel
theorem dX12_pair_64 : decode cX12_pair 64 = .ok (.getfield 89, 3) := by decide +kernel
theorem dX12_pair_67 : decode cX12_pair 67 = .ok (.iload_n 1, 1) := by decide +kernel
theorem dX12_pair_68 : decode cX12_pair 68 = .ok (.iaload, 1) := by decide +kernel
theorem dX12_pair_69 : decode cX12_pair 69 = .ok (.bipush 10, 2) := by decide +kernel
theorem dX12_pair_71 : decode cX12_pair 71 = .ok (.if_icmp .ge 7, 3) := by decide +kernel
theorem dX12_pair_74 : decode cX12_pair 74 = .ok (.iconst 1, 1) := by decide +kernel
theorem dX12_pair_75 : decode cX12_pair 75 = .ok (.goto 4, 3) := by decide +kernel
theorem dX12_pair_78 : decode cX12_pair 78 = .ok (.iconst 0, 1) := by decide +kernel
theorem dX12_pair_79 : decode cX12_pair 79 = .ok (.iconst 5, 1) := by decide +kernel
theorem dX12_pair_80 : decode cX12_pair 80 = .ok (.invokevirtual 404, 3) := by decide +kernel
theorem dX12_pair_83 : decode cX12_pair 83 = .ok (.ifCond .ne 4, 3) := by decide +kernel
theorem dX12_pair_86 : decode cX12_pair 86 = .ok (.return_, 1) := by decide +kernel
theorem dX12_pair_87 : decode cX12_pair 87 = .ok (.aload_n 0, 1) := by decide +kernel
theorem dX12_pair_88 : decode cX12_pair 88 = .ok (.getfield 92, 3) := by decide +kernel
theorem dX12_pair_91 : decode cX12_pair 91 = .ok (.bipush 10, 2) := by decide +kernel
theorem dX12_pair_93 : decode cX12_pair 93 = .ok (.iload_n 1, 1) := by decide +kernel
theorem dX12_pair_94 : decode cX12_pair 94 = .ok (.imul, 1) := by decide +kernel
theorem dX12_pair_95 : decode cX12_pair 95 = .ok (.aload_n 0, 1) := by decide +kernel
theorem dX12_pair_96 : decode cX12_pair 96 = .ok (.getfield 89, 3) := by decide +kernel
theorem dX12_pair_99 : decode cX12_pair 99 = .ok (.iload_n 1, 1) := by decide +kernel
theorem dX12_pair_100 : decode cX12_pair 100 = .ok (.iaload, 1) := by decide +kernel
theorem dX12_pair_101 : decode cX12_pair 101 = .ok (.iadd, 1) := by decide +kernel
theorem dX12_pair_102 : decode cX12_pair 102 = .ok (.aload_n 0, 1) := by decide +kernel
theorem dX12_pair_103 : decode cX12_pair 103 = .ok (.getfield 60, 3) := by decide +kernel
theorem dX12_pair_106 : decode cX12_pair 106 = .ok (.lastore, 1) := by decide +kernel
theorem dX12_pair_107 : decode cX12_pair 107 = .ok (.aload_n 0, 1) := by decide +kernel
theorem dX12_pair_108 : decode cX12_pair 108 = .ok (.invokevirtual 408, 3) := by decide +kernel
theorem dX12_pair_111 : decode cX12_pair 111 = .ok (.aload_n 0, 1) := by decide +kernel
theorem dX12_pair_112 : decode cX12_pair 112 = .ok (.bipush 61, 2) := by decide +kernel
theorem dX12_pair_114 : decode cX12_pair 114 = .ok (.invokevirtual 431, 3) := by decide +kernel
theorem dX12_pair_117 : decode cX12_pair 117 = .ok (.aload_n 0, 1) := by decide +kernel
theorem dX12_pair_118 : decode cX12_pair 118 = .ok (.getfield 95, 3) := by decide +kernel
theorem dX12_pair_121 : decode cX12_pair 121 = .ok (.bipush 10, 2) := by decide +kernel
theorem dX12_pair_123 : decode cX12_pair 123 = .ok (.iload_n 1, 1) := by decide +kernel
theorem dX12_pair_124 : decode cX12_pair 124 = .ok (.imul, 1) := by decide +kernel
theorem dX12_pair_125 : decode cX12_pair 125 = .ok (.aload_n 0, 1) := by decide +kernel
theorem dX12_pair_126 : decode cX12_pair 126 = .ok (.getfield 89, 3) := by decide +kernel
theorem dX12_pair_129 : decode cX12_pair 129 = .ok (.iload_n 1, 1) := by decide +kernel
theorem dX12_pair_130 : decode cX12_pair 130 = .ok (.iaload, 1) := by decide +kernel
theorem dX12_pair_131 : decode cX12_pair 131 = .ok (.iadd, 1) := by decide +kernel
theorem dX12_pair_132 : decode cX12_pair 132 = .ok (.aload_n 0, 1) := by decide +kernel
theorem dX12_pair_133 : decode cX12_pair 133 = .ok (.invokevirtual 437, 3) := by decide +kernel
theorem dX12_pair_136 : decode cX12_pair 136 = .ok (.lastore, 1) := by decide +kernel
theorem dX12_pair_137 : decode cX12_pair 137 = .ok (.aload_n 0, 1) := by decide +kernel
theorem dX12_pair_138 : decode cX12_pair 138 = .ok (.getfield 89, 3) := by decide +kernel
theorem dX12_pair_141 : decode cX12_pair 141 = .ok (.iload_n 1, 1) := by decide +kernel
theorem dX12_pair_142 : decode cX12_pair 142 = .ok (.dup2, 1) := by decide +kernel
theorem dX12_pair_143 : decode cX12_pair 143 = .ok (.iaload, 1) := by decide +kernel
theorem dX12_pair_144 : decode cX12_pair 144 = .ok (.iconst 1, 1) := by decide +kernel
theorem dX12_pair_145 : decode cX12_pair 145 = .ok (.iadd, 1) := by decide +kernel
theorem dX12_pair_146 : decode cX12_pair 146 = .ok (.iastore, 1) := by decide +kernel
theorem dX12_pair_147 : decode cX12_pair 147 = .ok (.return_, 1) := by decide +kernel
theorem dX12_paired_0 : decode cX12_paired 0 = .ok (.bipush 8, 2) := by decide +kernel
theorem dX12_paired_2 : decode cX12_paired 2 = .ok (.aload_n 0, 1) := by decide +kernel
theorem dX12_paired_3 : decode cX12_paired 3 = .ok (.getfield 67, 3) := by decide +kernel
theorem dX12_paired_6 : decode cX12_paired 6 = .ok (.imul, 1) := by decide +kernel
theorem dX12_paired_7 : decode cX12_paired 7 = .ok (.aload_n 0, 1) := by decide +kernel
theorem dX12_paired_8 : decode cX12_paired 8 = .ok (.getfield 104, 3) := by decide +kernel
theorem dX12_paired_11 : decode cX12_paired 11 = .ok (.iload_n 2, 1) := by decide +kernel
theorem dX12_paired_12 : decode cX12_paired 12 = .ok (.iaload, 1) := by decide +kernel
theorem dX12_paired_13 : decode cX12_paired 13 = .ok (.iadd, 1) := by decide +kernel
theorem dX12_paired_14 : decode cX12_paired 14 = .ok (.istore_n 3, 1) := by decide +kernel
theorem dX12_paired_15 : decode cX12_paired 15 = .ok (.aload_n 0, 1) := by decide +kernel
theorem dX12_paired_16 : decode cX12_paired 16 = .ok (.iload_n 1, 1) := by decide +kernel
theorem dX12_paired_17 : decode cX12_paired 17 = .ok (.invokevirtual 643, 3) := by decide +kernel
theorem dX12_paired_20 : decode cX12_paired 20 = .ok (.lstore 4, 2) := by decide +kernel
theorem dX12_paired_22 : decode cX12_paired 22 = .ok (.iconst 0, 1) := by decide +kernel
theorem dX12_paired_23 : decode cX12_paired 23 = .ok (.istore 6, 2) := by decide +kernel
theorem dX12_paired_25 : decode cX12_paired 25 = .ok (.iload 6, 2) := by decide +kernel
theorem dX12_paired_27 : decode cX12_paired 27 = .ok (.aload_n 0, 1) := by decide +kernel
theorem dX12_paired_28 : decode cX12_paired 28 = .ok (.getfield 89, 3) := by decide +kernel
theorem dX12_paired_31 : decode cX12_paired 31 = .ok (.iload_n 3, 1) := by decide +kernel
theorem dX12_paired_32 : decode cX12_paired 32 = .ok (.iaload, 1) := by decide +kernel
theorem dX12_paired_33 : decode cX12_paired 33 = .ok (.if_icmp .ge 35, 3) := by decide +kernel
theorem dX12_paired_36 : decode cX12_paired 36 = .ok (.aload_n 0, 1) := by decide +kernel
theorem dX12_paired_37 : decode cX12_paired 37 = .ok (.getfield 95, 3) := by decide +kernel
theorem dX12_paired_40 : decode cX12_paired 40 = .ok (.bipush 10, 2) := by decide +kernel
theorem dX12_paired_42 : decode cX12_paired 42 = .ok (.iload_n 3, 1) := by decide +kernel
theorem dX12_paired_43 : decode cX12_paired 43 = .ok (.imul, 1) := by decide +kernel
theorem dX12_paired_44 : decode cX12_paired 44 = .ok (.iload 6, 2) := by decide +kernel
theorem dX12_paired_46 : decode cX12_paired 46 = .ok (.iadd, 1) := by decide +kernel
theorem dX12_paired_47 : decode cX12_paired 47 = .ok (.laload, 1) := by decide +kernel
theorem dX12_paired_48 : decode cX12_paired 48 = .ok (.lload 4, 2) := by decide +kernel
theorem dX12_paired_50 : decode cX12_paired 50 = .ok (.lcmp, 1) := by decide +kernel
theorem dX12_paired_51 : decode cX12_paired 51 = .ok (.ifCond .ne 11, 3) := by decide +kernel
theorem dX12_paired_54 : decode cX12_paired 54 = .ok (.bipush 10, 2) := by decide +kernel
theorem dX12_paired_56 : decode cX12_paired 56 = .ok (.iload_n 3, 1) := by decide +kernel
theorem dX12_paired_57 : decode cX12_paired 57 = .ok (.imul, 1) := by decide +kernel
theorem dX12_paired_58 : decode cX12_paired 58 = .ok (.iload 6, 2) := by decide +kernel
theorem dX12_paired_60 : decode cX12_paired 60 = .ok (.iadd, 1) := by decide +kernel
theorem dX12_paired_61 : decode cX12_paired 61 = .ok (.ireturn, 1) := by decide +kernel
theorem dX12_paired_62 : decode cX12_paired 62 = .ok (.iinc 6 1, 3) := by decide +kernel
theorem dX12_paired_65 : decode cX12_paired 65 = .ok (.goto (-40), 3) := by decide +kernel
theorem dX12_paired_68 : decode cX12_paired 68 = .ok (.iconst (-1), 1) := by decide +kernel
theorem dX12_paired_69 : decode cX12_paired 69 = .ok (.ireturn, 1) := by decide +kernel
theorem dX12_part_0 : decode cX12_part 0 = .ok (.aload_n 0, 1) := by decide +kernel
theorem dX12_part_1 : decode cX12_part 1 = .ok (.iload_n 1, 1) := by decide +kernel
theorem dX12_part_2 : decode cX12_part 2 = .ok (.invokevirtual 454, 3) := by decide +kernel
theorem dX12_part_5 : decode cX12_part 5 = .ok (.ifCond .eq 27, 3) := by decide +kernel
theorem dX12_part_8 : decode cX12_part 8 = .ok (.aload_n 0, 1) := by decide +kernel
theorem dX12_part_9 : decode cX12_part 9 = .ok (.aload_n 0, 1) := by decide +kernel
theorem dX12_part_10 : decode cX12_part 10 = .ok (.getfield 125, 3) := by decide +kernel
theorem dX12_part_13 : decode cX12_part 13 = .ok (.iload_n 1, 1) := by decide +kernel
theorem dX12_part_14 : decode cX12_part 14 = .ok (.iaload, 1) := by decide +kernel
theorem dX12_part_15 : decode cX12_part 15 = .ok (.bipush 12, 2) := by decide +kernel
theorem dX12_part_17 : decode cX12_part 17 = .ok (.if_icmp .ge 7, 3) := by decide +kernel
theorem dX12_part_20 : decode cX12_part 20 = .ok (.iconst 1, 1) := by decide +kernel
theorem dX12_part_21 : decode cX12_part 21 = .ok (.goto 4, 3) := by decide +kernel
theorem dX12_part_24 : decode cX12_part 24 = .ok (.iconst 0, 1) := by decide +kernel
theorem dX12_part_25 : decode cX12_part 25 = .ok (.iconst 5, 1) := by decide +kernel
theorem dX12_part_26 : decode cX12_part 26 = .ok (.invokevirtual 404, 3) := by decide +kernel
theorem dX12_part_29 : decode cX12_part 29 = .ok (.ifCond .ne 4, 3) := by decide +kernel
theorem dX12_part_32 : decode cX12_part 32 = .ok (.return_, 1) := by decide +kernel
theorem dX12_part_33 : decode cX12_part 33 = .ok (.bipush 16, 2) := by decide +kernel
theorem dX12_part_35 : decode cX12_part 35 = .ok (.iload_n 1, 1) := by decide +kernel
theorem dX12_part_36 : decode cX12_part 36 = .ok (.imul, 1) := by decide +kernel
theorem dX12_part_37 : decode cX12_part 37 = .ok (.aload_n 0, 1) := by decide +kernel
theorem dX12_part_38 : decode cX12_part 38 = .ok (.getfield 125, 3) := by decide +kernel
theorem dX12_part_41 : decode cX12_part 41 = .ok (.iload_n 1, 1) := by decide +kernel
theorem dX12_part_42 : decode cX12_part 42 = .ok (.iaload, 1) := by decide +kernel
theorem dX12_part_43 : decode cX12_part 43 = .ok (.iadd, 1) := by decide +kernel
theorem dX12_part_44 : decode cX12_part 44 = .ok (.istore_n 3, 1) := by decide +kernel
theorem dX12_part_45 : decode cX12_part 45 = .ok (.aload_n 0, 1) := by decide +kernel
theorem dX12_part_46 : decode cX12_part 46 = .ok (.getfield 131, 3) := by decide +kernel
theorem dX12_part_49 : decode cX12_part 49 = .ok (.iload_n 3, 1) := by decide +kernel
theorem dX12_part_50 : decode cX12_part 50 = .ok (.aload_n 0, 1) := by decide +kernel
theorem dX12_part_51 : decode cX12_part 51 = .ok (.getfield 60, 3) := by decide +kernel
theorem dX12_part_54 : decode cX12_part 54 = .ok (.lastore, 1) := by decide +kernel
theorem dX12_part_55 : decode cX12_part 55 = .ok (.aload_n 0, 1) := by decide +kernel
theorem dX12_part_56 : decode cX12_part 56 = .ok (.invokevirtual 408, 3) := by decide +kernel
theorem dX12_part_59 : decode cX12_part 59 = .ok (.aload_n 0, 1) := by decide +kernel
theorem dX12_part_60 : decode cX12_part 60 = .ok (.bipush 58, 2) := by decide +kernel
theorem dX12_part_62 : decode cX12_part 62 = .ok (.invokevirtual 431, 3) := by decide +kernel
theorem dX12_part_65 : decode cX12_part 65 = .ok (.aload_n 0, 1) := by decide +kernel
theorem dX12_part_66 : decode cX12_part 66 = .ok (.getfield 167, 3) := by decide +kernel
theorem dX12_part_69 : decode cX12_part 69 = .ok (.ifCond .gt 81, 3) := by decide +kernel
theorem dX12_part_72 : decode cX12_part 72 = .ok (.aload_n 0, 1) := by decide +kernel
theorem dX12_part_73 : decode cX12_part 73 = .ok (.aload_n 0, 1) := by decide +kernel
theorem dX12_part_74 : decode cX12_part 74 = .ok (.getfield 51, 3) := by decide +kernel
theorem dX12_part_77 : decode cX12_part 77 = .ok (.iconst 2, 1) := by decide +kernel
theorem dX12_part_78 : decode cX12_part 78 = .ok (.if_icmp .ne 7, 3) := by decide +kernel
theorem dX12_part_81 : decode cX12_part 81 = .ok (.iconst 1, 1) := by decide +kernel
theorem dX12_part_82 : decode cX12_part 82 = .ok (.goto 4, 3) := by decide +kernel
theorem dX12_part_85 : decode cX12_part 85 = .ok (.iconst 0, 1) := by decide +kernel
theorem dX12_part_86 : decode cX12_part 86 = .ok (.iconst 2, 1) := by decide +kernel
theorem dX12_part_87 : decode cX12_part 87 = .ok (.invokevirtual 404, 3) := by decide +kernel
theorem dX12_part_90 : decode cX12_part 90 = .ok (.ifCond .eq 60, 3) := by decide +kernel
theorem dX12_part_93 : decode cX12_part 93 = .ok (.aload_n 0, 1) := by decide +kernel
theorem dX12_part_94 : decode cX12_part 94 = .ok (.aload_n 0, 1) := by decide +kernel
theorem dX12_part_95 : decode cX12_part 95 = .ok (.getfield 64, 3) := by decide +kernel
theorem dX12_part_98 : decode cX12_part 98 = .ok (.lconst 1, 1) := by decide +kernel
theorem dX12_part_99 : decode cX12_part 99 = .ok (.lcmp, 1) := by decide +kernel
theorem dX12_part_100 : decode cX12_part 100 = .ok (.ifCond .lt 42, 3) := by decide +kernel
theorem dX12_part_103 : decode cX12_part 103 = .ok (.aload_n 0, 1) := by decide +kernel
theorem dX12_part_104 : decode cX12_part 104 = .ok (.getfield 64, 3) := by decide +kernel
theorem dX12_part_107 : decode cX12_part 107 = .ok (.ldc2_w 487, 3) := by decide +kernel
theorem dX12_part_110 : decode cX12_part 110 = .ok (.lcmp, 1) := by decide +kernel
theorem dX12_part_111 : decode cX12_part 111 = .ok (.ifCond .gt 31, 3) := by decide +kernel
theorem dX12_part_114 : decode cX12_part 114 = .ok (.iload_n 2, 1) := by decide +kernel
theorem dX12_part_115 : decode cX12_part 115 = .ok (.i2l, 1) := by decide +kernel
theorem dX12_part_116 : decode cX12_part 116 = .ok (.aload_n 0, 1) := by decide +kernel
theorem dX12_part_117 : decode cX12_part 117 = .ok (.getfield 64, 3) := by decide +kernel
theorem dX12_part_120 : decode cX12_part 120 = .ok (.ladd, 1) := by decide +kernel
theorem dX12_part_121 : decode cX12_part 121 = .ok (.bipush 8, 2) := by decide +kernel
theorem dX12_part_123 : decode cX12_part 123 = .ok (.aload_n 0, 1) := by decide +kernel
theorem dX12_part_124 : decode cX12_part 124 = .ok (.getfield 101, 3) := by decide +kernel
theorem dX12_part_127 : decode cX12_part 127 = .ok (.iload_n 1, 1) := by decide +kernel
theorem dX12_part_128 : decode cX12_part 128 = .ok (.iaload, 1) := by decide +kernel
theorem dX12_part_129 : decode cX12_part 129 = .ok (.bipush 15, 2) := by decide +kernel
theorem dX12_part_131 : decode cX12_part 131 = .ok (.iand, 1) := by decide +kernel
theorem dX12_part_132 : decode cX12_part 132 = .ok (.imul, 1) := by decide +kernel
theorem dX12_part_133 : decode cX12_part 133 = .ok (.i2l, 1) := by decide +kernel
theorem dX12_part_134 : decode cX12_part 134 = .ok (.lcmp, 1) := by decide +kernel
theorem dX12_part_135 : decode cX12_part 135 = .ok (.ifCond .gt 7, 3) := by decide +kernel
theorem dX12_part_138 : decode cX12_part 138 = .ok (.iconst 1, 1) := by decide +kernel
theorem dX12_part_139 : decode cX12_part 139 = .ok (.goto 4, 3) := by decide +kernel
theorem dX12_part_142 : decode cX12_part 142 = .ok (.iconst 0, 1) := by decide +kernel
theorem dX12_part_143 : decode cX12_part 143 = .ok (.iconst 5, 1) := by decide +kernel
theorem dX12_part_144 : decode cX12_part 144 = .ok (.invokevirtual 404, 3) := by decide +kernel
theorem dX12_part_147 : decode cX12_part 147 = .ok (.ifCond .ne 4, 3) := by decide +kernel
theorem dX12_part_150 : decode cX12_part 150 = .ok (.return_, 1) := by decide +kernel
theorem dX12_part_151 : decode cX12_part 151 = .ok (.aload_n 0, 1) := by decide +kernel
theorem dX12_part_152 : decode cX12_part 152 = .ok (.getfield 134, 3) := by decide +kernel
theorem dX12_part_155 : decode cX12_part 155 = .ok (.iload_n 3, 1) := by decide +kernel
theorem dX12_part_156 : decode cX12_part 156 = .ok (.aload_n 0, 1) := by decide +kernel
theorem dX12_part_157 : decode cX12_part 157 = .ok (.getfield 64, 3) := by decide +kernel
theorem dX12_part_160 : decode cX12_part 160 = .ok (.lastore, 1) := by decide +kernel
theorem dX12_part_161 : decode cX12_part 161 = .ok (.aload_n 0, 1) := by decide +kernel
theorem dX12_part_162 : decode cX12_part 162 = .ok (.getfield 125, 3) := by decide +kernel
theorem dX12_part_165 : decode cX12_part 165 = .ok (.iload_n 1, 1) := by decide +kernel
theorem dX12_part_166 : decode cX12_part 166 = .ok (.dup2, 1) := by decide +kernel
theorem dX12_part_167 : decode cX12_part 167 = .ok (.iaload, 1) := by decide +kernel
theorem dX12_part_168 : decode cX12_part 168 = .ok (.iconst 1, 1) := by decide +kernel
theorem dX12_part_169 : decode cX12_part 169 = .ok (.iadd, 1) := by decide +kernel
theorem dX12_part_170 : decode cX12_part 170 = .ok (.iastore, 1) := by decide +kernel
theorem dX12_part_171 : decode cX12_part 171 = .ok (.aload_n 0, 1) := by decide +kernel
theorem dX12_part_172 : decode cX12_part 172 = .ok (.invokevirtual 408, 3) := by decide +kernel
theorem dX12_part_175 : decode cX12_part 175 = .ok (.return_, 1) := by decide +kernel
theorem dX12_partsLaid_0 : decode cX12_partsLaid 0 = .ok (.iconst 0, 1) := by decide +kernel
theorem dX12_partsLaid_1 : decode cX12_partsLaid 1 = .ok (.istore_n 3, 1) := by decide +kernel
theorem dX12_partsLaid_2 : decode cX12_partsLaid 2 = .ok (.iload_n 3, 1) := by decide +kernel
theorem dX12_partsLaid_3 : decode cX12_partsLaid 3 = .ok (.aload_n 0, 1) := by decide +kernel
theorem dX12_partsLaid_4 : decode cX12_partsLaid 4 = .ok (.getfield 125, 3) := by decide +kernel
theorem dX12_partsLaid_7 : decode cX12_partsLaid 7 = .ok (.iload_n 2, 1) := by decide +kernel
theorem dX12_partsLaid_8 : decode cX12_partsLaid 8 = .ok (.iaload, 1) := by decide +kernel
theorem dX12_partsLaid_9 : decode cX12_partsLaid 9 = .ok (.if_icmp .ge 62, 3) := by decide +kernel
theorem dX12_partsLaid_12 : decode cX12_partsLaid 12 = .ok (.aload_n 0, 1) := by decide +kernel
theorem dX12_partsLaid_13 : decode cX12_partsLaid 13 = .ok (.getfield 262, 3) := by decide +kernel
theorem dX12_partsLaid_16 : decode cX12_partsLaid 16 = .ok (.ifCond .ne 55, 3) := by decide +kernel
theorem dX12_partsLaid_19 : decode cX12_partsLaid 19 = .ok (.aload_n 0, 1) := by decide +kernel
theorem dX12_partsLaid_20 : decode cX12_partsLaid 20 = .ok (.iconst 4, 1) := by decide +kernel
theorem dX12_partsLaid_21 : decode cX12_partsLaid 21 = .ok (.iload_n 1, 1) := by decide +kernel
theorem dX12_partsLaid_22 : decode cX12_partsLaid 22 = .ok (.aload_n 0, 1) := by decide +kernel
theorem dX12_partsLaid_23 : decode cX12_partsLaid 23 = .ok (.getfield 220, 3) := by decide +kernel
theorem dX12_partsLaid_26 : decode cX12_partsLaid 26 = .ok (.iload_n 1, 1) := by decide +kernel
theorem dX12_partsLaid_27 : decode cX12_partsLaid 27 = .ok (.iaload, 1) := by decide +kernel
theorem dX12_partsLaid_28 : decode cX12_partsLaid 28 = .ok (.iload_n 2, 1) := by decide +kernel
theorem dX12_partsLaid_29 : decode cX12_partsLaid 29 = .ok (.invokevirtual 580, 3) := by decide +kernel
theorem dX12_partsLaid_32 : decode cX12_partsLaid 32 = .ok (.istore 4, 2) := by decide +kernel
theorem dX12_partsLaid_34 : decode cX12_partsLaid 34 = .ok (.aload_n 0, 1) := by decide +kernel
theorem dX12_partsLaid_35 : decode cX12_partsLaid 35 = .ok (.getfield 262, 3) := by decide +kernel
theorem dX12_partsLaid_38 : decode cX12_partsLaid 38 = .ok (.ifCond .eq 4, 3) := by decide +kernel
theorem dX12_partsLaid_41 : decode cX12_partsLaid 41 = .ok (.return_, 1) := by decide +kernel
theorem dX12_partsLaid_42 : decode cX12_partsLaid 42 = .ok (.aload_n 0, 1) := by decide +kernel
theorem dX12_partsLaid_43 : decode cX12_partsLaid 43 = .ok (.getfield 223, 3) := by decide +kernel
theorem dX12_partsLaid_46 : decode cX12_partsLaid 46 = .ok (.iload 4, 2) := by decide +kernel
theorem dX12_partsLaid_48 : decode cX12_partsLaid 48 = .ok (.aload_n 0, 1) := by decide +kernel
theorem dX12_partsLaid_49 : decode cX12_partsLaid 49 = .ok (.getfield 223, 3) := by decide +kernel
theorem dX12_partsLaid_52 : decode cX12_partsLaid 52 = .ok (.iload_n 1, 1) := by decide +kernel
theorem dX12_partsLaid_53 : decode cX12_partsLaid 53 = .ok (.iaload, 1) := by decide +kernel
theorem dX12_partsLaid_54 : decode cX12_partsLaid 54 = .ok (.iastore, 1) := by decide +kernel
theorem dX12_partsLaid_55 : decode cX12_partsLaid 55 = .ok (.aload_n 0, 1) := by decide +kernel
theorem dX12_partsLaid_56 : decode cX12_partsLaid 56 = .ok (.getfield 241, 3) := by decide +kernel
theorem dX12_partsLaid_59 : decode cX12_partsLaid 59 = .ok (.iload 4, 2) := by decide +kernel
theorem dX12_partsLaid_61 : decode cX12_partsLaid 61 = .ok (.iload_n 3, 1) := by decide +kernel
theorem dX12_partsLaid_62 : decode cX12_partsLaid 62 = .ok (.iconst 1, 1) := by decide +kernel
theorem dX12_partsLaid_63 : decode cX12_partsLaid 63 = .ok (.iadd, 1) := by decide +kernel
theorem dX12_partsLaid_64 : decode cX12_partsLaid 64 = .ok (.iastore, 1) := by decide +kernel
theorem dX12_partsLaid_65 : decode cX12_partsLaid 65 = .ok (.iinc 3 1, 3) := by decide +kernel
theorem dX12_partsLaid_68 : decode cX12_partsLaid 68 = .ok (.goto (-66), 3) := by decide +kernel
theorem dX12_partsLaid_71 : decode cX12_partsLaid 71 = .ok (.return_, 1) := by decide +kernel
theorem dX12_plain_0 : decode cX12_plain 0 = .ok (.iload_n 1, 1) := by decide +kernel
theorem dX12_plain_1 : decode cX12_plain 1 = .ok (.ifCond .lt 32, 3) := by decide +kernel
theorem dX12_plain_4 : decode cX12_plain 4 = .ok (.aload_n 0, 1) := by decide +kernel
theorem dX12_plain_5 : decode cX12_plain 5 = .ok (.getfield 140, 3) := by decide +kernel
theorem dX12_plain_8 : decode cX12_plain 8 = .ok (.iload_n 1, 1) := by decide +kernel
theorem dX12_plain_9 : decode cX12_plain 9 = .ok (.iaload, 1) := by decide +kernel
theorem dX12_plain_10 : decode cX12_plain 10 = .ok (.ifCond .ne 23, 3) := by decide +kernel
theorem dX12_plain_13 : decode cX12_plain 13 = .ok (.aload_n 0, 1) := by decide +kernel
theorem dX12_plain_14 : decode cX12_plain 14 = .ok (.getfield 149, 3) := by decide +kernel
theorem dX12_plain_17 : decode cX12_plain 17 = .ok (.iload_n 1, 1) := by decide +kernel
theorem dX12_plain_18 : decode cX12_plain 18 = .ok (.laload, 1) := by decide +kernel
theorem dX12_plain_19 : decode cX12_plain 19 = .ok (.lload_n 2, 1) := by decide +kernel
theorem dX12_plain_20 : decode cX12_plain 20 = .ok (.lcmp, 1) := by decide +kernel
theorem dX12_plain_21 : decode cX12_plain 21 = .ok (.ifCond .gt 12, 3) := by decide +kernel
theorem dX12_plain_24 : decode cX12_plain 24 = .ok (.aload_n 0, 1) := by decide +kernel
theorem dX12_plain_25 : decode cX12_plain 25 = .ok (.getfield 149, 3) := by decide +kernel
theorem dX12_plain_28 : decode cX12_plain 28 = .ok (.iload_n 1, 1) := by decide +kernel
theorem dX12_plain_29 : decode cX12_plain 29 = .ok (.laload, 1) := by decide +kernel
theorem dX12_plain_30 : decode cX12_plain 30 = .ok (.goto 6, 3) := by decide +kernel
theorem dX12_plain_33 : decode cX12_plain 33 = .ok (.ldc2_w 521, 3) := by decide +kernel
theorem dX12_plain_36 : decode cX12_plain 36 = .ok (.lreturn, 1) := by decide +kernel
theorem dX12_pointed_0 : decode cX12_pointed 0 = .ok (.aload_n 0, 1) := by decide +kernel
theorem dX12_pointed_1 : decode cX12_pointed 1 = .ok (.iload_n 1, 1) := by decide +kernel
theorem dX12_pointed_2 : decode cX12_pointed 2 = .ok (.invokevirtual 643, 3) := by decide +kernel
theorem dX12_pointed_5 : decode cX12_pointed 5 = .ok (.aload_n 0, 1) := by decide +kernel
theorem dX12_pointed_6 : decode cX12_pointed 6 = .ok (.getfield 119, 3) := by decide +kernel
theorem dX12_pointed_9 : decode cX12_pointed 9 = .ok (.iload_n 2, 1) := by decide +kernel
theorem dX12_pointed_10 : decode cX12_pointed 10 = .ok (.iaload, 1) := by decide +kernel
theorem dX12_pointed_11 : decode cX12_pointed 11 = .ok (.i2l, 1) := by decide +kernel
theorem dX12_pointed_12 : decode cX12_pointed 12 = .ok (.lmul, 1) := by decide +kernel
theorem dX12_pointed_13 : decode cX12_pointed 13 = .ok (.lstore 4, 2) := by decide +kernel
theorem dX12_pointed_15 : decode cX12_pointed 15 = .ok (.aload_n 0, 1) := by decide +kernel
theorem dX12_pointed_16 : decode cX12_pointed 16 = .ok (.getfield 113, 3) := by decide +kernel
theorem dX12_pointed_19 : decode cX12_pointed 19 = .ok (.iload_n 2, 1) := by decide +kernel
theorem dX12_pointed_20 : decode cX12_pointed 20 = .ok (.iaload, 1) := by decide +kernel
theorem dX12_pointed_21 : decode cX12_pointed 21 = .ok (.ifCond .lt 40, 3) := by decide +kernel
theorem dX12_pointed_24 : decode cX12_pointed 24 = .ok (.lload 4, 2) := by decide +kernel
theorem dX12_pointed_26 : decode cX12_pointed 26 = .ok (.aload_n 0, 1) := by decide +kernel
theorem dX12_pointed_27 : decode cX12_pointed 27 = .ok (.aload_n 0, 1) := by decide +kernel
theorem dX12_pointed_28 : decode cX12_pointed 28 = .ok (.getfield 113, 3) := by decide +kernel
theorem dX12_pointed_31 : decode cX12_pointed 31 = .ok (.iload_n 2, 1) := by decide +kernel
theorem dX12_pointed_32 : decode cX12_pointed 32 = .ok (.iaload, 1) := by decide +kernel
theorem dX12_pointed_33 : decode cX12_pointed 33 = .ok (.iload_n 3, 1) := by decide +kernel
theorem dX12_pointed_34 : decode cX12_pointed 34 = .ok (.aload_n 0, 1) := by decide +kernel
theorem dX12_pointed_35 : decode cX12_pointed 35 = .ok (.getfield 220, 3) := by decide +kernel
theorem dX12_pointed_38 : decode cX12_pointed 38 = .ok (.iload_n 1, 1) := by decide +kernel
theorem dX12_pointed_39 : decode cX12_pointed 39 = .ok (.iaload, 1) := by decide +kernel
theorem dX12_pointed_40 : decode cX12_pointed 40 = .ok (.invokevirtual 608, 3) := by decide +kernel
theorem dX12_pointed_43 : decode cX12_pointed 43 = .ok (.ladd, 1) := by decide +kernel
theorem dX12_pointed_44 : decode cX12_pointed 44 = .ok (.lstore 4, 2) := by decide +kernel
theorem dX12_pointed_46 : decode cX12_pointed 46 = .ok (.aload_n 0, 1) := by decide +kernel
theorem dX12_pointed_47 : decode cX12_pointed 47 = .ok (.getfield 274, 3) := by decide +kernel
theorem dX12_pointed_50 : decode cX12_pointed 50 = .ok (.ifCond .eq 11, 3) := by decide +kernel
theorem dX12_pointed_53 : decode cX12_pointed 53 = .ok (.aload_n 0, 1) := by decide +kernel
theorem dX12_pointed_54 : decode cX12_pointed 54 = .ok (.iload_n 1, 1) := by decide +kernel
theorem dX12_pointed_55 : decode cX12_pointed 55 = .ok (.bipush 6, 2) := by decide +kernel
theorem dX12_pointed_57 : decode cX12_pointed 57 = .ok (.invokevirtual 577, 3) := by decide +kernel
theorem dX12_pointed_60 : decode cX12_pointed 60 = .ok (.return_, 1) := by decide +kernel
theorem dX12_pointed_61 : decode cX12_pointed 61 = .ok (.lload 4, 2) := by decide +kernel
theorem dX12_pointed_63 : decode cX12_pointed 63 = .ok (.lconst 0, 1) := by decide +kernel
theorem dX12_pointed_64 : decode cX12_pointed 64 = .ok (.lcmp, 1) := by decide +kernel
theorem dX12_pointed_65 : decode cX12_pointed 65 = .ok (.ifCond .lt 19, 3) := by decide +kernel
theorem dX12_pointed_68 : decode cX12_pointed 68 = .ok (.lload 4, 2) := by decide +kernel
theorem dX12_pointed_70 : decode cX12_pointed 70 = .ok (.aload_n 0, 1) := by decide +kernel
theorem dX12_pointed_71 : decode cX12_pointed 71 = .ok (.getfield 13, 3) := by decide +kernel
theorem dX12_pointed_74 : decode cX12_pointed 74 = .ok (.aload_n 0, 1) := by decide +kernel
theorem dX12_pointed_75 : decode cX12_pointed 75 = .ok (.getfield 259, 3) := by decide +kernel
theorem dX12_pointed_78 : decode cX12_pointed 78 = .ok (.iaload, 1) := by decide +kernel
theorem dX12_pointed_79 : decode cX12_pointed 79 = .ok (.i2l, 1) := by decide +kernel
theorem dX12_pointed_80 : decode cX12_pointed 80 = .ok (.lcmp, 1) := by decide +kernel
theorem dX12_pointed_81 : decode cX12_pointed 81 = .ok (.ifCond .lt 11, 3) := by decide +kernel
theorem dX12_pointed_84 : decode cX12_pointed 84 = .ok (.aload_n 0, 1) := by decide +kernel
theorem dX12_pointed_85 : decode cX12_pointed 85 = .ok (.iload_n 1, 1) := by decide +kernel
theorem dX12_pointed_86 : decode cX12_pointed 86 = .ok (.bipush 8, 2) := by decide +kernel
theorem dX12_pointed_88 : decode cX12_pointed 88 = .ok (.invokevirtual 577, 3) := by decide +kernel
theorem dX12_pointed_91 : decode cX12_pointed 91 = .ok (.return_, 1) := by decide +kernel
theorem dX12_pointed_92 : decode cX12_pointed 92 = .ok (.aload_n 0, 1) := by decide +kernel
theorem dX12_pointed_93 : decode cX12_pointed 93 = .ok (.getfield 226, 3) := by decide +kernel
theorem dX12_pointed_96 : decode cX12_pointed 96 = .ok (.iload_n 1, 1) := by decide +kernel
theorem dX12_pointed_97 : decode cX12_pointed 97 = .ok (.iaload, 1) := by decide +kernel
theorem dX12_pointed_98 : decode cX12_pointed 98 = .ok (.istore 6, 2) := by decide +kernel
theorem dX12_pointed_100 : decode cX12_pointed 100 = .ok (.iload 6, 2) := by decide +kernel
theorem dX12_pointed_102 : decode cX12_pointed 102 = .ok (.ifCond .lt 62, 3) := by decide +kernel
theorem dX12_pointed_105 : decode cX12_pointed 105 = .ok (.aload_n 0, 1) := by decide +kernel
theorem dX12_pointed_106 : decode cX12_pointed 106 = .ok (.getfield 217, 3) := by decide +kernel
theorem dX12_pointed_109 : decode cX12_pointed 109 = .ok (.iload 6, 2) := by decide +kernel
theorem dX12_pointed_111 : decode cX12_pointed 111 = .ok (.iaload, 1) := by decide +kernel
theorem dX12_pointed_112 : decode cX12_pointed 112 = .ok (.ifCond .ne 40, 3) := by decide +kernel
theorem dX12_pointed_115 : decode cX12_pointed 115 = .ok (.aload_n 0, 1) := by decide +kernel
theorem dX12_pointed_116 : decode cX12_pointed 116 = .ok (.getfield 235, 3) := by decide +kernel
theorem dX12_pointed_119 : decode cX12_pointed 119 = .ok (.iload 6, 2) := by decide +kernel
theorem dX12_pointed_121 : decode cX12_pointed 121 = .ok (.iaload, 1) := by decide +kernel
theorem dX12_pointed_122 : decode cX12_pointed 122 = .ok (.aload_n 0, 1) := by decide +kernel
theorem dX12_pointed_123 : decode cX12_pointed 123 = .ok (.getfield 107, 3) := by decide +kernel
theorem dX12_pointed_126 : decode cX12_pointed 126 = .ok (.iload_n 2, 1) := by decide +kernel
theorem dX12_pointed_127 : decode cX12_pointed 127 = .ok (.iaload, 1) := by decide +kernel
theorem dX12_pointed_128 : decode cX12_pointed 128 = .ok (.if_icmp .ne 24, 3) := by decide +kernel
theorem dX12_pointed_131 : decode cX12_pointed 131 = .ok (.aload_n 0, 1) := by decide +kernel
theorem dX12_pointed_132 : decode cX12_pointed 132 = .ok (.getfield 220, 3) := by decide +kernel
theorem dX12_pointed_135 : decode cX12_pointed 135 = .ok (.iload 6, 2) := by decide +kernel
theorem dX12_pointed_137 : decode cX12_pointed 137 = .ok (.iaload, 1) := by decide +kernel
theorem dX12_pointed_138 : decode cX12_pointed 138 = .ok (.i2l, 1) := by decide +kernel
theorem dX12_pointed_139 : decode cX12_pointed 139 = .ok (.lload 4, 2) := by decide +kernel
theorem dX12_pointed_141 : decode cX12_pointed 141 = .ok (.lcmp, 1) := by decide +kernel
theorem dX12_pointed_142 : decode cX12_pointed 142 = .ok (.ifCond .ne 10, 3) := by decide +kernel
theorem dX12_pointed_145 : decode cX12_pointed 145 = .ok (.aload_n 0, 1) := by decide +kernel
theorem dX12_pointed_146 : decode cX12_pointed 146 = .ok (.getfield 253, 3) := by decide +kernel
theorem dX12_pointed_149 : decode cX12_pointed 149 = .ok (.iload_n 1, 1) := by decide +kernel
theorem dX12_pointed_150 : decode cX12_pointed 150 = .ok (.iconst 1, 1) := by decide +kernel
theorem dX12_pointed_151 : decode cX12_pointed 151 = .ok (.bastore, 1) := by decide +kernel
theorem dX12_pointed_152 : decode cX12_pointed 152 = .ok (.aload_n 0, 1) := by decide +kernel
theorem dX12_pointed_153 : decode cX12_pointed 153 = .ok (.getfield 226, 3) := by decide +kernel
theorem dX12_pointed_156 : decode cX12_pointed 156 = .ok (.iload 6, 2) := by decide +kernel
theorem dX12_pointed_158 : decode cX12_pointed 158 = .ok (.iaload, 1) := by decide +kernel
theorem dX12_pointed_159 : decode cX12_pointed 159 = .ok (.istore 6, 2) := by decide +kernel
theorem dX12_pointed_161 : decode cX12_pointed 161 = .ok (.goto (-61), 3) := by decide +kernel
theorem dX12_pointed_164 : decode cX12_pointed 164 = .ok (.aload_n 0, 1) := by decide +kernel
theorem dX12_pointed_165 : decode cX12_pointed 165 = .ok (.getfield 253, 3) := by decide +kernel
theorem dX12_pointed_168 : decode cX12_pointed 168 = .ok (.iload_n 1, 1) := by decide +kernel
theorem dX12_pointed_169 : decode cX12_pointed 169 = .ok (.baload, 1) := by decide +kernel
theorem dX12_pointed_170 : decode cX12_pointed 170 = .ok (.ifCond .eq 4, 3) := by decide +kernel
theorem dX12_pointed_173 : decode cX12_pointed 173 = .ok (.return_, 1) := by decide +kernel
theorem dX12_pointed_174 : decode cX12_pointed 174 = .ok (.aload_n 0, 1) := by decide +kernel
theorem dX12_pointed_175 : decode cX12_pointed 175 = .ok (.iload_n 1, 1) := by decide +kernel
theorem dX12_pointed_176 : decode cX12_pointed 176 = .ok (.iconst 0, 1) := by decide +kernel
theorem dX12_pointed_177 : decode cX12_pointed 177 = .ok (.invokevirtual 587, 3) := by decide +kernel
theorem dX12_pointed_180 : decode cX12_pointed 180 = .ok (.aload_n 0, 1) := by decide +kernel
theorem dX12_pointed_181 : decode cX12_pointed 181 = .ok (.aload_n 0, 1) := by decide +kernel
theorem dX12_pointed_182 : decode cX12_pointed 182 = .ok (.getfield 107, 3) := by decide +kernel
theorem dX12_pointed_185 : decode cX12_pointed 185 = .ok (.iload_n 2, 1) := by decide +kernel
theorem dX12_pointed_186 : decode cX12_pointed 186 = .ok (.iaload, 1) := by decide +kernel
theorem dX12_pointed_187 : decode cX12_pointed 187 = .ok (.iload_n 1, 1) := by decide +kernel
theorem dX12_pointed_188 : decode cX12_pointed 188 = .ok (.lload 4, 2) := by decide +kernel
theorem dX12_pointed_190 : decode cX12_pointed 190 = .ok (.l2i, 1) := by decide +kernel
theorem dX12_pointed_191 : decode cX12_pointed 191 = .ok (.iconst (-1), 1) := by decide +kernel
theorem dX12_pointed_192 : decode cX12_pointed 192 = .ok (.invokevirtual 590, 3) := by decide +kernel
theorem dX12_pointed_195 : decode cX12_pointed 195 = .ok (.return_, 1) := by decide +kernel
theorem dX12_poke_0 : decode cX12_poke 0 = .ok (.aload_n 0, 1) := by decide +kernel
theorem dX12_poke_1 : decode cX12_poke 1 = .ok (.iload_n 1, 1) := by decide +kernel
theorem dX12_poke_2 : decode cX12_poke 2 = .ok (.invokevirtual 293, 3) := by decide +kernel
theorem dX12_poke_5 : decode cX12_poke 5 = .ok (.ifCond .eq 17, 3) := by decide +kernel
theorem dX12_poke_8 : decode cX12_poke 8 = .ok (.iload_n 2, 1) := by decide +kernel
theorem dX12_poke_9 : decode cX12_poke 9 = .ok (.ifCond .lt 13, 3) := by decide +kernel
theorem dX12_poke_12 : decode cX12_poke 12 = .ok (.iload_n 2, 1) := by decide +kernel
theorem dX12_poke_13 : decode cX12_poke 13 = .ok (.aload_n 0, 1) := by decide +kernel
theorem dX12_poke_14 : decode cX12_poke 14 = .ok (.getfield 13, 3) := by decide +kernel
theorem dX12_poke_17 : decode cX12_poke 17 = .ok (.iload_n 1, 1) := by decide +kernel
theorem dX12_poke_18 : decode cX12_poke 18 = .ok (.iaload, 1) := by decide +kernel
theorem dX12_poke_19 : decode cX12_poke 19 = .ok (.if_icmp .lt 5, 3) := by decide +kernel
theorem dX12_poke_22 : decode cX12_poke 22 = .ok (.iconst (-1), 1) := by decide +kernel
theorem dX12_poke_23 : decode cX12_poke 23 = .ok (.ireturn, 1) := by decide +kernel
theorem dX12_poke_24 : decode cX12_poke 24 = .ok (.iload_n 3, 1) := by decide +kernel
theorem dX12_poke_25 : decode cX12_poke 25 = .ok (.ifCond .lt 10, 3) := by decide +kernel
theorem dX12_poke_28 : decode cX12_poke 28 = .ok (.iload_n 3, 1) := by decide +kernel
theorem dX12_poke_29 : decode cX12_poke 29 = .ok (.sipush 255, 3) := by decide +kernel
theorem dX12_poke_32 : decode cX12_poke 32 = .ok (.if_icmp .le 6, 3) := by decide +kernel
theorem dX12_poke_35 : decode cX12_poke 35 = .ok (.bipush (-3), 2) := by decide +kernel
theorem dX12_poke_37 : decode cX12_poke 37 = .ok (.ireturn, 1) := by decide +kernel
theorem dX12_poke_38 : decode cX12_poke 38 = .ok (.aload_n 0, 1) := by decide +kernel
theorem dX12_poke_39 : decode cX12_poke 39 = .ok (.iload_n 1, 1) := by decide +kernel
theorem dX12_poke_40 : decode cX12_poke 40 = .ok (.iload_n 2, 1) := by decide +kernel
theorem dX12_poke_41 : decode cX12_poke 41 = .ok (.invokevirtual 299, 3) := by decide +kernel
theorem dX12_poke_44 : decode cX12_poke 44 = .ok (.istore 4, 2) := by decide +kernel
theorem dX12_poke_46 : decode cX12_poke 46 = .ok (.aload_n 0, 1) := by decide +kernel
theorem dX12_poke_47 : decode cX12_poke 47 = .ok (.getfield 39, 3) := by decide +kernel
theorem dX12_poke_50 : decode cX12_poke 50 = .ok (.iconst 0, 1) := by decide +kernel
theorem dX12_poke_51 : decode cX12_poke 51 = .ok (.iload_n 3, 1) := by decide +kernel
theorem dX12_poke_52 : decode cX12_poke 52 = .ok (.iastore, 1) := by decide +kernel
theorem dX12_poke_53 : decode cX12_poke 53 = .ok (.aload_n 0, 1) := by decide +kernel
theorem dX12_poke_54 : decode cX12_poke 54 = .ok (.iload_n 1, 1) := by decide +kernel
theorem dX12_poke_55 : decode cX12_poke 55 = .ok (.iload_n 2, 1) := by decide +kernel
theorem dX12_poke_56 : decode cX12_poke 56 = .ok (.iconst 1, 1) := by decide +kernel
theorem dX12_poke_57 : decode cX12_poke 57 = .ok (.invokevirtual 307, 3) := by decide +kernel
theorem dX12_poke_60 : decode cX12_poke 60 = .ok (.iload 4, 2) := by decide +kernel
theorem dX12_poke_62 : decode cX12_poke 62 = .ok (.ireturn, 1) := by decide +kernel
theorem dX12_push_0 : decode cX12_push 0 = .ok (.aload_n 0, 1) := by decide +kernel
theorem dX12_push_1 : decode cX12_push 1 = .ok (.iload_n 1, 1) := by decide +kernel
theorem dX12_push_2 : decode cX12_push 2 = .ok (.invokevirtual 293, 3) := by decide +kernel
theorem dX12_push_5 : decode cX12_push 5 = .ok (.ifCond .ne 5, 3) := by decide +kernel
theorem dX12_push_8 : decode cX12_push 8 = .ok (.iconst (-1), 1) := by decide +kernel
theorem dX12_push_9 : decode cX12_push 9 = .ok (.ireturn, 1) := by decide +kernel
theorem dX12_push_10 : decode cX12_push 10 = .ok (.aload_n 0, 1) := by decide +kernel
theorem dX12_push_11 : decode cX12_push 11 = .ok (.getfield 17, 3) := by decide +kernel
theorem dX12_push_14 : decode cX12_push 14 = .ok (.iload_n 1, 1) := by decide +kernel
theorem dX12_push_15 : decode cX12_push 15 = .ok (.iaload, 1) := by decide +kernel
theorem dX12_push_16 : decode cX12_push 16 = .ok (.ifCond .le 6, 3) := by decide +kernel
theorem dX12_push_19 : decode cX12_push 19 = .ok (.bipush (-7), 2) := by decide +kernel
theorem dX12_push_21 : decode cX12_push 21 = .ok (.ireturn, 1) := by decide +kernel
theorem dX12_push_22 : decode cX12_push 22 = .ok (.iload 4, 2) := by decide +kernel
theorem dX12_push_24 : decode cX12_push 24 = .ok (.iconst 1, 1) := by decide +kernel
theorem dX12_push_25 : decode cX12_push 25 = .ok (.if_icmp .lt 10, 3) := by decide +kernel
theorem dX12_push_28 : decode cX12_push 28 = .ok (.iload 4, 2) := by decide +kernel
theorem dX12_push_30 : decode cX12_push 30 = .ok (.bipush 8, 2) := by decide +kernel
theorem dX12_push_32 : decode cX12_push 32 = .ok (.if_icmp .le 6, 3) := by decide +kernel
theorem dX12_push_35 : decode cX12_push 35 = .ok (.bipush (-3), 2) := by decide +kernel
theorem dX12_push_37 : decode cX12_push 37 = .ok (.ireturn, 1) := by decide +kernel
theorem dX12_push_38 : decode cX12_push 38 = .ok (.aload_n 0, 1) := by decide +kernel
theorem dX12_push_39 : decode cX12_push 39 = .ok (.getfield 13, 3) := by decide +kernel
theorem dX12_push_42 : decode cX12_push 42 = .ok (.iload_n 1, 1) := by decide +kernel
theorem dX12_push_43 : decode cX12_push 43 = .ok (.iaload, 1) := by decide +kernel
theorem dX12_push_44 : decode cX12_push 44 = .ok (.iload 4, 2) := by decide +kernel
theorem dX12_push_46 : decode cX12_push 46 = .ok (.iadd, 1) := by decide +kernel
theorem dX12_push_47 : decode cX12_push 47 = .ok (.sipush 2000, 3) := by decide +kernel
theorem dX12_push_50 : decode cX12_push 50 = .ok (.if_icmp .le 6, 3) := by decide +kernel
theorem dX12_push_53 : decode cX12_push 53 = .ok (.bipush (-2), 2) := by decide +kernel
theorem dX12_push_55 : decode cX12_push 55 = .ok (.ireturn, 1) := by decide +kernel
theorem dX12_push_56 : decode cX12_push 56 = .ok (.iload 4, 2) := by decide +kernel
theorem dX12_push_58 : decode cX12_push 58 = .ok (.iconst 1, 1) := by decide +kernel
theorem dX12_push_59 : decode cX12_push 59 = .ok (.isub, 1) := by decide +kernel
theorem dX12_push_60 : decode cX12_push 60 = .ok (.istore 5, 2) := by decide +kernel
theorem dX12_push_62 : decode cX12_push 62 = .ok (.iload 5, 2) := by decide +kernel
theorem dX12_push_64 : decode cX12_push 64 = .ok (.ifCond .lt 48, 3) := by decide +kernel
theorem dX12_push_67 : decode cX12_push 67 = .ok (.aload_n 0, 1) := by decide +kernel
theorem dX12_push_68 : decode cX12_push 68 = .ok (.getfield 20, 3) := by decide +kernel
theorem dX12_push_71 : decode cX12_push 71 = .ok (.sipush 2000, 3) := by decide +kernel
theorem dX12_push_74 : decode cX12_push 74 = .ok (.iload_n 1, 1) := by decide +kernel
theorem dX12_push_75 : decode cX12_push 75 = .ok (.imul, 1) := by decide +kernel
theorem dX12_push_76 : decode cX12_push 76 = .ok (.aload_n 0, 1) := by decide +kernel
theorem dX12_push_77 : decode cX12_push 77 = .ok (.getfield 13, 3) := by decide +kernel
theorem dX12_push_80 : decode cX12_push 80 = .ok (.iload_n 1, 1) := by decide +kernel
theorem dX12_push_81 : decode cX12_push 81 = .ok (.iaload, 1) := by decide +kernel
theorem dX12_push_82 : decode cX12_push 82 = .ok (.iadd, 1) := by decide +kernel
theorem dX12_push_83 : decode cX12_push 83 = .ok (.lload_n 2, 1) := by decide +kernel
theorem dX12_push_84 : decode cX12_push 84 = .ok (.bipush 8, 2) := by decide +kernel
theorem dX12_push_86 : decode cX12_push 86 = .ok (.iload 5, 2) := by decide +kernel
theorem dX12_push_88 : decode cX12_push 88 = .ok (.imul, 1) := by decide +kernel
theorem dX12_push_89 : decode cX12_push 89 = .ok (.lshr, 1) := by decide +kernel
theorem dX12_push_90 : decode cX12_push 90 = .ok (.ldc2_w 297, 3) := by decide +kernel
theorem dX12_push_93 : decode cX12_push 93 = .ok (.land, 1) := by decide +kernel
theorem dX12_push_94 : decode cX12_push 94 = .ok (.l2i, 1) := by decide +kernel
theorem dX12_push_95 : decode cX12_push 95 = .ok (.iastore, 1) := by decide +kernel
theorem dX12_push_96 : decode cX12_push 96 = .ok (.aload_n 0, 1) := by decide +kernel
theorem dX12_push_97 : decode cX12_push 97 = .ok (.getfield 13, 3) := by decide +kernel
theorem dX12_push_100 : decode cX12_push 100 = .ok (.iload_n 1, 1) := by decide +kernel
theorem dX12_push_101 : decode cX12_push 101 = .ok (.dup2, 1) := by decide +kernel
theorem dX12_push_102 : decode cX12_push 102 = .ok (.iaload, 1) := by decide +kernel
theorem dX12_push_103 : decode cX12_push 103 = .ok (.iconst 1, 1) := by decide +kernel
theorem dX12_push_104 : decode cX12_push 104 = .ok (.iadd, 1) := by decide +kernel
theorem dX12_push_105 : decode cX12_push 105 = .ok (.iastore, 1) := by decide +kernel
theorem dX12_push_106 : decode cX12_push 106 = .ok (.iinc 5 (-1), 3) := by decide +kernel
theorem dX12_push_109 : decode cX12_push 109 = .ok (.goto (-47), 3) := by decide +kernel
theorem dX12_push_112 : decode cX12_push 112 = .ok (.aload_n 0, 1) := by decide +kernel
theorem dX12_push_113 : decode cX12_push 113 = .ok (.getfield 13, 3) := by decide +kernel
theorem dX12_push_116 : decode cX12_push 116 = .ok (.iload_n 1, 1) := by decide +kernel
theorem dX12_push_117 : decode cX12_push 117 = .ok (.iaload, 1) := by decide +kernel
theorem dX12_push_118 : decode cX12_push 118 = .ok (.ireturn, 1) := by decide +kernel
theorem dX12_put_0 : decode cX12_put 0 = .ok (.iload 4, 2) := by decide +kernel
theorem dX12_put_2 : decode cX12_put 2 = .ok (.bipush 15, 2) := by decide +kernel
theorem dX12_put_4 : decode cX12_put 4 = .ok (.iand, 1) := by decide +kernel
theorem dX12_put_5 : decode cX12_put 5 = .ok (.istore 5, 2) := by decide +kernel
theorem dX12_put_7 : decode cX12_put 7 = .ok (.iconst 0, 1) := by decide +kernel
theorem dX12_put_8 : decode cX12_put 8 = .ok (.istore 6, 2) := by decide +kernel
theorem dX12_put_10 : decode cX12_put 10 = .ok (.iload 6, 2) := by decide +kernel
theorem dX12_put_12 : decode cX12_put 12 = .ok (.iload 5, 2) := by decide +kernel
theorem dX12_put_14 : decode cX12_put 14 = .ok (.if_icmp .ge 46, 3) := by decide +kernel
theorem dX12_put_17 : decode cX12_put 17 = .ok (.aload_n 0, 1) := by decide +kernel
theorem dX12_put_18 : decode cX12_put 18 = .ok (.getfield 39, 3) := by decide +kernel
theorem dX12_put_21 : decode cX12_put 21 = .ok (.iload 4, 2) := by decide +kernel
theorem dX12_put_23 : decode cX12_put 23 = .ok (.bipush 32, 2) := by decide +kernel
theorem dX12_put_25 : decode cX12_put 25 = .ok (.iand, 1) := by decide +kernel
theorem dX12_put_26 : decode cX12_put 26 = .ok (.ifCond .le 13, 3) := by decide +kernel
theorem dX12_put_29 : decode cX12_put 29 = .ok (.iload 5, 2) := by decide +kernel
theorem dX12_put_31 : decode cX12_put 31 = .ok (.iconst 1, 1) := by decide +kernel
theorem dX12_put_32 : decode cX12_put 32 = .ok (.isub, 1) := by decide +kernel
theorem dX12_put_33 : decode cX12_put 33 = .ok (.iload 6, 2) := by decide +kernel
theorem dX12_put_35 : decode cX12_put 35 = .ok (.isub, 1) := by decide +kernel
theorem dX12_put_36 : decode cX12_put 36 = .ok (.goto 5, 3) := by decide +kernel
theorem dX12_put_39 : decode cX12_put 39 = .ok (.iload 6, 2) := by decide +kernel
theorem dX12_put_41 : decode cX12_put 41 = .ok (.lload_n 2, 1) := by decide +kernel
theorem dX12_put_42 : decode cX12_put 42 = .ok (.bipush 8, 2) := by decide +kernel
theorem dX12_put_44 : decode cX12_put 44 = .ok (.iload 6, 2) := by decide +kernel
theorem dX12_put_46 : decode cX12_put 46 = .ok (.imul, 1) := by decide +kernel
theorem dX12_put_47 : decode cX12_put 47 = .ok (.lshr, 1) := by decide +kernel
theorem dX12_put_48 : decode cX12_put 48 = .ok (.ldc2_w 297, 3) := by decide +kernel
theorem dX12_put_51 : decode cX12_put 51 = .ok (.land, 1) := by decide +kernel
theorem dX12_put_52 : decode cX12_put 52 = .ok (.l2i, 1) := by decide +kernel
theorem dX12_put_53 : decode cX12_put 53 = .ok (.iastore, 1) := by decide +kernel
theorem dX12_put_54 : decode cX12_put 54 = .ok (.iinc 6 1, 3) := by decide +kernel
theorem dX12_put_57 : decode cX12_put 57 = .ok (.goto (-47), 3) := by decide +kernel
theorem dX12_put_60 : decode cX12_put 60 = .ok (.aload_n 0, 1) := by decide +kernel
theorem dX12_put_61 : decode cX12_put 61 = .ok (.aload_n 0, 1) := by decide +kernel
theorem dX12_put_62 : decode cX12_put 62 = .ok (.getfield 259, 3) := by decide +kernel
theorem dX12_put_65 : decode cX12_put 65 = .ok (.iload_n 1, 1) := by decide +kernel
theorem dX12_put_66 : decode cX12_put 66 = .ok (.iload 5, 2) := by decide +kernel
theorem dX12_put_68 : decode cX12_put 68 = .ok (.invokevirtual 307, 3) := by decide +kernel
theorem dX12_put_71 : decode cX12_put 71 = .ok (.return_, 1) := by decide +kernel
