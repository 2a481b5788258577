theorem dX12_untilLaid_0 : decode cX12_untilLaid 0 = .ok (.aload_n 0, 1) := by decide +kernel
theorem dX12_untilLaid_1 : decode cX12_untilLaid 1 = .ok (.getfield 220, 3) := by decide +kernel
theorem dX12_untilLaid_4 : decode cX12_untilLaid 4 = .ok (.iload_n 1, 1) := by decide +kernel
theorem dX12_untilLaid_5 : decode cX12_untilLaid 5 = .ok (.iaload, 1) := by decide +kernel
theorem dX12_untilLaid_6 : decode cX12_untilLaid 6 = .ok (.istore_n 3, 1) := by decide +kernel
theorem dX12_untilLaid_7 : decode cX12_untilLaid 7 = .ok (.iload_n 3, 1) := by decide +kernel
theorem dX12_untilLaid_8 : decode cX12_untilLaid 8 = .ok (.aload_n 0, 1) := by decide +kernel
theorem dX12_untilLaid_9 : decode cX12_untilLaid 9 = .ok (.getfield 13, 3) := by decide +kernel
theorem dX12_untilLaid_12 : decode cX12_untilLaid 12 = .ok (.aload_n 0, 1) := by decide +kernel
theorem dX12_untilLaid_13 : decode cX12_untilLaid 13 = .ok (.getfield 259, 3) := by decide +kernel
theorem dX12_untilLaid_16 : decode cX12_untilLaid 16 = .ok (.iaload, 1) := by decide +kernel
theorem dX12_untilLaid_17 : decode cX12_untilLaid 17 = .ok (.if_icmp .ge 27, 3) := by decide +kernel
theorem dX12_untilLaid_20 : decode cX12_untilLaid 20 = .ok (.aload_n 0, 1) := by decide +kernel
theorem dX12_untilLaid_21 : decode cX12_untilLaid 21 = .ok (.aload_n 0, 1) := by decide +kernel
theorem dX12_untilLaid_22 : decode cX12_untilLaid 22 = .ok (.getfield 259, 3) := by decide +kernel
theorem dX12_untilLaid_25 : decode cX12_untilLaid 25 = .ok (.iload_n 3, 1) := by decide +kernel
theorem dX12_untilLaid_26 : decode cX12_untilLaid 26 = .ok (.invokevirtual 299, 3) := by decide +kernel
theorem dX12_untilLaid_29 : decode cX12_untilLaid 29 = .ok (.aload_n 0, 1) := by decide +kernel
theorem dX12_untilLaid_30 : decode cX12_untilLaid 30 = .ok (.getfield 119, 3) := by decide +kernel
theorem dX12_untilLaid_33 : decode cX12_untilLaid 33 = .ok (.iload_n 2, 1) := by decide +kernel
theorem dX12_untilLaid_34 : decode cX12_untilLaid 34 = .ok (.iaload, 1) := by decide +kernel
theorem dX12_untilLaid_35 : decode cX12_untilLaid 35 = .ok (.if_icmp .eq 9, 3) := by decide +kernel
theorem dX12_untilLaid_38 : decode cX12_untilLaid 38 = .ok (.iinc 3 1, 3) := by decide +kernel
theorem dX12_untilLaid_41 : decode cX12_untilLaid 41 = .ok (.goto (-34), 3) := by decide +kernel
theorem dX12_untilLaid_44 : decode cX12_untilLaid 44 = .ok (.aload_n 0, 1) := by decide +kernel
theorem dX12_untilLaid_45 : decode cX12_untilLaid 45 = .ok (.iload_n 1, 1) := by decide +kernel
theorem dX12_untilLaid_46 : decode cX12_untilLaid 46 = .ok (.iload_n 3, 1) := by decide +kernel
theorem dX12_untilLaid_47 : decode cX12_untilLaid 47 = .ok (.iconst 1, 1) := by decide +kernel
theorem dX12_untilLaid_48 : decode cX12_untilLaid 48 = .ok (.iadd, 1) := by decide +kernel
theorem dX12_untilLaid_49 : decode cX12_untilLaid 49 = .ok (.aload_n 0, 1) := by decide +kernel
theorem dX12_untilLaid_50 : decode cX12_untilLaid 50 = .ok (.getfield 220, 3) := by decide +kernel
theorem dX12_untilLaid_53 : decode cX12_untilLaid 53 = .ok (.iload_n 1, 1) := by decide +kernel
theorem dX12_untilLaid_54 : decode cX12_untilLaid 54 = .ok (.iaload, 1) := by decide +kernel
theorem dX12_untilLaid_55 : decode cX12_untilLaid 55 = .ok (.isub, 1) := by decide +kernel
theorem dX12_untilLaid_56 : decode cX12_untilLaid 56 = .ok (.i2l, 1) := by decide +kernel
theorem dX12_untilLaid_57 : decode cX12_untilLaid 57 = .ok (.invokevirtual 602, 3) := by decide +kernel
theorem dX12_untilLaid_60 : decode cX12_untilLaid 60 = .ok (.ireturn, 1) := by decide +kernel
theorem dX12_uses_0 : decode cX12_uses 0 = .ok (.aload_n 0, 1) := by decide +kernel
theorem dX12_uses_1 : decode cX12_uses 1 = .ok (.iload_n 1, 1) := by decide +kernel
theorem dX12_uses_2 : decode cX12_uses 2 = .ok (.invokevirtual 570, 3) := by decide +kernel
theorem dX12_uses_5 : decode cX12_uses 5 = .ok (.ifCond .eq 11, 3) := by decide +kernel
theorem dX12_uses_8 : decode cX12_uses 8 = .ok (.aload_n 0, 1) := by decide +kernel
theorem dX12_uses_9 : decode cX12_uses 9 = .ok (.iload_n 2, 1) := by decide +kernel
theorem dX12_uses_10 : decode cX12_uses 10 = .ok (.invokevirtual 570, 3) := by decide +kernel
theorem dX12_uses_13 : decode cX12_uses 13 = .ok (.ifCond .ne 5, 3) := by decide +kernel
theorem dX12_uses_16 : decode cX12_uses 16 = .ok (.iconst (-1), 1) := by decide +kernel
theorem dX12_uses_17 : decode cX12_uses 17 = .ok (.ireturn, 1) := by decide +kernel
theorem dX12_uses_18 : decode cX12_uses 18 = .ok (.aload_n 0, 1) := by decide +kernel
theorem dX12_uses_19 : decode cX12_uses 19 = .ok (.aload_n 0, 1) := by decide +kernel
theorem dX12_uses_20 : decode cX12_uses 20 = .ok (.getfield 67, 3) := by decide +kernel
theorem dX12_uses_23 : decode cX12_uses 23 = .ok (.putfield 173, 3) := by decide +kernel
theorem dX12_uses_26 : decode cX12_uses 26 = .ok (.iconst 0, 1) := by decide +kernel
theorem dX12_uses_27 : decode cX12_uses 27 = .ok (.istore_n 3, 1) := by decide +kernel
theorem dX12_uses_28 : decode cX12_uses 28 = .ok (.iload_n 3, 1) := by decide +kernel
theorem dX12_uses_29 : decode cX12_uses 29 = .ok (.bipush 20, 2) := by decide +kernel
theorem dX12_uses_31 : decode cX12_uses 31 = .ok (.if_icmp .ge 16, 3) := by decide +kernel
theorem dX12_uses_34 : decode cX12_uses 34 = .ok (.aload_n 0, 1) := by decide +kernel
theorem dX12_uses_35 : decode cX12_uses 35 = .ok (.getfield 204, 3) := by decide +kernel
theorem dX12_uses_38 : decode cX12_uses 38 = .ok (.iload_n 3, 1) := by decide +kernel
theorem dX12_uses_39 : decode cX12_uses 39 = .ok (.iconst 0, 1) := by decide +kernel
theorem dX12_uses_40 : decode cX12_uses 40 = .ok (.bastore, 1) := by decide +kernel
theorem dX12_uses_41 : decode cX12_uses 41 = .ok (.iinc 3 1, 3) := by decide +kernel
theorem dX12_uses_44 : decode cX12_uses 44 = .ok (.goto (-16), 3) := by decide +kernel
theorem dX12_uses_47 : decode cX12_uses 47 = .ok (.iconst 1, 1) := by decide +kernel
theorem dX12_uses_48 : decode cX12_uses 48 = .ok (.istore_n 3, 1) := by decide +kernel
theorem dX12_uses_49 : decode cX12_uses 49 = .ok (.iload_n 3, 1) := by decide +kernel
theorem dX12_uses_50 : decode cX12_uses 50 = .ok (.ifCond .eq 107, 3) := by decide +kernel
theorem dX12_uses_53 : decode cX12_uses 53 = .ok (.iconst 0, 1) := by decide +kernel
theorem dX12_uses_54 : decode cX12_uses 54 = .ok (.istore_n 3, 1) := by decide +kernel
theorem dX12_uses_55 : decode cX12_uses 55 = .ok (.iconst 0, 1) := by decide +kernel
theorem dX12_uses_56 : decode cX12_uses 56 = .ok (.istore 4, 2) := by decide +kernel
theorem dX12_uses_58 : decode cX12_uses 58 = .ok (.iload 4, 2) := by decide +kernel
theorem dX12_uses_60 : decode cX12_uses 60 = .ok (.aload_n 0, 1) := by decide +kernel
theorem dX12_uses_61 : decode cX12_uses 61 = .ok (.getfield 70, 3) := by decide +kernel
theorem dX12_uses_64 : decode cX12_uses 64 = .ok (.aload_n 0, 1) := by decide +kernel
theorem dX12_uses_65 : decode cX12_uses 65 = .ok (.getfield 67, 3) := by decide +kernel
theorem dX12_uses_68 : decode cX12_uses 68 = .ok (.iaload, 1) := by decide +kernel
theorem dX12_uses_69 : decode cX12_uses 69 = .ok (.if_icmp .ge 85, 3) := by decide +kernel
theorem dX12_uses_72 : decode cX12_uses 72 = .ok (.iload 4, 2) := by decide +kernel
theorem dX12_uses_74 : decode cX12_uses 74 = .ok (.iload_n 1, 1) := by decide +kernel
theorem dX12_uses_75 : decode cX12_uses 75 = .ok (.if_icmp .eq 16, 3) := by decide +kernel
theorem dX12_uses_78 : decode cX12_uses 78 = .ok (.aload_n 0, 1) := by decide +kernel
theorem dX12_uses_79 : decode cX12_uses 79 = .ok (.getfield 204, 3) := by decide +kernel
theorem dX12_uses_82 : decode cX12_uses 82 = .ok (.iload 4, 2) := by decide +kernel
theorem dX12_uses_84 : decode cX12_uses 84 = .ok (.baload, 1) := by decide +kernel
theorem dX12_uses_85 : decode cX12_uses 85 = .ok (.ifCond .ne 6, 3) := by decide +kernel
theorem dX12_uses_88 : decode cX12_uses 88 = .ok (.goto 60, 3) := by decide +kernel
theorem dX12_uses_91 : decode cX12_uses 91 = .ok (.iconst 0, 1) := by decide +kernel
theorem dX12_uses_92 : decode cX12_uses 92 = .ok (.istore 5, 2) := by decide +kernel
theorem dX12_uses_94 : decode cX12_uses 94 = .ok (.iload 5, 2) := by decide +kernel
theorem dX12_uses_96 : decode cX12_uses 96 = .ok (.aload_n 0, 1) := by decide +kernel
theorem dX12_uses_97 : decode cX12_uses 97 = .ok (.getfield 70, 3) := by decide +kernel
theorem dX12_uses_100 : decode cX12_uses 100 = .ok (.aload_n 0, 1) := by decide +kernel
theorem dX12_uses_101 : decode cX12_uses 101 = .ok (.getfield 67, 3) := by decide +kernel
theorem dX12_uses_104 : decode cX12_uses 104 = .ok (.iaload, 1) := by decide +kernel
theorem dX12_uses_105 : decode cX12_uses 105 = .ok (.if_icmp .ge 43, 3) := by decide +kernel
theorem dX12_uses_108 : decode cX12_uses 108 = .ok (.aload_n 0, 1) := by decide +kernel
theorem dX12_uses_109 : decode cX12_uses 109 = .ok (.getfield 204, 3) := by decide +kernel
theorem dX12_uses_112 : decode cX12_uses 112 = .ok (.iload 5, 2) := by decide +kernel
theorem dX12_uses_114 : decode cX12_uses 114 = .ok (.baload, 1) := by decide +kernel
theorem dX12_uses_115 : decode cX12_uses 115 = .ok (.ifCond .ne 27, 3) := by decide +kernel
theorem dX12_uses_118 : decode cX12_uses 118 = .ok (.aload_n 0, 1) := by decide +kernel
theorem dX12_uses_119 : decode cX12_uses 119 = .ok (.iload 4, 2) := by decide +kernel
theorem dX12_uses_121 : decode cX12_uses 121 = .ok (.iload 5, 2) := by decide +kernel
theorem dX12_uses_123 : decode cX12_uses 123 = .ok (.invokevirtual 573, 3) := by decide +kernel
theorem dX12_uses_126 : decode cX12_uses 126 = .ok (.ifCond .ne 6, 3) := by decide +kernel
theorem dX12_uses_129 : decode cX12_uses 129 = .ok (.goto 13, 3) := by decide +kernel
theorem dX12_uses_132 : decode cX12_uses 132 = .ok (.aload_n 0, 1) := by decide +kernel
theorem dX12_uses_133 : decode cX12_uses 133 = .ok (.getfield 204, 3) := by decide +kernel
theorem dX12_uses_136 : decode cX12_uses 136 = .ok (.iload 5, 2) := by decide +kernel
theorem dX12_uses_138 : decode cX12_uses 138 = .ok (.iconst 1, 1) := by decide +kernel
theorem dX12_uses_139 : decode cX12_uses 139 = .ok (.bastore, 1) := by decide +kernel
theorem dX12_uses_140 : decode cX12_uses 140 = .ok (.iconst 1, 1) := by decide +kernel
theorem dX12_uses_141 : decode cX12_uses 141 = .ok (.istore_n 3, 1) := by decide +kernel
theorem dX12_uses_142 : decode cX12_uses 142 = .ok (.iinc 5 1, 3) := by decide +kernel
theorem dX12_uses_145 : decode cX12_uses 145 = .ok (.goto (-51), 3) := by decide +kernel
theorem dX12_uses_148 : decode cX12_uses 148 = .ok (.iinc 4 1, 3) := by decide +kernel
theorem dX12_uses_151 : decode cX12_uses 151 = .ok (.goto (-93), 3) := by decide +kernel
theorem dX12_uses_154 : decode cX12_uses 154 = .ok (.goto (-105), 3) := by decide +kernel
theorem dX12_uses_157 : decode cX12_uses 157 = .ok (.aload_n 0, 1) := by decide +kernel
theorem dX12_uses_158 : decode cX12_uses 158 = .ok (.getfield 204, 3) := by decide +kernel
theorem dX12_uses_161 : decode cX12_uses 161 = .ok (.iload_n 2, 1) := by decide +kernel
theorem dX12_uses_162 : decode cX12_uses 162 = .ok (.baload, 1) := by decide +kernel
theorem dX12_uses_163 : decode cX12_uses 163 = .ok (.ifCond .eq 7, 3) := by decide +kernel
theorem dX12_uses_166 : decode cX12_uses 166 = .ok (.iconst 1, 1) := by decide +kernel
theorem dX12_uses_167 : decode cX12_uses 167 = .ok (.goto 4, 3) := by decide +kernel
theorem dX12_uses_170 : decode cX12_uses 170 = .ok (.iconst 0, 1) := by decide +kernel
theorem dX12_uses_171 : decode cX12_uses 171 = .ok (.ireturn, 1) := by decide +kernel
theorem dX12_value_0 : decode cX12_value 0 = .ok (.aload_n 0, 1) := by decide +kernel
theorem dX12_value_1 : decode cX12_value 1 = .ok (.iload_n 1, 1) := by decide +kernel
theorem dX12_value_2 : decode cX12_value 2 = .ok (.iload_n 2, 1) := by decide +kernel
theorem dX12_value_3 : decode cX12_value 3 = .ok (.invokevirtual 688, 3) := by decide +kernel
theorem dX12_value_6 : decode cX12_value 6 = .ok (.ifCond .eq 17, 3) := by decide +kernel
theorem dX12_value_9 : decode cX12_value 9 = .ok (.aload_n 0, 1) := by decide +kernel
theorem dX12_value_10 : decode cX12_value 10 = .ok (.sipush 400, 3) := by decide +kernel
theorem dX12_value_13 : decode cX12_value 13 = .ok (.iload_n 1, 1) := by decide +kernel
theorem dX12_value_14 : decode cX12_value 14 = .ok (.imul, 1) := by decide +kernel
theorem dX12_value_15 : decode cX12_value 15 = .ok (.iload_n 2, 1) := by decide +kernel
theorem dX12_value_16 : decode cX12_value 16 = .ok (.iadd, 1) := by decide +kernel
theorem dX12_value_17 : decode cX12_value 17 = .ok (.invokevirtual 643, 3) := by decide +kernel
theorem dX12_value_20 : decode cX12_value 20 = .ok (.goto 4, 3) := by decide +kernel
theorem dX12_value_23 : decode cX12_value 23 = .ok (.lconst 0, 1) := by decide +kernel
theorem dX12_value_24 : decode cX12_value 24 = .ok (.lreturn, 1) := by decide +kernel
theorem dX12_valueOf_0 : decode cX12_valueOf 0 = .ok (.aload_n 0, 1) := by decide +kernel
theorem dX12_valueOf_1 : decode cX12_valueOf 1 = .ok (.getfield 232, 3) := by decide +kernel
theorem dX12_valueOf_4 : decode cX12_valueOf 4 = .ok (.iload_n 1, 1) := by decide +kernel
theorem dX12_valueOf_5 : decode cX12_valueOf 5 = .ok (.iaload, 1) := by decide +kernel
theorem dX12_valueOf_6 : decode cX12_valueOf 6 = .ok (.iconst 1, 1) := by decide +kernel
theorem dX12_valueOf_7 : decode cX12_valueOf 7 = .ok (.if_icmp .ne 5, 3) := by decide +kernel
theorem dX12_valueOf_10 : decode cX12_valueOf 10 = .ok (.lconst 0, 1) := by decide +kernel
theorem dX12_valueOf_11 : decode cX12_valueOf 11 = .ok (.lreturn, 1) := by decide +kernel
theorem dX12_valueOf_12 : decode cX12_valueOf 12 = .ok (.aload_n 0, 1) := by decide +kernel
theorem dX12_valueOf_13 : decode cX12_valueOf 13 = .ok (.getfield 238, 3) := by decide +kernel
theorem dX12_valueOf_16 : decode cX12_valueOf 16 = .ok (.iload_n 1, 1) := by decide +kernel
theorem dX12_valueOf_17 : decode cX12_valueOf 17 = .ok (.iaload, 1) := by decide +kernel
theorem dX12_valueOf_18 : decode cX12_valueOf 18 = .ok (.istore_n 2, 1) := by decide +kernel
theorem dX12_valueOf_19 : decode cX12_valueOf 19 = .ok (.aload_n 0, 1) := by decide +kernel
theorem dX12_valueOf_20 : decode cX12_valueOf 20 = .ok (.getfield 217, 3) := by decide +kernel
theorem dX12_valueOf_23 : decode cX12_valueOf 23 = .ok (.iload_n 1, 1) := by decide +kernel
theorem dX12_valueOf_24 : decode cX12_valueOf 24 = .ok (.iaload, 1) := by decide +kernel
theorem dX12_valueOf_25 : decode cX12_valueOf 25 = .ok (.tableswitch 216 1 10 #[55, 176, 113, 130, 184, 216, 55, 216, 216, 55], 55) := by decide +kernel
theorem dX12_valueOf_80 : decode cX12_valueOf 80 = .ok (.aload_n 0, 1) := by decide +kernel
theorem dX12_valueOf_81 : decode cX12_valueOf 81 = .ok (.aload_n 0, 1) := by decide +kernel
theorem dX12_valueOf_82 : decode cX12_valueOf 82 = .ok (.getfield 220, 3) := by decide +kernel
theorem dX12_valueOf_85 : decode cX12_valueOf 85 = .ok (.iload_n 1, 1) := by decide +kernel
theorem dX12_valueOf_86 : decode cX12_valueOf 86 = .ok (.iaload, 1) := by decide +kernel
theorem dX12_valueOf_87 : decode cX12_valueOf 87 = .ok (.aload_n 0, 1) := by decide +kernel
theorem dX12_valueOf_88 : decode cX12_valueOf 88 = .ok (.getfield 101, 3) := by decide +kernel
theorem dX12_valueOf_91 : decode cX12_valueOf 91 = .ok (.iload_n 2, 1) := by decide +kernel
theorem dX12_valueOf_92 : decode cX12_valueOf 92 = .ok (.iaload, 1) := by decide +kernel
theorem dX12_valueOf_93 : decode cX12_valueOf 93 = .ok (.invokevirtual 657, 3) := by decide +kernel
theorem dX12_valueOf_96 : decode cX12_valueOf 96 = .ok (.lstore_n 3, 1) := by decide +kernel
theorem dX12_valueOf_97 : decode cX12_valueOf 97 = .ok (.bipush 64, 2) := by decide +kernel
theorem dX12_valueOf_99 : decode cX12_valueOf 99 = .ok (.bipush 8, 2) := by decide +kernel
theorem dX12_valueOf_101 : decode cX12_valueOf 101 = .ok (.aload_n 0, 1) := by decide +kernel
theorem dX12_valueOf_102 : decode cX12_valueOf 102 = .ok (.getfield 101, 3) := by decide +kernel
theorem dX12_valueOf_105 : decode cX12_valueOf 105 = .ok (.iload_n 2, 1) := by decide +kernel
theorem dX12_valueOf_106 : decode cX12_valueOf 106 = .ok (.iaload, 1) := by decide +kernel
theorem dX12_valueOf_107 : decode cX12_valueOf 107 = .ok (.bipush 15, 2) := by decide +kernel
theorem dX12_valueOf_109 : decode cX12_valueOf 109 = .ok (.iand, 1) := by decide +kernel
theorem dX12_valueOf_110 : decode cX12_valueOf 110 = .ok (.imul, 1) := by decide +kernel
theorem dX12_valueOf_111 : decode cX12_valueOf 111 = .ok (.isub, 1) := by decide +kernel
theorem dX12_valueOf_112 : decode cX12_valueOf 112 = .ok (.istore 5, 2) := by decide +kernel
theorem dX12_valueOf_114 : decode cX12_valueOf 114 = .ok (.aload_n 0, 1) := by decide +kernel
theorem dX12_valueOf_115 : decode cX12_valueOf 115 = .ok (.getfield 101, 3) := by decide +kernel
theorem dX12_valueOf_118 : decode cX12_valueOf 118 = .ok (.iload_n 2, 1) := by decide +kernel
theorem dX12_valueOf_119 : decode cX12_valueOf 119 = .ok (.iaload, 1) := by decide +kernel
theorem dX12_valueOf_120 : decode cX12_valueOf 120 = .ok (.bipush 16, 2) := by decide +kernel
theorem dX12_valueOf_122 : decode cX12_valueOf 122 = .ok (.iand, 1) := by decide +kernel
theorem dX12_valueOf_123 : decode cX12_valueOf 123 = .ok (.ifCond .le 13, 3) := by decide +kernel
theorem dX12_valueOf_126 : decode cX12_valueOf 126 = .ok (.lload_n 3, 1) := by decide +kernel
theorem dX12_valueOf_127 : decode cX12_valueOf 127 = .ok (.iload 5, 2) := by decide +kernel
theorem dX12_valueOf_129 : decode cX12_valueOf 129 = .ok (.lshl, 1) := by decide +kernel
theorem dX12_valueOf_130 : decode cX12_valueOf 130 = .ok (.iload 5, 2) := by decide +kernel
theorem dX12_valueOf_132 : decode cX12_valueOf 132 = .ok (.lshr, 1) := by decide +kernel
theorem dX12_valueOf_133 : decode cX12_valueOf 133 = .ok (.goto 4, 3) := by decide +kernel
theorem dX12_valueOf_136 : decode cX12_valueOf 136 = .ok (.lload_n 3, 1) := by decide +kernel
theorem dX12_valueOf_137 : decode cX12_valueOf 137 = .ok (.lreturn, 1) := by decide +kernel
theorem dX12_valueOf_138 : decode cX12_valueOf 138 = .ok (.aload_n 0, 1) := by decide +kernel
theorem dX12_valueOf_139 : decode cX12_valueOf 139 = .ok (.aload_n 0, 1) := by decide +kernel
theorem dX12_valueOf_140 : decode cX12_valueOf 140 = .ok (.getfield 220, 3) := by decide +kernel
theorem dX12_valueOf_143 : decode cX12_valueOf 143 = .ok (.iload_n 1, 1) := by decide +kernel
theorem dX12_valueOf_144 : decode cX12_valueOf 144 = .ok (.iaload, 1) := by decide +kernel
theorem dX12_valueOf_145 : decode cX12_valueOf 145 = .ok (.aload_n 0, 1) := by decide +kernel
theorem dX12_valueOf_146 : decode cX12_valueOf 146 = .ok (.getfield 101, 3) := by decide +kernel
theorem dX12_valueOf_149 : decode cX12_valueOf 149 = .ok (.iload_n 2, 1) := by decide +kernel
theorem dX12_valueOf_150 : decode cX12_valueOf 150 = .ok (.iaload, 1) := by decide +kernel
theorem dX12_valueOf_151 : decode cX12_valueOf 151 = .ok (.invokevirtual 657, 3) := by decide +kernel
theorem dX12_valueOf_154 : decode cX12_valueOf 154 = .ok (.lreturn, 1) := by decide +kernel
theorem dX12_valueOf_155 : decode cX12_valueOf 155 = .ok (.aload_n 0, 1) := by decide +kernel
theorem dX12_valueOf_156 : decode cX12_valueOf 156 = .ok (.aload_n 0, 1) := by decide +kernel
theorem dX12_valueOf_157 : decode cX12_valueOf 157 = .ok (.getfield 220, 3) := by decide +kernel
theorem dX12_valueOf_160 : decode cX12_valueOf 160 = .ok (.iload_n 1, 1) := by decide +kernel
theorem dX12_valueOf_161 : decode cX12_valueOf 161 = .ok (.iaload, 1) := by decide +kernel
theorem dX12_valueOf_162 : decode cX12_valueOf 162 = .ok (.aload_n 0, 1) := by decide +kernel
theorem dX12_valueOf_163 : decode cX12_valueOf 163 = .ok (.getfield 101, 3) := by decide +kernel
theorem dX12_valueOf_166 : decode cX12_valueOf 166 = .ok (.iload_n 2, 1) := by decide +kernel
theorem dX12_valueOf_167 : decode cX12_valueOf 167 = .ok (.iaload, 1) := by decide +kernel
theorem dX12_valueOf_168 : decode cX12_valueOf 168 = .ok (.invokevirtual 657, 3) := by decide +kernel
theorem dX12_valueOf_171 : decode cX12_valueOf 171 = .ok (.aload_n 0, 1) := by decide +kernel
theorem dX12_valueOf_172 : decode cX12_valueOf 172 = .ok (.iload_n 1, 1) := by decide +kernel
theorem dX12_valueOf_173 : decode cX12_valueOf 173 = .ok (.invokevirtual 660, 3) := by decide +kernel
theorem dX12_valueOf_176 : decode cX12_valueOf 176 = .ok (.lushr, 1) := by decide +kernel
theorem dX12_valueOf_177 : decode cX12_valueOf 177 = .ok (.aload_n 0, 1) := by decide +kernel
theorem dX12_valueOf_178 : decode cX12_valueOf 178 = .ok (.aload_n 0, 1) := by decide +kernel
theorem dX12_valueOf_179 : decode cX12_valueOf 179 = .ok (.getfield 134, 3) := by decide +kernel
theorem dX12_valueOf_182 : decode cX12_valueOf 182 = .ok (.bipush 16, 2) := by decide +kernel
theorem dX12_valueOf_184 : decode cX12_valueOf 184 = .ok (.iload_n 2, 1) := by decide +kernel
theorem dX12_valueOf_185 : decode cX12_valueOf 185 = .ok (.imul, 1) := by decide +kernel
theorem dX12_valueOf_186 : decode cX12_valueOf 186 = .ok (.aload_n 0, 1) := by decide +kernel
theorem dX12_valueOf_187 : decode cX12_valueOf 187 = .ok (.getfield 241, 3) := by decide +kernel
theorem dX12_valueOf_190 : decode cX12_valueOf 190 = .ok (.iload_n 1, 1) := by decide +kernel
theorem dX12_valueOf_191 : decode cX12_valueOf 191 = .ok (.iaload, 1) := by decide +kernel
theorem dX12_valueOf_192 : decode cX12_valueOf 192 = .ok (.iadd, 1) := by decide +kernel
theorem dX12_valueOf_193 : decode cX12_valueOf 193 = .ok (.iconst 1, 1) := by decide +kernel
theorem dX12_valueOf_194 : decode cX12_valueOf 194 = .ok (.isub, 1) := by decide +kernel
theorem dX12_valueOf_195 : decode cX12_valueOf 195 = .ok (.laload, 1) := by decide +kernel
theorem dX12_valueOf_196 : decode cX12_valueOf 196 = .ok (.invokevirtual 663, 3) := by decide +kernel
theorem dX12_valueOf_199 : decode cX12_valueOf 199 = .ok (.land, 1) := by decide +kernel
theorem dX12_valueOf_200 : decode cX12_valueOf 200 = .ok (.lreturn, 1) := by decide +kernel
theorem dX12_valueOf_201 : decode cX12_valueOf 201 = .ok (.aload_n 0, 1) := by decide +kernel
theorem dX12_valueOf_202 : decode cX12_valueOf 202 = .ok (.getfield 229, 3) := by decide +kernel
theorem dX12_valueOf_205 : decode cX12_valueOf 205 = .ok (.iload_n 1, 1) := by decide +kernel
theorem dX12_valueOf_206 : decode cX12_valueOf 206 = .ok (.iaload, 1) := by decide +kernel
theorem dX12_valueOf_207 : decode cX12_valueOf 207 = .ok (.i2l, 1) := by decide +kernel
theorem dX12_valueOf_208 : decode cX12_valueOf 208 = .ok (.lreturn, 1) := by decide +kernel
theorem dX12_valueOf_209 : decode cX12_valueOf 209 = .ok (.aload_n 0, 1) := by decide +kernel
theorem dX12_valueOf_210 : decode cX12_valueOf 210 = .ok (.getfield 223, 3) := by decide +kernel
theorem dX12_valueOf_213 : decode cX12_valueOf 213 = .ok (.iload_n 1, 1) := by decide +kernel
theorem dX12_valueOf_214 : decode cX12_valueOf 214 = .ok (.iaload, 1) := by decide +kernel
theorem dX12_valueOf_215 : decode cX12_valueOf 215 = .ok (.aload_n 0, 1) := by decide +kernel
theorem dX12_valueOf_216 : decode cX12_valueOf 216 = .ok (.getfield 220, 3) := by decide +kernel
theorem dX12_valueOf_219 : decode cX12_valueOf 219 = .ok (.iload_n 1, 1) := by decide +kernel
theorem dX12_valueOf_220 : decode cX12_valueOf 220 = .ok (.iaload, 1) := by decide +kernel
theorem dX12_valueOf_221 : decode cX12_valueOf 221 = .ok (.isub, 1) := by decide +kernel
theorem dX12_valueOf_222 : decode cX12_valueOf 222 = .ok (.aload_n 0, 1) := by decide +kernel
theorem dX12_valueOf_223 : decode cX12_valueOf 223 = .ok (.getfield 98, 3) := by decide +kernel
theorem dX12_valueOf_226 : decode cX12_valueOf 226 = .ok (.iload_n 2, 1) := by decide +kernel
theorem dX12_valueOf_227 : decode cX12_valueOf 227 = .ok (.iaload, 1) := by decide +kernel
theorem dX12_valueOf_228 : decode cX12_valueOf 228 = .ok (.bipush 6, 2) := by decide +kernel
theorem dX12_valueOf_230 : decode cX12_valueOf 230 = .ok (.if_icmp .ne 7, 3) := by decide +kernel
theorem dX12_valueOf_233 : decode cX12_valueOf 233 = .ok (.iconst 1, 1) := by decide +kernel
theorem dX12_valueOf_234 : decode cX12_valueOf 234 = .ok (.goto 4, 3) := by decide +kernel
theorem dX12_valueOf_237 : decode cX12_valueOf 237 = .ok (.iconst 0, 1) := by decide +kernel
theorem dX12_valueOf_238 : decode cX12_valueOf 238 = .ok (.isub, 1) := by decide +kernel
theorem dX12_valueOf_239 : decode cX12_valueOf 239 = .ok (.i2l, 1) := by decide +kernel
theorem dX12_valueOf_240 : decode cX12_valueOf 240 = .ok (.lreturn, 1) := by decide +kernel
theorem dX12_valueOf_241 : decode cX12_valueOf 241 = .ok (.lconst 0, 1) := by decide +kernel
theorem dX12_valueOf_242 : decode cX12_valueOf 242 = .ok (.lreturn, 1) := by decide +kernel
theorem dX12_whole_0 : decode cX12_whole 0 = .ok (.aload_n 0, 1) := by decide +kernel
theorem dX12_whole_1 : decode cX12_whole 1 = .ok (.getfield 51, 3) := by decide +kernel
theorem dX12_whole_4 : decode cX12_whole 4 = .ok (.iconst 1, 1) := by decide +kernel
theorem dX12_whole_5 : decode cX12_whole 5 = .ok (.if_icmp .ne 29, 3) := by decide +kernel
theorem dX12_whole_8 : decode cX12_whole 8 = .ok (.aload_n 0, 1) := by decide +kernel
theorem dX12_whole_9 : decode cX12_whole 9 = .ok (.getfield 57, 3) := by decide +kernel
theorem dX12_whole_12 : decode cX12_whole 12 = .ok (.aload_n 0, 1) := by decide +kernel
theorem dX12_whole_13 : decode cX12_whole 13 = .ok (.getfield 54, 3) := by decide +kernel
theorem dX12_whole_16 : decode cX12_whole 16 = .ok (.isub, 1) := by decide +kernel
theorem dX12_whole_17 : decode cX12_whole 17 = .ok (.iconst 2, 1) := by decide +kernel
theorem dX12_whole_18 : decode cX12_whole 18 = .ok (.if_icmp .lt 16, 3) := by decide +kernel
theorem dX12_whole_21 : decode cX12_whole 21 = .ok (.aload_n 0, 1) := by decide +kernel
theorem dX12_whole_22 : decode cX12_whole 22 = .ok (.getfield 57, 3) := by decide +kernel
theorem dX12_whole_25 : decode cX12_whole 25 = .ok (.aload_n 0, 1) := by decide +kernel
theorem dX12_whole_26 : decode cX12_whole 26 = .ok (.getfield 54, 3) := by decide +kernel
theorem dX12_whole_29 : decode cX12_whole 29 = .ok (.isub, 1) := by decide +kernel
theorem dX12_whole_30 : decode cX12_whole 30 = .ok (.iconst 3, 1) := by decide +kernel
theorem dX12_whole_31 : decode cX12_whole 31 = .ok (.if_icmp .le 5, 3) := by decide +kernel
theorem dX12_whole_34 : decode cX12_whole 34 = .ok (.iconst 0, 1) := by decide +kernel
theorem dX12_whole_35 : decode cX12_whole 35 = .ok (.ireturn, 1) := by decide +kernel
theorem dX12_whole_36 : decode cX12_whole 36 = .ok (.aload_n 0, 1) := by decide +kernel
theorem dX12_whole_37 : decode cX12_whole 37 = .ok (.getfield 42, 3) := by decide +kernel
theorem dX12_whole_40 : decode cX12_whole 40 = .ok (.aload_n 0, 1) := by decide +kernel
theorem dX12_whole_41 : decode cX12_whole 41 = .ok (.getfield 54, 3) := by decide +kernel
theorem dX12_whole_44 : decode cX12_whole 44 = .ok (.iaload, 1) := by decide +kernel
theorem dX12_whole_45 : decode cX12_whole 45 = .ok (.istore_n 1, 1) := by decide +kernel
theorem dX12_whole_46 : decode cX12_whole 46 = .ok (.aload_n 0, 1) := by decide +kernel
theorem dX12_whole_47 : decode cX12_whole 47 = .ok (.getfield 42, 3) := by decide +kernel
theorem dX12_whole_50 : decode cX12_whole 50 = .ok (.aload_n 0, 1) := by decide +kernel
theorem dX12_whole_51 : decode cX12_whole 51 = .ok (.getfield 54, 3) := by decide +kernel
theorem dX12_whole_54 : decode cX12_whole 54 = .ok (.iconst 1, 1) := by decide +kernel
theorem dX12_whole_55 : decode cX12_whole 55 = .ok (.iadd, 1) := by decide +kernel
theorem dX12_whole_56 : decode cX12_whole 56 = .ok (.iaload, 1) := by decide +kernel
theorem dX12_whole_57 : decode cX12_whole 57 = .ok (.istore_n 2, 1) := by decide +kernel
theorem dX12_whole_58 : decode cX12_whole 58 = .ok (.iload_n 1, 1) := by decide +kernel
theorem dX12_whole_59 : decode cX12_whole 59 = .ok (.bipush 117, 2) := by decide +kernel
theorem dX12_whole_61 : decode cX12_whole 61 = .ok (.if_icmp .eq 9, 3) := by decide +kernel
theorem dX12_whole_64 : decode cX12_whole 64 = .ok (.iload_n 1, 1) := by decide +kernel
theorem dX12_whole_65 : decode cX12_whole 65 = .ok (.bipush 115, 2) := by decide +kernel
theorem dX12_whole_67 : decode cX12_whole 67 = .ok (.if_icmp .ne 44, 3) := by decide +kernel
theorem dX12_whole_70 : decode cX12_whole 70 = .ok (.iload_n 2, 1) := by decide +kernel
theorem dX12_whole_71 : decode cX12_whole 71 = .ok (.bipush 49, 2) := by decide +kernel
theorem dX12_whole_73 : decode cX12_whole 73 = .ok (.if_icmp .lt 38, 3) := by decide +kernel
theorem dX12_whole_76 : decode cX12_whole 76 = .ok (.iload_n 2, 1) := by decide +kernel
theorem dX12_whole_77 : decode cX12_whole 77 = .ok (.bipush 56, 2) := by decide +kernel
theorem dX12_whole_79 : decode cX12_whole 79 = .ok (.if_icmp .gt 32, 3) := by decide +kernel
theorem dX12_whole_82 : decode cX12_whole 82 = .ok (.aload_n 0, 1) := by decide +kernel
theorem dX12_whole_83 : decode cX12_whole 83 = .ok (.getfield 57, 3) := by decide +kernel
theorem dX12_whole_86 : decode cX12_whole 86 = .ok (.aload_n 0, 1) := by decide +kernel
theorem dX12_whole_87 : decode cX12_whole 87 = .ok (.getfield 54, 3) := by decide +kernel
theorem dX12_whole_90 : decode cX12_whole 90 = .ok (.isub, 1) := by decide +kernel
theorem dX12_whole_91 : decode cX12_whole 91 = .ok (.iconst 3, 1) := by decide +kernel
theorem dX12_whole_92 : decode cX12_whole 92 = .ok (.if_icmp .ne 21, 3) := by decide +kernel
theorem dX12_whole_95 : decode cX12_whole 95 = .ok (.aload_n 0, 1) := by decide +kernel
theorem dX12_whole_96 : decode cX12_whole 96 = .ok (.getfield 42, 3) := by decide +kernel
theorem dX12_whole_99 : decode cX12_whole 99 = .ok (.aload_n 0, 1) := by decide +kernel
theorem dX12_whole_100 : decode cX12_whole 100 = .ok (.getfield 54, 3) := by decide +kernel
theorem dX12_whole_103 : decode cX12_whole 103 = .ok (.iconst 2, 1) := by decide +kernel
theorem dX12_whole_104 : decode cX12_whole 104 = .ok (.iadd, 1) := by decide +kernel
theorem dX12_whole_105 : decode cX12_whole 105 = .ok (.iaload, 1) := by decide +kernel
theorem dX12_whole_106 : decode cX12_whole 106 = .ok (.bipush 98, 2) := by decide +kernel
theorem dX12_whole_108 : decode cX12_whole 108 = .ok (.if_icmp .eq 5, 3) := by decide +kernel
theorem dX12_whole_111 : decode cX12_whole 111 = .ok (.iconst 0, 1) := by decide +kernel
theorem dX12_whole_112 : decode cX12_whole 112 = .ok (.ireturn, 1) := by decide +kernel
theorem dX12_whole_113 : decode cX12_whole 113 = .ok (.iload_n 2, 1) := by decide +kernel
theorem dX12_whole_114 : decode cX12_whole 114 = .ok (.bipush 48, 2) := by decide +kernel
theorem dX12_whole_116 : decode cX12_whole 116 = .ok (.isub, 1) := by decide +kernel
theorem dX12_whole_117 : decode cX12_whole 117 = .ok (.iload_n 1, 1) := by decide +kernel
theorem dX12_whole_118 : decode cX12_whole 118 = .ok (.bipush 115, 2) := by decide +kernel
theorem dX12_whole_120 : decode cX12_whole 120 = .ok (.if_icmp .ne 8, 3) := by decide +kernel
theorem dX12_whole_123 : decode cX12_whole 123 = .ok (.bipush 16, 2) := by decide +kernel
theorem dX12_whole_125 : decode cX12_whole 125 = .ok (.goto 4, 3) := by decide +kernel
theorem dX12_whole_128 : decode cX12_whole 128 = .ok (.iconst 0, 1) := by decide +kernel
theorem dX12_whole_129 : decode cX12_whole 129 = .ok (.iadd, 1) := by decide +kernel
theorem dX12_whole_130 : decode cX12_whole 130 = .ok (.aload_n 0, 1) := by decide +kernel
theorem dX12_whole_131 : decode cX12_whole 131 = .ok (.getfield 57, 3) := by decide +kernel
theorem dX12_whole_134 : decode cX12_whole 134 = .ok (.aload_n 0, 1) := by decide +kernel
theorem dX12_whole_135 : decode cX12_whole 135 = .ok (.getfield 54, 3) := by decide +kernel
theorem dX12_whole_138 : decode cX12_whole 138 = .ok (.isub, 1) := by decide +kernel
theorem dX12_whole_139 : decode cX12_whole 139 = .ok (.iconst 3, 1) := by decide +kernel
theorem dX12_whole_140 : decode cX12_whole 140 = .ok (.if_icmp .ne 8, 3) := by decide +kernel
theorem dX12_whole_143 : decode cX12_whole 143 = .ok (.bipush 32, 2) := by decide +kernel
theorem dX12_whole_145 : decode cX12_whole 145 = .ok (.goto 4, 3) := by decide +kernel
theorem dX12_whole_148 : decode cX12_whole 148 = .ok (.iconst 0, 1) := by decide +kernel
theorem dX12_whole_149 : decode cX12_whole 149 = .ok (.iadd, 1) := by decide +kernel
theorem dX12_whole_150 : decode cX12_whole 150 = .ok (.ireturn, 1) := by decide +kernel
theorem dX12_wholeOn_0 : decode cX12_wholeOn 0 = .ok (.aload_n 0, 1) := by decide +kernel
theorem dX12_wholeOn_1 : decode cX12_wholeOn 1 = .ok (.getfield 167, 3) := by decide +kernel
theorem dX12_wholeOn_4 : decode cX12_wholeOn 4 = .ok (.ifCond .le 4, 3) := by decide +kernel
theorem dX12_wholeOn_7 : decode cX12_wholeOn 7 = .ok (.return_, 1) := by decide +kernel
theorem dX12_wholeOn_8 : decode cX12_wholeOn 8 = .ok (.aload_n 0, 1) := by decide +kernel
theorem dX12_wholeOn_9 : decode cX12_wholeOn 9 = .ok (.ldc2_w 342, 3) := by decide +kernel
theorem dX12_wholeOn_12 : decode cX12_wholeOn 12 = .ok (.invokevirtual 334, 3) := by decide +kernel
theorem dX12_wholeOn_15 : decode cX12_wholeOn 15 = .ok (.ifCond .eq 65, 3) := by decide +kernel
theorem dX12_wholeOn_18 : decode cX12_wholeOn 18 = .ok (.aload_n 0, 1) := by decide +kernel
theorem dX12_wholeOn_19 : decode cX12_wholeOn 19 = .ok (.invokevirtual 408, 3) := by decide +kernel
theorem dX12_wholeOn_22 : decode cX12_wholeOn 22 = .ok (.aload_n 0, 1) := by decide +kernel
theorem dX12_wholeOn_23 : decode cX12_wholeOn 23 = .ok (.aload_n 0, 1) := by decide +kernel
theorem dX12_wholeOn_24 : decode cX12_wholeOn 24 = .ok (.invokevirtual 418, 3) := by decide +kernel
theorem dX12_wholeOn_27 : decode cX12_wholeOn 27 = .ok (.iconst 2, 1) := by decide +kernel
theorem dX12_wholeOn_28 : decode cX12_wholeOn 28 = .ok (.invokevirtual 404, 3) := by decide +kernel
theorem dX12_wholeOn_31 : decode cX12_wholeOn 31 = .ok (.ifCond .eq 27, 3) := by decide +kernel
theorem dX12_wholeOn_34 : decode cX12_wholeOn 34 = .ok (.aload_n 0, 1) := by decide +kernel
theorem dX12_wholeOn_35 : decode cX12_wholeOn 35 = .ok (.aload_n 0, 1) := by decide +kernel
theorem dX12_wholeOn_36 : decode cX12_wholeOn 36 = .ok (.aload_n 0, 1) := by decide +kernel
theorem dX12_wholeOn_37 : decode cX12_wholeOn 37 = .ok (.getfield 60, 3) := by decide +kernel
theorem dX12_wholeOn_40 : decode cX12_wholeOn 40 = .ok (.invokevirtual 421, 3) := by decide +kernel
theorem dX12_wholeOn_43 : decode cX12_wholeOn 43 = .ok (.ifCond .lt 7, 3) := by decide +kernel
theorem dX12_wholeOn_46 : decode cX12_wholeOn 46 = .ok (.iconst 1, 1) := by decide +kernel
theorem dX12_wholeOn_47 : decode cX12_wholeOn 47 = .ok (.goto 4, 3) := by decide +kernel
theorem dX12_wholeOn_50 : decode cX12_wholeOn 50 = .ok (.iconst 0, 1) := by decide +kernel
theorem dX12_wholeOn_51 : decode cX12_wholeOn 51 = .ok (.iconst 4, 1) := by decide +kernel
theorem dX12_wholeOn_52 : decode cX12_wholeOn 52 = .ok (.invokevirtual 404, 3) := by decide +kernel
theorem dX12_wholeOn_55 : decode cX12_wholeOn 55 = .ok (.ifCond .ne 4, 3) := by decide +kernel
theorem dX12_wholeOn_58 : decode cX12_wholeOn 58 = .ok (.return_, 1) := by decide +kernel
theorem dX12_wholeOn_59 : decode cX12_wholeOn 59 = .ok (.aload_n 0, 1) := by decide +kernel
theorem dX12_wholeOn_60 : decode cX12_wholeOn 60 = .ok (.getfield 104, 3) := by decide +kernel
theorem dX12_wholeOn_63 : decode cX12_wholeOn 63 = .ok (.iload_n 1, 1) := by decide +kernel
theorem dX12_wholeOn_64 : decode cX12_wholeOn 64 = .ok (.aload_n 0, 1) := by decide +kernel
theorem dX12_wholeOn_65 : decode cX12_wholeOn 65 = .ok (.aload_n 0, 1) := by decide +kernel
theorem dX12_wholeOn_66 : decode cX12_wholeOn 66 = .ok (.getfield 60, 3) := by decide +kernel
theorem dX12_wholeOn_69 : decode cX12_wholeOn 69 = .ok (.invokevirtual 421, 3) := by decide +kernel
theorem dX12_wholeOn_72 : decode cX12_wholeOn 72 = .ok (.iastore, 1) := by decide +kernel
theorem dX12_wholeOn_73 : decode cX12_wholeOn 73 = .ok (.aload_n 0, 1) := by decide +kernel
theorem dX12_wholeOn_74 : decode cX12_wholeOn 74 = .ok (.invokevirtual 408, 3) := by decide +kernel
theorem dX12_wholeOn_77 : decode cX12_wholeOn 77 = .ok (.goto 24, 3) := by decide +kernel
theorem dX12_wholeOn_80 : decode cX12_wholeOn 80 = .ok (.aload_n 0, 1) := by decide +kernel
theorem dX12_wholeOn_81 : decode cX12_wholeOn 81 = .ok (.bipush 91, 2) := by decide +kernel
theorem dX12_wholeOn_83 : decode cX12_wholeOn 83 = .ok (.invokevirtual 401, 3) := by decide +kernel
theorem dX12_wholeOn_86 : decode cX12_wholeOn 86 = .ok (.ifCond .eq 15, 3) := by decide +kernel
theorem dX12_wholeOn_89 : decode cX12_wholeOn 89 = .ok (.aload_n 0, 1) := by decide +kernel
theorem dX12_wholeOn_90 : decode cX12_wholeOn 90 = .ok (.getfield 98, 3) := by decide +kernel
theorem dX12_wholeOn_93 : decode cX12_wholeOn 93 = .ok (.iload_n 1, 1) := by decide +kernel
theorem dX12_wholeOn_94 : decode cX12_wholeOn 94 = .ok (.iconst 1, 1) := by decide +kernel
theorem dX12_wholeOn_95 : decode cX12_wholeOn 95 = .ok (.iastore, 1) := by decide +kernel
theorem dX12_wholeOn_96 : decode cX12_wholeOn 96 = .ok (.aload_n 0, 1) := by decide +kernel
theorem dX12_wholeOn_97 : decode cX12_wholeOn 97 = .ok (.iload_n 1, 1) := by decide +kernel
theorem dX12_wholeOn_98 : decode cX12_wholeOn 98 = .ok (.invokevirtual 472, 3) := by decide +kernel
theorem dX12_wholeOn_101 : decode cX12_wholeOn 101 = .ok (.return_, 1) := by decide +kernel
theorem dX12_work_0 : decode cX12_work 0 = .ok (.aload_n 0, 1) := by decide +kernel
theorem dX12_work_1 : decode cX12_work 1 = .ok (.getfield 140, 3) := by decide +kernel
theorem dX12_work_4 : decode cX12_work 4 = .ok (.iload_n 1, 1) := by decide +kernel
theorem dX12_work_5 : decode cX12_work 5 = .ok (.iaload, 1) := by decide +kernel
theorem dX12_work_6 : decode cX12_work 6 = .ok (.tableswitch 121 0 6 #[42, 49, 62, 65, 78, 86, 99], 42) := by decide +kernel
theorem dX12_work_48 : decode cX12_work 48 = .ok (.aload_n 0, 1) := by decide +kernel
theorem dX12_work_49 : decode cX12_work 49 = .ok (.getfield 149, 3) := by decide +kernel
theorem dX12_work_52 : decode cX12_work 52 = .ok (.iload_n 1, 1) := by decide +kernel
theorem dX12_work_53 : decode cX12_work 53 = .ok (.laload, 1) := by decide +kernel
theorem dX12_work_54 : decode cX12_work 54 = .ok (.lreturn, 1) := by decide +kernel
theorem dX12_work_55 : decode cX12_work 55 = .ok (.aload_n 0, 1) := by decide +kernel
theorem dX12_work_56 : decode cX12_work 56 = .ok (.iload_n 2, 1) := by decide +kernel
theorem dX12_work_57 : decode cX12_work 57 = .ok (.aload_n 0, 1) := by decide +kernel
theorem dX12_work_58 : decode cX12_work 58 = .ok (.getfield 149, 3) := by decide +kernel
theorem dX12_work_61 : decode cX12_work 61 = .ok (.iload_n 1, 1) := by decide +kernel
theorem dX12_work_62 : decode cX12_work 62 = .ok (.laload, 1) := by decide +kernel
theorem dX12_work_63 : decode cX12_work 63 = .ok (.l2i, 1) := by decide +kernel
theorem dX12_work_64 : decode cX12_work 64 = .ok (.invokevirtual 650, 3) := by decide +kernel
theorem dX12_work_67 : decode cX12_work 67 = .ok (.lreturn, 1) := by decide +kernel
theorem dX12_work_68 : decode cX12_work 68 = .ok (.iload_n 3, 1) := by decide +kernel
theorem dX12_work_69 : decode cX12_work 69 = .ok (.i2l, 1) := by decide +kernel
theorem dX12_work_70 : decode cX12_work 70 = .ok (.lreturn, 1) := by decide +kernel
theorem dX12_work_71 : decode cX12_work 71 = .ok (.aload_n 0, 1) := by decide +kernel
theorem dX12_work_72 : decode cX12_work 72 = .ok (.getfield 13, 3) := by decide +kernel
theorem dX12_work_75 : decode cX12_work 75 = .ok (.aload_n 0, 1) := by decide +kernel
theorem dX12_work_76 : decode cX12_work 76 = .ok (.getfield 259, 3) := by decide +kernel
theorem dX12_work_79 : decode cX12_work 79 = .ok (.iaload, 1) := by decide +kernel
theorem dX12_work_80 : decode cX12_work 80 = .ok (.iload_n 3, 1) := by decide +kernel
theorem dX12_work_81 : decode cX12_work 81 = .ok (.isub, 1) := by decide +kernel
theorem dX12_work_82 : decode cX12_work 82 = .ok (.i2l, 1) := by decide +kernel
theorem dX12_work_83 : decode cX12_work 83 = .ok (.lreturn, 1) := by decide +kernel
theorem dX12_work_84 : decode cX12_work 84 = .ok (.aload_n 0, 1) := by decide +kernel
theorem dX12_work_85 : decode cX12_work 85 = .ok (.getfield 220, 3) := by decide +kernel
theorem dX12_work_88 : decode cX12_work 88 = .ok (.iload_n 2, 1) := by decide +kernel
theorem dX12_work_89 : decode cX12_work 89 = .ok (.iaload, 1) := by decide +kernel
theorem dX12_work_90 : decode cX12_work 90 = .ok (.i2l, 1) := by decide +kernel
theorem dX12_work_91 : decode cX12_work 91 = .ok (.lreturn, 1) := by decide +kernel
theorem dX12_work_92 : decode cX12_work 92 = .ok (.aload_n 0, 1) := by decide +kernel
theorem dX12_work_93 : decode cX12_work 93 = .ok (.getfield 277, 3) := by decide +kernel
theorem dX12_work_96 : decode cX12_work 96 = .ok (.aload_n 0, 1) := by decide +kernel
theorem dX12_work_97 : decode cX12_work 97 = .ok (.getfield 143, 3) := by decide +kernel
theorem dX12_work_100 : decode cX12_work 100 = .ok (.iload_n 1, 1) := by decide +kernel
theorem dX12_work_101 : decode cX12_work 101 = .ok (.iaload, 1) := by decide +kernel
theorem dX12_work_102 : decode cX12_work 102 = .ok (.laload, 1) := by decide +kernel
theorem dX12_work_103 : decode cX12_work 103 = .ok (.lneg, 1) := by decide +kernel
theorem dX12_work_104 : decode cX12_work 104 = .ok (.lreturn, 1) := by decide +kernel
theorem dX12_work_105 : decode cX12_work 105 = .ok (.aload_n 0, 1) := by decide +kernel
theorem dX12_work_106 : decode cX12_work 106 = .ok (.getfield 277, 3) := by decide +kernel
theorem dX12_work_109 : decode cX12_work 109 = .ok (.aload_n 0, 1) := by decide +kernel
theorem dX12_work_110 : decode cX12_work 110 = .ok (.getfield 143, 3) := by decide +kernel
theorem dX12_work_113 : decode cX12_work 113 = .ok (.iload_n 1, 1) := by decide +kernel
theorem dX12_work_114 : decode cX12_work 114 = .ok (.iaload, 1) := by decide +kernel
theorem dX12_work_115 : decode cX12_work 115 = .ok (.laload, 1) := by decide +kernel
theorem dX12_work_116 : decode cX12_work 116 = .ok (.lconst 0, 1) := by decide +kernel
theorem dX12_work_117 : decode cX12_work 117 = .ok (.lcmp, 1) := by decide +kernel
theorem dX12_work_118 : decode cX12_work 118 = .ok (.ifCond .ne 7, 3) := by decide +kernel
theorem dX12_work_121 : decode cX12_work 121 = .ok (.lconst 1, 1) := by decide +kernel
theorem dX12_work_122 : decode cX12_work 122 = .ok (.goto 4, 3) := by decide +kernel
theorem dX12_work_125 : decode cX12_work 125 = .ok (.lconst 0, 1) := by decide +kernel
theorem dX12_work_126 : decode cX12_work 126 = .ok (.lreturn, 1) := by decide +kernel
theorem dX12_work_127 : decode cX12_work 127 = .ok (.aload_n 0, 1) := by decide +kernel
theorem dX12_work_128 : decode cX12_work 128 = .ok (.aload_n 0, 1) := by decide +kernel
theorem dX12_work_129 : decode cX12_work 129 = .ok (.getfield 140, 3) := by decide +kernel
theorem dX12_work_132 : decode cX12_work 132 = .ok (.iload_n 1, 1) := by decide +kernel
theorem dX12_work_133 : decode cX12_work 133 = .ok (.iaload, 1) := by decide +kernel
theorem dX12_work_134 : decode cX12_work 134 = .ok (.aload_n 0, 1) := by decide +kernel
theorem dX12_work_135 : decode cX12_work 135 = .ok (.getfield 277, 3) := by decide +kernel
theorem dX12_work_138 : decode cX12_work 138 = .ok (.aload_n 0, 1) := by decide +kernel
theorem dX12_work_139 : decode cX12_work 139 = .ok (.getfield 143, 3) := by decide +kernel
theorem dX12_work_142 : decode cX12_work 142 = .ok (.iload_n 1, 1) := by decide +kernel
theorem dX12_work_143 : decode cX12_work 143 = .ok (.iaload, 1) := by decide +kernel
theorem dX12_work_144 : decode cX12_work 144 = .ok (.laload, 1) := by decide +kernel
theorem dX12_work_145 : decode cX12_work 145 = .ok (.aload_n 0, 1) := by decide +kernel
theorem dX12_work_146 : decode cX12_work 146 = .ok (.getfield 277, 3) := by decide +kernel
theorem dX12_work_149 : decode cX12_work 149 = .ok (.aload_n 0, 1) := by decide +kernel
theorem dX12_work_150 : decode cX12_work 150 = .ok (.getfield 146, 3) := by decide +kernel
theorem dX12_work_153 : decode cX12_work 153 = .ok (.iload_n 1, 1) := by decide +kernel
theorem dX12_work_154 : decode cX12_work 154 = .ok (.iaload, 1) := by decide +kernel
theorem dX12_work_155 : decode cX12_work 155 = .ok (.laload, 1) := by decide +kernel
theorem dX12_work_156 : decode cX12_work 156 = .ok (.invokevirtual 653, 3) := by decide +kernel
theorem dX12_work_159 : decode cX12_work 159 = .ok (.lreturn, 1) := by decide +kernel
theorem dX12_worked_0 : decode cX12_worked 0 = .ok (.aload_n 0, 1) := by decide +kernel
theorem dX12_worked_1 : decode cX12_worked 1 = .ok (.iconst 0, 1) := by decide +kernel
theorem dX12_worked_2 : decode cX12_worked 2 = .ok (.putfield 274, 3) := by decide +kernel
theorem dX12_worked_5 : decode cX12_worked 5 = .ok (.aload_n 0, 1) := by decide +kernel
theorem dX12_worked_6 : decode cX12_worked 6 = .ok (.getfield 201, 3) := by decide +kernel
theorem dX12_worked_9 : decode cX12_worked 9 = .ok (.iload_n 1, 1) := by decide +kernel
theorem dX12_worked_10 : decode cX12_worked 10 = .ok (.iaload, 1) := by decide +kernel
theorem dX12_worked_11 : decode cX12_worked 11 = .ok (.istore 4, 2) := by decide +kernel
theorem dX12_worked_13 : decode cX12_worked 13 = .ok (.iload 4, 2) := by decide +kernel
theorem dX12_worked_15 : decode cX12_worked 15 = .ok (.iload_n 1, 1) := by decide +kernel
theorem dX12_worked_16 : decode cX12_worked 16 = .ok (.if_icmp .gt 24, 3) := by decide +kernel
theorem dX12_worked_19 : decode cX12_worked 19 = .ok (.aload_n 0, 1) := by decide +kernel
theorem dX12_worked_20 : decode cX12_worked 20 = .ok (.getfield 277, 3) := by decide +kernel
theorem dX12_worked_23 : decode cX12_worked 23 = .ok (.iload 4, 2) := by decide +kernel
theorem dX12_worked_25 : decode cX12_worked 25 = .ok (.aload_n 0, 1) := by decide +kernel
theorem dX12_worked_26 : decode cX12_worked 26 = .ok (.iload 4, 2) := by decide +kernel
theorem dX12_worked_28 : decode cX12_worked 28 = .ok (.iload_n 2, 1) := by decide +kernel
theorem dX12_worked_29 : decode cX12_worked 29 = .ok (.iload_n 3, 1) := by decide +kernel
theorem dX12_worked_30 : decode cX12_worked 30 = .ok (.invokevirtual 647, 3) := by decide +kernel
theorem dX12_worked_33 : decode cX12_worked 33 = .ok (.lastore, 1) := by decide +kernel
theorem dX12_worked_34 : decode cX12_worked 34 = .ok (.iinc 4 1, 3) := by decide +kernel
theorem dX12_worked_37 : decode cX12_worked 37 = .ok (.goto (-24), 3) := by decide +kernel
theorem dX12_worked_40 : decode cX12_worked 40 = .ok (.aload_n 0, 1) := by decide +kernel
theorem dX12_worked_41 : decode cX12_worked 41 = .ok (.getfield 277, 3) := by decide +kernel
theorem dX12_worked_44 : decode cX12_worked 44 = .ok (.iload_n 1, 1) := by decide +kernel
theorem dX12_worked_45 : decode cX12_worked 45 = .ok (.laload, 1) := by decide +kernel
theorem dX12_worked_46 : decode cX12_worked 46 = .ok (.lreturn, 1) := by decide +kernel
theorem dX12_write_0 : decode cX12_write 0 = .ok (.aload_n 0, 1) := by decide +kernel
theorem dX12_write_1 : decode cX12_write 1 = .ok (.getfield 17, 3) := by decide +kernel
theorem dX12_write_4 : decode cX12_write 4 = .ok (.iload_n 1, 1) := by decide +kernel
theorem dX12_write_5 : decode cX12_write 5 = .ok (.iaload, 1) := by decide +kernel
theorem dX12_write_6 : decode cX12_write 6 = .ok (.ifCond .ne 41, 3) := by decide +kernel
theorem dX12_write_9 : decode cX12_write 9 = .ok (.iconst 0, 1) := by decide +kernel
theorem dX12_write_10 : decode cX12_write 10 = .ok (.istore 4, 2) := by decide +kernel
theorem dX12_write_12 : decode cX12_write 12 = .ok (.iload 4, 2) := by decide +kernel
theorem dX12_write_14 : decode cX12_write 14 = .ok (.iload_n 3, 1) := by decide +kernel
theorem dX12_write_15 : decode cX12_write 15 = .ok (.if_icmp .ge 31, 3) := by decide +kernel
theorem dX12_write_18 : decode cX12_write 18 = .ok (.aload_n 0, 1) := by decide +kernel
theorem dX12_write_19 : decode cX12_write 19 = .ok (.getfield 20, 3) := by decide +kernel
theorem dX12_write_22 : decode cX12_write 22 = .ok (.sipush 2000, 3) := by decide +kernel
theorem dX12_write_25 : decode cX12_write 25 = .ok (.iload_n 1, 1) := by decide +kernel
theorem dX12_write_26 : decode cX12_write 26 = .ok (.imul, 1) := by decide +kernel
theorem dX12_write_27 : decode cX12_write 27 = .ok (.iload_n 2, 1) := by decide +kernel
theorem dX12_write_28 : decode cX12_write 28 = .ok (.iadd, 1) := by decide +kernel
theorem dX12_write_29 : decode cX12_write 29 = .ok (.iload 4, 2) := by decide +kernel
theorem dX12_write_31 : decode cX12_write 31 = .ok (.iadd, 1) := by decide +kernel
theorem dX12_write_32 : decode cX12_write 32 = .ok (.aload_n 0, 1) := by decide +kernel
theorem dX12_write_33 : decode cX12_write 33 = .ok (.getfield 39, 3) := by decide +kernel
theorem dX12_write_36 : decode cX12_write 36 = .ok (.iload 4, 2) := by decide +kernel
theorem dX12_write_38 : decode cX12_write 38 = .ok (.iaload, 1) := by decide +kernel
theorem dX12_write_39 : decode cX12_write 39 = .ok (.iastore, 1) := by decide +kernel
theorem dX12_write_40 : decode cX12_write 40 = .ok (.iinc 4 1, 3) := by decide +kernel
theorem dX12_write_43 : decode cX12_write 43 = .ok (.goto (-31), 3) := by decide +kernel
theorem dX12_write_46 : decode cX12_write 46 = .ok (.return_, 1) := by decide +kernel
theorem dX12_write_47 : decode cX12_write 47 = .ok (.iconst 4, 1) := by decide +kernel
theorem dX12_write_48 : decode cX12_write 48 = .ok (.iload_n 1, 1) := by decide +kernel
theorem dX12_write_49 : decode cX12_write 49 = .ok (.imul, 1) := by decide +kernel
theorem dX12_write_50 : decode cX12_write 50 = .ok (.aload_n 0, 1) := by decide +kernel
theorem dX12_write_51 : decode cX12_write 51 = .ok (.getfield 17, 3) := by decide +kernel
theorem dX12_write_54 : decode cX12_write 54 = .ok (.iload_n 1, 1) := by decide +kernel
theorem dX12_write_55 : decode cX12_write 55 = .ok (.iaload, 1) := by decide +kernel
theorem dX12_write_56 : decode cX12_write 56 = .ok (.iadd, 1) := by decide +kernel
theorem dX12_write_57 : decode cX12_write 57 = .ok (.iconst 1, 1) := by decide +kernel
theorem dX12_write_58 : decode cX12_write 58 = .ok (.isub, 1) := by decide +kernel
theorem dX12_write_59 : decode cX12_write 59 = .ok (.istore 4, 2) := by decide +kernel
theorem dX12_write_61 : decode cX12_write 61 = .ok (.aload_n 0, 1) := by decide +kernel
theorem dX12_write_62 : decode cX12_write 62 = .ok (.getfield 27, 3) := by decide +kernel
theorem dX12_write_65 : decode cX12_write 65 = .ok (.iload 4, 2) := by decide +kernel
theorem dX12_write_67 : decode cX12_write 67 = .ok (.iaload, 1) := by decide +kernel
theorem dX12_write_68 : decode cX12_write 68 = .ok (.bipush 20, 2) := by decide +kernel
theorem dX12_write_70 : decode cX12_write 70 = .ok (.if_icmp .ne 130, 3) := by decide +kernel
theorem dX12_write_73 : decode cX12_write 73 = .ok (.bipush 20, 2) := by decide +kernel
theorem dX12_write_75 : decode cX12_write 75 = .ok (.iload 4, 2) := by decide +kernel
theorem dX12_write_77 : decode cX12_write 77 = .ok (.imul, 1) := by decide +kernel
theorem dX12_write_78 : decode cX12_write 78 = .ok (.istore 5, 2) := by decide +kernel
theorem dX12_write_80 : decode cX12_write 80 = .ok (.iload 5, 2) := by decide +kernel
theorem dX12_write_82 : decode cX12_write 82 = .ok (.bipush 20, 2) := by decide +kernel
theorem dX12_write_84 : decode cX12_write 84 = .ok (.iload 4, 2) := by decide +kernel
theorem dX12_write_86 : decode cX12_write 86 = .ok (.imul, 1) := by decide +kernel
theorem dX12_write_87 : decode cX12_write 87 = .ok (.bipush 19, 2) := by decide +kernel
theorem dX12_write_89 : decode cX12_write 89 = .ok (.iadd, 1) := by decide +kernel
theorem dX12_write_90 : decode cX12_write 90 = .ok (.if_icmp .ge 99, 3) := by decide +kernel
theorem dX12_write_93 : decode cX12_write 93 = .ok (.aload_n 0, 1) := by decide +kernel
theorem dX12_write_94 : decode cX12_write 94 = .ok (.getfield 30, 3) := by decide +kernel
theorem dX12_write_97 : decode cX12_write 97 = .ok (.iload 5, 2) := by decide +kernel
theorem dX12_write_99 : decode cX12_write 99 = .ok (.aload_n 0, 1) := by decide +kernel
theorem dX12_write_100 : decode cX12_write 100 = .ok (.getfield 30, 3) := by decide +kernel
theorem dX12_write_103 : decode cX12_write 103 = .ok (.iload 5, 2) := by decide +kernel
theorem dX12_write_105 : decode cX12_write 105 = .ok (.iconst 1, 1) := by decide +kernel
theorem dX12_write_106 : decode cX12_write 106 = .ok (.iadd, 1) := by decide +kernel
theorem dX12_write_107 : decode cX12_write 107 = .ok (.iaload, 1) := by decide +kernel
theorem dX12_write_108 : decode cX12_write 108 = .ok (.iastore, 1) := by decide +kernel
theorem dX12_write_109 : decode cX12_write 109 = .ok (.iconst 0, 1) := by decide +kernel
theorem dX12_write_110 : decode cX12_write 110 = .ok (.istore 6, 2) := by decide +kernel
theorem dX12_write_112 : decode cX12_write 112 = .ok (.iload 6, 2) := by decide +kernel
theorem dX12_write_114 : decode cX12_write 114 = .ok (.bipush 8, 2) := by decide +kernel
theorem dX12_write_116 : decode cX12_write 116 = .ok (.if_icmp .ge 67, 3) := by decide +kernel
theorem dX12_write_119 : decode cX12_write 119 = .ok (.aload_n 0, 1) := by decide +kernel
theorem dX12_write_120 : decode cX12_write 120 = .ok (.getfield 33, 3) := by decide +kernel
theorem dX12_write_123 : decode cX12_write 123 = .ok (.bipush 8, 2) := by decide +kernel
theorem dX12_write_125 : decode cX12_write 125 = .ok (.iload 5, 2) := by decide +kernel
theorem dX12_write_127 : decode cX12_write 127 = .ok (.imul, 1) := by decide +kernel
theorem dX12_write_128 : decode cX12_write 128 = .ok (.iload 6, 2) := by decide +kernel
theorem dX12_write_130 : decode cX12_write 130 = .ok (.iadd, 1) := by decide +kernel
theorem dX12_write_131 : decode cX12_write 131 = .ok (.aload_n 0, 1) := by decide +kernel
theorem dX12_write_132 : decode cX12_write 132 = .ok (.getfield 33, 3) := by decide +kernel
theorem dX12_write_135 : decode cX12_write 135 = .ok (.bipush 8, 2) := by decide +kernel
theorem dX12_write_137 : decode cX12_write 137 = .ok (.iload 5, 2) := by decide +kernel
theorem dX12_write_139 : decode cX12_write 139 = .ok (.imul, 1) := by decide +kernel
theorem dX12_write_140 : decode cX12_write 140 = .ok (.bipush 8, 2) := by decide +kernel
theorem dX12_write_142 : decode cX12_write 142 = .ok (.iadd, 1) := by decide +kernel
theorem dX12_write_143 : decode cX12_write 143 = .ok (.iload 6, 2) := by decide +kernel
theorem dX12_write_145 : decode cX12_write 145 = .ok (.iadd, 1) := by decide +kernel
theorem dX12_write_146 : decode cX12_write 146 = .ok (.iaload, 1) := by decide +kernel
theorem dX12_write_147 : decode cX12_write 147 = .ok (.iastore, 1) := by decide +kernel
theorem dX12_write_148 : decode cX12_write 148 = .ok (.aload_n 0, 1) := by decide +kernel
theorem dX12_write_149 : decode cX12_write 149 = .ok (.getfield 36, 3) := by decide +kernel
theorem dX12_write_152 : decode cX12_write 152 = .ok (.bipush 8, 2) := by decide +kernel
theorem dX12_write_154 : decode cX12_write 154 = .ok (.iload 5, 2) := by decide +kernel
theorem dX12_write_156 : decode cX12_write 156 = .ok (.imul, 1) := by decide +kernel
theorem dX12_write_157 : decode cX12_write 157 = .ok (.iload 6, 2) := by decide +kernel
theorem dX12_write_159 : decode cX12_write 159 = .ok (.iadd, 1) := by decide +kernel
theorem dX12_write_160 : decode cX12_write 160 = .ok (.aload_n 0, 1) := by decide +kernel
theorem dX12_write_161 : decode cX12_write 161 = .ok (.getfield 36, 3) := by decide +kernel
theorem dX12_write_164 : decode cX12_write 164 = .ok (.bipush 8, 2) := by decide +kernel
theorem dX12_write_166 : decode cX12_write 166 = .ok (.iload 5, 2) := by decide +kernel
theorem dX12_write_168 : decode cX12_write 168 = .ok (.imul, 1) := by decide +kernel
theorem dX12_write_169 : decode cX12_write 169 = .ok (.bipush 8, 2) := by decide +kernel
theorem dX12_write_171 : decode cX12_write 171 = .ok (.iadd, 1) := by decide +kernel
theorem dX12_write_172 : decode cX12_write 172 = .ok (.iload 6, 2) := by decide +kernel
theorem dX12_write_174 : decode cX12_write 174 = .ok (.iadd, 1) := by decide +kernel
theorem dX12_write_175 : decode cX12_write 175 = .ok (.iaload, 1) := by decide +kernel
theorem dX12_write_176 : decode cX12_write 176 = .ok (.iastore, 1) := by decide +kernel
theorem dX12_write_177 : decode cX12_write 177 = .ok (.iinc 6 1, 3) := by decide +kernel
theorem dX12_write_180 : decode cX12_write 180 = .ok (.goto (-68), 3) := by decide +kernel
theorem dX12_write_183 : decode cX12_write 183 = .ok (.iinc 5 1, 3) := by decide +kernel
theorem dX12_write_186 : decode cX12_write 186 = .ok (.goto (-106), 3) := by decide +kernel
theorem dX12_write_189 : decode cX12_write 189 = .ok (.aload_n 0, 1) := by decide +kernel
theorem dX12_write_190 : decode cX12_write 190 = .ok (.getfield 27, 3) := by decide +kernel
theorem dX12_write_193 : decode cX12_write 193 = .ok (.iload 4, 2) := by decide +kernel
theorem dX12_write_195 : decode cX12_write 195 = .ok (.dup2, 1) := by decide +kernel
theorem dX12_write_196 : decode cX12_write 196 = .ok (.iaload, 1) := by decide +kernel
theorem dX12_write_197 : decode cX12_write 197 = .ok (.iconst 1, 1) := by decide +kernel
theorem dX12_write_198 : decode cX12_write 198 = .ok (.isub, 1) := by decide +kernel
theorem dX12_write_199 : decode cX12_write 199 = .ok (.iastore, 1) := by decide +kernel
theorem dX12_write_200 : decode cX12_write 200 = .ok (.bipush 20, 2) := by decide +kernel
theorem dX12_write_202 : decode cX12_write 202 = .ok (.iload 4, 2) := by decide +kernel
theorem dX12_write_204 : decode cX12_write 204 = .ok (.imul, 1) := by decide +kernel
theorem dX12_write_205 : decode cX12_write 205 = .ok (.aload_n 0, 1) := by decide +kernel
theorem dX12_write_206 : decode cX12_write 206 = .ok (.getfield 27, 3) := by decide +kernel
theorem dX12_write_209 : decode cX12_write 209 = .ok (.iload 4, 2) := by decide +kernel
theorem dX12_write_211 : decode cX12_write 211 = .ok (.iaload, 1) := by decide +kernel
theorem dX12_write_212 : decode cX12_write 212 = .ok (.iadd, 1) := by decide +kernel
theorem dX12_write_213 : decode cX12_write 213 = .ok (.istore 5, 2) := by decide +kernel
theorem dX12_write_215 : decode cX12_write 215 = .ok (.aload_n 0, 1) := by decide +kernel
theorem dX12_write_216 : decode cX12_write 216 = .ok (.getfield 27, 3) := by decide +kernel
theorem dX12_write_219 : decode cX12_write 219 = .ok (.iload 4, 2) := by decide +kernel
theorem dX12_write_221 : decode cX12_write 221 = .ok (.dup2, 1) := by decide +kernel
theorem dX12_write_222 : decode cX12_write 222 = .ok (.iaload, 1) := by decide +kernel
theorem dX12_write_223 : decode cX12_write 223 = .ok (.iconst 1, 1) := by decide +kernel
theorem dX12_write_224 : decode cX12_write 224 = .ok (.iadd, 1) := by decide +kernel
theorem dX12_write_225 : decode cX12_write 225 = .ok (.iastore, 1) := by decide +kernel
theorem dX12_write_226 : decode cX12_write 226 = .ok (.aload_n 0, 1) := by decide +kernel
theorem dX12_write_227 : decode cX12_write 227 = .ok (.getfield 30, 3) := by decide +kernel
theorem dX12_write_230 : decode cX12_write 230 = .ok (.iload 5, 2) := by decide +kernel
theorem dX12_write_232 : decode cX12_write 232 = .ok (.iload_n 3, 1) := by decide +kernel
theorem dX12_write_233 : decode cX12_write 233 = .ok (.iastore, 1) := by decide +kernel
theorem dX12_write_234 : decode cX12_write 234 = .ok (.iconst 0, 1) := by decide +kernel
theorem dX12_write_235 : decode cX12_write 235 = .ok (.istore 6, 2) := by decide +kernel
theorem dX12_write_237 : decode cX12_write 237 = .ok (.iload 6, 2) := by decide +kernel
theorem dX12_write_239 : decode cX12_write 239 = .ok (.iload_n 3, 1) := by decide +kernel
theorem dX12_write_240 : decode cX12_write 240 = .ok (.if_icmp .ge 79, 3) := by decide +kernel
theorem dX12_write_243 : decode cX12_write 243 = .ok (.aload_n 0, 1) := by decide +kernel
theorem dX12_write_244 : decode cX12_write 244 = .ok (.iload_n 1, 1) := by decide +kernel
theorem dX12_write_245 : decode cX12_write 245 = .ok (.aload_n 0, 1) := by decide +kernel
theorem dX12_write_246 : decode cX12_write 246 = .ok (.getfield 17, 3) := by decide +kernel
theorem dX12_write_249 : decode cX12_write 249 = .ok (.iload_n 1, 1) := by decide +kernel
theorem dX12_write_250 : decode cX12_write 250 = .ok (.iaload, 1) := by decide +kernel
theorem dX12_write_251 : decode cX12_write 251 = .ok (.iconst 1, 1) := by decide +kernel
theorem dX12_write_252 : decode cX12_write 252 = .ok (.isub, 1) := by decide +kernel
theorem dX12_write_253 : decode cX12_write 253 = .ok (.iload_n 2, 1) := by decide +kernel
theorem dX12_write_254 : decode cX12_write 254 = .ok (.iload 6, 2) := by decide +kernel
theorem dX12_write_256 : decode cX12_write 256 = .ok (.iadd, 1) := by decide +kernel
theorem dX12_write_257 : decode cX12_write 257 = .ok (.invokevirtual 289, 3) := by decide +kernel
theorem dX12_write_260 : decode cX12_write 260 = .ok (.istore 7, 2) := by decide +kernel
theorem dX12_write_262 : decode cX12_write 262 = .ok (.aload_n 0, 1) := by decide +kernel
theorem dX12_write_263 : decode cX12_write 263 = .ok (.getfield 33, 3) := by decide +kernel
theorem dX12_write_266 : decode cX12_write 266 = .ok (.bipush 8, 2) := by decide +kernel
theorem dX12_write_268 : decode cX12_write 268 = .ok (.iload 5, 2) := by decide +kernel
theorem dX12_write_270 : decode cX12_write 270 = .ok (.imul, 1) := by decide +kernel
theorem dX12_write_271 : decode cX12_write 271 = .ok (.iload 6, 2) := by decide +kernel
theorem dX12_write_273 : decode cX12_write 273 = .ok (.iadd, 1) := by decide +kernel
theorem dX12_write_274 : decode cX12_write 274 = .ok (.iload_n 2, 1) := by decide +kernel
theorem dX12_write_275 : decode cX12_write 275 = .ok (.iload 6, 2) := by decide +kernel
theorem dX12_write_277 : decode cX12_write 277 = .ok (.iadd, 1) := by decide +kernel
theorem dX12_write_278 : decode cX12_write 278 = .ok (.iastore, 1) := by decide +kernel
theorem dX12_write_279 : decode cX12_write 279 = .ok (.aload_n 0, 1) := by decide +kernel
theorem dX12_write_280 : decode cX12_write 280 = .ok (.getfield 36, 3) := by decide +kernel
theorem dX12_write_283 : decode cX12_write 283 = .ok (.bipush 8, 2) := by decide +kernel
theorem dX12_write_285 : decode cX12_write 285 = .ok (.iload 5, 2) := by decide +kernel
theorem dX12_write_287 : decode cX12_write 287 = .ok (.imul, 1) := by decide +kernel
theorem dX12_write_288 : decode cX12_write 288 = .ok (.iload 6, 2) := by decide +kernel
theorem dX12_write_290 : decode cX12_write 290 = .ok (.iadd, 1) := by decide +kernel
theorem dX12_write_291 : decode cX12_write 291 = .ok (.aload_n 0, 1) := by decide +kernel
theorem dX12_write_292 : decode cX12_write 292 = .ok (.getfield 24, 3) := by decide +kernel
theorem dX12_write_295 : decode cX12_write 295 = .ok (.iload 7, 2) := by decide +kernel
theorem dX12_write_297 : decode cX12_write 297 = .ok (.iaload, 1) := by decide +kernel
theorem dX12_write_298 : decode cX12_write 298 = .ok (.iastore, 1) := by decide +kernel
theorem dX12_write_299 : decode cX12_write 299 = .ok (.aload_n 0, 1) := by decide +kernel
theorem dX12_write_300 : decode cX12_write 300 = .ok (.getfield 24, 3) := by decide +kernel
theorem dX12_write_303 : decode cX12_write 303 = .ok (.iload 7, 2) := by decide +kernel
theorem dX12_write_305 : decode cX12_write 305 = .ok (.aload_n 0, 1) := by decide +kernel
theorem dX12_write_306 : decode cX12_write 306 = .ok (.getfield 39, 3) := by decide +kernel
theorem dX12_write_309 : decode cX12_write 309 = .ok (.iload 6, 2) := by decide +kernel
theorem dX12_write_311 : decode cX12_write 311 = .ok (.iaload, 1) := by decide +kernel
theorem dX12_write_312 : decode cX12_write 312 = .ok (.iastore, 1) := by decide +kernel
theorem dX12_write_313 : decode cX12_write 313 = .ok (.iinc 6 1, 3) := by decide +kernel
theorem dX12_write_316 : decode cX12_write 316 = .ok (.goto (-79), 3) := by decide +kernel
theorem dX12_write_319 : decode cX12_write 319 = .ok (.return_, 1) := by decide +kernel
theorem dX12_wrong_0 : decode cX12_wrong 0 = .ok (.aload_n 0, 1) := by decide +kernel
theorem dX12_wrong_1 : decode cX12_wrong 1 = .ok (.getfield 48, 3) := by decide +kernel
theorem dX12_wrong_4 : decode cX12_wrong 4 = .ok (.ireturn, 1) := by decide +kernel
theorem dX1_addEntry_0 : decode cX1_addEntry 0 = .ok (.aload_n 0, 1) := by decide +kernel
theorem dX1_addEntry_1 : decode cX1_addEntry 1 = .ok (.getfield 52, 3) := by decide +kernel
theorem dX1_addEntry_4 : decode cX1_addEntry 4 = .ok (.sipush 3000, 3) := by decide +kernel
theorem dX1_addEntry_7 : decode cX1_addEntry 7 = .ok (.if_icmp .ge 44, 3) := by decide +kernel
theorem dX1_addEntry_10 : decode cX1_addEntry 10 = .ok (.aload_n 0, 1) := by decide +kernel
theorem dX1_addEntry_11 : decode cX1_addEntry 11 = .ok (.getfield 28, 3) := by decide +kernel
theorem dX1_addEntry_14 : decode cX1_addEntry 14 = .ok (.aload_n 0, 1) := by decide +kernel
theorem dX1_addEntry_15 : decode cX1_addEntry 15 = .ok (.getfield 52, 3) := by decide +kernel
theorem dX1_addEntry_18 : decode cX1_addEntry 18 = .ok (.lload_n 1, 1) := by decide +kernel
theorem dX1_addEntry_19 : decode cX1_addEntry 19 = .ok (.lastore, 1) := by decide +kernel
theorem dX1_addEntry_20 : decode cX1_addEntry 20 = .ok (.aload_n 0, 1) := by decide +kernel
theorem dX1_addEntry_21 : decode cX1_addEntry 21 = .ok (.getfield 31, 3) := by decide +kernel
theorem dX1_addEntry_24 : decode cX1_addEntry 24 = .ok (.aload_n 0, 1) := by decide +kernel
theorem dX1_addEntry_25 : decode cX1_addEntry 25 = .ok (.getfield 52, 3) := by decide +kernel
theorem dX1_addEntry_28 : decode cX1_addEntry 28 = .ok (.lload_n 3, 1) := by decide +kernel
theorem dX1_addEntry_29 : decode cX1_addEntry 29 = .ok (.lastore, 1) := by decide +kernel
theorem dX1_addEntry_30 : decode cX1_addEntry 30 = .ok (.aload_n 0, 1) := by decide +kernel
theorem dX1_addEntry_31 : decode cX1_addEntry 31 = .ok (.getfield 34, 3) := by decide +kernel
theorem dX1_addEntry_34 : decode cX1_addEntry 34 = .ok (.aload_n 0, 1) := by decide +kernel
theorem dX1_addEntry_35 : decode cX1_addEntry 35 = .ok (.getfield 52, 3) := by decide +kernel
theorem dX1_addEntry_38 : decode cX1_addEntry 38 = .ok (.iload 5, 2) := by decide +kernel
theorem dX1_addEntry_40 : decode cX1_addEntry 40 = .ok (.iastore, 1) := by decide +kernel
theorem dX1_addEntry_41 : decode cX1_addEntry 41 = .ok (.aload_n 0, 1) := by decide +kernel
theorem dX1_addEntry_42 : decode cX1_addEntry 42 = .ok (.dup, 1) := by decide +kernel
theorem dX1_addEntry_43 : decode cX1_addEntry 43 = .ok (.getfield 52, 3) := by decide +kernel
theorem dX1_addEntry_46 : decode cX1_addEntry 46 = .ok (.iconst 1, 1) := by decide +kernel
theorem dX1_addEntry_47 : decode cX1_addEntry 47 = .ok (.iadd, 1) := by decide +kernel
theorem dX1_addEntry_48 : decode cX1_addEntry 48 = .ok (.putfield 52, 3) := by decide +kernel
theorem dX1_addEntry_51 : decode cX1_addEntry 51 = .ok (.return_, 1) := by decide +kernel
theorem dX1_arraySize_0 : decode cX1_arraySize 0 = .ok (.aload_n 0, 1) := by decide +kernel
theorem dX1_arraySize_1 : decode cX1_arraySize 1 = .ok (.getfield 40, 3) := by decide +kernel
theorem dX1_arraySize_4 : decode cX1_arraySize 4 = .ok (.aload_n 1, 1) := by decide +kernel
theorem dX1_arraySize_5 : decode cX1_arraySize 5 = .ok (.getfield 103, 3) := by decide +kernel
theorem dX1_arraySize_8 : decode cX1_arraySize 8 = .ok (.sipush 200, 3) := by decide +kernel
theorem dX1_arraySize_11 : decode cX1_arraySize 11 = .ok (.invokevirtual 106, 3) := by decide +kernel
theorem dX1_arraySize_14 : decode cX1_arraySize 14 = .ok (.lstore_n 2, 1) := by decide +kernel
theorem dX1_arraySize_15 : decode cX1_arraySize 15 = .ok (.aload_n 1, 1) := by decide +kernel
theorem dX1_arraySize_16 : decode cX1_arraySize 16 = .ok (.getfield 92, 3) := by decide +kernel
theorem dX1_arraySize_19 : decode cX1_arraySize 19 = .ok (.iconst (-1), 1) := by decide +kernel
theorem dX1_arraySize_20 : decode cX1_arraySize 20 = .ok (.if_icmp .ne 10, 3) := by decide +kernel
theorem dX1_arraySize_23 : decode cX1_arraySize 23 = .ok (.aload_n 1, 1) := by decide +kernel
theorem dX1_arraySize_24 : decode cX1_arraySize 24 = .ok (.getfield 119, 3) := by decide +kernel
theorem dX1_arraySize_27 : decode cX1_arraySize 27 = .ok (.goto 11, 3) := by decide +kernel
theorem dX1_arraySize_30 : decode cX1_arraySize 30 = .ok (.aload_n 0, 1) := by decide +kernel
theorem dX1_arraySize_31 : decode cX1_arraySize 31 = .ok (.aload_n 1, 1) := by decide +kernel
theorem dX1_arraySize_32 : decode cX1_arraySize 32 = .ok (.getfield 92, 3) := by decide +kernel
theorem dX1_arraySize_35 : decode cX1_arraySize 35 = .ok (.invokevirtual 95, 3) := by decide +kernel
theorem dX1_arraySize_38 : decode cX1_arraySize 38 = .ok (.istore 4, 2) := by decide +kernel
theorem dX1_arraySize_40 : decode cX1_arraySize 40 = .ok (.lload_n 2, 1) := by decide +kernel
theorem dX1_arraySize_41 : decode cX1_arraySize 41 = .ok (.ldc2_w 87, 3) := by decide +kernel
theorem dX1_arraySize_44 : decode cX1_arraySize 44 = .ok (.lcmp, 1) := by decide +kernel
theorem dX1_arraySize_45 : decode cX1_arraySize 45 = .ok (.ifCond .eq 9, 3) := by decide +kernel
theorem dX1_arraySize_48 : decode cX1_arraySize 48 = .ok (.iload 4, 2) := by decide +kernel
theorem dX1_arraySize_50 : decode cX1_arraySize 50 = .ok (.iconst (-1), 1) := by decide +kernel
theorem dX1_arraySize_51 : decode cX1_arraySize 51 = .ok (.if_icmp .ne 9, 3) := by decide +kernel
theorem dX1_arraySize_54 : decode cX1_arraySize 54 = .ok (.ldc2_w 87, 3) := by decide +kernel
theorem dX1_arraySize_57 : decode cX1_arraySize 57 = .ok (.goto 8, 3) := by decide +kernel
theorem dX1_arraySize_60 : decode cX1_arraySize 60 = .ok (.lload_n 2, 1) := by decide +kernel
theorem dX1_arraySize_61 : decode cX1_arraySize 61 = .ok (.iload 4, 2) := by decide +kernel
theorem dX1_arraySize_63 : decode cX1_arraySize 63 = .ok (.i2l, 1) := by decide +kernel
theorem dX1_arraySize_64 : decode cX1_arraySize 64 = .ok (.lmul, 1) := by decide +kernel
theorem dX1_arraySize_65 : decode cX1_arraySize 65 = .ok (.lreturn, 1) := by decide +kernel
theorem dX1_entryNamed_0 : decode cX1_entryNamed 0 = .ok (.iload_n 1, 1) := by decide +kernel
theorem dX1_entryNamed_1 : decode cX1_entryNamed 1 = .ok (.istore 5, 2) := by decide +kernel
theorem dX1_entryNamed_3 : decode cX1_entryNamed 3 = .ok (.iload 5, 2) := by decide +kernel
theorem dX1_entryNamed_5 : decode cX1_entryNamed 5 = .ok (.iload_n 1, 1) := by decide +kernel
theorem dX1_entryNamed_6 : decode cX1_entryNamed 6 = .ok (.iload_n 2, 1) := by decide +kernel
theorem dX1_entryNamed_7 : decode cX1_entryNamed 7 = .ok (.iadd, 1) := by decide +kernel
theorem dX1_entryNamed_8 : decode cX1_entryNamed 8 = .ok (.if_icmp .ge 33, 3) := by decide +kernel
theorem dX1_entryNamed_11 : decode cX1_entryNamed 11 = .ok (.iload 5, 2) := by decide +kernel
theorem dX1_entryNamed_13 : decode cX1_entryNamed 13 = .ok (.aload_n 0, 1) := by decide +kernel
theorem dX1_entryNamed_14 : decode cX1_entryNamed 14 = .ok (.getfield 52, 3) := by decide +kernel
theorem dX1_entryNamed_17 : decode cX1_entryNamed 17 = .ok (.if_icmp .ge 24, 3) := by decide +kernel
theorem dX1_entryNamed_20 : decode cX1_entryNamed 20 = .ok (.aload_n 0, 1) := by decide +kernel
theorem dX1_entryNamed_21 : decode cX1_entryNamed 21 = .ok (.getfield 28, 3) := by decide +kernel
theorem dX1_entryNamed_24 : decode cX1_entryNamed 24 = .ok (.iload 5, 2) := by decide +kernel
theorem dX1_entryNamed_26 : decode cX1_entryNamed 26 = .ok (.laload, 1) := by decide +kernel
theorem dX1_entryNamed_27 : decode cX1_entryNamed 27 = .ok (.lload_n 3, 1) := by decide +kernel
theorem dX1_entryNamed_28 : decode cX1_entryNamed 28 = .ok (.lcmp, 1) := by decide +kernel
theorem dX1_entryNamed_29 : decode cX1_entryNamed 29 = .ok (.ifCond .ne 6, 3) := by decide +kernel
theorem dX1_entryNamed_32 : decode cX1_entryNamed 32 = .ok (.iload 5, 2) := by decide +kernel
theorem dX1_entryNamed_34 : decode cX1_entryNamed 34 = .ok (.ireturn, 1) := by decide +kernel
theorem dX1_entryNamed_35 : decode cX1_entryNamed 35 = .ok (.iinc 5 1, 3) := by decide +kernel
theorem dX1_entryNamed_38 : decode cX1_entryNamed 38 = .ok (.goto (-35), 3) := by decide +kernel
theorem dX1_entryNamed_41 : decode cX1_entryNamed 41 = .ok (.iconst (-1), 1) := by decide +kernel
theorem dX1_entryNamed_42 : decode cX1_entryNamed 42 = .ok (.ireturn, 1) := by decide +kernel
theorem dX1_entryWith_0 : decode cX1_entryWith 0 = .ok (.iload_n 1, 1) := by decide +kernel
theorem dX1_entryWith_1 : decode cX1_entryWith 1 = .ok (.istore 5, 2) := by decide +kernel
theorem dX1_entryWith_3 : decode cX1_entryWith 3 = .ok (.iload 5, 2) := by decide +kernel
theorem dX1_entryWith_5 : decode cX1_entryWith 5 = .ok (.iload_n 1, 1) := by decide +kernel
theorem dX1_entryWith_6 : decode cX1_entryWith 6 = .ok (.iload_n 2, 1) := by decide +kernel
theorem dX1_entryWith_7 : decode cX1_entryWith 7 = .ok (.iadd, 1) := by decide +kernel
theorem dX1_entryWith_8 : decode cX1_entryWith 8 = .ok (.if_icmp .ge 33, 3) := by decide +kernel
theorem dX1_entryWith_11 : decode cX1_entryWith 11 = .ok (.iload 5, 2) := by decide +kernel
theorem dX1_entryWith_13 : decode cX1_entryWith 13 = .ok (.aload_n 0, 1) := by decide +kernel
theorem dX1_entryWith_14 : decode cX1_entryWith 14 = .ok (.getfield 52, 3) := by decide +kernel
theorem dX1_entryWith_17 : decode cX1_entryWith 17 = .ok (.if_icmp .ge 24, 3) := by decide +kernel
theorem dX1_entryWith_20 : decode cX1_entryWith 20 = .ok (.aload_n 0, 1) := by decide +kernel
theorem dX1_entryWith_21 : decode cX1_entryWith 21 = .ok (.getfield 31, 3) := by decide +kernel
theorem dX1_entryWith_24 : decode cX1_entryWith 24 = .ok (.iload 5, 2) := by decide +kernel
theorem dX1_entryWith_26 : decode cX1_entryWith 26 = .ok (.laload, 1) := by decide +kernel
theorem dX1_entryWith_27 : decode cX1_entryWith 27 = .ok (.lload_n 3, 1) := by decide +kernel
theorem dX1_entryWith_28 : decode cX1_entryWith 28 = .ok (.lcmp, 1) := by decide +kernel
theorem dX1_entryWith_29 : decode cX1_entryWith 29 = .ok (.ifCond .ne 6, 3) := by decide +kernel
theorem dX1_entryWith_32 : decode cX1_entryWith 32 = .ok (.iload 5, 2) := by decide +kernel
theorem dX1_entryWith_34 : decode cX1_entryWith 34 = .ok (.ireturn, 1) := by decide +kernel
theorem dX1_entryWith_35 : decode cX1_entryWith 35 = .ok (.iinc 5 1, 3) := by decide +kernel
theorem dX1_entryWith_38 : decode cX1_entryWith 38 = .ok (.goto (-35), 3) := by decide +kernel
theorem dX1_entryWith_41 : decode cX1_entryWith 41 = .ok (.iconst (-1), 1) := by decide +kernel
theorem dX1_entryWith_42 : decode cX1_entryWith 42 = .ok (.ireturn, 1) := by decide +kernel
theorem dX1_enumNamed_0 : decode cX1_enumNamed 0 = .ok (.iconst 0, 1) := by decide +kernel
theorem dX1_enumNamed_1 : decode cX1_enumNamed 1 = .ok (.istore_n 3, 1) := by decide +kernel
theorem dX1_enumNamed_2 : decode cX1_enumNamed 2 = .ok (.iload_n 3, 1) := by decide +kernel
theorem dX1_enumNamed_3 : decode cX1_enumNamed 3 = .ok (.aload_n 0, 1) := by decide +kernel
theorem dX1_enumNamed_4 : decode cX1_enumNamed 4 = .ok (.getfield 49, 3) := by decide +kernel
theorem dX1_enumNamed_7 : decode cX1_enumNamed 7 = .ok (.if_icmp .ge 22, 3) := by decide +kernel
theorem dX1_enumNamed_10 : decode cX1_enumNamed 10 = .ok (.aload_n 0, 1) := by decide +kernel
theorem dX1_enumNamed_11 : decode cX1_enumNamed 11 = .ok (.getfield 17, 3) := by decide +kernel
theorem dX1_enumNamed_14 : decode cX1_enumNamed 14 = .ok (.iload_n 3, 1) := by decide +kernel
theorem dX1_enumNamed_15 : decode cX1_enumNamed 15 = .ok (.laload, 1) := by decide +kernel
theorem dX1_enumNamed_16 : decode cX1_enumNamed 16 = .ok (.lload_n 1, 1) := by decide +kernel
theorem dX1_enumNamed_17 : decode cX1_enumNamed 17 = .ok (.lcmp, 1) := by decide +kernel
theorem dX1_enumNamed_18 : decode cX1_enumNamed 18 = .ok (.ifCond .ne 5, 3) := by decide +kernel
theorem dX1_enumNamed_21 : decode cX1_enumNamed 21 = .ok (.iload_n 3, 1) := by decide +kernel
theorem dX1_enumNamed_22 : decode cX1_enumNamed 22 = .ok (.ireturn, 1) := by decide +kernel
theorem dX1_enumNamed_23 : decode cX1_enumNamed 23 = .ok (.iinc 3 1, 3) := by decide +kernel
theorem dX1_enumNamed_26 : decode cX1_enumNamed 26 = .ok (.goto (-24), 3) := by decide +kernel
theorem dX1_enumNamed_29 : decode cX1_enumNamed 29 = .ok (.iconst (-1), 1) := by decide +kernel
theorem dX1_enumNamed_30 : decode cX1_enumNamed 30 = .ok (.ireturn, 1) := by decide +kernel
theorem dX1_fieldSize_0 : decode cX1_fieldSize 0 = .ok (.aload_n 1, 1) := by decide +kernel
theorem dX1_fieldSize_1 : decode cX1_fieldSize 1 = .ok (.getfield 82, 3) := by decide +kernel
theorem dX1_fieldSize_4 : decode cX1_fieldSize 4 = .ok (.iconst (-1), 1) := by decide +kernel
theorem dX1_fieldSize_5 : decode cX1_fieldSize 5 = .ok (.if_icmp .eq 7, 3) := by decide +kernel
theorem dX1_fieldSize_8 : decode cX1_fieldSize 8 = .ok (.ldc2_w 87, 3) := by decide +kernel
theorem dX1_fieldSize_11 : decode cX1_fieldSize 11 = .ok (.lreturn, 1) := by decide +kernel
theorem dX1_fieldSize_12 : decode cX1_fieldSize 12 = .ok (.aload_n 1, 1) := by decide +kernel
theorem dX1_fieldSize_13 : decode cX1_fieldSize 13 = .ok (.getfield 89, 3) := by decide +kernel
theorem dX1_fieldSize_16 : decode cX1_fieldSize 16 = .ok (.tableswitch 106 0 9 #[56, 106, 66, 106, 106, 72, 87, 106, 94, 100], 56) := by decide +kernel
theorem dX1_fieldSize_72 : decode cX1_fieldSize 72 = .ok (.aload_n 0, 1) := by decide +kernel
theorem dX1_fieldSize_73 : decode cX1_fieldSize 73 = .ok (.aload_n 1, 1) := by decide +kernel
theorem dX1_fieldSize_74 : decode cX1_fieldSize 74 = .ok (.getfield 92, 3) := by decide +kernel
theorem dX1_fieldSize_77 : decode cX1_fieldSize 77 = .ok (.invokevirtual 95, 3) := by decide +kernel
theorem dX1_fieldSize_80 : decode cX1_fieldSize 80 = .ok (.i2l, 1) := by decide +kernel
theorem dX1_fieldSize_81 : decode cX1_fieldSize 81 = .ok (.lreturn, 1) := by decide +kernel
theorem dX1_fieldSize_82 : decode cX1_fieldSize 82 = .ok (.aload_n 0, 1) := by decide +kernel
theorem dX1_fieldSize_83 : decode cX1_fieldSize 83 = .ok (.aload_n 1, 1) := by decide +kernel
theorem dX1_fieldSize_84 : decode cX1_fieldSize 84 = .ok (.invokevirtual 99, 3) := by decide +kernel
theorem dX1_fieldSize_87 : decode cX1_fieldSize 87 = .ok (.lreturn, 1) := by decide +kernel
theorem dX1_fieldSize_88 : decode cX1_fieldSize 88 = .ok (.aload_n 0, 1) := by decide +kernel
theorem dX1_fieldSize_89 : decode cX1_fieldSize 89 = .ok (.getfield 40, 3) := by decide +kernel
theorem dX1_fieldSize_92 : decode cX1_fieldSize 92 = .ok (.aload_n 1, 1) := by decide +kernel
theorem dX1_fieldSize_93 : decode cX1_fieldSize 93 = .ok (.getfield 103, 3) := by decide +kernel
theorem dX1_fieldSize_96 : decode cX1_fieldSize 96 = .ok (.sipush 2000, 3) := by decide +kernel
theorem dX1_fieldSize_99 : decode cX1_fieldSize 99 = .ok (.invokevirtual 106, 3) := by decide +kernel
theorem dX1_fieldSize_102 : decode cX1_fieldSize 102 = .ok (.lreturn, 1) := by decide +kernel
theorem dX1_fieldSize_103 : decode cX1_fieldSize 103 = .ok (.aload_n 0, 1) := by decide +kernel
theorem dX1_fieldSize_104 : decode cX1_fieldSize 104 = .ok (.aload_n 1, 1) := by decide +kernel
theorem dX1_fieldSize_105 : decode cX1_fieldSize 105 = .ok (.invokevirtual 110, 3) := by decide +kernel
theorem dX1_fieldSize_108 : decode cX1_fieldSize 108 = .ok (.i2l, 1) := by decide +kernel
theorem dX1_fieldSize_109 : decode cX1_fieldSize 109 = .ok (.lreturn, 1) := by decide +kernel
theorem dX1_fieldSize_110 : decode cX1_fieldSize 110 = .ok (.aload_n 1, 1) := by decide +kernel
theorem dX1_fieldSize_111 : decode cX1_fieldSize 111 = .ok (.lload_n 2, 1) := by decide +kernel
theorem dX1_fieldSize_112 : decode cX1_fieldSize 112 = .ok (.invokevirtual 114, 3) := by decide +kernel
theorem dX1_fieldSize_115 : decode cX1_fieldSize 115 = .ok (.lreturn, 1) := by decide +kernel
theorem dX1_fieldSize_116 : decode cX1_fieldSize 116 = .ok (.aload_n 1, 1) := by decide +kernel
theorem dX1_fieldSize_117 : decode cX1_fieldSize 117 = .ok (.getfield 118, 3) := by decide +kernel
theorem dX1_fieldSize_120 : decode cX1_fieldSize 120 = .ok (.i2l, 1) := by decide +kernel
theorem dX1_fieldSize_121 : decode cX1_fieldSize 121 = .ok (.lreturn, 1) := by decide +kernel
theorem dX1_fieldSize_122 : decode cX1_fieldSize 122 = .ok (.aload_n 1, 1) := by decide +kernel
theorem dX1_fieldSize_123 : decode cX1_fieldSize 123 = .ok (.getfield 119, 3) := by decide +kernel
theorem dX1_fieldSize_126 : decode cX1_fieldSize 126 = .ok (.i2l, 1) := by decide +kernel
theorem dX1_fieldSize_127 : decode cX1_fieldSize 127 = .ok (.lreturn, 1) := by decide +kernel
theorem dX1_forget_0 : decode cX1_forget 0 = .ok (.aload_n 0, 1) := by decide +kernel
theorem dX1_forget_1 : decode cX1_forget 1 = .ok (.iconst 0, 1) := by decide +kernel
theorem dX1_forget_2 : decode cX1_forget 2 = .ok (.putfield 45, 3) := by decide +kernel
theorem dX1_forget_5 : decode cX1_forget 5 = .ok (.aload_n 0, 1) := by decide +kernel
theorem dX1_forget_6 : decode cX1_forget 6 = .ok (.iconst 0, 1) := by decide +kernel
theorem dX1_forget_7 : decode cX1_forget 7 = .ok (.putfield 49, 3) := by decide +kernel
theorem dX1_forget_10 : decode cX1_forget 10 = .ok (.aload_n 0, 1) := by decide +kernel
theorem dX1_forget_11 : decode cX1_forget 11 = .ok (.iconst 0, 1) := by decide +kernel
theorem dX1_forget_12 : decode cX1_forget 12 = .ok (.putfield 52, 3) := by decide +kernel
theorem dX1_forget_15 : decode cX1_forget 15 = .ok (.aload_n 0, 1) := by decide +kernel
theorem dX1_forget_16 : decode cX1_forget 16 = .ok (.getfield 40, 3) := by decide +kernel
theorem dX1_forget_19 : decode cX1_forget 19 = .ok (.iconst 0, 1) := by decide +kernel
theorem dX1_forget_20 : decode cX1_forget 20 = .ok (.putfield 55, 3) := by decide +kernel
theorem dX1_forget_23 : decode cX1_forget 23 = .ok (.return_, 1) := by decide +kernel
theorem dX1_gatherUses_0 : decode cX1_gatherUses 0 = .ok (.iconst 0, 1) := by decide +kernel
theorem dX1_gatherUses_1 : decode cX1_gatherUses 1 = .ok (.istore_n 1, 1) := by decide +kernel
theorem dX1_gatherUses_2 : decode cX1_gatherUses 2 = .ok (.iload_n 1, 1) := by decide +kernel
theorem dX1_gatherUses_3 : decode cX1_gatherUses 3 = .ok (.aload_n 0, 1) := by decide +kernel
theorem dX1_gatherUses_4 : decode cX1_gatherUses 4 = .ok (.getfield 45, 3) := by decide +kernel
theorem dX1_gatherUses_7 : decode cX1_gatherUses 7 = .ok (.if_icmp .ge 56, 3) := by decide +kernel
theorem dX1_gatherUses_10 : decode cX1_gatherUses 10 = .ok (.aload_n 0, 1) := by decide +kernel
theorem dX1_gatherUses_11 : decode cX1_gatherUses 11 = .ok (.getfield 11, 3) := by decide +kernel
theorem dX1_gatherUses_14 : decode cX1_gatherUses 14 = .ok (.iload_n 1, 1) := by decide +kernel
theorem dX1_gatherUses_15 : decode cX1_gatherUses 15 = .ok (.aaload, 1) := by decide +kernel
theorem dX1_gatherUses_16 : decode cX1_gatherUses 16 = .ok (.astore_n 2, 1) := by decide +kernel
theorem dX1_gatherUses_17 : decode cX1_gatherUses 17 = .ok (.aload_n 2, 1) := by decide +kernel
theorem dX1_gatherUses_18 : decode cX1_gatherUses 18 = .ok (.iconst 0, 1) := by decide +kernel
theorem dX1_gatherUses_19 : decode cX1_gatherUses 19 = .ok (.putfield 128, 3) := by decide +kernel
theorem dX1_gatherUses_22 : decode cX1_gatherUses 22 = .ok (.iconst 0, 1) := by decide +kernel
theorem dX1_gatherUses_23 : decode cX1_gatherUses 23 = .ok (.istore_n 3, 1) := by decide +kernel
theorem dX1_gatherUses_24 : decode cX1_gatherUses 24 = .ok (.iload_n 3, 1) := by decide +kernel
theorem dX1_gatherUses_25 : decode cX1_gatherUses 25 = .ok (.aload_n 2, 1) := by decide +kernel
theorem dX1_gatherUses_26 : decode cX1_gatherUses 26 = .ok (.getfield 69, 3) := by decide +kernel
theorem dX1_gatherUses_29 : decode cX1_gatherUses 29 = .ok (.if_icmp .ge 28, 3) := by decide +kernel
theorem dX1_gatherUses_32 : decode cX1_gatherUses 32 = .ok (.aload_n 2, 1) := by decide +kernel
theorem dX1_gatherUses_33 : decode cX1_gatherUses 33 = .ok (.dup, 1) := by decide +kernel
theorem dX1_gatherUses_34 : decode cX1_gatherUses 34 = .ok (.getfield 128, 3) := by decide +kernel
theorem dX1_gatherUses_37 : decode cX1_gatherUses 37 = .ok (.aload_n 0, 1) := by decide +kernel
theorem dX1_gatherUses_38 : decode cX1_gatherUses 38 = .ok (.aload_n 2, 1) := by decide +kernel
theorem dX1_gatherUses_39 : decode cX1_gatherUses 39 = .ok (.getfield 72, 3) := by decide +kernel
theorem dX1_gatherUses_42 : decode cX1_gatherUses 42 = .ok (.iload_n 3, 1) := by decide +kernel
theorem dX1_gatherUses_43 : decode cX1_gatherUses 43 = .ok (.aaload, 1) := by decide +kernel
theorem dX1_gatherUses_44 : decode cX1_gatherUses 44 = .ok (.invokevirtual 131, 3) := by decide +kernel
theorem dX1_gatherUses_47 : decode cX1_gatherUses 47 = .ok (.ior, 1) := by decide +kernel
theorem dX1_gatherUses_48 : decode cX1_gatherUses 48 = .ok (.putfield 128, 3) := by decide +kernel
theorem dX1_gatherUses_51 : decode cX1_gatherUses 51 = .ok (.iinc 3 1, 3) := by decide +kernel
theorem dX1_gatherUses_54 : decode cX1_gatherUses 54 = .ok (.goto (-30), 3) := by decide +kernel
theorem dX1_gatherUses_57 : decode cX1_gatherUses 57 = .ok (.iinc 1 1, 3) := by decide +kernel
theorem dX1_gatherUses_60 : decode cX1_gatherUses 60 = .ok (.goto (-58), 3) := by decide +kernel
theorem dX1_gatherUses_63 : decode cX1_gatherUses 63 = .ok (.iconst 0, 1) := by decide +kernel
theorem dX1_gatherUses_64 : decode cX1_gatherUses 64 = .ok (.istore_n 1, 1) := by decide +kernel
theorem dX1_gatherUses_65 : decode cX1_gatherUses 65 = .ok (.iload_n 1, 1) := by decide +kernel
theorem dX1_gatherUses_66 : decode cX1_gatherUses 66 = .ok (.aload_n 0, 1) := by decide +kernel
theorem dX1_gatherUses_67 : decode cX1_gatherUses 67 = .ok (.getfield 45, 3) := by decide +kernel
theorem dX1_gatherUses_70 : decode cX1_gatherUses 70 = .ok (.if_icmp .ge 64, 3) := by decide +kernel
theorem dX1_gatherUses_73 : decode cX1_gatherUses 73 = .ok (.iconst 0, 1) := by decide +kernel
theorem dX1_gatherUses_74 : decode cX1_gatherUses 74 = .ok (.istore_n 2, 1) := by decide +kernel
theorem dX1_gatherUses_75 : decode cX1_gatherUses 75 = .ok (.iload_n 2, 1) := by decide +kernel
theorem dX1_gatherUses_76 : decode cX1_gatherUses 76 = .ok (.aload_n 0, 1) := by decide +kernel
theorem dX1_gatherUses_77 : decode cX1_gatherUses 77 = .ok (.getfield 45, 3) := by decide +kernel
theorem dX1_gatherUses_80 : decode cX1_gatherUses 80 = .ok (.if_icmp .ge 48, 3) := by decide +kernel
theorem dX1_gatherUses_83 : decode cX1_gatherUses 83 = .ok (.aload_n 0, 1) := by decide +kernel
theorem dX1_gatherUses_84 : decode cX1_gatherUses 84 = .ok (.getfield 11, 3) := by decide +kernel
theorem dX1_gatherUses_87 : decode cX1_gatherUses 87 = .ok (.iload_n 2, 1) := by decide +kernel
theorem dX1_gatherUses_88 : decode cX1_gatherUses 88 = .ok (.aaload, 1) := by decide +kernel
theorem dX1_gatherUses_89 : decode cX1_gatherUses 89 = .ok (.getfield 128, 3) := by decide +kernel
theorem dX1_gatherUses_92 : decode cX1_gatherUses 92 = .ok (.iload_n 1, 1) := by decide +kernel
theorem dX1_gatherUses_93 : decode cX1_gatherUses 93 = .ok (.ishr, 1) := by decide +kernel
theorem dX1_gatherUses_94 : decode cX1_gatherUses 94 = .ok (.iconst 1, 1) := by decide +kernel
theorem dX1_gatherUses_95 : decode cX1_gatherUses 95 = .ok (.iand, 1) := by decide +kernel
theorem dX1_gatherUses_96 : decode cX1_gatherUses 96 = .ok (.ifCond .eq 26, 3) := by decide +kernel
theorem dX1_gatherUses_99 : decode cX1_gatherUses 99 = .ok (.aload_n 0, 1) := by decide +kernel
theorem dX1_gatherUses_100 : decode cX1_gatherUses 100 = .ok (.getfield 11, 3) := by decide +kernel
theorem dX1_gatherUses_103 : decode cX1_gatherUses 103 = .ok (.iload_n 2, 1) := by decide +kernel
theorem dX1_gatherUses_104 : decode cX1_gatherUses 104 = .ok (.aaload, 1) := by decide +kernel
theorem dX1_gatherUses_105 : decode cX1_gatherUses 105 = .ok (.dup, 1) := by decide +kernel
theorem dX1_gatherUses_106 : decode cX1_gatherUses 106 = .ok (.getfield 128, 3) := by decide +kernel
theorem dX1_gatherUses_109 : decode cX1_gatherUses 109 = .ok (.aload_n 0, 1) := by decide +kernel
theorem dX1_gatherUses_110 : decode cX1_gatherUses 110 = .ok (.getfield 11, 3) := by decide +kernel
theorem dX1_gatherUses_113 : decode cX1_gatherUses 113 = .ok (.iload_n 1, 1) := by decide +kernel
theorem dX1_gatherUses_114 : decode cX1_gatherUses 114 = .ok (.aaload, 1) := by decide +kernel
theorem dX1_gatherUses_115 : decode cX1_gatherUses 115 = .ok (.getfield 128, 3) := by decide +kernel
theorem dX1_gatherUses_118 : decode cX1_gatherUses 118 = .ok (.ior, 1) := by decide +kernel
theorem dX1_gatherUses_119 : decode cX1_gatherUses 119 = .ok (.putfield 128, 3) := by decide +kernel
theorem dX1_gatherUses_122 : decode cX1_gatherUses 122 = .ok (.iinc 2 1, 3) := by decide +kernel
theorem dX1_gatherUses_125 : decode cX1_gatherUses 125 = .ok (.goto (-50), 3) := by decide +kernel
theorem dX1_gatherUses_128 : decode cX1_gatherUses 128 = .ok (.iinc 1 1, 3) := by decide +kernel
theorem dX1_gatherUses_131 : decode cX1_gatherUses 131 = .ok (.goto (-66), 3) := by decide +kernel
theorem dX1_gatherUses_134 : decode cX1_gatherUses 134 = .ok (.return_, 1) := by decide +kernel
theorem dX1_init_0 : decode cX1_init 0 = .ok (.aload_n 0, 1) := by decide +kernel
theorem dX1_init_1 : decode cX1_init 1 = .ok (.invokespecial 3, 3) := by decide +kernel
theorem dX1_init_4 : decode cX1_init 4 = .ok (.aload_n 0, 1) := by decide +kernel
theorem dX1_init_5 : decode cX1_init 5 = .ok (.bipush 20, 2) := by decide +kernel
theorem dX1_init_7 : decode cX1_init 7 = .ok (.anewarray 9, 3) := by decide +kernel
theorem dX1_init_10 : decode cX1_init 10 = .ok (.putfield 11, 3) := by decide +kernel
theorem dX1_init_13 : decode cX1_init 13 = .ok (.aload_n 0, 1) := by decide +kernel
theorem dX1_init_14 : decode cX1_init 14 = .ok (.bipush 8, 2) := by decide +kernel
theorem dX1_init_16 : decode cX1_init 16 = .ok (.newarray .long, 2) := by decide +kernel
theorem dX1_init_18 : decode cX1_init 18 = .ok (.putfield 17, 3) := by decide +kernel
theorem dX1_init_21 : decode cX1_init 21 = .ok (.aload_n 0, 1) := by decide +kernel
theorem dX1_init_22 : decode cX1_init 22 = .ok (.bipush 8, 2) := by decide +kernel
theorem dX1_init_24 : decode cX1_init 24 = .ok (.newarray .int, 2) := by decide +kernel
theorem dX1_init_26 : decode cX1_init 26 = .ok (.putfield 21, 3) := by decide +kernel
theorem dX1_init_29 : decode cX1_init 29 = .ok (.aload_n 0, 1) := by decide +kernel
theorem dX1_init_30 : decode cX1_init 30 = .ok (.bipush 8, 2) := by decide +kernel
theorem dX1_init_32 : decode cX1_init 32 = .ok (.newarray .int, 2) := by decide +kernel
theorem dX1_init_34 : decode cX1_init 34 = .ok (.putfield 25, 3) := by decide +kernel
theorem dX1_init_37 : decode cX1_init 37 = .ok (.aload_n 0, 1) := by decide +kernel
theorem dX1_init_38 : decode cX1_init 38 = .ok (.sipush 3000, 3) := by decide +kernel
theorem dX1_init_41 : decode cX1_init 41 = .ok (.newarray .long, 2) := by decide +kernel
theorem dX1_init_43 : decode cX1_init 43 = .ok (.putfield 28, 3) := by decide +kernel
theorem dX1_init_46 : decode cX1_init 46 = .ok (.aload_n 0, 1) := by decide +kernel
theorem dX1_init_47 : decode cX1_init 47 = .ok (.sipush 3000, 3) := by decide +kernel
theorem dX1_init_50 : decode cX1_init 50 = .ok (.newarray .long, 2) := by decide +kernel
theorem dX1_init_52 : decode cX1_init 52 = .ok (.putfield 31, 3) := by decide +kernel
theorem dX1_init_55 : decode cX1_init 55 = .ok (.aload_n 0, 1) := by decide +kernel
theorem dX1_init_56 : decode cX1_init 56 = .ok (.sipush 3000, 3) := by decide +kernel
theorem dX1_init_59 : decode cX1_init 59 = .ok (.newarray .int, 2) := by decide +kernel
theorem dX1_init_61 : decode cX1_init 61 = .ok (.putfield 34, 3) := by decide +kernel
theorem dX1_init_64 : decode cX1_init 64 = .ok (.aload_n 0, 1) := by decide +kernel
theorem dX1_init_65 : decode cX1_init 65 = .ok (.new 37, 3) := by decide +kernel
theorem dX1_init_68 : decode cX1_init 68 = .ok (.dup, 1) := by decide +kernel
theorem dX1_init_69 : decode cX1_init 69 = .ok (.invokespecial 39, 3) := by decide +kernel
theorem dX1_init_72 : decode cX1_init 72 = .ok (.putfield 40, 3) := by decide +kernel
theorem dX1_init_75 : decode cX1_init 75 = .ok (.iconst 0, 1) := by decide +kernel
theorem dX1_init_76 : decode cX1_init 76 = .ok (.istore_n 1, 1) := by decide +kernel
theorem dX1_init_77 : decode cX1_init 77 = .ok (.iload_n 1, 1) := by decide +kernel
theorem dX1_init_78 : decode cX1_init 78 = .ok (.bipush 20, 2) := by decide +kernel
theorem dX1_init_80 : decode cX1_init 80 = .ok (.if_icmp .ge 22, 3) := by decide +kernel
theorem dX1_init_83 : decode cX1_init 83 = .ok (.aload_n 0, 1) := by decide +kernel
theorem dX1_init_84 : decode cX1_init 84 = .ok (.getfield 11, 3) := by decide +kernel
theorem dX1_init_87 : decode cX1_init 87 = .ok (.iload_n 1, 1) := by decide +kernel
theorem dX1_init_88 : decode cX1_init 88 = .ok (.new 9, 3) := by decide +kernel
theorem dX1_init_91 : decode cX1_init 91 = .ok (.dup, 1) := by decide +kernel
theorem dX1_init_92 : decode cX1_init 92 = .ok (.invokespecial 44, 3) := by decide +kernel
theorem dX1_init_95 : decode cX1_init 95 = .ok (.aastore, 1) := by decide +kernel
theorem dX1_init_96 : decode cX1_init 96 = .ok (.iinc 1 1, 3) := by decide +kernel
theorem dX1_init_99 : decode cX1_init 99 = .ok (.goto (-22), 3) := by decide +kernel
theorem dX1_init_102 : decode cX1_init 102 = .ok (.return_, 1) := by decide +kernel
theorem dX1_measure_0 : decode cX1_measure 0 = .ok (.lconst 0, 1) := by decide +kernel
theorem dX1_measure_1 : decode cX1_measure 1 = .ok (.lstore_n 2, 1) := by decide +kernel
theorem dX1_measure_2 : decode cX1_measure 2 = .ok (.iconst 0, 1) := by decide +kernel
theorem dX1_measure_3 : decode cX1_measure 3 = .ok (.istore 4, 2) := by decide +kernel
theorem dX1_measure_5 : decode cX1_measure 5 = .ok (.iload 4, 2) := by decide +kernel
theorem dX1_measure_7 : decode cX1_measure 7 = .ok (.aload_n 1, 1) := by decide +kernel
theorem dX1_measure_8 : decode cX1_measure 8 = .ok (.getfield 69, 3) := by decide +kernel
theorem dX1_measure_11 : decode cX1_measure 11 = .ok (.if_icmp .ge 37, 3) := by decide +kernel
theorem dX1_measure_14 : decode cX1_measure 14 = .ok (.aload_n 0, 1) := by decide +kernel
theorem dX1_measure_15 : decode cX1_measure 15 = .ok (.aload_n 1, 1) := by decide +kernel
theorem dX1_measure_16 : decode cX1_measure 16 = .ok (.getfield 72, 3) := by decide +kernel
theorem dX1_measure_19 : decode cX1_measure 19 = .ok (.iload 4, 2) := by decide +kernel
theorem dX1_measure_21 : decode cX1_measure 21 = .ok (.aaload, 1) := by decide +kernel
theorem dX1_measure_22 : decode cX1_measure 22 = .ok (.lload_n 2, 1) := by decide +kernel
theorem dX1_measure_23 : decode cX1_measure 23 = .ok (.invokevirtual 76, 3) := by decide +kernel
theorem dX1_measure_26 : decode cX1_measure 26 = .ok (.lstore 5, 2) := by decide +kernel
theorem dX1_measure_28 : decode cX1_measure 28 = .ok (.lload 5, 2) := by decide +kernel
theorem dX1_measure_30 : decode cX1_measure 30 = .ok (.lconst 0, 1) := by decide +kernel
theorem dX1_measure_31 : decode cX1_measure 31 = .ok (.lcmp, 1) := by decide +kernel
theorem dX1_measure_32 : decode cX1_measure 32 = .ok (.ifCond .ge 5, 3) := by decide +kernel
theorem dX1_measure_35 : decode cX1_measure 35 = .ok (.iconst (-1), 1) := by decide +kernel
theorem dX1_measure_36 : decode cX1_measure 36 = .ok (.ireturn, 1) := by decide +kernel
theorem dX1_measure_37 : decode cX1_measure 37 = .ok (.lload_n 2, 1) := by decide +kernel
theorem dX1_measure_38 : decode cX1_measure 38 = .ok (.lload 5, 2) := by decide +kernel
theorem dX1_measure_40 : decode cX1_measure 40 = .ok (.ladd, 1) := by decide +kernel
theorem dX1_measure_41 : decode cX1_measure 41 = .ok (.lstore_n 2, 1) := by decide +kernel
theorem dX1_measure_42 : decode cX1_measure 42 = .ok (.iinc 4 1, 3) := by decide +kernel
theorem dX1_measure_45 : decode cX1_measure 45 = .ok (.goto (-40), 3) := by decide +kernel
theorem dX1_measure_48 : decode cX1_measure 48 = .ok (.lload_n 2, 1) := by decide +kernel
theorem dX1_measure_49 : decode cX1_measure 49 = .ok (.ldc2_w 80, 3) := by decide +kernel
theorem dX1_measure_52 : decode cX1_measure 52 = .ok (.lcmp, 1) := by decide +kernel
theorem dX1_measure_53 : decode cX1_measure 53 = .ok (.ifCond .le 7, 3) := by decide +kernel
theorem dX1_measure_56 : decode cX1_measure 56 = .ok (.iconst (-1), 1) := by decide +kernel
theorem dX1_measure_57 : decode cX1_measure 57 = .ok (.goto 5, 3) := by decide +kernel
theorem dX1_measure_60 : decode cX1_measure 60 = .ok (.lload_n 2, 1) := by decide +kernel
theorem dX1_measure_61 : decode cX1_measure 61 = .ok (.l2i, 1) := by decide +kernel
theorem dX1_measure_62 : decode cX1_measure 62 = .ok (.ireturn, 1) := by decide +kernel
theorem dX1_pairWith_0 : decode cX1_pairWith 0 = .ok (.iload_n 1, 1) := by decide +kernel
theorem dX1_pairWith_1 : decode cX1_pairWith 1 = .ok (.ifCond .lt 11, 3) := by decide +kernel
theorem dX1_pairWith_4 : decode cX1_pairWith 4 = .ok (.iload_n 1, 1) := by decide +kernel
theorem dX1_pairWith_5 : decode cX1_pairWith 5 = .ok (.aload_n 0, 1) := by decide +kernel
theorem dX1_pairWith_6 : decode cX1_pairWith 6 = .ok (.getfield 49, 3) := by decide +kernel
theorem dX1_pairWith_9 : decode cX1_pairWith 9 = .ok (.if_icmp .lt 7, 3) := by decide +kernel
theorem dX1_pairWith_12 : decode cX1_pairWith 12 = .ok (.iconst (-1), 1) := by decide +kernel
theorem dX1_pairWith_13 : decode cX1_pairWith 13 = .ok (.goto 20, 3) := by decide +kernel
theorem dX1_pairWith_16 : decode cX1_pairWith 16 = .ok (.aload_n 0, 1) := by decide +kernel
theorem dX1_pairWith_17 : decode cX1_pairWith 17 = .ok (.aload_n 0, 1) := by decide +kernel
theorem dX1_pairWith_18 : decode cX1_pairWith 18 = .ok (.getfield 21, 3) := by decide +kernel
theorem dX1_pairWith_21 : decode cX1_pairWith 21 = .ok (.iload_n 1, 1) := by decide +kernel
theorem dX1_pairWith_22 : decode cX1_pairWith 22 = .ok (.iaload, 1) := by decide +kernel
theorem dX1_pairWith_23 : decode cX1_pairWith 23 = .ok (.aload_n 0, 1) := by decide +kernel
theorem dX1_pairWith_24 : decode cX1_pairWith 24 = .ok (.getfield 25, 3) := by decide +kernel
theorem dX1_pairWith_27 : decode cX1_pairWith 27 = .ok (.iload_n 1, 1) := by decide +kernel
theorem dX1_pairWith_28 : decode cX1_pairWith 28 = .ok (.iaload, 1) := by decide +kernel
theorem dX1_pairWith_29 : decode cX1_pairWith 29 = .ok (.lload_n 2, 1) := by decide +kernel
theorem dX1_pairWith_30 : decode cX1_pairWith 30 = .ok (.invokevirtual 62, 3) := by decide +kernel
theorem dX1_pairWith_33 : decode cX1_pairWith 33 = .ok (.ireturn, 1) := by decide +kernel
theorem dX1_sizeOf_0 : decode cX1_sizeOf 0 = .ok (.iload_n 1, 1) := by decide +kernel
theorem dX1_sizeOf_1 : decode cX1_sizeOf 1 = .ok (.ifCond .lt 11, 3) := by decide +kernel
theorem dX1_sizeOf_4 : decode cX1_sizeOf 4 = .ok (.iload_n 1, 1) := by decide +kernel
theorem dX1_sizeOf_5 : decode cX1_sizeOf 5 = .ok (.aload_n 0, 1) := by decide +kernel
theorem dX1_sizeOf_6 : decode cX1_sizeOf 6 = .ok (.getfield 45, 3) := by decide +kernel
theorem dX1_sizeOf_9 : decode cX1_sizeOf 9 = .ok (.if_icmp .lt 7, 3) := by decide +kernel
theorem dX1_sizeOf_12 : decode cX1_sizeOf 12 = .ok (.iconst (-1), 1) := by decide +kernel
theorem dX1_sizeOf_13 : decode cX1_sizeOf 13 = .ok (.goto 12, 3) := by decide +kernel
theorem dX1_sizeOf_16 : decode cX1_sizeOf 16 = .ok (.aload_n 0, 1) := by decide +kernel
theorem dX1_sizeOf_17 : decode cX1_sizeOf 17 = .ok (.getfield 11, 3) := by decide +kernel
theorem dX1_sizeOf_20 : decode cX1_sizeOf 20 = .ok (.iload_n 1, 1) := by decide +kernel
theorem dX1_sizeOf_21 : decode cX1_sizeOf 21 = .ok (.aaload, 1) := by decide +kernel
theorem dX1_sizeOf_22 : decode cX1_sizeOf 22 = .ok (.getfield 66, 3) := by decide +kernel
theorem dX1_sizeOf_25 : decode cX1_sizeOf 25 = .ok (.ireturn, 1) := by decide +kernel
theorem dX1_structureNamed_0 : decode cX1_structureNamed 0 = .ok (.iconst 0, 1) := by decide +kernel
theorem dX1_structureNamed_1 : decode cX1_structureNamed 1 = .ok (.istore_n 3, 1) := by decide +kernel
theorem dX1_structureNamed_2 : decode cX1_structureNamed 2 = .ok (.iload_n 3, 1) := by decide +kernel
theorem dX1_structureNamed_3 : decode cX1_structureNamed 3 = .ok (.aload_n 0, 1) := by decide +kernel
theorem dX1_structureNamed_4 : decode cX1_structureNamed 4 = .ok (.getfield 45, 3) := by decide +kernel
theorem dX1_structureNamed_7 : decode cX1_structureNamed 7 = .ok (.if_icmp .ge 25, 3) := by decide +kernel
theorem dX1_structureNamed_10 : decode cX1_structureNamed 10 = .ok (.aload_n 0, 1) := by decide +kernel
theorem dX1_structureNamed_11 : decode cX1_structureNamed 11 = .ok (.getfield 11, 3) := by decide +kernel
theorem dX1_structureNamed_14 : decode cX1_structureNamed 14 = .ok (.iload_n 3, 1) := by decide +kernel
theorem dX1_structureNamed_15 : decode cX1_structureNamed 15 = .ok (.aaload, 1) := by decide +kernel
theorem dX1_structureNamed_16 : decode cX1_structureNamed 16 = .ok (.getfield 58, 3) := by decide +kernel
theorem dX1_structureNamed_19 : decode cX1_structureNamed 19 = .ok (.lload_n 1, 1) := by decide +kernel
theorem dX1_structureNamed_20 : decode cX1_structureNamed 20 = .ok (.lcmp, 1) := by decide +kernel
theorem dX1_structureNamed_21 : decode cX1_structureNamed 21 = .ok (.ifCond .ne 5, 3) := by decide +kernel
theorem dX1_structureNamed_24 : decode cX1_structureNamed 24 = .ok (.iload_n 3, 1) := by decide +kernel
theorem dX1_structureNamed_25 : decode cX1_structureNamed 25 = .ok (.ireturn, 1) := by decide +kernel
theorem dX1_structureNamed_26 : decode cX1_structureNamed 26 = .ok (.iinc 3 1, 3) := by decide +kernel
theorem dX1_structureNamed_29 : decode cX1_structureNamed 29 = .ok (.goto (-27), 3) := by decide +kernel
theorem dX1_structureNamed_32 : decode cX1_structureNamed 32 = .ok (.iconst (-1), 1) := by decide +kernel
theorem dX1_structureNamed_33 : decode cX1_structureNamed 33 = .ok (.ireturn, 1) := by decide +kernel
theorem dX1_unionSize_0 : decode cX1_unionSize 0 = .ok (.aload_n 0, 1) := by decide +kernel
theorem dX1_unionSize_1 : decode cX1_unionSize 1 = .ok (.aload_n 1, 1) := by decide +kernel
theorem dX1_unionSize_2 : decode cX1_unionSize 2 = .ok (.getfield 122, 3) := by decide +kernel
theorem dX1_unionSize_5 : decode cX1_unionSize 5 = .ok (.invokevirtual 95, 3) := by decide +kernel
theorem dX1_unionSize_8 : decode cX1_unionSize 8 = .ok (.istore_n 2, 1) := by decide +kernel
theorem dX1_unionSize_9 : decode cX1_unionSize 9 = .ok (.aload_n 1, 1) := by decide +kernel
theorem dX1_unionSize_10 : decode cX1_unionSize 10 = .ok (.getfield 125, 3) := by decide +kernel
theorem dX1_unionSize_13 : decode cX1_unionSize 13 = .ok (.istore_n 3, 1) := by decide +kernel
theorem dX1_unionSize_14 : decode cX1_unionSize 14 = .ok (.iload_n 3, 1) := by decide +kernel
theorem dX1_unionSize_15 : decode cX1_unionSize 15 = .ok (.aload_n 1, 1) := by decide +kernel
theorem dX1_unionSize_16 : decode cX1_unionSize 16 = .ok (.getfield 125, 3) := by decide +kernel
theorem dX1_unionSize_19 : decode cX1_unionSize 19 = .ok (.aload_n 1, 1) := by decide +kernel
theorem dX1_unionSize_20 : decode cX1_unionSize 20 = .ok (.getfield 118, 3) := by decide +kernel
theorem dX1_unionSize_23 : decode cX1_unionSize 23 = .ok (.iadd, 1) := by decide +kernel
theorem dX1_unionSize_24 : decode cX1_unionSize 24 = .ok (.if_icmp .ge 25, 3) := by decide +kernel
theorem dX1_unionSize_27 : decode cX1_unionSize 27 = .ok (.aload_n 0, 1) := by decide +kernel
theorem dX1_unionSize_28 : decode cX1_unionSize 28 = .ok (.aload_n 0, 1) := by decide +kernel
theorem dX1_unionSize_29 : decode cX1_unionSize 29 = .ok (.getfield 34, 3) := by decide +kernel
theorem dX1_unionSize_32 : decode cX1_unionSize 32 = .ok (.iload_n 3, 1) := by decide +kernel
theorem dX1_unionSize_33 : decode cX1_unionSize 33 = .ok (.iaload, 1) := by decide +kernel
theorem dX1_unionSize_34 : decode cX1_unionSize 34 = .ok (.invokevirtual 95, 3) := by decide +kernel
theorem dX1_unionSize_37 : decode cX1_unionSize 37 = .ok (.iload_n 2, 1) := by decide +kernel
theorem dX1_unionSize_38 : decode cX1_unionSize 38 = .ok (.if_icmp .eq 5, 3) := by decide +kernel
theorem dX1_unionSize_41 : decode cX1_unionSize 41 = .ok (.iconst (-1), 1) := by decide +kernel
theorem dX1_unionSize_42 : decode cX1_unionSize 42 = .ok (.ireturn, 1) := by decide +kernel
theorem dX1_unionSize_43 : decode cX1_unionSize 43 = .ok (.iinc 3 1, 3) := by decide +kernel
theorem dX1_unionSize_46 : decode cX1_unionSize 46 = .ok (.goto (-32), 3) := by decide +kernel
theorem dX1_unionSize_49 : decode cX1_unionSize 49 = .ok (.iload_n 2, 1) := by decide +kernel
theorem dX1_unionSize_50 : decode cX1_unionSize 50 = .ok (.ireturn, 1) := by decide +kernel
theorem dX1_usedBy_0 : decode cX1_usedBy 0 = .ok (.aload_n 1, 1) := by decide +kernel
theorem dX1_usedBy_1 : decode cX1_usedBy 1 = .ok (.getfield 92, 3) := by decide +kernel
theorem dX1_usedBy_4 : decode cX1_usedBy 4 = .ok (.iconst (-1), 1) := by decide +kernel
theorem dX1_usedBy_5 : decode cX1_usedBy 5 = .ok (.if_icmp .ne 7, 3) := by decide +kernel
theorem dX1_usedBy_8 : decode cX1_usedBy 8 = .ok (.iconst 0, 1) := by decide +kernel
theorem dX1_usedBy_9 : decode cX1_usedBy 9 = .ok (.goto 9, 3) := by decide +kernel
theorem dX1_usedBy_12 : decode cX1_usedBy 12 = .ok (.iconst 1, 1) := by decide +kernel
theorem dX1_usedBy_13 : decode cX1_usedBy 13 = .ok (.aload_n 1, 1) := by decide +kernel
theorem dX1_usedBy_14 : decode cX1_usedBy 14 = .ok (.getfield 92, 3) := by decide +kernel
theorem dX1_usedBy_17 : decode cX1_usedBy 17 = .ok (.ishl, 1) := by decide +kernel
theorem dX1_usedBy_18 : decode cX1_usedBy 18 = .ok (.istore_n 2, 1) := by decide +kernel
theorem dX1_usedBy_19 : decode cX1_usedBy 19 = .ok (.aload_n 1, 1) := by decide +kernel
theorem dX1_usedBy_20 : decode cX1_usedBy 20 = .ok (.getfield 89, 3) := by decide +kernel
theorem dX1_usedBy_23 : decode cX1_usedBy 23 = .ok (.bipush 6, 2) := by decide +kernel
theorem dX1_usedBy_25 : decode cX1_usedBy 25 = .ok (.if_icmp .ne 59, 3) := by decide +kernel
theorem dX1_usedBy_28 : decode cX1_usedBy 28 = .ok (.iload_n 2, 1) := by decide +kernel
theorem dX1_usedBy_29 : decode cX1_usedBy 29 = .ok (.aload_n 1, 1) := by decide +kernel
theorem dX1_usedBy_30 : decode cX1_usedBy 30 = .ok (.getfield 122, 3) := by decide +kernel
theorem dX1_usedBy_33 : decode cX1_usedBy 33 = .ok (.iconst (-1), 1) := by decide +kernel
theorem dX1_usedBy_34 : decode cX1_usedBy 34 = .ok (.if_icmp .ne 7, 3) := by decide +kernel
theorem dX1_usedBy_37 : decode cX1_usedBy 37 = .ok (.iconst 0, 1) := by decide +kernel
theorem dX1_usedBy_38 : decode cX1_usedBy 38 = .ok (.goto 9, 3) := by decide +kernel
theorem dX1_usedBy_41 : decode cX1_usedBy 41 = .ok (.iconst 1, 1) := by decide +kernel
theorem dX1_usedBy_42 : decode cX1_usedBy 42 = .ok (.aload_n 1, 1) := by decide +kernel
theorem dX1_usedBy_43 : decode cX1_usedBy 43 = .ok (.getfield 122, 3) := by decide +kernel
theorem dX1_usedBy_46 : decode cX1_usedBy 46 = .ok (.ishl, 1) := by decide +kernel
theorem dX1_usedBy_47 : decode cX1_usedBy 47 = .ok (.ior, 1) := by decide +kernel
theorem dX1_usedBy_48 : decode cX1_usedBy 48 = .ok (.istore_n 2, 1) := by decide +kernel
theorem dX1_usedBy_49 : decode cX1_usedBy 49 = .ok (.aload_n 1, 1) := by decide +kernel
theorem dX1_usedBy_50 : decode cX1_usedBy 50 = .ok (.getfield 125, 3) := by decide +kernel
theorem dX1_usedBy_53 : decode cX1_usedBy 53 = .ok (.istore_n 3, 1) := by decide +kernel
theorem dX1_usedBy_54 : decode cX1_usedBy 54 = .ok (.iload_n 3, 1) := by decide +kernel
theorem dX1_usedBy_55 : decode cX1_usedBy 55 = .ok (.aload_n 1, 1) := by decide +kernel
theorem dX1_usedBy_56 : decode cX1_usedBy 56 = .ok (.getfield 125, 3) := by decide +kernel
theorem dX1_usedBy_59 : decode cX1_usedBy 59 = .ok (.aload_n 1, 1) := by decide +kernel
theorem dX1_usedBy_60 : decode cX1_usedBy 60 = .ok (.getfield 118, 3) := by decide +kernel
theorem dX1_usedBy_63 : decode cX1_usedBy 63 = .ok (.iadd, 1) := by decide +kernel
theorem dX1_usedBy_64 : decode cX1_usedBy 64 = .ok (.if_icmp .ge 20, 3) := by decide +kernel
theorem dX1_usedBy_67 : decode cX1_usedBy 67 = .ok (.iload_n 2, 1) := by decide +kernel
theorem dX1_usedBy_68 : decode cX1_usedBy 68 = .ok (.iconst 1, 1) := by decide +kernel
theorem dX1_usedBy_69 : decode cX1_usedBy 69 = .ok (.aload_n 0, 1) := by decide +kernel
theorem dX1_usedBy_70 : decode cX1_usedBy 70 = .ok (.getfield 34, 3) := by decide +kernel
theorem dX1_usedBy_73 : decode cX1_usedBy 73 = .ok (.iload_n 3, 1) := by decide +kernel
theorem dX1_usedBy_74 : decode cX1_usedBy 74 = .ok (.iaload, 1) := by decide +kernel
theorem dX1_usedBy_75 : decode cX1_usedBy 75 = .ok (.ishl, 1) := by decide +kernel
theorem dX1_usedBy_76 : decode cX1_usedBy 76 = .ok (.ior, 1) := by decide +kernel
theorem dX1_usedBy_77 : decode cX1_usedBy 77 = .ok (.istore_n 2, 1) := by decide +kernel
theorem dX1_usedBy_78 : decode cX1_usedBy 78 = .ok (.iinc 3 1, 3) := by decide +kernel
theorem dX1_usedBy_81 : decode cX1_usedBy 81 = .ok (.goto (-27), 3) := by decide +kernel
theorem dX1_usedBy_84 : decode cX1_usedBy 84 = .ok (.iload_n 2, 1) := by decide +kernel
theorem dX1_usedBy_85 : decode cX1_usedBy 85 = .ok (.ireturn, 1) := by decide +kernel
theorem dX2_forget_0 : decode cX2_forget 0 = .ok (.aload_n 0, 1) := by decide +kernel
theorem dX2_forget_1 : decode cX2_forget 1 = .ok (.iconst (-1), 1) := by decide +kernel
theorem dX2_forget_2 : decode cX2_forget 2 = .ok (.putfield 15, 3) := by decide +kernel
theorem dX2_forget_5 : decode cX2_forget 5 = .ok (.aload_n 0, 1) := by decide +kernel
theorem dX2_forget_6 : decode cX2_forget 6 = .ok (.lconst 0, 1) := by decide +kernel
theorem dX2_forget_7 : decode cX2_forget 7 = .ok (.putfield 18, 3) := by decide +kernel
theorem dX2_forget_10 : decode cX2_forget 10 = .ok (.aload_n 0, 1) := by decide +kernel
theorem dX2_forget_11 : decode cX2_forget 11 = .ok (.iconst 0, 1) := by decide +kernel
theorem dX2_forget_12 : decode cX2_forget 12 = .ok (.putfield 22, 3) := by decide +kernel
theorem dX2_forget_15 : decode cX2_forget 15 = .ok (.aload_n 0, 1) := by decide +kernel
theorem dX2_forget_16 : decode cX2_forget 16 = .ok (.iconst 0, 1) := by decide +kernel
theorem dX2_forget_17 : decode cX2_forget 17 = .ok (.putfield 25, 3) := by decide +kernel
theorem dX2_forget_20 : decode cX2_forget 20 = .ok (.aload_n 0, 1) := by decide +kernel
theorem dX2_forget_21 : decode cX2_forget 21 = .ok (.iconst 0, 1) := by decide +kernel
theorem dX2_forget_22 : decode cX2_forget 22 = .ok (.putfield 29, 3) := by decide +kernel
theorem dX2_forget_25 : decode cX2_forget 25 = .ok (.aload_n 0, 1) := by decide +kernel
theorem dX2_forget_26 : decode cX2_forget 26 = .ok (.iconst (-1), 1) := by decide +kernel
theorem dX2_forget_27 : decode cX2_forget 27 = .ok (.putfield 32, 3) := by decide +kernel
theorem dX2_forget_30 : decode cX2_forget 30 = .ok (.aload_n 0, 1) := by decide +kernel
theorem dX2_forget_31 : decode cX2_forget 31 = .ok (.iconst (-1), 1) := by decide +kernel
theorem dX2_forget_32 : decode cX2_forget 32 = .ok (.putfield 35, 3) := by decide +kernel
theorem dX2_forget_35 : decode cX2_forget 35 = .ok (.aload_n 0, 1) := by decide +kernel
theorem dX2_forget_36 : decode cX2_forget 36 = .ok (.iconst (-1), 1) := by decide +kernel
theorem dX2_forget_37 : decode cX2_forget 37 = .ok (.putfield 38, 3) := by decide +kernel
theorem dX2_forget_40 : decode cX2_forget 40 = .ok (.aload_n 0, 1) := by decide +kernel
theorem dX2_forget_41 : decode cX2_forget 41 = .ok (.iconst (-1), 1) := by decide +kernel
theorem dX2_forget_42 : decode cX2_forget 42 = .ok (.putfield 41, 3) := by decide +kernel
theorem dX2_forget_45 : decode cX2_forget 45 = .ok (.aload_n 0, 1) := by decide +kernel
theorem dX2_forget_46 : decode cX2_forget 46 = .ok (.iconst (-1), 1) := by decide +kernel
theorem dX2_forget_47 : decode cX2_forget 47 = .ok (.putfield 44, 3) := by decide +kernel
theorem dX2_forget_50 : decode cX2_forget 50 = .ok (.aload_n 0, 1) := by decide +kernel
theorem dX2_forget_51 : decode cX2_forget 51 = .ok (.lconst 0, 1) := by decide +kernel
theorem dX2_forget_52 : decode cX2_forget 52 = .ok (.putfield 47, 3) := by decide +kernel
theorem dX2_forget_55 : decode cX2_forget 55 = .ok (.aload_n 0, 1) := by decide +kernel
theorem dX2_forget_56 : decode cX2_forget 56 = .ok (.iconst (-1), 1) := by decide +kernel
theorem dX2_forget_57 : decode cX2_forget 57 = .ok (.putfield 50, 3) := by decide +kernel
theorem dX2_forget_60 : decode cX2_forget 60 = .ok (.aload_n 0, 1) := by decide +kernel
theorem dX2_forget_61 : decode cX2_forget 61 = .ok (.iconst 0, 1) := by decide +kernel
theorem dX2_forget_62 : decode cX2_forget 62 = .ok (.putfield 53, 3) := by decide +kernel
theorem dX2_forget_65 : decode cX2_forget 65 = .ok (.aload_n 0, 1) := by decide +kernel
theorem dX2_forget_66 : decode cX2_forget 66 = .ok (.iconst 0, 1) := by decide +kernel
theorem dX2_forget_67 : decode cX2_forget 67 = .ok (.putfield 56, 3) := by decide +kernel
theorem dX2_forget_70 : decode cX2_forget 70 = .ok (.aload_n 0, 1) := by decide +kernel
theorem dX2_forget_71 : decode cX2_forget 71 = .ok (.lconst 0, 1) := by decide +kernel
theorem dX2_forget_72 : decode cX2_forget 72 = .ok (.putfield 59, 3) := by decide +kernel
theorem dX2_forget_75 : decode cX2_forget 75 = .ok (.aload_n 0, 1) := by decide +kernel
theorem dX2_forget_76 : decode cX2_forget 76 = .ok (.iconst 0, 1) := by decide +kernel
theorem dX2_forget_77 : decode cX2_forget 77 = .ok (.putfield 62, 3) := by decide +kernel
theorem dX2_forget_80 : decode cX2_forget 80 = .ok (.return_, 1) := by decide +kernel
theorem dX2_init_0 : decode cX2_init 0 = .ok (.aload_n 0, 1) := by decide +kernel
theorem dX2_init_1 : decode cX2_init 1 = .ok (.invokespecial 3, 3) := by decide +kernel
theorem dX2_init_4 : decode cX2_init 4 = .ok (.aload_n 0, 1) := by decide +kernel
theorem dX2_init_5 : decode cX2_init 5 = .ok (.iload_n 1, 1) := by decide +kernel
theorem dX2_init_6 : decode cX2_init 6 = .ok (.putfield 9, 3) := by decide +kernel
theorem dX2_init_9 : decode cX2_init 9 = .ok (.return_, 1) := by decide +kernel
theorem dX2_padding_0 : decode cX2_padding 0 = .ok (.aload_n 0, 1) := by decide +kernel
theorem dX2_padding_1 : decode cX2_padding 1 = .ok (.getfield 47, 3) := by decide +kernel
theorem dX2_padding_4 : decode cX2_padding 4 = .ok (.lconst 1, 1) := by decide +kernel
theorem dX2_padding_5 : decode cX2_padding 5 = .ok (.lcmp, 1) := by decide +kernel
theorem dX2_padding_6 : decode cX2_padding 6 = .ok (.ifCond .ge 7, 3) := by decide +kernel
theorem dX2_padding_9 : decode cX2_padding 9 = .ok (.lconst 0, 1) := by decide +kernel
theorem dX2_padding_10 : decode cX2_padding 10 = .ok (.goto 12, 3) := by decide +kernel
theorem dX2_padding_13 : decode cX2_padding 13 = .ok (.lload_n 1, 1) := by decide +kernel
theorem dX2_padding_14 : decode cX2_padding 14 = .ok (.lneg, 1) := by decide +kernel
theorem dX2_padding_15 : decode cX2_padding 15 = .ok (.aload_n 0, 1) := by decide +kernel
theorem dX2_padding_16 : decode cX2_padding 16 = .ok (.getfield 47, 3) := by decide +kernel
theorem dX2_padding_19 : decode cX2_padding 19 = .ok (.invokestatic 69, 3) := by decide +kernel
theorem dX2_padding_22 : decode cX2_padding 22 = .ok (.lreturn, 1) := by decide +kernel
theorem dX2_setType_0 : decode cX2_setType 0 = .ok (.aload_n 0, 1) := by decide +kernel
theorem dX2_setType_1 : decode cX2_setType 1 = .ok (.lload_n 1, 1) := by decide +kernel
theorem dX2_setType_2 : decode cX2_setType 2 = .ok (.l2i, 1) := by decide +kernel
theorem dX2_setType_3 : decode cX2_setType 3 = .ok (.bipush 15, 2) := by decide +kernel
theorem dX2_setType_5 : decode cX2_setType 5 = .ok (.iand, 1) := by decide +kernel
theorem dX2_setType_6 : decode cX2_setType 6 = .ok (.putfield 22, 3) := by decide +kernel
theorem dX2_setType_9 : decode cX2_setType 9 = .ok (.aload_n 0, 1) := by decide +kernel
theorem dX2_setType_10 : decode cX2_setType 10 = .ok (.lload_n 1, 1) := by decide +kernel
theorem dX2_setType_11 : decode cX2_setType 11 = .ok (.ldc2_w 65, 3) := by decide +kernel
theorem dX2_setType_14 : decode cX2_setType 14 = .ok (.land, 1) := by decide +kernel
theorem dX2_setType_15 : decode cX2_setType 15 = .ok (.lconst 0, 1) := by decide +kernel
theorem dX2_setType_16 : decode cX2_setType 16 = .ok (.lcmp, 1) := by decide +kernel
theorem dX2_setType_17 : decode cX2_setType 17 = .ok (.ifCond .eq 7, 3) := by decide +kernel
theorem dX2_setType_20 : decode cX2_setType 20 = .ok (.iconst 1, 1) := by decide +kernel
theorem dX2_setType_21 : decode cX2_setType 21 = .ok (.goto 4, 3) := by decide +kernel
theorem dX2_setType_24 : decode cX2_setType 24 = .ok (.iconst 0, 1) := by decide +kernel
theorem dX2_setType_25 : decode cX2_setType 25 = .ok (.putfield 25, 3) := by decide +kernel
theorem dX2_setType_28 : decode cX2_setType 28 = .ok (.aload_n 0, 1) := by decide +kernel
theorem dX2_setType_29 : decode cX2_setType 29 = .ok (.lload_n 1, 1) := by decide +kernel
theorem dX2_setType_30 : decode cX2_setType 30 = .ok (.ldc2_w 67, 3) := by decide +kernel
theorem dX2_setType_33 : decode cX2_setType 33 = .ok (.land, 1) := by decide +kernel
theorem dX2_setType_34 : decode cX2_setType 34 = .ok (.lconst 0, 1) := by decide +kernel
theorem dX2_setType_35 : decode cX2_setType 35 = .ok (.lcmp, 1) := by decide +kernel
theorem dX2_setType_36 : decode cX2_setType 36 = .ok (.ifCond .eq 7, 3) := by decide +kernel
theorem dX2_setType_39 : decode cX2_setType 39 = .ok (.iconst 1, 1) := by decide +kernel
theorem dX2_setType_40 : decode cX2_setType 40 = .ok (.goto 4, 3) := by decide +kernel
theorem dX2_setType_43 : decode cX2_setType 43 = .ok (.iconst 0, 1) := by decide +kernel
theorem dX2_setType_44 : decode cX2_setType 44 = .ok (.putfield 29, 3) := by decide +kernel
theorem dX2_setType_47 : decode cX2_setType 47 = .ok (.return_, 1) := by decide +kernel
theorem dX3_addLayer_0 : decode cX3_addLayer 0 = .ok (.aload_n 0, 1) := by decide +kernel
theorem dX3_addLayer_1 : decode cX3_addLayer 1 = .ok (.getfield 28, 3) := by decide +kernel
theorem dX3_addLayer_4 : decode cX3_addLayer 4 = .ok (.iconst 4, 1) := by decide +kernel
theorem dX3_addLayer_5 : decode cX3_addLayer 5 = .ok (.if_icmp .lt 4, 3) := by decide +kernel
theorem dX3_addLayer_8 : decode cX3_addLayer 8 = .ok (.return_, 1) := by decide +kernel
theorem dX3_addLayer_9 : decode cX3_addLayer 9 = .ok (.aload_n 0, 1) := by decide +kernel
theorem dX3_addLayer_10 : decode cX3_addLayer 10 = .ok (.getfield 20, 3) := by decide +kernel
theorem dX3_addLayer_13 : decode cX3_addLayer 13 = .ok (.aload_n 0, 1) := by decide +kernel
theorem dX3_addLayer_14 : decode cX3_addLayer 14 = .ok (.getfield 28, 3) := by decide +kernel
theorem dX3_addLayer_17 : decode cX3_addLayer 17 = .ok (.aaload, 1) := by decide +kernel
theorem dX3_addLayer_18 : decode cX3_addLayer 18 = .ok (.ifnonnull 19, 3) := by decide +kernel
theorem dX3_addLayer_21 : decode cX3_addLayer 21 = .ok (.aload_n 0, 1) := by decide +kernel
theorem dX3_addLayer_22 : decode cX3_addLayer 22 = .ok (.getfield 20, 3) := by decide +kernel
theorem dX3_addLayer_25 : decode cX3_addLayer 25 = .ok (.aload_n 0, 1) := by decide +kernel
theorem dX3_addLayer_26 : decode cX3_addLayer 26 = .ok (.getfield 28, 3) := by decide +kernel
theorem dX3_addLayer_29 : decode cX3_addLayer 29 = .ok (.new 18, 3) := by decide +kernel
theorem dX3_addLayer_32 : decode cX3_addLayer 32 = .ok (.dup, 1) := by decide +kernel
theorem dX3_addLayer_33 : decode cX3_addLayer 33 = .ok (.invokespecial 35, 3) := by decide +kernel
theorem dX3_addLayer_36 : decode cX3_addLayer 36 = .ok (.aastore, 1) := by decide +kernel
theorem dX3_addLayer_37 : decode cX3_addLayer 37 = .ok (.aload_n 0, 1) := by decide +kernel
theorem dX3_addLayer_38 : decode cX3_addLayer 38 = .ok (.getfield 20, 3) := by decide +kernel
theorem dX3_addLayer_41 : decode cX3_addLayer 41 = .ok (.aload_n 0, 1) := by decide +kernel
theorem dX3_addLayer_42 : decode cX3_addLayer 42 = .ok (.getfield 28, 3) := by decide +kernel
theorem dX3_addLayer_45 : decode cX3_addLayer 45 = .ok (.aaload, 1) := by decide +kernel
theorem dX3_addLayer_46 : decode cX3_addLayer 46 = .ok (.invokevirtual 36, 3) := by decide +kernel
theorem dX3_addLayer_49 : decode cX3_addLayer 49 = .ok (.aload_n 0, 1) := by decide +kernel
theorem dX3_addLayer_50 : decode cX3_addLayer 50 = .ok (.dup, 1) := by decide +kernel
theorem dX3_addLayer_51 : decode cX3_addLayer 51 = .ok (.getfield 28, 3) := by decide +kernel
theorem dX3_addLayer_54 : decode cX3_addLayer 54 = .ok (.iconst 1, 1) := by decide +kernel
theorem dX3_addLayer_55 : decode cX3_addLayer 55 = .ok (.iadd, 1) := by decide +kernel
theorem dX3_addLayer_56 : decode cX3_addLayer 56 = .ok (.putfield 28, 3) := by decide +kernel
theorem dX3_addLayer_59 : decode cX3_addLayer 59 = .ok (.return_, 1) := by decide +kernel
theorem dX3_append_0 : decode cX3_append 0 = .ok (.iload_n 3, 1) := by decide +kernel
theorem dX3_append_1 : decode cX3_append 1 = .ok (.iconst 1, 1) := by decide +kernel
theorem dX3_append_2 : decode cX3_append 2 = .ok (.isub, 1) := by decide +kernel
theorem dX3_append_3 : decode cX3_append 3 = .ok (.istore 4, 2) := by decide +kernel
theorem dX3_append_5 : decode cX3_append 5 = .ok (.iload 4, 2) := by decide +kernel
theorem dX3_append_7 : decode cX3_append 7 = .ok (.ifCond .lt 62, 3) := by decide +kernel
theorem dX3_append_10 : decode cX3_append 10 = .ok (.aload_n 0, 1) := by decide +kernel
theorem dX3_append_11 : decode cX3_append 11 = .ok (.getfield 24, 3) := by decide +kernel
theorem dX3_append_14 : decode cX3_append 14 = .ok (.sipush 2000, 3) := by decide +kernel
theorem dX3_append_17 : decode cX3_append 17 = .ok (.if_icmp .ge 52, 3) := by decide +kernel
theorem dX3_append_20 : decode cX3_append 20 = .ok (.aload_n 0, 1) := by decide +kernel
theorem dX3_append_21 : decode cX3_append 21 = .ok (.getfield 9, 3) := by decide +kernel
theorem dX3_append_24 : decode cX3_append 24 = .ok (.aload_n 0, 1) := by decide +kernel
theorem dX3_append_25 : decode cX3_append 25 = .ok (.getfield 24, 3) := by decide +kernel
theorem dX3_append_28 : decode cX3_append 28 = .ok (.lload_n 1, 1) := by decide +kernel
theorem dX3_append_29 : decode cX3_append 29 = .ok (.iload 4, 2) := by decide +kernel
theorem dX3_append_31 : decode cX3_append 31 = .ok (.invokestatic 31, 3) := by decide +kernel
theorem dX3_append_34 : decode cX3_append 34 = .ok (.iastore, 1) := by decide +kernel
theorem dX3_append_35 : decode cX3_append 35 = .ok (.aload_n 0, 1) := by decide +kernel
theorem dX3_append_36 : decode cX3_append 36 = .ok (.getfield 15, 3) := by decide +kernel
theorem dX3_append_39 : decode cX3_append 39 = .ok (.aload_n 0, 1) := by decide +kernel
theorem dX3_append_40 : decode cX3_append 40 = .ok (.getfield 24, 3) := by decide +kernel
theorem dX3_append_43 : decode cX3_append 43 = .ok (.aload_n 0, 1) := by decide +kernel
theorem dX3_append_44 : decode cX3_append 44 = .ok (.getfield 9, 3) := by decide +kernel
theorem dX3_append_47 : decode cX3_append 47 = .ok (.aload_n 0, 1) := by decide +kernel
theorem dX3_append_48 : decode cX3_append 48 = .ok (.getfield 24, 3) := by decide +kernel
theorem dX3_append_51 : decode cX3_append 51 = .ok (.iaload, 1) := by decide +kernel
theorem dX3_append_52 : decode cX3_append 52 = .ok (.iastore, 1) := by decide +kernel
theorem dX3_append_53 : decode cX3_append 53 = .ok (.aload_n 0, 1) := by decide +kernel
theorem dX3_append_54 : decode cX3_append 54 = .ok (.dup, 1) := by decide +kernel
theorem dX3_append_55 : decode cX3_append 55 = .ok (.getfield 24, 3) := by decide +kernel
theorem dX3_append_58 : decode cX3_append 58 = .ok (.iconst 1, 1) := by decide +kernel
theorem dX3_append_59 : decode cX3_append 59 = .ok (.iadd, 1) := by decide +kernel
theorem dX3_append_60 : decode cX3_append 60 = .ok (.putfield 24, 3) := by decide +kernel
theorem dX3_append_63 : decode cX3_append 63 = .ok (.iinc 4 (-1), 3) := by decide +kernel
theorem dX3_append_66 : decode cX3_append 66 = .ok (.goto (-61), 3) := by decide +kernel
theorem dX3_append_69 : decode cX3_append 69 = .ok (.return_, 1) := by decide +kernel
theorem dX3_has_0 : decode cX3_has 0 = .ok (.iload_n 1, 1) := by decide +kernel
theorem dX3_has_1 : decode cX3_has 1 = .ok (.ifCond .lt 11, 3) := by decide +kernel
theorem dX3_has_4 : decode cX3_has 4 = .ok (.iload_n 1, 1) := by decide +kernel
theorem dX3_has_5 : decode cX3_has 5 = .ok (.aload_n 0, 1) := by decide +kernel
theorem dX3_has_6 : decode cX3_has 6 = .ok (.getfield 24, 3) := by decide +kernel
theorem dX3_has_9 : decode cX3_has 9 = .ok (.if_icmp .lt 7, 3) := by decide +kernel
theorem dX3_has_12 : decode cX3_has 12 = .ok (.iconst (-1), 1) := by decide +kernel
theorem dX3_has_13 : decode cX3_has 13 = .ok (.goto 9, 3) := by decide +kernel
theorem dX3_has_16 : decode cX3_has 16 = .ok (.aload_n 0, 1) := by decide +kernel
theorem dX3_has_17 : decode cX3_has 17 = .ok (.getfield 15, 3) := by decide +kernel
theorem dX3_has_20 : decode cX3_has 20 = .ok (.iload_n 1, 1) := by decide +kernel
theorem dX3_has_21 : decode cX3_has 21 = .ok (.iaload, 1) := by decide +kernel
theorem dX3_has_22 : decode cX3_has 22 = .ok (.ireturn, 1) := by decide +kernel
theorem dX3_init_0 : decode cX3_init 0 = .ok (.aload_n 0, 1) := by decide +kernel
theorem dX3_init_1 : decode cX3_init 1 = .ok (.invokespecial 3, 3) := by decide +kernel
theorem dX3_init_4 : decode cX3_init 4 = .ok (.aload_n 0, 1) := by decide +kernel
theorem dX3_init_5 : decode cX3_init 5 = .ok (.sipush 2000, 3) := by decide +kernel
theorem dX3_init_8 : decode cX3_init 8 = .ok (.newarray .int, 2) := by decide +kernel
theorem dX3_init_10 : decode cX3_init 10 = .ok (.putfield 9, 3) := by decide +kernel
theorem dX3_init_13 : decode cX3_init 13 = .ok (.aload_n 0, 1) := by decide +kernel
theorem dX3_init_14 : decode cX3_init 14 = .ok (.sipush 2000, 3) := by decide +kernel
theorem dX3_init_17 : decode cX3_init 17 = .ok (.newarray .int, 2) := by decide +kernel
theorem dX3_init_19 : decode cX3_init 19 = .ok (.putfield 15, 3) := by decide +kernel
theorem dX3_init_22 : decode cX3_init 22 = .ok (.aload_n 0, 1) := by decide +kernel
theorem dX3_init_23 : decode cX3_init 23 = .ok (.iconst 4, 1) := by decide +kernel
theorem dX3_init_24 : decode cX3_init 24 = .ok (.anewarray 18, 3) := by decide +kernel
theorem dX3_init_27 : decode cX3_init 27 = .ok (.putfield 20, 3) := by decide +kernel
theorem dX3_init_30 : decode cX3_init 30 = .ok (.return_, 1) := by decide +kernel
theorem dX3_read_0 : decode cX3_read 0 = .ok (.iload_n 1, 1) := by decide +kernel
theorem dX3_read_1 : decode cX3_read 1 = .ok (.ifCond .lt 13, 3) := by decide +kernel
theorem dX3_read_4 : decode cX3_read 4 = .ok (.iload_n 1, 1) := by decide +kernel
theorem dX3_read_5 : decode cX3_read 5 = .ok (.iload_n 2, 1) := by decide +kernel
theorem dX3_read_6 : decode cX3_read 6 = .ok (.iadd, 1) := by decide +kernel
theorem dX3_read_7 : decode cX3_read 7 = .ok (.aload_n 0, 1) := by decide +kernel
theorem dX3_read_8 : decode cX3_read 8 = .ok (.getfield 24, 3) := by decide +kernel
theorem dX3_read_11 : decode cX3_read 11 = .ok (.if_icmp .le 5, 3) := by decide +kernel
theorem dX3_read_14 : decode cX3_read 14 = .ok (.lconst 0, 1) := by decide +kernel
theorem dX3_read_15 : decode cX3_read 15 = .ok (.lreturn, 1) := by decide +kernel
theorem dX3_read_16 : decode cX3_read 16 = .ok (.lconst 0, 1) := by decide +kernel
theorem dX3_read_17 : decode cX3_read 17 = .ok (.lstore 4, 2) := by decide +kernel
theorem dX3_read_19 : decode cX3_read 19 = .ok (.iconst 0, 1) := by decide +kernel
theorem dX3_read_20 : decode cX3_read 20 = .ok (.istore 6, 2) := by decide +kernel
theorem dX3_read_22 : decode cX3_read 22 = .ok (.iload 6, 2) := by decide +kernel
theorem dX3_read_24 : decode cX3_read 24 = .ok (.iload_n 2, 1) := by decide +kernel
theorem dX3_read_25 : decode cX3_read 25 = .ok (.if_icmp .ge 42, 3) := by decide +kernel
theorem dX3_read_28 : decode cX3_read 28 = .ok (.lload 4, 2) := by decide +kernel
theorem dX3_read_30 : decode cX3_read 30 = .ok (.bipush 8, 2) := by decide +kernel
theorem dX3_read_32 : decode cX3_read 32 = .ok (.lshl, 1) := by decide +kernel
theorem dX3_read_33 : decode cX3_read 33 = .ok (.aload_n 0, 1) := by decide +kernel
theorem dX3_read_34 : decode cX3_read 34 = .ok (.getfield 15, 3) := by decide +kernel
theorem dX3_read_37 : decode cX3_read 37 = .ok (.iload_n 3, 1) := by decide +kernel
theorem dX3_read_38 : decode cX3_read 38 = .ok (.ifCond .eq 10, 3) := by decide +kernel
theorem dX3_read_41 : decode cX3_read 41 = .ok (.iload_n 1, 1) := by decide +kernel
theorem dX3_read_42 : decode cX3_read 42 = .ok (.iload 6, 2) := by decide +kernel
theorem dX3_read_44 : decode cX3_read 44 = .ok (.iadd, 1) := by decide +kernel
theorem dX3_read_45 : decode cX3_read 45 = .ok (.goto 11, 3) := by decide +kernel
theorem dX3_read_48 : decode cX3_read 48 = .ok (.iload_n 1, 1) := by decide +kernel
theorem dX3_read_49 : decode cX3_read 49 = .ok (.iload_n 2, 1) := by decide +kernel
theorem dX3_read_50 : decode cX3_read 50 = .ok (.iadd, 1) := by decide +kernel
theorem dX3_read_51 : decode cX3_read 51 = .ok (.iconst 1, 1) := by decide +kernel
theorem dX3_read_52 : decode cX3_read 52 = .ok (.isub, 1) := by decide +kernel
theorem dX3_read_53 : decode cX3_read 53 = .ok (.iload 6, 2) := by decide +kernel
theorem dX3_read_55 : decode cX3_read 55 = .ok (.isub, 1) := by decide +kernel
theorem dX3_read_56 : decode cX3_read 56 = .ok (.iaload, 1) := by decide +kernel
theorem dX3_read_57 : decode cX3_read 57 = .ok (.i2l, 1) := by decide +kernel
theorem dX3_read_58 : decode cX3_read 58 = .ok (.lor, 1) := by decide +kernel
theorem dX3_read_59 : decode cX3_read 59 = .ok (.lstore 4, 2) := by decide +kernel
theorem dX3_read_61 : decode cX3_read 61 = .ok (.iinc 6 1, 3) := by decide +kernel
theorem dX3_read_64 : decode cX3_read 64 = .ok (.goto (-42), 3) := by decide +kernel
theorem dX3_read_67 : decode cX3_read 67 = .ok (.lload 4, 2) := by decide +kernel
theorem dX3_read_69 : decode cX3_read 69 = .ok (.lreturn, 1) := by decide +kernel
theorem dX3_refresh_0 : decode cX3_refresh 0 = .ok (.aload_n 0, 1) := by decide +kernel
theorem dX3_refresh_1 : decode cX3_refresh 1 = .ok (.getfield 9, 3) := by decide +kernel
theorem dX3_refresh_4 : decode cX3_refresh 4 = .ok (.iload_n 1, 1) := by decide +kernel
theorem dX3_refresh_5 : decode cX3_refresh 5 = .ok (.iaload, 1) := by decide +kernel
theorem dX3_refresh_6 : decode cX3_refresh 6 = .ok (.istore_n 2, 1) := by decide +kernel
theorem dX3_refresh_7 : decode cX3_refresh 7 = .ok (.iconst 0, 1) := by decide +kernel
theorem dX3_refresh_8 : decode cX3_refresh 8 = .ok (.istore_n 3, 1) := by decide +kernel
theorem dX3_refresh_9 : decode cX3_refresh 9 = .ok (.iload_n 3, 1) := by decide +kernel
theorem dX3_refresh_10 : decode cX3_refresh 10 = .ok (.aload_n 0, 1) := by decide +kernel
theorem dX3_refresh_11 : decode cX3_refresh 11 = .ok (.getfield 28, 3) := by decide +kernel
theorem dX3_refresh_14 : decode cX3_refresh 14 = .ok (.if_icmp .ge 36, 3) := by decide +kernel
theorem dX3_refresh_17 : decode cX3_refresh 17 = .ok (.aload_n 0, 1) := by decide +kernel
theorem dX3_refresh_18 : decode cX3_refresh 18 = .ok (.getfield 20, 3) := by decide +kernel
theorem dX3_refresh_21 : decode cX3_refresh 21 = .ok (.iload_n 3, 1) := by decide +kernel
theorem dX3_refresh_22 : decode cX3_refresh 22 = .ok (.aaload, 1) := by decide +kernel
theorem dX3_refresh_23 : decode cX3_refresh 23 = .ok (.getfield 43, 3) := by decide +kernel
theorem dX3_refresh_26 : decode cX3_refresh 26 = .ok (.iload_n 1, 1) := by decide +kernel
theorem dX3_refresh_27 : decode cX3_refresh 27 = .ok (.iaload, 1) := by decide +kernel
theorem dX3_refresh_28 : decode cX3_refresh 28 = .ok (.iconst (-1), 1) := by decide +kernel
theorem dX3_refresh_29 : decode cX3_refresh 29 = .ok (.if_icmp .eq 15, 3) := by decide +kernel
theorem dX3_refresh_32 : decode cX3_refresh 32 = .ok (.aload_n 0, 1) := by decide +kernel
theorem dX3_refresh_33 : decode cX3_refresh 33 = .ok (.getfield 20, 3) := by decide +kernel
theorem dX3_refresh_36 : decode cX3_refresh 36 = .ok (.iload_n 3, 1) := by decide +kernel
theorem dX3_refresh_37 : decode cX3_refresh 37 = .ok (.aaload, 1) := by decide +kernel
theorem dX3_refresh_38 : decode cX3_refresh 38 = .ok (.getfield 43, 3) := by decide +kernel
theorem dX3_refresh_41 : decode cX3_refresh 41 = .ok (.iload_n 1, 1) := by decide +kernel
theorem dX3_refresh_42 : decode cX3_refresh 42 = .ok (.iaload, 1) := by decide +kernel
theorem dX3_refresh_43 : decode cX3_refresh 43 = .ok (.istore_n 2, 1) := by decide +kernel
theorem dX3_refresh_44 : decode cX3_refresh 44 = .ok (.iinc 3 1, 3) := by decide +kernel
theorem dX3_refresh_47 : decode cX3_refresh 47 = .ok (.goto (-38), 3) := by decide +kernel
theorem dX3_refresh_50 : decode cX3_refresh 50 = .ok (.aload_n 0, 1) := by decide +kernel
theorem dX3_refresh_51 : decode cX3_refresh 51 = .ok (.getfield 15, 3) := by decide +kernel
theorem dX3_refresh_54 : decode cX3_refresh 54 = .ok (.iload_n 1, 1) := by decide +kernel
theorem dX3_refresh_55 : decode cX3_refresh 55 = .ok (.iload_n 2, 1) := by decide +kernel
theorem dX3_refresh_56 : decode cX3_refresh 56 = .ok (.iastore, 1) := by decide +kernel
theorem dX3_refresh_57 : decode cX3_refresh 57 = .ok (.return_, 1) := by decide +kernel
theorem dX3_shedTop_0 : decode cX3_shedTop 0 = .ok (.aload_n 0, 1) := by decide +kernel
theorem dX3_shedTop_1 : decode cX3_shedTop 1 = .ok (.invokevirtual 39, 3) := by decide +kernel
theorem dX3_shedTop_4 : decode cX3_shedTop 4 = .ok (.astore_n 1, 1) := by decide +kernel
theorem dX3_shedTop_5 : decode cX3_shedTop 5 = .ok (.aload_n 1, 1) := by decide +kernel
theorem dX3_shedTop_6 : decode cX3_shedTop 6 = .ok (.ifnonnull 5, 3) := by decide +kernel
theorem dX3_shedTop_9 : decode cX3_shedTop 9 = .ok (.iconst 0, 1) := by decide +kernel
theorem dX3_shedTop_10 : decode cX3_shedTop 10 = .ok (.ireturn, 1) := by decide +kernel
theorem dX3_shedTop_11 : decode cX3_shedTop 11 = .ok (.aload_n 0, 1) := by decide +kernel
theorem dX3_shedTop_12 : decode cX3_shedTop 12 = .ok (.dup, 1) := by decide +kernel
theorem dX3_shedTop_13 : decode cX3_shedTop 13 = .ok (.getfield 28, 3) := by decide +kernel
theorem dX3_shedTop_16 : decode cX3_shedTop 16 = .ok (.iconst 1, 1) := by decide +kernel
theorem dX3_shedTop_17 : decode cX3_shedTop 17 = .ok (.isub, 1) := by decide +kernel
theorem dX3_shedTop_18 : decode cX3_shedTop 18 = .ok (.putfield 28, 3) := by decide +kernel
theorem dX3_shedTop_21 : decode cX3_shedTop 21 = .ok (.iconst 0, 1) := by decide +kernel
theorem dX3_shedTop_22 : decode cX3_shedTop 22 = .ok (.istore_n 2, 1) := by decide +kernel
theorem dX3_shedTop_23 : decode cX3_shedTop 23 = .ok (.iload_n 2, 1) := by decide +kernel
theorem dX3_shedTop_24 : decode cX3_shedTop 24 = .ok (.aload_n 0, 1) := by decide +kernel
theorem dX3_shedTop_25 : decode cX3_shedTop 25 = .ok (.getfield 24, 3) := by decide +kernel
theorem dX3_shedTop_28 : decode cX3_shedTop 28 = .ok (.if_icmp .ge 24, 3) := by decide +kernel
theorem dX3_shedTop_31 : decode cX3_shedTop 31 = .ok (.aload_n 1, 1) := by decide +kernel
theorem dX3_shedTop_32 : decode cX3_shedTop 32 = .ok (.getfield 43, 3) := by decide +kernel
theorem dX3_shedTop_35 : decode cX3_shedTop 35 = .ok (.iload_n 2, 1) := by decide +kernel
theorem dX3_shedTop_36 : decode cX3_shedTop 36 = .ok (.iaload, 1) := by decide +kernel
theorem dX3_shedTop_37 : decode cX3_shedTop 37 = .ok (.iconst (-1), 1) := by decide +kernel
theorem dX3_shedTop_38 : decode cX3_shedTop 38 = .ok (.if_icmp .eq 8, 3) := by decide +kernel
theorem dX3_shedTop_41 : decode cX3_shedTop 41 = .ok (.aload_n 0, 1) := by decide +kernel
theorem dX3_shedTop_42 : decode cX3_shedTop 42 = .ok (.iload_n 2, 1) := by decide +kernel
theorem dX3_shedTop_43 : decode cX3_shedTop 43 = .ok (.invokevirtual 53, 3) := by decide +kernel
theorem dX3_shedTop_46 : decode cX3_shedTop 46 = .ok (.iinc 2 1, 3) := by decide +kernel
theorem dX3_shedTop_49 : decode cX3_shedTop 49 = .ok (.goto (-26), 3) := by decide +kernel
theorem dX3_shedTop_52 : decode cX3_shedTop 52 = .ok (.aload_n 1, 1) := by decide +kernel
theorem dX3_shedTop_53 : decode cX3_shedTop 53 = .ok (.getfield 50, 3) := by decide +kernel
theorem dX3_shedTop_56 : decode cX3_shedTop 56 = .ok (.ireturn, 1) := by decide +kernel
theorem dX3_sinkTop_0 : decode cX3_sinkTop 0 = .ok (.aload_n 0, 1) := by decide +kernel
theorem dX3_sinkTop_1 : decode cX3_sinkTop 1 = .ok (.invokevirtual 39, 3) := by decide +kernel
theorem dX3_sinkTop_4 : decode cX3_sinkTop 4 = .ok (.astore_n 1, 1) := by decide +kernel
theorem dX3_sinkTop_5 : decode cX3_sinkTop 5 = .ok (.aload_n 1, 1) := by decide +kernel
theorem dX3_sinkTop_6 : decode cX3_sinkTop 6 = .ok (.ifnonnull 5, 3) := by decide +kernel
theorem dX3_sinkTop_9 : decode cX3_sinkTop 9 = .ok (.iconst 0, 1) := by decide +kernel
theorem dX3_sinkTop_10 : decode cX3_sinkTop 10 = .ok (.ireturn, 1) := by decide +kernel
theorem dX3_sinkTop_11 : decode cX3_sinkTop 11 = .ok (.aload_n 0, 1) := by decide +kernel
theorem dX3_sinkTop_12 : decode cX3_sinkTop 12 = .ok (.dup, 1) := by decide +kernel
theorem dX3_sinkTop_13 : decode cX3_sinkTop 13 = .ok (.getfield 28, 3) := by decide +kernel
theorem dX3_sinkTop_16 : decode cX3_sinkTop 16 = .ok (.iconst 1, 1) := by decide +kernel
theorem dX3_sinkTop_17 : decode cX3_sinkTop 17 = .ok (.isub, 1) := by decide +kernel
theorem dX3_sinkTop_18 : decode cX3_sinkTop 18 = .ok (.putfield 28, 3) := by decide +kernel
theorem dX3_sinkTop_21 : decode cX3_sinkTop 21 = .ok (.aload_n 0, 1) := by decide +kernel
theorem dX3_sinkTop_22 : decode cX3_sinkTop 22 = .ok (.invokevirtual 39, 3) := by decide +kernel
theorem dX3_sinkTop_25 : decode cX3_sinkTop 25 = .ok (.astore_n 2, 1) := by decide +kernel
theorem dX3_sinkTop_26 : decode cX3_sinkTop 26 = .ok (.iconst 0, 1) := by decide +kernel
theorem dX3_sinkTop_27 : decode cX3_sinkTop 27 = .ok (.istore_n 3, 1) := by decide +kernel
theorem dX3_sinkTop_28 : decode cX3_sinkTop 28 = .ok (.iload_n 3, 1) := by decide +kernel
theorem dX3_sinkTop_29 : decode cX3_sinkTop 29 = .ok (.aload_n 0, 1) := by decide +kernel
theorem dX3_sinkTop_30 : decode cX3_sinkTop 30 = .ok (.getfield 24, 3) := by decide +kernel
theorem dX3_sinkTop_33 : decode cX3_sinkTop 33 = .ok (.if_icmp .ge 51, 3) := by decide +kernel
theorem dX3_sinkTop_36 : decode cX3_sinkTop 36 = .ok (.aload_n 1, 1) := by decide +kernel
theorem dX3_sinkTop_37 : decode cX3_sinkTop 37 = .ok (.getfield 43, 3) := by decide +kernel
theorem dX3_sinkTop_40 : decode cX3_sinkTop 40 = .ok (.iload_n 3, 1) := by decide +kernel
theorem dX3_sinkTop_41 : decode cX3_sinkTop 41 = .ok (.iaload, 1) := by decide +kernel
theorem dX3_sinkTop_42 : decode cX3_sinkTop 42 = .ok (.istore 4, 2) := by decide +kernel
theorem dX3_sinkTop_44 : decode cX3_sinkTop 44 = .ok (.iload 4, 2) := by decide +kernel
theorem dX3_sinkTop_46 : decode cX3_sinkTop 46 = .ok (.iconst (-1), 1) := by decide +kernel
theorem dX3_sinkTop_47 : decode cX3_sinkTop 47 = .ok (.if_icmp .eq 18, 3) := by decide +kernel
theorem dX3_sinkTop_50 : decode cX3_sinkTop 50 = .ok (.aload_n 2, 1) := by decide +kernel
theorem dX3_sinkTop_51 : decode cX3_sinkTop 51 = .ok (.ifnonnull 14, 3) := by decide +kernel
theorem dX3_sinkTop_54 : decode cX3_sinkTop 54 = .ok (.aload_n 0, 1) := by decide +kernel
theorem dX3_sinkTop_55 : decode cX3_sinkTop 55 = .ok (.getfield 9, 3) := by decide +kernel
theorem dX3_sinkTop_58 : decode cX3_sinkTop 58 = .ok (.iload_n 3, 1) := by decide +kernel
theorem dX3_sinkTop_59 : decode cX3_sinkTop 59 = .ok (.iload 4, 2) := by decide +kernel
theorem dX3_sinkTop_61 : decode cX3_sinkTop 61 = .ok (.iastore, 1) := by decide +kernel
theorem dX3_sinkTop_62 : decode cX3_sinkTop 62 = .ok (.goto 16, 3) := by decide +kernel
theorem dX3_sinkTop_65 : decode cX3_sinkTop 65 = .ok (.iload 4, 2) := by decide +kernel
theorem dX3_sinkTop_67 : decode cX3_sinkTop 67 = .ok (.iconst (-1), 1) := by decide +kernel
theorem dX3_sinkTop_68 : decode cX3_sinkTop 68 = .ok (.if_icmp .eq 10, 3) := by decide +kernel
theorem dX3_sinkTop_71 : decode cX3_sinkTop 71 = .ok (.aload_n 2, 1) := by decide +kernel
theorem dX3_sinkTop_72 : decode cX3_sinkTop 72 = .ok (.iload_n 3, 1) := by decide +kernel
theorem dX3_sinkTop_73 : decode cX3_sinkTop 73 = .ok (.iload 4, 2) := by decide +kernel
theorem dX3_sinkTop_75 : decode cX3_sinkTop 75 = .ok (.invokevirtual 46, 3) := by decide +kernel
theorem dX3_sinkTop_78 : decode cX3_sinkTop 78 = .ok (.iinc 3 1, 3) := by decide +kernel
theorem dX3_sinkTop_81 : decode cX3_sinkTop 81 = .ok (.goto (-53), 3) := by decide +kernel
theorem dX3_sinkTop_84 : decode cX3_sinkTop 84 = .ok (.aload_n 1, 1) := by decide +kernel
theorem dX3_sinkTop_85 : decode cX3_sinkTop 85 = .ok (.getfield 50, 3) := by decide +kernel
theorem dX3_sinkTop_88 : decode cX3_sinkTop 88 = .ok (.ireturn, 1) := by decide +kernel
theorem dX3_takeBack_0 : decode cX3_takeBack 0 = .ok (.aload_n 0, 1) := by decide +kernel
theorem dX3_takeBack_1 : decode cX3_takeBack 1 = .ok (.invokevirtual 39, 3) := by decide +kernel
theorem dX3_takeBack_4 : decode cX3_takeBack 4 = .ok (.astore_n 1, 1) := by decide +kernel
theorem dX3_takeBack_5 : decode cX3_takeBack 5 = .ok (.aload_n 1, 1) := by decide +kernel
theorem dX3_takeBack_6 : decode cX3_takeBack 6 = .ok (.ifnull 10, 3) := by decide +kernel
theorem dX3_takeBack_9 : decode cX3_takeBack 9 = .ok (.aload_n 1, 1) := by decide +kernel
theorem dX3_takeBack_10 : decode cX3_takeBack 10 = .ok (.getfield 57, 3) := by decide +kernel
theorem dX3_takeBack_13 : decode cX3_takeBack 13 = .ok (.ifCond .ne 5, 3) := by decide +kernel
theorem dX3_takeBack_16 : decode cX3_takeBack 16 = .ok (.iconst 0, 1) := by decide +kernel
theorem dX3_takeBack_17 : decode cX3_takeBack 17 = .ok (.ireturn, 1) := by decide +kernel
theorem dX3_takeBack_18 : decode cX3_takeBack 18 = .ok (.aload_n 1, 1) := by decide +kernel
theorem dX3_takeBack_19 : decode cX3_takeBack 19 = .ok (.dup, 1) := by decide +kernel
theorem dX3_takeBack_20 : decode cX3_takeBack 20 = .ok (.getfield 57, 3) := by decide +kernel
theorem dX3_takeBack_23 : decode cX3_takeBack 23 = .ok (.iconst 1, 1) := by decide +kernel
theorem dX3_takeBack_24 : decode cX3_takeBack 24 = .ok (.isub, 1) := by decide +kernel
theorem dX3_takeBack_25 : decode cX3_takeBack 25 = .ok (.putfield 57, 3) := by decide +kernel
theorem dX3_takeBack_28 : decode cX3_takeBack 28 = .ok (.aload_n 1, 1) := by decide +kernel
theorem dX3_takeBack_29 : decode cX3_takeBack 29 = .ok (.getfield 60, 3) := by decide +kernel
theorem dX3_takeBack_32 : decode cX3_takeBack 32 = .ok (.aload_n 1, 1) := by decide +kernel
theorem dX3_takeBack_33 : decode cX3_takeBack 33 = .ok (.getfield 57, 3) := by decide +kernel
theorem dX3_takeBack_36 : decode cX3_takeBack 36 = .ok (.iaload, 1) := by decide +kernel
theorem dX3_takeBack_37 : decode cX3_takeBack 37 = .ok (.istore_n 2, 1) := by decide +kernel
theorem dX3_takeBack_38 : decode cX3_takeBack 38 = .ok (.aload_n 1, 1) := by decide +kernel
theorem dX3_takeBack_39 : decode cX3_takeBack 39 = .ok (.getfield 63, 3) := by decide +kernel
theorem dX3_takeBack_42 : decode cX3_takeBack 42 = .ok (.aload_n 1, 1) := by decide +kernel
theorem dX3_takeBack_43 : decode cX3_takeBack 43 = .ok (.getfield 57, 3) := by decide +kernel
theorem dX3_takeBack_46 : decode cX3_takeBack 46 = .ok (.iaload, 1) := by decide +kernel
theorem dX3_takeBack_47 : decode cX3_takeBack 47 = .ok (.istore_n 3, 1) := by decide +kernel
theorem dX3_takeBack_48 : decode cX3_takeBack 48 = .ok (.iconst 0, 1) := by decide +kernel
theorem dX3_takeBack_49 : decode cX3_takeBack 49 = .ok (.istore 4, 2) := by decide +kernel
theorem dX3_takeBack_51 : decode cX3_takeBack 51 = .ok (.iload 4, 2) := by decide +kernel
theorem dX3_takeBack_53 : decode cX3_takeBack 53 = .ok (.iload_n 3, 1) := by decide +kernel
theorem dX3_takeBack_54 : decode cX3_takeBack 54 = .ok (.if_icmp .ge 40, 3) := by decide +kernel
theorem dX3_takeBack_57 : decode cX3_takeBack 57 = .ok (.aload_n 1, 1) := by decide +kernel
theorem dX3_takeBack_58 : decode cX3_takeBack 58 = .ok (.iload_n 2, 1) := by decide +kernel
theorem dX3_takeBack_59 : decode cX3_takeBack 59 = .ok (.iload 4, 2) := by decide +kernel
theorem dX3_takeBack_61 : decode cX3_takeBack 61 = .ok (.iadd, 1) := by decide +kernel
theorem dX3_takeBack_62 : decode cX3_takeBack 62 = .ok (.aload_n 1, 1) := by decide +kernel
theorem dX3_takeBack_63 : decode cX3_takeBack 63 = .ok (.getfield 66, 3) := by decide +kernel
theorem dX3_takeBack_66 : decode cX3_takeBack 66 = .ok (.aload_n 1, 1) := by decide +kernel
theorem dX3_takeBack_67 : decode cX3_takeBack 67 = .ok (.getfield 57, 3) := by decide +kernel
theorem dX3_takeBack_70 : decode cX3_takeBack 70 = .ok (.bipush 8, 2) := by decide +kernel
theorem dX3_takeBack_72 : decode cX3_takeBack 72 = .ok (.imul, 1) := by decide +kernel
theorem dX3_takeBack_73 : decode cX3_takeBack 73 = .ok (.iload 4, 2) := by decide +kernel
theorem dX3_takeBack_75 : decode cX3_takeBack 75 = .ok (.iadd, 1) := by decide +kernel
theorem dX3_takeBack_76 : decode cX3_takeBack 76 = .ok (.iaload, 1) := by decide +kernel
theorem dX3_takeBack_77 : decode cX3_takeBack 77 = .ok (.invokevirtual 46, 3) := by decide +kernel
theorem dX3_takeBack_80 : decode cX3_takeBack 80 = .ok (.aload_n 0, 1) := by decide +kernel
theorem dX3_takeBack_81 : decode cX3_takeBack 81 = .ok (.iload_n 2, 1) := by decide +kernel
theorem dX3_takeBack_82 : decode cX3_takeBack 82 = .ok (.iload 4, 2) := by decide +kernel
theorem dX3_takeBack_84 : decode cX3_takeBack 84 = .ok (.iadd, 1) := by decide +kernel
theorem dX3_takeBack_85 : decode cX3_takeBack 85 = .ok (.invokevirtual 53, 3) := by decide +kernel
theorem dX3_takeBack_88 : decode cX3_takeBack 88 = .ok (.iinc 4 1, 3) := by decide +kernel
theorem dX3_takeBack_91 : decode cX3_takeBack 91 = .ok (.goto (-40), 3) := by decide +kernel
theorem dX3_takeBack_94 : decode cX3_takeBack 94 = .ok (.iload_n 3, 1) := by decide +kernel
theorem dX3_takeBack_95 : decode cX3_takeBack 95 = .ok (.ireturn, 1) := by decide +kernel
theorem dX3_top_0 : decode cX3_top 0 = .ok (.aload_n 0, 1) := by decide +kernel
theorem dX3_top_1 : decode cX3_top 1 = .ok (.getfield 28, 3) := by decide +kernel
theorem dX3_top_4 : decode cX3_top 4 = .ok (.ifCond .ne 7, 3) := by decide +kernel
theorem dX3_top_7 : decode cX3_top 7 = .ok (.aconst_null, 1) := by decide +kernel
theorem dX3_top_8 : decode cX3_top 8 = .ok (.goto 14, 3) := by decide +kernel
theorem dX3_top_11 : decode cX3_top 11 = .ok (.aload_n 0, 1) := by decide +kernel
theorem dX3_top_12 : decode cX3_top 12 = .ok (.getfield 20, 3) := by decide +kernel
theorem dX3_top_15 : decode cX3_top 15 = .ok (.aload_n 0, 1) := by decide +kernel
theorem dX3_top_16 : decode cX3_top 16 = .ok (.getfield 28, 3) := by decide +kernel
theorem dX3_top_19 : decode cX3_top 19 = .ok (.iconst 1, 1) := by decide +kernel
theorem dX3_top_20 : decode cX3_top 20 = .ok (.isub, 1) := by decide +kernel
theorem dX3_top_21 : decode cX3_top 21 = .ok (.aaload, 1) := by decide +kernel
theorem dX3_top_22 : decode cX3_top 22 = .ok (.areturn, 1) := by decide +kernel
theorem dX3_write_0 : decode cX3_write 0 = .ok (.iload_n 1, 1) := by decide +kernel
theorem dX3_write_1 : decode cX3_write 1 = .ok (.ifCond .lt 19, 3) := by decide +kernel
theorem dX3_write_4 : decode cX3_write 4 = .ok (.iload_n 2, 1) := by decide +kernel
theorem dX3_write_5 : decode cX3_write 5 = .ok (.bipush 8, 2) := by decide +kernel
theorem dX3_write_7 : decode cX3_write 7 = .ok (.if_icmp .gt 13, 3) := by decide +kernel
theorem dX3_write_10 : decode cX3_write 10 = .ok (.iload_n 1, 1) := by decide +kernel
theorem dX3_write_11 : decode cX3_write 11 = .ok (.iload_n 2, 1) := by decide +kernel
theorem dX3_write_12 : decode cX3_write 12 = .ok (.iadd, 1) := by decide +kernel
theorem dX3_write_13 : decode cX3_write 13 = .ok (.aload_n 0, 1) := by decide +kernel
theorem dX3_write_14 : decode cX3_write 14 = .ok (.getfield 24, 3) := by decide +kernel
theorem dX3_write_17 : decode cX3_write 17 = .ok (.if_icmp .le 4, 3) := by decide +kernel
theorem dX3_write_20 : decode cX3_write 20 = .ok (.return_, 1) := by decide +kernel
theorem dX3_write_21 : decode cX3_write 21 = .ok (.aload_n 0, 1) := by decide +kernel
theorem dX3_write_22 : decode cX3_write 22 = .ok (.invokevirtual 39, 3) := by decide +kernel
theorem dX3_write_25 : decode cX3_write 25 = .ok (.astore 6, 2) := by decide +kernel
theorem dX3_write_27 : decode cX3_write 27 = .ok (.aload 6, 2) := by decide +kernel
theorem dX3_write_29 : decode cX3_write 29 = .ok (.ifnull 10, 3) := by decide +kernel
theorem dX3_write_32 : decode cX3_write 32 = .ok (.aload 6, 2) := by decide +kernel
theorem dX3_write_34 : decode cX3_write 34 = .ok (.iload_n 1, 1) := by decide +kernel
theorem dX3_write_35 : decode cX3_write 35 = .ok (.iload_n 2, 1) := by decide +kernel
theorem dX3_write_36 : decode cX3_write 36 = .ok (.invokevirtual 69, 3) := by decide +kernel
theorem dX3_write_39 : decode cX3_write 39 = .ok (.iconst 0, 1) := by decide +kernel
theorem dX3_write_40 : decode cX3_write 40 = .ok (.istore 7, 2) := by decide +kernel
theorem dX3_write_42 : decode cX3_write 42 = .ok (.iload 7, 2) := by decide +kernel
theorem dX3_write_44 : decode cX3_write 44 = .ok (.iload_n 2, 1) := by decide +kernel
theorem dX3_write_45 : decode cX3_write 45 = .ok (.if_icmp .ge 72, 3) := by decide +kernel
theorem dX3_write_48 : decode cX3_write 48 = .ok (.lload_n 3, 1) := by decide +kernel
theorem dX3_write_49 : decode cX3_write 49 = .ok (.iload 5, 2) := by decide +kernel
theorem dX3_write_51 : decode cX3_write 51 = .ok (.ifCond .eq 12, 3) := by decide +kernel
theorem dX3_write_54 : decode cX3_write 54 = .ok (.iload_n 2, 1) := by decide +kernel
theorem dX3_write_55 : decode cX3_write 55 = .ok (.iconst 1, 1) := by decide +kernel
theorem dX3_write_56 : decode cX3_write 56 = .ok (.isub, 1) := by decide +kernel
theorem dX3_write_57 : decode cX3_write 57 = .ok (.iload 7, 2) := by decide +kernel
theorem dX3_write_59 : decode cX3_write 59 = .ok (.isub, 1) := by decide +kernel
theorem dX3_write_60 : decode cX3_write 60 = .ok (.goto 5, 3) := by decide +kernel
theorem dX3_write_63 : decode cX3_write 63 = .ok (.iload 7, 2) := by decide +kernel
theorem dX3_write_65 : decode cX3_write 65 = .ok (.invokestatic 31, 3) := by decide +kernel
theorem dX3_write_68 : decode cX3_write 68 = .ok (.istore 8, 2) := by decide +kernel
theorem dX3_write_70 : decode cX3_write 70 = .ok (.aload 6, 2) := by decide +kernel
theorem dX3_write_72 : decode cX3_write 72 = .ok (.ifnonnull 17, 3) := by decide +kernel
theorem dX3_write_75 : decode cX3_write 75 = .ok (.aload_n 0, 1) := by decide +kernel
theorem dX3_write_76 : decode cX3_write 76 = .ok (.getfield 9, 3) := by decide +kernel
theorem dX3_write_79 : decode cX3_write 79 = .ok (.iload_n 1, 1) := by decide +kernel
theorem dX3_write_80 : decode cX3_write 80 = .ok (.iload 7, 2) := by decide +kernel
theorem dX3_write_82 : decode cX3_write 82 = .ok (.iadd, 1) := by decide +kernel
theorem dX3_write_83 : decode cX3_write 83 = .ok (.iload 8, 2) := by decide +kernel
theorem dX3_write_85 : decode cX3_write 85 = .ok (.iastore, 1) := by decide +kernel
theorem dX3_write_86 : decode cX3_write 86 = .ok (.goto 14, 3) := by decide +kernel
theorem dX3_write_89 : decode cX3_write 89 = .ok (.aload 6, 2) := by decide +kernel
theorem dX3_write_91 : decode cX3_write 91 = .ok (.iload_n 1, 1) := by decide +kernel
theorem dX3_write_92 : decode cX3_write 92 = .ok (.iload 7, 2) := by decide +kernel
theorem dX3_write_94 : decode cX3_write 94 = .ok (.iadd, 1) := by decide +kernel
theorem dX3_write_95 : decode cX3_write 95 = .ok (.iload 8, 2) := by decide +kernel
theorem dX3_write_97 : decode cX3_write 97 = .ok (.invokevirtual 46, 3) := by decide +kernel
theorem dX3_write_100 : decode cX3_write 100 = .ok (.aload_n 0, 1) := by decide +kernel
theorem dX3_write_101 : decode cX3_write 101 = .ok (.getfield 15, 3) := by decide +kernel
theorem dX3_write_104 : decode cX3_write 104 = .ok (.iload_n 1, 1) := by decide +kernel
theorem dX3_write_105 : decode cX3_write 105 = .ok (.iload 7, 2) := by decide +kernel
theorem dX3_write_107 : decode cX3_write 107 = .ok (.iadd, 1) := by decide +kernel
theorem dX3_write_108 : decode cX3_write 108 = .ok (.iload 8, 2) := by decide +kernel
theorem dX3_write_110 : decode cX3_write 110 = .ok (.iastore, 1) := by decide +kernel
theorem dX3_write_111 : decode cX3_write 111 = .ok (.iinc 7 1, 3) := by decide +kernel
theorem dX3_write_114 : decode cX3_write 114 = .ok (.goto (-72), 3) := by decide +kernel
theorem dX3_write_117 : decode cX3_write 117 = .ok (.return_, 1) := by decide +kernel
theorem dX4_forgetOldest_0 : decode cX4_forgetOldest 0 = .ok (.aload_n 0, 1) := by decide +kernel
theorem dX4_forgetOldest_1 : decode cX4_forgetOldest 1 = .ok (.getfield 15, 3) := by decide +kernel
theorem dX4_forgetOldest_4 : decode cX4_forgetOldest 4 = .ok (.iconst 1, 1) := by decide +kernel
theorem dX4_forgetOldest_5 : decode cX4_forgetOldest 5 = .ok (.aload_n 0, 1) := by decide +kernel
theorem dX4_forgetOldest_6 : decode cX4_forgetOldest 6 = .ok (.getfield 15, 3) := by decide +kernel
theorem dX4_forgetOldest_9 : decode cX4_forgetOldest 9 = .ok (.iconst 0, 1) := by decide +kernel
theorem dX4_forgetOldest_10 : decode cX4_forgetOldest 10 = .ok (.bipush 19, 2) := by decide +kernel
theorem dX4_forgetOldest_12 : decode cX4_forgetOldest 12 = .ok (.invokestatic 40, 3) := by decide +kernel
theorem dX4_forgetOldest_15 : decode cX4_forgetOldest 15 = .ok (.aload_n 0, 1) := by decide +kernel
theorem dX4_forgetOldest_16 : decode cX4_forgetOldest 16 = .ok (.getfield 18, 3) := by decide +kernel
theorem dX4_forgetOldest_19 : decode cX4_forgetOldest 19 = .ok (.iconst 1, 1) := by decide +kernel
theorem dX4_forgetOldest_20 : decode cX4_forgetOldest 20 = .ok (.aload_n 0, 1) := by decide +kernel
theorem dX4_forgetOldest_21 : decode cX4_forgetOldest 21 = .ok (.getfield 18, 3) := by decide +kernel
theorem dX4_forgetOldest_24 : decode cX4_forgetOldest 24 = .ok (.iconst 0, 1) := by decide +kernel
theorem dX4_forgetOldest_25 : decode cX4_forgetOldest 25 = .ok (.bipush 19, 2) := by decide +kernel
theorem dX4_forgetOldest_27 : decode cX4_forgetOldest 27 = .ok (.invokestatic 40, 3) := by decide +kernel
theorem dX4_forgetOldest_30 : decode cX4_forgetOldest 30 = .ok (.aload_n 0, 1) := by decide +kernel
theorem dX4_forgetOldest_31 : decode cX4_forgetOldest 31 = .ok (.getfield 21, 3) := by decide +kernel
theorem dX4_forgetOldest_34 : decode cX4_forgetOldest 34 = .ok (.bipush 8, 2) := by decide +kernel
theorem dX4_forgetOldest_36 : decode cX4_forgetOldest 36 = .ok (.aload_n 0, 1) := by decide +kernel
theorem dX4_forgetOldest_37 : decode cX4_forgetOldest 37 = .ok (.getfield 21, 3) := by decide +kernel
theorem dX4_forgetOldest_40 : decode cX4_forgetOldest 40 = .ok (.iconst 0, 1) := by decide +kernel
theorem dX4_forgetOldest_41 : decode cX4_forgetOldest 41 = .ok (.sipush 152, 3) := by decide +kernel
theorem dX4_forgetOldest_44 : decode cX4_forgetOldest 44 = .ok (.invokestatic 40, 3) := by decide +kernel
theorem dX4_forgetOldest_47 : decode cX4_forgetOldest 47 = .ok (.aload_n 0, 1) := by decide +kernel
theorem dX4_forgetOldest_48 : decode cX4_forgetOldest 48 = .ok (.dup, 1) := by decide +kernel
theorem dX4_forgetOldest_49 : decode cX4_forgetOldest 49 = .ok (.getfield 34, 3) := by decide +kernel
theorem dX4_forgetOldest_52 : decode cX4_forgetOldest 52 = .ok (.iconst 1, 1) := by decide +kernel
theorem dX4_forgetOldest_53 : decode cX4_forgetOldest 53 = .ok (.isub, 1) := by decide +kernel
theorem dX4_forgetOldest_54 : decode cX4_forgetOldest 54 = .ok (.putfield 34, 3) := by decide +kernel
theorem dX4_forgetOldest_57 : decode cX4_forgetOldest 57 = .ok (.return_, 1) := by decide +kernel
theorem dX4_give_0 : decode cX4_give 0 = .ok (.aload_n 0, 1) := by decide +kernel
theorem dX4_give_1 : decode cX4_give 1 = .ok (.getfield 9, 3) := by decide +kernel
theorem dX4_give_4 : decode cX4_give 4 = .ok (.iload_n 1, 1) := by decide +kernel
theorem dX4_give_5 : decode cX4_give 5 = .ok (.iaload, 1) := by decide +kernel
theorem dX4_give_6 : decode cX4_give 6 = .ok (.iconst (-1), 1) := by decide +kernel
theorem dX4_give_7 : decode cX4_give 7 = .ok (.if_icmp .eq 13, 3) := by decide +kernel
theorem dX4_give_10 : decode cX4_give 10 = .ok (.aload_n 0, 1) := by decide +kernel
theorem dX4_give_11 : decode cX4_give 11 = .ok (.dup, 1) := by decide +kernel
theorem dX4_give_12 : decode cX4_give 12 = .ok (.getfield 30, 3) := by decide +kernel
theorem dX4_give_15 : decode cX4_give 15 = .ok (.iconst 1, 1) := by decide +kernel
theorem dX4_give_16 : decode cX4_give 16 = .ok (.isub, 1) := by decide +kernel
theorem dX4_give_17 : decode cX4_give 17 = .ok (.putfield 30, 3) := by decide +kernel
theorem dX4_give_20 : decode cX4_give 20 = .ok (.iload_n 2, 1) := by decide +kernel
theorem dX4_give_21 : decode cX4_give 21 = .ok (.iconst (-1), 1) := by decide +kernel
theorem dX4_give_22 : decode cX4_give 22 = .ok (.if_icmp .eq 13, 3) := by decide +kernel
theorem dX4_give_25 : decode cX4_give 25 = .ok (.aload_n 0, 1) := by decide +kernel
theorem dX4_give_26 : decode cX4_give 26 = .ok (.dup, 1) := by decide +kernel
theorem dX4_give_27 : decode cX4_give 27 = .ok (.getfield 30, 3) := by decide +kernel
theorem dX4_give_30 : decode cX4_give 30 = .ok (.iconst 1, 1) := by decide +kernel
theorem dX4_give_31 : decode cX4_give 31 = .ok (.iadd, 1) := by decide +kernel
theorem dX4_give_32 : decode cX4_give 32 = .ok (.putfield 30, 3) := by decide +kernel
theorem dX4_give_35 : decode cX4_give 35 = .ok (.aload_n 0, 1) := by decide +kernel
theorem dX4_give_36 : decode cX4_give 36 = .ok (.getfield 9, 3) := by decide +kernel
theorem dX4_give_39 : decode cX4_give 39 = .ok (.iload_n 1, 1) := by decide +kernel
theorem dX4_give_40 : decode cX4_give 40 = .ok (.iload_n 2, 1) := by decide +kernel
theorem dX4_give_41 : decode cX4_give 41 = .ok (.iastore, 1) := by decide +kernel
theorem dX4_give_42 : decode cX4_give 42 = .ok (.return_, 1) := by decide +kernel
theorem dX4_init_0 : decode cX4_init 0 = .ok (.aload_n 0, 1) := by decide +kernel
theorem dX4_init_1 : decode cX4_init 1 = .ok (.invokespecial 3, 3) := by decide +kernel
theorem dX4_init_4 : decode cX4_init 4 = .ok (.aload_n 0, 1) := by decide +kernel
theorem dX4_init_5 : decode cX4_init 5 = .ok (.sipush 2000, 3) := by decide +kernel
theorem dX4_init_8 : decode cX4_init 8 = .ok (.newarray .int, 2) := by decide +kernel
theorem dX4_init_10 : decode cX4_init 10 = .ok (.putfield 9, 3) := by decide +kernel
theorem dX4_init_13 : decode cX4_init 13 = .ok (.aload_n 0, 1) := by decide +kernel
theorem dX4_init_14 : decode cX4_init 14 = .ok (.bipush 20, 2) := by decide +kernel
theorem dX4_init_16 : decode cX4_init 16 = .ok (.newarray .int, 2) := by decide +kernel
theorem dX4_init_18 : decode cX4_init 18 = .ok (.putfield 15, 3) := by decide +kernel
theorem dX4_init_21 : decode cX4_init 21 = .ok (.aload_n 0, 1) := by decide +kernel
theorem dX4_init_22 : decode cX4_init 22 = .ok (.bipush 20, 2) := by decide +kernel
theorem dX4_init_24 : decode cX4_init 24 = .ok (.newarray .int, 2) := by decide +kernel
theorem dX4_init_26 : decode cX4_init 26 = .ok (.putfield 18, 3) := by decide +kernel
theorem dX4_init_29 : decode cX4_init 29 = .ok (.aload_n 0, 1) := by decide +kernel
theorem dX4_init_30 : decode cX4_init 30 = .ok (.sipush 160, 3) := by decide +kernel
theorem dX4_init_33 : decode cX4_init 33 = .ok (.newarray .int, 2) := by decide +kernel
theorem dX4_init_35 : decode cX4_init 35 = .ok (.putfield 21, 3) := by decide +kernel
theorem dX4_init_38 : decode cX4_init 38 = .ok (.return_, 1) := by decide +kernel
theorem dX4_keep_0 : decode cX4_keep 0 = .ok (.aload_n 0, 1) := by decide +kernel
theorem dX4_keep_1 : decode cX4_keep 1 = .ok (.getfield 34, 3) := by decide +kernel
theorem dX4_keep_4 : decode cX4_keep 4 = .ok (.bipush 20, 2) := by decide +kernel
theorem dX4_keep_6 : decode cX4_keep 6 = .ok (.if_icmp .ne 7, 3) := by decide +kernel
theorem dX4_keep_9 : decode cX4_keep 9 = .ok (.aload_n 0, 1) := by decide +kernel
theorem dX4_keep_10 : decode cX4_keep 10 = .ok (.invokevirtual 37, 3) := by decide +kernel
theorem dX4_keep_13 : decode cX4_keep 13 = .ok (.aload_n 0, 1) := by decide +kernel
theorem dX4_keep_14 : decode cX4_keep 14 = .ok (.getfield 15, 3) := by decide +kernel
theorem dX4_keep_17 : decode cX4_keep 17 = .ok (.aload_n 0, 1) := by decide +kernel
theorem dX4_keep_18 : decode cX4_keep 18 = .ok (.getfield 34, 3) := by decide +kernel
theorem dX4_keep_21 : decode cX4_keep 21 = .ok (.iload_n 1, 1) := by decide +kernel
theorem dX4_keep_22 : decode cX4_keep 22 = .ok (.iastore, 1) := by decide +kernel
theorem dX4_keep_23 : decode cX4_keep 23 = .ok (.aload_n 0, 1) := by decide +kernel
theorem dX4_keep_24 : decode cX4_keep 24 = .ok (.getfield 18, 3) := by decide +kernel
theorem dX4_keep_27 : decode cX4_keep 27 = .ok (.aload_n 0, 1) := by decide +kernel
theorem dX4_keep_28 : decode cX4_keep 28 = .ok (.getfield 34, 3) := by decide +kernel
theorem dX4_keep_31 : decode cX4_keep 31 = .ok (.iload_n 2, 1) := by decide +kernel
theorem dX4_keep_32 : decode cX4_keep 32 = .ok (.iastore, 1) := by decide +kernel
theorem dX4_keep_33 : decode cX4_keep 33 = .ok (.iconst 0, 1) := by decide +kernel
theorem dX4_keep_34 : decode cX4_keep 34 = .ok (.istore_n 3, 1) := by decide +kernel
theorem dX4_keep_35 : decode cX4_keep 35 = .ok (.iload_n 3, 1) := by decide +kernel
theorem dX4_keep_36 : decode cX4_keep 36 = .ok (.iload_n 2, 1) := by decide +kernel
theorem dX4_keep_37 : decode cX4_keep 37 = .ok (.if_icmp .ge 31, 3) := by decide +kernel
theorem dX4_keep_40 : decode cX4_keep 40 = .ok (.aload_n 0, 1) := by decide +kernel
theorem dX4_keep_41 : decode cX4_keep 41 = .ok (.getfield 21, 3) := by decide +kernel
theorem dX4_keep_44 : decode cX4_keep 44 = .ok (.aload_n 0, 1) := by decide +kernel
theorem dX4_keep_45 : decode cX4_keep 45 = .ok (.getfield 34, 3) := by decide +kernel
theorem dX4_keep_48 : decode cX4_keep 48 = .ok (.bipush 8, 2) := by decide +kernel
theorem dX4_keep_50 : decode cX4_keep 50 = .ok (.imul, 1) := by decide +kernel
theorem dX4_keep_51 : decode cX4_keep 51 = .ok (.iload_n 3, 1) := by decide +kernel
theorem dX4_keep_52 : decode cX4_keep 52 = .ok (.iadd, 1) := by decide +kernel
theorem dX4_keep_53 : decode cX4_keep 53 = .ok (.aload_n 0, 1) := by decide +kernel
theorem dX4_keep_54 : decode cX4_keep 54 = .ok (.getfield 9, 3) := by decide +kernel
theorem dX4_keep_57 : decode cX4_keep 57 = .ok (.iload_n 1, 1) := by decide +kernel
theorem dX4_keep_58 : decode cX4_keep 58 = .ok (.iload_n 3, 1) := by decide +kernel
theorem dX4_keep_59 : decode cX4_keep 59 = .ok (.iadd, 1) := by decide +kernel
theorem dX4_keep_60 : decode cX4_keep 60 = .ok (.iaload, 1) := by decide +kernel
theorem dX4_keep_61 : decode cX4_keep 61 = .ok (.iastore, 1) := by decide +kernel
theorem dX4_keep_62 : decode cX4_keep 62 = .ok (.iinc 3 1, 3) := by decide +kernel
theorem dX4_keep_65 : decode cX4_keep 65 = .ok (.goto (-30), 3) := by decide +kernel
theorem dX4_keep_68 : decode cX4_keep 68 = .ok (.aload_n 0, 1) := by decide +kernel
theorem dX4_keep_69 : decode cX4_keep 69 = .ok (.dup, 1) := by decide +kernel
theorem dX4_keep_70 : decode cX4_keep 70 = .ok (.getfield 34, 3) := by decide +kernel
theorem dX4_keep_73 : decode cX4_keep 73 = .ok (.iconst 1, 1) := by decide +kernel
theorem dX4_keep_74 : decode cX4_keep 74 = .ok (.iadd, 1) := by decide +kernel
theorem dX4_keep_75 : decode cX4_keep 75 = .ok (.putfield 34, 3) := by decide +kernel
theorem dX4_keep_78 : decode cX4_keep 78 = .ok (.return_, 1) := by decide +kernel
theorem dX4_placeOf_0 : decode cX4_placeOf 0 = .ok (.iload_n 1, 1) := by decide +kernel
theorem dX4_placeOf_1 : decode cX4_placeOf 1 = .ok (.istore_n 2, 1) := by decide +kernel
theorem dX4_placeOf_2 : decode cX4_placeOf 2 = .ok (.iconst 0, 1) := by decide +kernel
theorem dX4_placeOf_3 : decode cX4_placeOf 3 = .ok (.istore_n 3, 1) := by decide +kernel
theorem dX4_placeOf_4 : decode cX4_placeOf 4 = .ok (.iload_n 3, 1) := by decide +kernel
theorem dX4_placeOf_5 : decode cX4_placeOf 5 = .ok (.sipush 2000, 3) := by decide +kernel
theorem dX4_placeOf_8 : decode cX4_placeOf 8 = .ok (.if_icmp .ge 40, 3) := by decide +kernel
theorem dX4_placeOf_11 : decode cX4_placeOf 11 = .ok (.iload_n 1, 1) := by decide +kernel
theorem dX4_placeOf_12 : decode cX4_placeOf 12 = .ok (.ifCond .lt 36, 3) := by decide +kernel
theorem dX4_placeOf_15 : decode cX4_placeOf 15 = .ok (.iload_n 1, 1) := by decide +kernel
theorem dX4_placeOf_16 : decode cX4_placeOf 16 = .ok (.aload_n 0, 1) := by decide +kernel
theorem dX4_placeOf_17 : decode cX4_placeOf 17 = .ok (.getfield 30, 3) := by decide +kernel
theorem dX4_placeOf_20 : decode cX4_placeOf 20 = .ok (.if_icmp .ge 28, 3) := by decide +kernel
theorem dX4_placeOf_23 : decode cX4_placeOf 23 = .ok (.aload_n 0, 1) := by decide +kernel
theorem dX4_placeOf_24 : decode cX4_placeOf 24 = .ok (.getfield 9, 3) := by decide +kernel
theorem dX4_placeOf_27 : decode cX4_placeOf 27 = .ok (.iload_n 3, 1) := by decide +kernel
theorem dX4_placeOf_28 : decode cX4_placeOf 28 = .ok (.iaload, 1) := by decide +kernel
theorem dX4_placeOf_29 : decode cX4_placeOf 29 = .ok (.iconst (-1), 1) := by decide +kernel
theorem dX4_placeOf_30 : decode cX4_placeOf 30 = .ok (.if_icmp .eq 12, 3) := by decide +kernel
theorem dX4_placeOf_33 : decode cX4_placeOf 33 = .ok (.iload_n 2, 1) := by decide +kernel
theorem dX4_placeOf_34 : decode cX4_placeOf 34 = .ok (.ifCond .ne 5, 3) := by decide +kernel
theorem dX4_placeOf_37 : decode cX4_placeOf 37 = .ok (.iload_n 3, 1) := by decide +kernel
theorem dX4_placeOf_38 : decode cX4_placeOf 38 = .ok (.ireturn, 1) := by decide +kernel
theorem dX4_placeOf_39 : decode cX4_placeOf 39 = .ok (.iinc 2 (-1), 3) := by decide +kernel
theorem dX4_placeOf_42 : decode cX4_placeOf 42 = .ok (.iinc 3 1, 3) := by decide +kernel
theorem dX4_placeOf_45 : decode cX4_placeOf 45 = .ok (.goto (-41), 3) := by decide +kernel
theorem dX4_placeOf_48 : decode cX4_placeOf 48 = .ok (.iconst (-1), 1) := by decide +kernel
theorem dX4_placeOf_49 : decode cX4_placeOf 49 = .ok (.ireturn, 1) := by decide +kernel
theorem dX4_wipe_0 : decode cX4_wipe 0 = .ok (.aload_n 0, 1) := by decide +kernel
theorem dX4_wipe_1 : decode cX4_wipe 1 = .ok (.getfield 9, 3) := by decide +kernel
theorem dX4_wipe_4 : decode cX4_wipe 4 = .ok (.iconst (-1), 1) := by decide +kernel
theorem dX4_wipe_5 : decode cX4_wipe 5 = .ok (.invokestatic 24, 3) := by decide +kernel
theorem dX4_wipe_8 : decode cX4_wipe 8 = .ok (.aload_n 0, 1) := by decide +kernel
theorem dX4_wipe_9 : decode cX4_wipe 9 = .ok (.iconst 0, 1) := by decide +kernel
theorem dX4_wipe_10 : decode cX4_wipe 10 = .ok (.putfield 30, 3) := by decide +kernel
theorem dX4_wipe_13 : decode cX4_wipe 13 = .ok (.aload_n 0, 1) := by decide +kernel
theorem dX4_wipe_14 : decode cX4_wipe 14 = .ok (.iconst 0, 1) := by decide +kernel
theorem dX4_wipe_15 : decode cX4_wipe 15 = .ok (.putfield 34, 3) := by decide +kernel
theorem dX4_wipe_18 : decode cX4_wipe 18 = .ok (.return_, 1) := by decide +kernel
theorem dX5_addKid_0 : decode cX5_addKid 0 = .ok (.aload_n 0, 1) := by decide +kernel
theorem dX5_addKid_1 : decode cX5_addKid 1 = .ok (.getfield 42, 3) := by decide +kernel
theorem dX5_addKid_4 : decode cX5_addKid 4 = .ok (.ifnonnull 11, 3) := by decide +kernel
theorem dX5_addKid_7 : decode cX5_addKid 7 = .ok (.aload_n 0, 1) := by decide +kernel
theorem dX5_addKid_8 : decode cX5_addKid 8 = .ok (.aload_n 1, 1) := by decide +kernel
theorem dX5_addKid_9 : decode cX5_addKid 9 = .ok (.putfield 39, 3) := by decide +kernel
theorem dX5_addKid_12 : decode cX5_addKid 12 = .ok (.goto 11, 3) := by decide +kernel
theorem dX5_addKid_15 : decode cX5_addKid 15 = .ok (.aload_n 0, 1) := by decide +kernel
theorem dX5_addKid_16 : decode cX5_addKid 16 = .ok (.getfield 42, 3) := by decide +kernel
theorem dX5_addKid_19 : decode cX5_addKid 19 = .ok (.aload_n 1, 1) := by decide +kernel
theorem dX5_addKid_20 : decode cX5_addKid 20 = .ok (.putfield 45, 3) := by decide +kernel
theorem dX5_addKid_23 : decode cX5_addKid 23 = .ok (.aload_n 0, 1) := by decide +kernel
theorem dX5_addKid_24 : decode cX5_addKid 24 = .ok (.aload_n 1, 1) := by decide +kernel
theorem dX5_addKid_25 : decode cX5_addKid 25 = .ok (.putfield 42, 3) := by decide +kernel
theorem dX5_addKid_28 : decode cX5_addKid 28 = .ok (.aload_n 0, 1) := by decide +kernel
theorem dX5_addKid_29 : decode cX5_addKid 29 = .ok (.dup, 1) := by decide +kernel
theorem dX5_addKid_30 : decode cX5_addKid 30 = .ok (.getfield 48, 3) := by decide +kernel
theorem dX5_addKid_33 : decode cX5_addKid 33 = .ok (.iconst 1, 1) := by decide +kernel
theorem dX5_addKid_34 : decode cX5_addKid 34 = .ok (.iadd, 1) := by decide +kernel
theorem dX5_addKid_35 : decode cX5_addKid 35 = .ok (.putfield 48, 3) := by decide +kernel
theorem dX5_addKid_38 : decode cX5_addKid 38 = .ok (.return_, 1) := by decide +kernel
theorem dX5_begin_0 : decode cX5_begin 0 = .ok (.aload_n 0, 1) := by decide +kernel
theorem dX5_begin_1 : decode cX5_begin 1 = .ok (.iload_n 2, 1) := by decide +kernel
theorem dX5_begin_2 : decode cX5_begin 2 = .ok (.putfield 15, 3) := by decide +kernel
theorem dX5_begin_5 : decode cX5_begin 5 = .ok (.aload_n 0, 1) := by decide +kernel
theorem dX5_begin_6 : decode cX5_begin 6 = .ok (.iload_n 3, 1) := by decide +kernel
theorem dX5_begin_7 : decode cX5_begin 7 = .ok (.putfield 18, 3) := by decide +kernel
theorem dX5_begin_10 : decode cX5_begin 10 = .ok (.aload_n 0, 1) := by decide +kernel
theorem dX5_begin_11 : decode cX5_begin 11 = .ok (.iload_n 3, 1) := by decide +kernel
theorem dX5_begin_12 : decode cX5_begin 12 = .ok (.putfield 21, 3) := by decide +kernel
theorem dX5_begin_15 : decode cX5_begin 15 = .ok (.aload_n 0, 1) := by decide +kernel
theorem dX5_begin_16 : decode cX5_begin 16 = .ok (.iconst 0, 1) := by decide +kernel
theorem dX5_begin_17 : decode cX5_begin 17 = .ok (.putfield 24, 3) := by decide +kernel
theorem dX5_begin_20 : decode cX5_begin 20 = .ok (.aload_n 0, 1) := by decide +kernel
theorem dX5_begin_21 : decode cX5_begin 21 = .ok (.iconst 0, 1) := by decide +kernel
theorem dX5_begin_22 : decode cX5_begin 22 = .ok (.putfield 27, 3) := by decide +kernel
theorem dX5_begin_25 : decode cX5_begin 25 = .ok (.aload_n 0, 1) := by decide +kernel
theorem dX5_begin_26 : decode cX5_begin 26 = .ok (.lload 4, 2) := by decide +kernel
theorem dX5_begin_28 : decode cX5_begin 28 = .ok (.putfield 31, 3) := by decide +kernel
theorem dX5_begin_31 : decode cX5_begin 31 = .ok (.aload_n 0, 1) := by decide +kernel
theorem dX5_begin_32 : decode cX5_begin 32 = .ok (.aload_n 1, 1) := by decide +kernel
theorem dX5_begin_33 : decode cX5_begin 33 = .ok (.putfield 35, 3) := by decide +kernel
theorem dX5_begin_36 : decode cX5_begin 36 = .ok (.aload_n 0, 1) := by decide +kernel
theorem dX5_begin_37 : decode cX5_begin 37 = .ok (.aconst_null, 1) := by decide +kernel
theorem dX5_begin_38 : decode cX5_begin 38 = .ok (.putfield 39, 3) := by decide +kernel
theorem dX5_begin_41 : decode cX5_begin 41 = .ok (.aload_n 0, 1) := by decide +kernel
theorem dX5_begin_42 : decode cX5_begin 42 = .ok (.aconst_null, 1) := by decide +kernel
theorem dX5_begin_43 : decode cX5_begin 43 = .ok (.putfield 42, 3) := by decide +kernel
theorem dX5_begin_46 : decode cX5_begin 46 = .ok (.aload_n 0, 1) := by decide +kernel
theorem dX5_begin_47 : decode cX5_begin 47 = .ok (.aconst_null, 1) := by decide +kernel
theorem dX5_begin_48 : decode cX5_begin 48 = .ok (.putfield 45, 3) := by decide +kernel
theorem dX5_begin_51 : decode cX5_begin 51 = .ok (.aload_n 0, 1) := by decide +kernel
theorem dX5_begin_52 : decode cX5_begin 52 = .ok (.iconst 0, 1) := by decide +kernel
theorem dX5_begin_53 : decode cX5_begin 53 = .ok (.putfield 48, 3) := by decide +kernel
theorem dX5_begin_56 : decode cX5_begin 56 = .ok (.aload_n 0, 1) := by decide +kernel
theorem dX5_begin_57 : decode cX5_begin 57 = .ok (.aload_n 1, 1) := by decide +kernel
theorem dX5_begin_58 : decode cX5_begin 58 = .ok (.ifnonnull 7, 3) := by decide +kernel
theorem dX5_begin_61 : decode cX5_begin 61 = .ok (.iconst 0, 1) := by decide +kernel
theorem dX5_begin_62 : decode cX5_begin 62 = .ok (.goto 9, 3) := by decide +kernel
theorem dX5_begin_65 : decode cX5_begin 65 = .ok (.aload_n 1, 1) := by decide +kernel
theorem dX5_begin_66 : decode cX5_begin 66 = .ok (.getfield 51, 3) := by decide +kernel
theorem dX5_begin_69 : decode cX5_begin 69 = .ok (.iconst 1, 1) := by decide +kernel
theorem dX5_begin_70 : decode cX5_begin 70 = .ok (.iadd, 1) := by decide +kernel
theorem dX5_begin_71 : decode cX5_begin 71 = .ok (.putfield 51, 3) := by decide +kernel
theorem dX5_begin_74 : decode cX5_begin 74 = .ok (.aload_n 0, 1) := by decide +kernel
theorem dX5_begin_75 : decode cX5_begin 75 = .ok (.aload 6, 2) := by decide +kernel
theorem dX5_begin_77 : decode cX5_begin 77 = .ok (.putfield 54, 3) := by decide +kernel
theorem dX5_begin_80 : decode cX5_begin 80 = .ok (.aload_n 0, 1) := by decide +kernel
theorem dX5_begin_81 : decode cX5_begin 81 = .ok (.iconst (-1), 1) := by decide +kernel
theorem dX5_begin_82 : decode cX5_begin 82 = .ok (.putfield 58, 3) := by decide +kernel
theorem dX5_begin_85 : decode cX5_begin 85 = .ok (.aload_n 0, 1) := by decide +kernel
theorem dX5_begin_86 : decode cX5_begin 86 = .ok (.iconst 0, 1) := by decide +kernel
theorem dX5_begin_87 : decode cX5_begin 87 = .ok (.putfield 61, 3) := by decide +kernel
theorem dX5_begin_90 : decode cX5_begin 90 = .ok (.aload_n 0, 1) := by decide +kernel
theorem dX5_begin_91 : decode cX5_begin 91 = .ok (.iconst 0, 1) := by decide +kernel
theorem dX5_begin_92 : decode cX5_begin 92 = .ok (.putfield 64, 3) := by decide +kernel
theorem dX5_begin_95 : decode cX5_begin 95 = .ok (.return_, 1) := by decide +kernel
theorem dX5_canHave_0 : decode cX5_canHave 0 = .ok (.aload_n 0, 1) := by decide +kernel
theorem dX5_canHave_1 : decode cX5_canHave 1 = .ok (.getfield 15, 3) := by decide +kernel
theorem dX5_canHave_4 : decode cX5_canHave 4 = .ok (.iconst 4, 1) := by decide +kernel
theorem dX5_canHave_5 : decode cX5_canHave 5 = .ok (.if_icmp .ne 10, 3) := by decide +kernel
theorem dX5_canHave_8 : decode cX5_canHave 8 = .ok (.aload_n 0, 1) := by decide +kernel
theorem dX5_canHave_9 : decode cX5_canHave 9 = .ok (.getfield 64, 3) := by decide +kernel
theorem dX5_canHave_12 : decode cX5_canHave 12 = .ok (.goto 13, 3) := by decide +kernel
theorem dX5_canHave_15 : decode cX5_canHave 15 = .ok (.bipush 8, 2) := by decide +kernel
theorem dX5_canHave_17 : decode cX5_canHave 17 = .ok (.aload_n 0, 1) := by decide +kernel
theorem dX5_canHave_18 : decode cX5_canHave 18 = .ok (.getfield 54, 3) := by decide +kernel
theorem dX5_canHave_21 : decode cX5_canHave 21 = .ok (.getfield 87, 3) := by decide +kernel
theorem dX5_canHave_24 : decode cX5_canHave 24 = .ok (.imul, 1) := by decide +kernel
theorem dX5_canHave_25 : decode cX5_canHave 25 = .ok (.istore_n 3, 1) := by decide +kernel
theorem dX5_canHave_26 : decode cX5_canHave 26 = .ok (.iload_n 3, 1) := by decide +kernel
theorem dX5_canHave_27 : decode cX5_canHave 27 = .ok (.bipush 64, 2) := by decide +kernel
theorem dX5_canHave_29 : decode cX5_canHave 29 = .ok (.if_icmp .lt 5, 3) := by decide +kernel
theorem dX5_canHave_32 : decode cX5_canHave 32 = .ok (.iconst 1, 1) := by decide +kernel
theorem dX5_canHave_33 : decode cX5_canHave 33 = .ok (.ireturn, 1) := by decide +kernel
theorem dX5_canHave_34 : decode cX5_canHave 34 = .ok (.aload_n 0, 1) := by decide +kernel
theorem dX5_canHave_35 : decode cX5_canHave 35 = .ok (.getfield 54, 3) := by decide +kernel
theorem dX5_canHave_38 : decode cX5_canHave 38 = .ok (.getfield 103, 3) := by decide +kernel
theorem dX5_canHave_41 : decode cX5_canHave 41 = .ok (.ifCond .eq 47, 3) := by decide +kernel
theorem dX5_canHave_44 : decode cX5_canHave 44 = .ok (.aload_n 0, 1) := by decide +kernel
theorem dX5_canHave_45 : decode cX5_canHave 45 = .ok (.getfield 15, 3) := by decide +kernel
theorem dX5_canHave_48 : decode cX5_canHave 48 = .ok (.iconst 4, 1) := by decide +kernel
theorem dX5_canHave_49 : decode cX5_canHave 49 = .ok (.if_icmp .eq 39, 3) := by decide +kernel
theorem dX5_canHave_52 : decode cX5_canHave 52 = .ok (.aload_n 0, 1) := by decide +kernel
theorem dX5_canHave_53 : decode cX5_canHave 53 = .ok (.getfield 15, 3) := by decide +kernel
theorem dX5_canHave_56 : decode cX5_canHave 56 = .ok (.iconst 3, 1) := by decide +kernel
theorem dX5_canHave_57 : decode cX5_canHave 57 = .ok (.if_icmp .eq 31, 3) := by decide +kernel
theorem dX5_canHave_60 : decode cX5_canHave 60 = .ok (.lconst 1, 1) := by decide +kernel
theorem dX5_canHave_61 : decode cX5_canHave 61 = .ok (.iload_n 3, 1) := by decide +kernel
theorem dX5_canHave_62 : decode cX5_canHave 62 = .ok (.iconst 1, 1) := by decide +kernel
theorem dX5_canHave_63 : decode cX5_canHave 63 = .ok (.isub, 1) := by decide +kernel
theorem dX5_canHave_64 : decode cX5_canHave 64 = .ok (.lshl, 1) := by decide +kernel
theorem dX5_canHave_65 : decode cX5_canHave 65 = .ok (.lstore 4, 2) := by decide +kernel
theorem dX5_canHave_67 : decode cX5_canHave 67 = .ok (.lload_n 1, 1) := by decide +kernel
theorem dX5_canHave_68 : decode cX5_canHave 68 = .ok (.lload 4, 2) := by decide +kernel
theorem dX5_canHave_70 : decode cX5_canHave 70 = .ok (.lneg, 1) := by decide +kernel
theorem dX5_canHave_71 : decode cX5_canHave 71 = .ok (.lcmp, 1) := by decide +kernel
theorem dX5_canHave_72 : decode cX5_canHave 72 = .ok (.ifCond .lt 14, 3) := by decide +kernel
theorem dX5_canHave_75 : decode cX5_canHave 75 = .ok (.lload_n 1, 1) := by decide +kernel
theorem dX5_canHave_76 : decode cX5_canHave 76 = .ok (.lload 4, 2) := by decide +kernel
theorem dX5_canHave_78 : decode cX5_canHave 78 = .ok (.lcmp, 1) := by decide +kernel
theorem dX5_canHave_79 : decode cX5_canHave 79 = .ok (.ifCond .ge 7, 3) := by decide +kernel
theorem dX5_canHave_82 : decode cX5_canHave 82 = .ok (.iconst 1, 1) := by decide +kernel
theorem dX5_canHave_83 : decode cX5_canHave 83 = .ok (.goto 4, 3) := by decide +kernel
theorem dX5_canHave_86 : decode cX5_canHave 86 = .ok (.iconst 0, 1) := by decide +kernel
theorem dX5_canHave_87 : decode cX5_canHave 87 = .ok (.ireturn, 1) := by decide +kernel
theorem dX5_canHave_88 : decode cX5_canHave 88 = .ok (.lload_n 1, 1) := by decide +kernel
theorem dX5_canHave_89 : decode cX5_canHave 89 = .ok (.lconst 0, 1) := by decide +kernel
theorem dX5_canHave_90 : decode cX5_canHave 90 = .ok (.lcmp, 1) := by decide +kernel
theorem dX5_canHave_91 : decode cX5_canHave 91 = .ok (.ifCond .lt 16, 3) := by decide +kernel
theorem dX5_canHave_94 : decode cX5_canHave 94 = .ok (.lload_n 1, 1) := by decide +kernel
theorem dX5_canHave_95 : decode cX5_canHave 95 = .ok (.iload_n 3, 1) := by decide +kernel
theorem dX5_canHave_96 : decode cX5_canHave 96 = .ok (.invokestatic 99, 3) := by decide +kernel
theorem dX5_canHave_99 : decode cX5_canHave 99 = .ok (.lcmp, 1) := by decide +kernel
theorem dX5_canHave_100 : decode cX5_canHave 100 = .ok (.ifCond .gt 7, 3) := by decide +kernel
theorem dX5_canHave_103 : decode cX5_canHave 103 = .ok (.iconst 1, 1) := by decide +kernel
theorem dX5_canHave_104 : decode cX5_canHave 104 = .ok (.goto 4, 3) := by decide +kernel
theorem dX5_canHave_107 : decode cX5_canHave 107 = .ok (.iconst 0, 1) := by decide +kernel
theorem dX5_canHave_108 : decode cX5_canHave 108 = .ok (.ireturn, 1) := by decide +kernel
theorem dX5_covers_0 : decode cX5_covers 0 = .ok (.aload_n 0, 1) := by decide +kernel
theorem dX5_covers_1 : decode cX5_covers 1 = .ok (.getfield 18, 3) := by decide +kernel
theorem dX5_covers_4 : decode cX5_covers 4 = .ok (.iload_n 1, 1) := by decide +kernel
theorem dX5_covers_5 : decode cX5_covers 5 = .ok (.if_icmp .gt 15, 3) := by decide +kernel
theorem dX5_covers_8 : decode cX5_covers 8 = .ok (.iload_n 1, 1) := by decide +kernel
theorem dX5_covers_9 : decode cX5_covers 9 = .ok (.aload_n 0, 1) := by decide +kernel
theorem dX5_covers_10 : decode cX5_covers 10 = .ok (.getfield 21, 3) := by decide +kernel
theorem dX5_covers_13 : decode cX5_covers 13 = .ok (.if_icmp .ge 7, 3) := by decide +kernel
theorem dX5_covers_16 : decode cX5_covers 16 = .ok (.iconst 1, 1) := by decide +kernel
theorem dX5_covers_17 : decode cX5_covers 17 = .ok (.goto 4, 3) := by decide +kernel
theorem dX5_covers_20 : decode cX5_covers 20 = .ok (.iconst 0, 1) := by decide +kernel
theorem dX5_covers_21 : decode cX5_covers 21 = .ok (.ireturn, 1) := by decide +kernel
theorem dX5_hasNumber_0 : decode cX5_hasNumber 0 = .ok (.aload_n 0, 1) := by decide +kernel
theorem dX5_hasNumber_1 : decode cX5_hasNumber 1 = .ok (.getfield 15, 3) := by decide +kernel
theorem dX5_hasNumber_4 : decode cX5_hasNumber 4 = .ok (.iconst 1, 1) := by decide +kernel
theorem dX5_hasNumber_5 : decode cX5_hasNumber 5 = .ok (.if_icmp .eq 37, 3) := by decide +kernel
theorem dX5_hasNumber_8 : decode cX5_hasNumber 8 = .ok (.aload_n 0, 1) := by decide +kernel
theorem dX5_hasNumber_9 : decode cX5_hasNumber 9 = .ok (.getfield 15, 3) := by decide +kernel
theorem dX5_hasNumber_12 : decode cX5_hasNumber 12 = .ok (.iconst 3, 1) := by decide +kernel
theorem dX5_hasNumber_13 : decode cX5_hasNumber 13 = .ok (.if_icmp .eq 29, 3) := by decide +kernel
theorem dX5_hasNumber_16 : decode cX5_hasNumber 16 = .ok (.aload_n 0, 1) := by decide +kernel
theorem dX5_hasNumber_17 : decode cX5_hasNumber 17 = .ok (.getfield 15, 3) := by decide +kernel
theorem dX5_hasNumber_20 : decode cX5_hasNumber 20 = .ok (.iconst 4, 1) := by decide +kernel
theorem dX5_hasNumber_21 : decode cX5_hasNumber 21 = .ok (.if_icmp .eq 21, 3) := by decide +kernel
theorem dX5_hasNumber_24 : decode cX5_hasNumber 24 = .ok (.aload_n 0, 1) := by decide +kernel
theorem dX5_hasNumber_25 : decode cX5_hasNumber 25 = .ok (.getfield 15, 3) := by decide +kernel
theorem dX5_hasNumber_28 : decode cX5_hasNumber 28 = .ok (.bipush 7, 2) := by decide +kernel
theorem dX5_hasNumber_30 : decode cX5_hasNumber 30 = .ok (.if_icmp .eq 12, 3) := by decide +kernel
theorem dX5_hasNumber_33 : decode cX5_hasNumber 33 = .ok (.aload_n 0, 1) := by decide +kernel
theorem dX5_hasNumber_34 : decode cX5_hasNumber 34 = .ok (.getfield 15, 3) := by decide +kernel
theorem dX5_hasNumber_37 : decode cX5_hasNumber 37 = .ok (.bipush 10, 2) := by decide +kernel
theorem dX5_hasNumber_39 : decode cX5_hasNumber 39 = .ok (.if_icmp .ne 7, 3) := by decide +kernel
theorem dX5_hasNumber_42 : decode cX5_hasNumber 42 = .ok (.iconst 1, 1) := by decide +kernel
theorem dX5_hasNumber_43 : decode cX5_hasNumber 43 = .ok (.goto 4, 3) := by decide +kernel
theorem dX5_hasNumber_46 : decode cX5_hasNumber 46 = .ok (.iconst 0, 1) := by decide +kernel
theorem dX5_hasNumber_47 : decode cX5_hasNumber 47 = .ok (.ireturn, 1) := by decide +kernel
theorem dX5_hasSign_0 : decode cX5_hasSign 0 = .ok (.aload_n 0, 1) := by decide +kernel
theorem dX5_hasSign_1 : decode cX5_hasSign 1 = .ok (.getfield 15, 3) := by decide +kernel
theorem dX5_hasSign_4 : decode cX5_hasSign 4 = .ok (.iconst 5, 1) := by decide +kernel
theorem dX5_hasSign_5 : decode cX5_hasSign 5 = .ok (.if_icmp .ne 19, 3) := by decide +kernel
theorem dX5_hasSign_8 : decode cX5_hasSign 8 = .ok (.iload_n 1, 1) := by decide +kernel
theorem dX5_hasSign_9 : decode cX5_hasSign 9 = .ok (.ifCond .lt 15, 3) := by decide +kernel
theorem dX5_hasSign_12 : decode cX5_hasSign 12 = .ok (.iload_n 1, 1) := by decide +kernel
theorem dX5_hasSign_13 : decode cX5_hasSign 13 = .ok (.aload_n 0, 1) := by decide +kernel
theorem dX5_hasSign_14 : decode cX5_hasSign 14 = .ok (.invokevirtual 76, 3) := by decide +kernel
theorem dX5_hasSign_17 : decode cX5_hasSign 17 = .ok (.if_icmp .ge 7, 3) := by decide +kernel
theorem dX5_hasSign_20 : decode cX5_hasSign 20 = .ok (.iconst 1, 1) := by decide +kernel
theorem dX5_hasSign_21 : decode cX5_hasSign 21 = .ok (.goto 4, 3) := by decide +kernel
theorem dX5_hasSign_24 : decode cX5_hasSign 24 = .ok (.iconst 0, 1) := by decide +kernel
theorem dX5_hasSign_25 : decode cX5_hasSign 25 = .ok (.ireturn, 1) := by decide +kernel
theorem dX5_holdsOthers_0 : decode cX5_holdsOthers 0 = .ok (.aload_n 0, 1) := by decide +kernel
theorem dX5_holdsOthers_1 : decode cX5_holdsOthers 1 = .ok (.getfield 15, 3) := by decide +kernel
theorem dX5_holdsOthers_4 : decode cX5_holdsOthers 4 = .ok (.ifCond .eq 20, 3) := by decide +kernel
theorem dX5_holdsOthers_7 : decode cX5_holdsOthers 7 = .ok (.aload_n 0, 1) := by decide +kernel
theorem dX5_holdsOthers_8 : decode cX5_holdsOthers 8 = .ok (.getfield 15, 3) := by decide +kernel
theorem dX5_holdsOthers_11 : decode cX5_holdsOthers 11 = .ok (.iconst 2, 1) := by decide +kernel
theorem dX5_holdsOthers_12 : decode cX5_holdsOthers 12 = .ok (.if_icmp .eq 12, 3) := by decide +kernel
theorem dX5_holdsOthers_15 : decode cX5_holdsOthers 15 = .ok (.aload_n 0, 1) := by decide +kernel
theorem dX5_holdsOthers_16 : decode cX5_holdsOthers 16 = .ok (.getfield 15, 3) := by decide +kernel
theorem dX5_holdsOthers_19 : decode cX5_holdsOthers 19 = .ok (.bipush 6, 2) := by decide +kernel
theorem dX5_holdsOthers_21 : decode cX5_holdsOthers 21 = .ok (.if_icmp .ne 7, 3) := by decide +kernel
theorem dX5_holdsOthers_24 : decode cX5_holdsOthers 24 = .ok (.iconst 1, 1) := by decide +kernel
theorem dX5_holdsOthers_25 : decode cX5_holdsOthers 25 = .ok (.goto 4, 3) := by decide +kernel
theorem dX5_holdsOthers_28 : decode cX5_holdsOthers 28 = .ok (.iconst 0, 1) := by decide +kernel
theorem dX5_holdsOthers_29 : decode cX5_holdsOthers 29 = .ok (.ireturn, 1) := by decide +kernel
theorem dX5_init_0 : decode cX5_init 0 = .ok (.aload_n 0, 1) := by decide +kernel
theorem dX5_init_1 : decode cX5_init 1 = .ok (.invokespecial 3, 3) := by decide +kernel
theorem dX5_init_4 : decode cX5_init 4 = .ok (.aload_n 0, 1) := by decide +kernel
theorem dX5_init_5 : decode cX5_init 5 = .ok (.iload_n 1, 1) := by decide +kernel
theorem dX5_init_6 : decode cX5_init 6 = .ok (.putfield 9, 3) := by decide +kernel
theorem dX5_init_9 : decode cX5_init 9 = .ok (.return_, 1) := by decide +kernel
theorem dX5_kidAt_0 : decode cX5_kidAt 0 = .ok (.iload_n 1, 1) := by decide +kernel
theorem dX5_kidAt_1 : decode cX5_kidAt 1 = .ok (.ifCond .lt 11, 3) := by decide +kernel
theorem dX5_kidAt_4 : decode cX5_kidAt 4 = .ok (.iload_n 1, 1) := by decide +kernel
theorem dX5_kidAt_5 : decode cX5_kidAt 5 = .ok (.aload_n 0, 1) := by decide +kernel
theorem dX5_kidAt_6 : decode cX5_kidAt 6 = .ok (.getfield 48, 3) := by decide +kernel
theorem dX5_kidAt_9 : decode cX5_kidAt 9 = .ok (.if_icmp .lt 5, 3) := by decide +kernel
theorem dX5_kidAt_12 : decode cX5_kidAt 12 = .ok (.aconst_null, 1) := by decide +kernel
theorem dX5_kidAt_13 : decode cX5_kidAt 13 = .ok (.areturn, 1) := by decide +kernel
theorem dX5_kidAt_14 : decode cX5_kidAt 14 = .ok (.aload_n 0, 1) := by decide +kernel
theorem dX5_kidAt_15 : decode cX5_kidAt 15 = .ok (.getfield 39, 3) := by decide +kernel
theorem dX5_kidAt_18 : decode cX5_kidAt 18 = .ok (.astore_n 2, 1) := by decide +kernel
theorem dX5_kidAt_19 : decode cX5_kidAt 19 = .ok (.iconst 0, 1) := by decide +kernel
theorem dX5_kidAt_20 : decode cX5_kidAt 20 = .ok (.istore_n 3, 1) := by decide +kernel
theorem dX5_kidAt_21 : decode cX5_kidAt 21 = .ok (.iload_n 3, 1) := by decide +kernel
theorem dX5_kidAt_22 : decode cX5_kidAt 22 = .ok (.iload_n 1, 1) := by decide +kernel
theorem dX5_kidAt_23 : decode cX5_kidAt 23 = .ok (.if_icmp .ge 18, 3) := by decide +kernel
theorem dX5_kidAt_26 : decode cX5_kidAt 26 = .ok (.aload_n 2, 1) := by decide +kernel
theorem dX5_kidAt_27 : decode cX5_kidAt 27 = .ok (.ifnull 14, 3) := by decide +kernel
theorem dX5_kidAt_30 : decode cX5_kidAt 30 = .ok (.aload_n 2, 1) := by decide +kernel
theorem dX5_kidAt_31 : decode cX5_kidAt 31 = .ok (.getfield 45, 3) := by decide +kernel
theorem dX5_kidAt_34 : decode cX5_kidAt 34 = .ok (.astore_n 2, 1) := by decide +kernel
theorem dX5_kidAt_35 : decode cX5_kidAt 35 = .ok (.iinc 3 1, 3) := by decide +kernel
theorem dX5_kidAt_38 : decode cX5_kidAt 38 = .ok (.goto (-17), 3) := by decide +kernel
theorem dX5_kidAt_41 : decode cX5_kidAt 41 = .ok (.aload_n 2, 1) := by decide +kernel
theorem dX5_kidAt_42 : decode cX5_kidAt 42 = .ok (.areturn, 1) := by decide +kernel
theorem dX5_kidMeant_0 : decode cX5_kidMeant 0 = .ok (.iload_n 1, 1) := by decide +kernel
theorem dX5_kidMeant_1 : decode cX5_kidMeant 1 = .ok (.bipush 13, 2) := by decide +kernel
theorem dX5_kidMeant_3 : decode cX5_kidMeant 3 = .ok (.irem, 1) := by decide +kernel
theorem dX5_kidMeant_4 : decode cX5_kidMeant 4 = .ok (.iconst 1, 1) := by decide +kernel
theorem dX5_kidMeant_5 : decode cX5_kidMeant 5 = .ok (.isub, 1) := by decide +kernel
theorem dX5_kidMeant_6 : decode cX5_kidMeant 6 = .ok (.istore_n 2, 1) := by decide +kernel
theorem dX5_kidMeant_7 : decode cX5_kidMeant 7 = .ok (.aload_n 0, 1) := by decide +kernel
theorem dX5_kidMeant_8 : decode cX5_kidMeant 8 = .ok (.getfield 39, 3) := by decide +kernel
theorem dX5_kidMeant_11 : decode cX5_kidMeant 11 = .ok (.astore_n 3, 1) := by decide +kernel
theorem dX5_kidMeant_12 : decode cX5_kidMeant 12 = .ok (.aload_n 3, 1) := by decide +kernel
theorem dX5_kidMeant_13 : decode cX5_kidMeant 13 = .ok (.ifnull 46, 3) := by decide +kernel
theorem dX5_kidMeant_16 : decode cX5_kidMeant 16 = .ok (.aload_n 3, 1) := by decide +kernel
theorem dX5_kidMeant_17 : decode cX5_kidMeant 17 = .ok (.getfield 54, 3) := by decide +kernel
theorem dX5_kidMeant_20 : decode cX5_kidMeant 20 = .ok (.ifnull 31, 3) := by decide +kernel
theorem dX5_kidMeant_23 : decode cX5_kidMeant 23 = .ok (.aload_n 3, 1) := by decide +kernel
theorem dX5_kidMeant_24 : decode cX5_kidMeant 24 = .ok (.getfield 54, 3) := by decide +kernel
theorem dX5_kidMeant_27 : decode cX5_kidMeant 27 = .ok (.getfield 67, 3) := by decide +kernel
theorem dX5_kidMeant_30 : decode cX5_kidMeant 30 = .ok (.iload_n 1, 1) := by decide +kernel
theorem dX5_kidMeant_31 : decode cX5_kidMeant 31 = .ok (.bipush 13, 2) := by decide +kernel
theorem dX5_kidMeant_33 : decode cX5_kidMeant 33 = .ok (.idiv, 1) := by decide +kernel
theorem dX5_kidMeant_34 : decode cX5_kidMeant 34 = .ok (.if_icmp .ne 17, 3) := by decide +kernel
theorem dX5_kidMeant_37 : decode cX5_kidMeant 37 = .ok (.iload_n 2, 1) := by decide +kernel
theorem dX5_kidMeant_38 : decode cX5_kidMeant 38 = .ok (.ifCond .ge 7, 3) := by decide +kernel
theorem dX5_kidMeant_41 : decode cX5_kidMeant 41 = .ok (.aload_n 3, 1) := by decide +kernel
theorem dX5_kidMeant_42 : decode cX5_kidMeant 42 = .ok (.goto 8, 3) := by decide +kernel
theorem dX5_kidMeant_45 : decode cX5_kidMeant 45 = .ok (.aload_n 3, 1) := by decide +kernel
theorem dX5_kidMeant_46 : decode cX5_kidMeant 46 = .ok (.iload_n 2, 1) := by decide +kernel
theorem dX5_kidMeant_47 : decode cX5_kidMeant 47 = .ok (.invokevirtual 72, 3) := by decide +kernel
theorem dX5_kidMeant_50 : decode cX5_kidMeant 50 = .ok (.areturn, 1) := by decide +kernel
theorem dX5_kidMeant_51 : decode cX5_kidMeant 51 = .ok (.aload_n 3, 1) := by decide +kernel
theorem dX5_kidMeant_52 : decode cX5_kidMeant 52 = .ok (.getfield 45, 3) := by decide +kernel
theorem dX5_kidMeant_55 : decode cX5_kidMeant 55 = .ok (.astore_n 3, 1) := by decide +kernel
theorem dX5_kidMeant_56 : decode cX5_kidMeant 56 = .ok (.goto (-44), 3) := by decide +kernel
theorem dX5_kidMeant_59 : decode cX5_kidMeant 59 = .ok (.aconst_null, 1) := by decide +kernel
theorem dX5_kidMeant_60 : decode cX5_kidMeant 60 = .ok (.areturn, 1) := by decide +kernel
theorem dX5_kidNamed_0 : decode cX5_kidNamed 0 = .ok (.aload_n 0, 1) := by decide +kernel
theorem dX5_kidNamed_1 : decode cX5_kidNamed 1 = .ok (.getfield 39, 3) := by decide +kernel
theorem dX5_kidNamed_4 : decode cX5_kidNamed 4 = .ok (.astore_n 3, 1) := by decide +kernel
theorem dX5_kidNamed_5 : decode cX5_kidNamed 5 = .ok (.aload_n 3, 1) := by decide +kernel
theorem dX5_kidNamed_6 : decode cX5_kidNamed 6 = .ok (.ifnull 22, 3) := by decide +kernel
theorem dX5_kidNamed_9 : decode cX5_kidNamed 9 = .ok (.aload_n 3, 1) := by decide +kernel
theorem dX5_kidNamed_10 : decode cX5_kidNamed 10 = .ok (.getfield 31, 3) := by decide +kernel
theorem dX5_kidNamed_13 : decode cX5_kidNamed 13 = .ok (.lload_n 1, 1) := by decide +kernel
theorem dX5_kidNamed_14 : decode cX5_kidNamed 14 = .ok (.lcmp, 1) := by decide +kernel
theorem dX5_kidNamed_15 : decode cX5_kidNamed 15 = .ok (.ifCond .ne 5, 3) := by decide +kernel
theorem dX5_kidNamed_18 : decode cX5_kidNamed 18 = .ok (.aload_n 3, 1) := by decide +kernel
theorem dX5_kidNamed_19 : decode cX5_kidNamed 19 = .ok (.areturn, 1) := by decide +kernel
theorem dX5_kidNamed_20 : decode cX5_kidNamed 20 = .ok (.aload_n 3, 1) := by decide +kernel
theorem dX5_kidNamed_21 : decode cX5_kidNamed 21 = .ok (.getfield 45, 3) := by decide +kernel
theorem dX5_kidNamed_24 : decode cX5_kidNamed 24 = .ok (.astore_n 3, 1) := by decide +kernel
theorem dX5_kidNamed_25 : decode cX5_kidNamed 25 = .ok (.goto (-20), 3) := by decide +kernel
theorem dX5_kidNamed_28 : decode cX5_kidNamed 28 = .ok (.aconst_null, 1) := by decide +kernel
theorem dX5_kidNamed_29 : decode cX5_kidNamed 29 = .ok (.areturn, 1) := by decide +kernel
theorem dX5_reading_0 : decode cX5_reading 0 = .ok (.aload_n 0, 1) := by decide +kernel
theorem dX5_reading_1 : decode cX5_reading 1 = .ok (.getfield 24, 3) := by decide +kernel
theorem dX5_reading_4 : decode cX5_reading 4 = .ok (.iconst 1, 1) := by decide +kernel
theorem dX5_reading_5 : decode cX5_reading 5 = .ok (.if_icmp .ne 5, 3) := by decide +kernel
theorem dX5_reading_8 : decode cX5_reading 8 = .ok (.lconst 0, 1) := by decide +kernel
theorem dX5_reading_9 : decode cX5_reading 9 = .ok (.lreturn, 1) := by decide +kernel
theorem dX5_reading_10 : decode cX5_reading 10 = .ok (.aload_n 0, 1) := by decide +kernel
theorem dX5_reading_11 : decode cX5_reading 11 = .ok (.getfield 15, 3) := by decide +kernel
theorem dX5_reading_14 : decode cX5_reading 14 = .ok (.iconst 2, 1) := by decide +kernel
theorem dX5_reading_15 : decode cX5_reading 15 = .ok (.if_icmp .ne 9, 3) := by decide +kernel
theorem dX5_reading_18 : decode cX5_reading 18 = .ok (.aload_n 0, 1) := by decide +kernel
theorem dX5_reading_19 : decode cX5_reading 19 = .ok (.getfield 48, 3) := by decide +kernel
theorem dX5_reading_22 : decode cX5_reading 22 = .ok (.i2l, 1) := by decide +kernel
theorem dX5_reading_23 : decode cX5_reading 23 = .ok (.lreturn, 1) := by decide +kernel
theorem dX5_reading_24 : decode cX5_reading 24 = .ok (.aload_n 0, 1) := by decide +kernel
theorem dX5_reading_25 : decode cX5_reading 25 = .ok (.getfield 15, 3) := by decide +kernel
theorem dX5_reading_28 : decode cX5_reading 28 = .ok (.iconst 5, 1) := by decide +kernel
theorem dX5_reading_29 : decode cX5_reading 29 = .ok (.if_icmp .ne 9, 3) := by decide +kernel
theorem dX5_reading_32 : decode cX5_reading 32 = .ok (.aload_n 0, 1) := by decide +kernel
theorem dX5_reading_33 : decode cX5_reading 33 = .ok (.invokevirtual 76, 3) := by decide +kernel
theorem dX5_reading_36 : decode cX5_reading 36 = .ok (.i2l, 1) := by decide +kernel
theorem dX5_reading_37 : decode cX5_reading 37 = .ok (.lreturn, 1) := by decide +kernel
theorem dX5_reading_38 : decode cX5_reading 38 = .ok (.aload_n 0, 1) := by decide +kernel
theorem dX5_reading_39 : decode cX5_reading 39 = .ok (.invokevirtual 83, 3) := by decide +kernel
theorem dX5_reading_42 : decode cX5_reading 42 = .ok (.ifCond .eq 10, 3) := by decide +kernel
theorem dX5_reading_45 : decode cX5_reading 45 = .ok (.aload_n 0, 1) := by decide +kernel
theorem dX5_reading_46 : decode cX5_reading 46 = .ok (.getfield 54, 3) := by decide +kernel
theorem dX5_reading_49 : decode cX5_reading 49 = .ok (.ifnonnull 5, 3) := by decide +kernel
theorem dX5_reading_52 : decode cX5_reading 52 = .ok (.lconst 0, 1) := by decide +kernel
theorem dX5_reading_53 : decode cX5_reading 53 = .ok (.lreturn, 1) := by decide +kernel
theorem dX5_reading_54 : decode cX5_reading 54 = .ok (.aload_n 1, 1) := by decide +kernel
theorem dX5_reading_55 : decode cX5_reading 55 = .ok (.aload_n 0, 1) := by decide +kernel
theorem dX5_reading_56 : decode cX5_reading 56 = .ok (.getfield 18, 3) := by decide +kernel
theorem dX5_reading_59 : decode cX5_reading 59 = .ok (.aload_n 0, 1) := by decide +kernel
theorem dX5_reading_60 : decode cX5_reading 60 = .ok (.getfield 54, 3) := by decide +kernel
theorem dX5_reading_63 : decode cX5_reading 63 = .ok (.getfield 87, 3) := by decide +kernel
theorem dX5_reading_66 : decode cX5_reading 66 = .ok (.aload_n 0, 1) := by decide +kernel
theorem dX5_reading_67 : decode cX5_reading 67 = .ok (.getfield 54, 3) := by decide +kernel
theorem dX5_reading_70 : decode cX5_reading 70 = .ok (.getfield 90, 3) := by decide +kernel
theorem dX5_reading_73 : decode cX5_reading 73 = .ok (.invokevirtual 93, 3) := by decide +kernel
theorem dX5_reading_76 : decode cX5_reading 76 = .ok (.lstore_n 2, 1) := by decide +kernel
theorem dX5_reading_77 : decode cX5_reading 77 = .ok (.aload_n 0, 1) := by decide +kernel
theorem dX5_reading_78 : decode cX5_reading 78 = .ok (.getfield 15, 3) := by decide +kernel
theorem dX5_reading_81 : decode cX5_reading 81 = .ok (.iconst 4, 1) := by decide +kernel
theorem dX5_reading_82 : decode cX5_reading 82 = .ok (.if_icmp .ne 18, 3) := by decide +kernel
theorem dX5_reading_85 : decode cX5_reading 85 = .ok (.lload_n 2, 1) := by decide +kernel
theorem dX5_reading_86 : decode cX5_reading 86 = .ok (.aload_n 0, 1) := by decide +kernel
theorem dX5_reading_87 : decode cX5_reading 87 = .ok (.getfield 61, 3) := by decide +kernel
theorem dX5_reading_90 : decode cX5_reading 90 = .ok (.lushr, 1) := by decide +kernel
theorem dX5_reading_91 : decode cX5_reading 91 = .ok (.aload_n 0, 1) := by decide +kernel
theorem dX5_reading_92 : decode cX5_reading 92 = .ok (.getfield 64, 3) := by decide +kernel
theorem dX5_reading_95 : decode cX5_reading 95 = .ok (.invokestatic 99, 3) := by decide +kernel
theorem dX5_reading_98 : decode cX5_reading 98 = .ok (.land, 1) := by decide +kernel
theorem dX5_reading_99 : decode cX5_reading 99 = .ok (.lreturn, 1) := by decide +kernel
theorem dX5_reading_100 : decode cX5_reading 100 = .ok (.bipush 64, 2) := by decide +kernel
theorem dX5_reading_102 : decode cX5_reading 102 = .ok (.bipush 8, 2) := by decide +kernel
theorem dX5_reading_104 : decode cX5_reading 104 = .ok (.aload_n 0, 1) := by decide +kernel
theorem dX5_reading_105 : decode cX5_reading 105 = .ok (.getfield 54, 3) := by decide +kernel
theorem dX5_reading_108 : decode cX5_reading 108 = .ok (.getfield 87, 3) := by decide +kernel
theorem dX5_reading_111 : decode cX5_reading 111 = .ok (.imul, 1) := by decide +kernel
theorem dX5_reading_112 : decode cX5_reading 112 = .ok (.isub, 1) := by decide +kernel
theorem dX5_reading_113 : decode cX5_reading 113 = .ok (.istore 4, 2) := by decide +kernel
theorem dX5_reading_115 : decode cX5_reading 115 = .ok (.aload_n 0, 1) := by decide +kernel
theorem dX5_reading_116 : decode cX5_reading 116 = .ok (.getfield 15, 3) := by decide +kernel
theorem dX5_reading_119 : decode cX5_reading 119 = .ok (.iconst 3, 1) := by decide +kernel
theorem dX5_reading_120 : decode cX5_reading 120 = .ok (.if_icmp .eq 23, 3) := by decide +kernel
theorem dX5_reading_123 : decode cX5_reading 123 = .ok (.aload_n 0, 1) := by decide +kernel
theorem dX5_reading_124 : decode cX5_reading 124 = .ok (.getfield 54, 3) := by decide +kernel
theorem dX5_reading_127 : decode cX5_reading 127 = .ok (.getfield 103, 3) := by decide +kernel
theorem dX5_reading_130 : decode cX5_reading 130 = .ok (.ifCond .eq 13, 3) := by decide +kernel
theorem dX5_reading_133 : decode cX5_reading 133 = .ok (.lload_n 2, 1) := by decide +kernel
theorem dX5_reading_134 : decode cX5_reading 134 = .ok (.iload 4, 2) := by decide +kernel
theorem dX5_reading_136 : decode cX5_reading 136 = .ok (.lshl, 1) := by decide +kernel
theorem dX5_reading_137 : decode cX5_reading 137 = .ok (.iload 4, 2) := by decide +kernel
theorem dX5_reading_139 : decode cX5_reading 139 = .ok (.lshr, 1) := by decide +kernel
theorem dX5_reading_140 : decode cX5_reading 140 = .ok (.goto 4, 3) := by decide +kernel
theorem dX5_reading_143 : decode cX5_reading 143 = .ok (.lload_n 2, 1) := by decide +kernel
theorem dX5_reading_144 : decode cX5_reading 144 = .ok (.lreturn, 1) := by decide +kernel
theorem dX5_signs_0 : decode cX5_signs 0 = .ok (.aload_n 0, 1) := by decide +kernel
theorem dX5_signs_1 : decode cX5_signs 1 = .ok (.getfield 54, 3) := by decide +kernel
theorem dX5_signs_4 : decode cX5_signs 4 = .ok (.ifnull 18, 3) := by decide +kernel
theorem dX5_signs_7 : decode cX5_signs 7 = .ok (.aload_n 0, 1) := by decide +kernel
theorem dX5_signs_8 : decode cX5_signs 8 = .ok (.getfield 54, 3) := by decide +kernel
theorem dX5_signs_11 : decode cX5_signs 11 = .ok (.getfield 80, 3) := by decide +kernel
theorem dX5_signs_14 : decode cX5_signs 14 = .ok (.iconst (-1), 1) := by decide +kernel
theorem dX5_signs_15 : decode cX5_signs 15 = .ok (.if_icmp .ne 7, 3) := by decide +kernel
theorem dX5_signs_18 : decode cX5_signs 18 = .ok (.iconst 1, 1) := by decide +kernel
theorem dX5_signs_19 : decode cX5_signs 19 = .ok (.goto 4, 3) := by decide +kernel
theorem dX5_signs_22 : decode cX5_signs 22 = .ok (.iconst 0, 1) := by decide +kernel
theorem dX5_signs_23 : decode cX5_signs 23 = .ok (.istore_n 1, 1) := by decide +kernel
theorem dX5_signs_24 : decode cX5_signs 24 = .ok (.aload_n 0, 1) := by decide +kernel
theorem dX5_signs_25 : decode cX5_signs 25 = .ok (.getfield 24, 3) := by decide +kernel
theorem dX5_signs_28 : decode cX5_signs 28 = .ok (.iconst 1, 1) := by decide +kernel
theorem dX5_signs_29 : decode cX5_signs 29 = .ok (.if_icmp .ne 7, 3) := by decide +kernel
theorem dX5_signs_32 : decode cX5_signs 32 = .ok (.iconst 0, 1) := by decide +kernel
theorem dX5_signs_33 : decode cX5_signs 33 = .ok (.goto 22, 3) := by decide +kernel
theorem dX5_signs_36 : decode cX5_signs 36 = .ok (.aload_n 0, 1) := by decide +kernel
theorem dX5_signs_37 : decode cX5_signs 37 = .ok (.getfield 21, 3) := by decide +kernel
theorem dX5_signs_40 : decode cX5_signs 40 = .ok (.aload_n 0, 1) := by decide +kernel
theorem dX5_signs_41 : decode cX5_signs 41 = .ok (.getfield 18, 3) := by decide +kernel
theorem dX5_signs_44 : decode cX5_signs 44 = .ok (.isub, 1) := by decide +kernel
theorem dX5_signs_45 : decode cX5_signs 45 = .ok (.iload_n 1, 1) := by decide +kernel
theorem dX5_signs_46 : decode cX5_signs 46 = .ok (.ifCond .eq 7, 3) := by decide +kernel
theorem dX5_signs_49 : decode cX5_signs 49 = .ok (.iconst 1, 1) := by decide +kernel
theorem dX5_signs_50 : decode cX5_signs 50 = .ok (.goto 4, 3) := by decide +kernel
theorem dX5_signs_53 : decode cX5_signs 53 = .ok (.iconst 0, 1) := by decide +kernel
theorem dX5_signs_54 : decode cX5_signs 54 = .ok (.isub, 1) := by decide +kernel
theorem dX5_signs_55 : decode cX5_signs 55 = .ok (.ireturn, 1) := by decide +kernel
theorem dX5_withPart_0 : decode cX5_withPart 0 = .ok (.lload_n 1, 1) := by decide +kernel
theorem dX5_withPart_1 : decode cX5_withPart 1 = .ok (.aload_n 0, 1) := by decide +kernel
theorem dX5_withPart_2 : decode cX5_withPart 2 = .ok (.getfield 64, 3) := by decide +kernel
theorem dX5_withPart_5 : decode cX5_withPart 5 = .ok (.invokestatic 99, 3) := by decide +kernel
theorem dX5_withPart_8 : decode cX5_withPart 8 = .ok (.aload_n 0, 1) := by decide +kernel
theorem dX5_withPart_9 : decode cX5_withPart 9 = .ok (.getfield 61, 3) := by decide +kernel
theorem dX5_withPart_12 : decode cX5_withPart 12 = .ok (.lshl, 1) := by decide +kernel
theorem dX5_withPart_13 : decode cX5_withPart 13 = .ok (.ldc2_w 106, 3) := by decide +kernel
theorem dX5_withPart_16 : decode cX5_withPart 16 = .ok (.lxor, 1) := by decide +kernel
theorem dX5_withPart_17 : decode cX5_withPart 17 = .ok (.land, 1) := by decide +kernel
theorem dX5_withPart_18 : decode cX5_withPart 18 = .ok (.lload_n 3, 1) := by decide +kernel
theorem dX5_withPart_19 : decode cX5_withPart 19 = .ok (.aload_n 0, 1) := by decide +kernel
theorem dX5_withPart_20 : decode cX5_withPart 20 = .ok (.getfield 61, 3) := by decide +kernel
theorem dX5_withPart_23 : decode cX5_withPart 23 = .ok (.lshl, 1) := by decide +kernel
theorem dX5_withPart_24 : decode cX5_withPart 24 = .ok (.lor, 1) := by decide +kernel
theorem dX5_withPart_25 : decode cX5_withPart 25 = .ok (.lreturn, 1) := by decide +kernel
theorem dX6_check_0 : decode cX6_check 0 = .ok (.iload_n 1, 1) := by decide +kernel
theorem dX6_check_1 : decode cX6_check 1 = .ok (.ifCond .ne 36, 3) := by decide +kernel
theorem dX6_check_4 : decode cX6_check 4 = .ok (.aload_n 0, 1) := by decide +kernel
theorem dX6_check_5 : decode cX6_check 5 = .ok (.aload_n 0, 1) := by decide +kernel
theorem dX6_check_6 : decode cX6_check 6 = .ok (.getfield 24, 3) := by decide +kernel
theorem dX6_check_9 : decode cX6_check 9 = .ok (.iconst 1, 1) := by decide +kernel
theorem dX6_check_10 : decode cX6_check 10 = .ok (.if_icmp .ne 7, 3) := by decide +kernel
theorem dX6_check_13 : decode cX6_check 13 = .ok (.iconst 1, 1) := by decide +kernel
theorem dX6_check_14 : decode cX6_check 14 = .ok (.goto 4, 3) := by decide +kernel
theorem dX6_check_17 : decode cX6_check 17 = .ok (.iload_n 2, 1) := by decide +kernel
theorem dX6_check_18 : decode cX6_check 18 = .ok (.putfield 71, 3) := by decide +kernel
theorem dX6_check_21 : decode cX6_check 21 = .ok (.aload_n 0, 1) := by decide +kernel
theorem dX6_check_22 : decode cX6_check 22 = .ok (.aload_n 0, 1) := by decide +kernel
theorem dX6_check_23 : decode cX6_check 23 = .ok (.getfield 62, 3) := by decide +kernel
theorem dX6_check_26 : decode cX6_check 26 = .ok (.getfield 94, 3) := by decide +kernel
theorem dX6_check_29 : decode cX6_check 29 = .ok (.aload_n 0, 1) := by decide +kernel
theorem dX6_check_30 : decode cX6_check 30 = .ok (.getfield 77, 3) := by decide +kernel
theorem dX6_check_33 : decode cX6_check 33 = .ok (.iaload, 1) := by decide +kernel
theorem dX6_check_34 : decode cX6_check 34 = .ok (.putfield 74, 3) := by decide +kernel
theorem dX6_check_37 : decode cX6_check 37 = .ok (.iload_n 1, 1) := by decide +kernel
theorem dX6_check_38 : decode cX6_check 38 = .ok (.ireturn, 1) := by decide +kernel
theorem dX6_findAim_0 : decode cX6_findAim 0 = .ok (.aload_n 1, 1) := by decide +kernel
theorem dX6_findAim_1 : decode cX6_findAim 1 = .ok (.aload_n 0, 1) := by decide +kernel
theorem dX6_findAim_2 : decode cX6_findAim 2 = .ok (.getfield 66, 3) := by decide +kernel
theorem dX6_findAim_5 : decode cX6_findAim 5 = .ok (.aload_n 1, 1) := by decide +kernel
theorem dX6_findAim_6 : decode cX6_findAim 6 = .ok (.getfield 283, 3) := by decide +kernel
theorem dX6_findAim_9 : decode cX6_findAim 9 = .ok (.invokevirtual 120, 3) := by decide +kernel
theorem dX6_findAim_12 : decode cX6_findAim 12 = .ok (.putfield 243, 3) := by decide +kernel
theorem dX6_findAim_15 : decode cX6_findAim 15 = .ok (.aload_n 1, 1) := by decide +kernel
theorem dX6_findAim_16 : decode cX6_findAim 16 = .ok (.getfield 243, 3) := by decide +kernel
theorem dX6_findAim_19 : decode cX6_findAim 19 = .ok (.iconst (-1), 1) := by decide +kernel
theorem dX6_findAim_20 : decode cX6_findAim 20 = .ok (.if_icmp .ne 16, 3) := by decide +kernel
theorem dX6_findAim_23 : decode cX6_findAim 23 = .ok (.aload_n 0, 1) := by decide +kernel
theorem dX6_findAim_24 : decode cX6_findAim 24 = .ok (.iconst 4, 1) := by decide +kernel
theorem dX6_findAim_25 : decode cX6_findAim 25 = .ok (.putfield 71, 3) := by decide +kernel
theorem dX6_findAim_28 : decode cX6_findAim 28 = .ok (.aload_n 0, 1) := by decide +kernel
theorem dX6_findAim_29 : decode cX6_findAim 29 = .ok (.aload_n 1, 1) := by decide +kernel
theorem dX6_findAim_30 : decode cX6_findAim 30 = .ok (.getfield 286, 3) := by decide +kernel
theorem dX6_findAim_33 : decode cX6_findAim 33 = .ok (.putfield 74, 3) := by decide +kernel
theorem dX6_findAim_36 : decode cX6_findAim 36 = .ok (.aload_n 1, 1) := by decide +kernel
theorem dX6_findAim_37 : decode cX6_findAim 37 = .ok (.getfield 243, 3) := by decide +kernel
theorem dX6_findAim_40 : decode cX6_findAim 40 = .ok (.iconst (-1), 1) := by decide +kernel
theorem dX6_findAim_41 : decode cX6_findAim 41 = .ok (.if_icmp .eq 7, 3) := by decide +kernel
theorem dX6_findAim_44 : decode cX6_findAim 44 = .ok (.iconst 1, 1) := by decide +kernel
theorem dX6_findAim_45 : decode cX6_findAim 45 = .ok (.goto 4, 3) := by decide +kernel
theorem dX6_findAim_48 : decode cX6_findAim 48 = .ok (.iconst 0, 1) := by decide +kernel
theorem dX6_findAim_49 : decode cX6_findAim 49 = .ok (.ireturn, 1) := by decide +kernel
theorem dX6_findAims_0 : decode cX6_findAims 0 = .ok (.iconst 0, 1) := by decide +kernel
theorem dX6_findAims_1 : decode cX6_findAims 1 = .ok (.istore_n 1, 1) := by decide +kernel
theorem dX6_findAims_2 : decode cX6_findAims 2 = .ok (.iload_n 1, 1) := by decide +kernel
theorem dX6_findAims_3 : decode cX6_findAims 3 = .ok (.aload_n 0, 1) := by decide +kernel
theorem dX6_findAims_4 : decode cX6_findAims 4 = .ok (.getfield 66, 3) := by decide +kernel
theorem dX6_findAims_7 : decode cX6_findAims 7 = .ok (.getfield 162, 3) := by decide +kernel
theorem dX6_findAims_10 : decode cX6_findAims 10 = .ok (.if_icmp .ge 64, 3) := by decide +kernel
theorem dX6_findAims_13 : decode cX6_findAims 13 = .ok (.aload_n 0, 1) := by decide +kernel
theorem dX6_findAims_14 : decode cX6_findAims 14 = .ok (.getfield 66, 3) := by decide +kernel
theorem dX6_findAims_17 : decode cX6_findAims 17 = .ok (.getfield 50, 3) := by decide +kernel
theorem dX6_findAims_20 : decode cX6_findAims 20 = .ok (.iload_n 1, 1) := by decide +kernel
theorem dX6_findAims_21 : decode cX6_findAims 21 = .ok (.aaload, 1) := by decide +kernel
theorem dX6_findAims_22 : decode cX6_findAims 22 = .ok (.astore_n 2, 1) := by decide +kernel
theorem dX6_findAims_23 : decode cX6_findAims 23 = .ok (.iconst 0, 1) := by decide +kernel
theorem dX6_findAims_24 : decode cX6_findAims 24 = .ok (.istore_n 3, 1) := by decide +kernel
theorem dX6_findAims_25 : decode cX6_findAims 25 = .ok (.iload_n 3, 1) := by decide +kernel
theorem dX6_findAims_26 : decode cX6_findAims 26 = .ok (.aload_n 2, 1) := by decide +kernel
theorem dX6_findAims_27 : decode cX6_findAims 27 = .ok (.getfield 170, 3) := by decide +kernel
theorem dX6_findAims_30 : decode cX6_findAims 30 = .ok (.if_icmp .ge 38, 3) := by decide +kernel
theorem dX6_findAims_33 : decode cX6_findAims 33 = .ok (.aload_n 2, 1) := by decide +kernel
theorem dX6_findAims_34 : decode cX6_findAims 34 = .ok (.getfield 186, 3) := by decide +kernel
theorem dX6_findAims_37 : decode cX6_findAims 37 = .ok (.iload_n 3, 1) := by decide +kernel
theorem dX6_findAims_38 : decode cX6_findAims 38 = .ok (.aaload, 1) := by decide +kernel
theorem dX6_findAims_39 : decode cX6_findAims 39 = .ok (.getfield 229, 3) := by decide +kernel
theorem dX6_findAims_42 : decode cX6_findAims 42 = .ok (.bipush 7, 2) := by decide +kernel
theorem dX6_findAims_44 : decode cX6_findAims 44 = .ok (.if_icmp .ne 18, 3) := by decide +kernel
theorem dX6_findAims_47 : decode cX6_findAims 47 = .ok (.aload_n 0, 1) := by decide +kernel
theorem dX6_findAims_48 : decode cX6_findAims 48 = .ok (.aload_n 2, 1) := by decide +kernel
theorem dX6_findAims_49 : decode cX6_findAims 49 = .ok (.getfield 186, 3) := by decide +kernel
theorem dX6_findAims_52 : decode cX6_findAims 52 = .ok (.iload_n 3, 1) := by decide +kernel
theorem dX6_findAims_53 : decode cX6_findAims 53 = .ok (.aaload, 1) := by decide +kernel
theorem dX6_findAims_54 : decode cX6_findAims 54 = .ok (.invokevirtual 301, 3) := by decide +kernel
theorem dX6_findAims_57 : decode cX6_findAims 57 = .ok (.ifCond .ne 5, 3) := by decide +kernel
theorem dX6_findAims_60 : decode cX6_findAims 60 = .ok (.iconst 0, 1) := by decide +kernel
theorem dX6_findAims_61 : decode cX6_findAims 61 = .ok (.ireturn, 1) := by decide +kernel
theorem dX6_findAims_62 : decode cX6_findAims 62 = .ok (.iinc 3 1, 3) := by decide +kernel
theorem dX6_findAims_65 : decode cX6_findAims 65 = .ok (.goto (-40), 3) := by decide +kernel
theorem dX6_findAims_68 : decode cX6_findAims 68 = .ok (.iinc 1 1, 3) := by decide +kernel
theorem dX6_findAims_71 : decode cX6_findAims 71 = .ok (.goto (-69), 3) := by decide +kernel
theorem dX6_findAims_74 : decode cX6_findAims 74 = .ok (.iconst 1, 1) := by decide +kernel
theorem dX6_findAims_75 : decode cX6_findAims 75 = .ok (.ireturn, 1) := by decide +kernel
theorem dX6_init_0 : decode cX6_init 0 = .ok (.aload_n 0, 1) := by decide +kernel
theorem dX6_init_1 : decode cX6_init 1 = .ok (.invokespecial 3, 3) := by decide +kernel
theorem dX6_init_4 : decode cX6_init 4 = .ok (.return_, 1) := by decide +kernel
theorem dX6_isNewItem_0 : decode cX6_isNewItem 0 = .ok (.aload_n 0, 1) := by decide +kernel
theorem dX6_isNewItem_1 : decode cX6_isNewItem 1 = .ok (.aload_n 0, 1) := by decide +kernel
theorem dX6_isNewItem_2 : decode cX6_isNewItem 2 = .ok (.getfield 24, 3) := by decide +kernel
theorem dX6_isNewItem_5 : decode cX6_isNewItem 5 = .ok (.iconst 2, 1) := by decide +kernel
theorem dX6_isNewItem_6 : decode cX6_isNewItem 6 = .ok (.if_icmp .ne 7, 3) := by decide +kernel
theorem dX6_isNewItem_9 : decode cX6_isNewItem 9 = .ok (.iconst 1, 1) := by decide +kernel
theorem dX6_isNewItem_10 : decode cX6_isNewItem 10 = .ok (.goto 4, 3) := by decide +kernel
theorem dX6_isNewItem_13 : decode cX6_isNewItem 13 = .ok (.iconst 0, 1) := by decide +kernel
theorem dX6_isNewItem_14 : decode cX6_isNewItem 14 = .ok (.iconst 2, 1) := by decide +kernel
theorem dX6_isNewItem_15 : decode cX6_isNewItem 15 = .ok (.invokevirtual 28, 3) := by decide +kernel
theorem dX6_isNewItem_18 : decode cX6_isNewItem 18 = .ok (.ifCond .eq 63, 3) := by decide +kernel
theorem dX6_isNewItem_21 : decode cX6_isNewItem 21 = .ok (.aload_n 0, 1) := by decide +kernel
theorem dX6_isNewItem_22 : decode cX6_isNewItem 22 = .ok (.aload_n 0, 1) := by decide +kernel
theorem dX6_isNewItem_23 : decode cX6_isNewItem 23 = .ok (.getfield 66, 3) := by decide +kernel
theorem dX6_isNewItem_26 : decode cX6_isNewItem 26 = .ok (.aload_n 0, 1) := by decide +kernel
theorem dX6_isNewItem_27 : decode cX6_isNewItem 27 = .ok (.getfield 90, 3) := by decide +kernel
theorem dX6_isNewItem_30 : decode cX6_isNewItem 30 = .ok (.invokevirtual 124, 3) := by decide +kernel
theorem dX6_isNewItem_33 : decode cX6_isNewItem 33 = .ok (.iconst (-1), 1) := by decide +kernel
theorem dX6_isNewItem_34 : decode cX6_isNewItem 34 = .ok (.if_icmp .ne 7, 3) := by decide +kernel
theorem dX6_isNewItem_37 : decode cX6_isNewItem 37 = .ok (.iconst 1, 1) := by decide +kernel
theorem dX6_isNewItem_38 : decode cX6_isNewItem 38 = .ok (.goto 4, 3) := by decide +kernel
theorem dX6_isNewItem_41 : decode cX6_isNewItem 41 = .ok (.iconst 0, 1) := by decide +kernel
theorem dX6_isNewItem_42 : decode cX6_isNewItem 42 = .ok (.iconst 3, 1) := by decide +kernel
theorem dX6_isNewItem_43 : decode cX6_isNewItem 43 = .ok (.invokevirtual 28, 3) := by decide +kernel
theorem dX6_isNewItem_46 : decode cX6_isNewItem 46 = .ok (.ifCond .eq 35, 3) := by decide +kernel
theorem dX6_isNewItem_49 : decode cX6_isNewItem 49 = .ok (.aload_n 0, 1) := by decide +kernel
theorem dX6_isNewItem_50 : decode cX6_isNewItem 50 = .ok (.aload_n 0, 1) := by decide +kernel
theorem dX6_isNewItem_51 : decode cX6_isNewItem 51 = .ok (.getfield 66, 3) := by decide +kernel
theorem dX6_isNewItem_54 : decode cX6_isNewItem 54 = .ok (.aload_n 0, 1) := by decide +kernel
theorem dX6_isNewItem_55 : decode cX6_isNewItem 55 = .ok (.getfield 90, 3) := by decide +kernel
theorem dX6_isNewItem_58 : decode cX6_isNewItem 58 = .ok (.invokevirtual 120, 3) := by decide +kernel
theorem dX6_isNewItem_61 : decode cX6_isNewItem 61 = .ok (.iconst (-1), 1) := by decide +kernel
theorem dX6_isNewItem_62 : decode cX6_isNewItem 62 = .ok (.if_icmp .ne 7, 3) := by decide +kernel
theorem dX6_isNewItem_65 : decode cX6_isNewItem 65 = .ok (.iconst 1, 1) := by decide +kernel
theorem dX6_isNewItem_66 : decode cX6_isNewItem 66 = .ok (.goto 4, 3) := by decide +kernel
theorem dX6_isNewItem_69 : decode cX6_isNewItem 69 = .ok (.iconst 0, 1) := by decide +kernel
theorem dX6_isNewItem_70 : decode cX6_isNewItem 70 = .ok (.iconst 3, 1) := by decide +kernel
theorem dX6_isNewItem_71 : decode cX6_isNewItem 71 = .ok (.invokevirtual 28, 3) := by decide +kernel
theorem dX6_isNewItem_74 : decode cX6_isNewItem 74 = .ok (.ifCond .eq 7, 3) := by decide +kernel
theorem dX6_isNewItem_77 : decode cX6_isNewItem 77 = .ok (.iconst 1, 1) := by decide +kernel
theorem dX6_isNewItem_78 : decode cX6_isNewItem 78 = .ok (.goto 4, 3) := by decide +kernel
theorem dX6_isNewItem_81 : decode cX6_isNewItem 81 = .ok (.iconst 0, 1) := by decide +kernel
theorem dX6_isNewItem_82 : decode cX6_isNewItem 82 = .ok (.ireturn, 1) := by decide +kernel
theorem dX6_isTold_0 : decode cX6_isTold 0 = .ok (.iconst 0, 1) := by decide +kernel
theorem dX6_isTold_1 : decode cX6_isTold 1 = .ok (.istore_n 3, 1) := by decide +kernel
theorem dX6_isTold_2 : decode cX6_isTold 2 = .ok (.iload_n 3, 1) := by decide +kernel
theorem dX6_isTold_3 : decode cX6_isTold 3 = .ok (.aload_n 0, 1) := by decide +kernel
theorem dX6_isTold_4 : decode cX6_isTold 4 = .ok (.getfield 54, 3) := by decide +kernel
theorem dX6_isTold_7 : decode cX6_isTold 7 = .ok (.getfield 170, 3) := by decide +kernel
theorem dX6_isTold_10 : decode cX6_isTold 10 = .ok (.if_icmp .gt 81, 3) := by decide +kernel
theorem dX6_isTold_13 : decode cX6_isTold 13 = .ok (.iload_n 3, 1) := by decide +kernel
theorem dX6_isTold_14 : decode cX6_isTold 14 = .ok (.bipush 14, 2) := by decide +kernel
theorem dX6_isTold_16 : decode cX6_isTold 16 = .ok (.if_icmp .ge 75, 3) := by decide +kernel
theorem dX6_isTold_19 : decode cX6_isTold 19 = .ok (.aload_n 0, 1) := by decide +kernel
theorem dX6_isTold_20 : decode cX6_isTold 20 = .ok (.getfield 54, 3) := by decide +kernel
theorem dX6_isTold_23 : decode cX6_isTold 23 = .ok (.getfield 186, 3) := by decide +kernel
theorem dX6_isTold_26 : decode cX6_isTold 26 = .ok (.iload_n 3, 1) := by decide +kernel
theorem dX6_isTold_27 : decode cX6_isTold 27 = .ok (.aaload, 1) := by decide +kernel
theorem dX6_isTold_28 : decode cX6_isTold 28 = .ok (.astore 4, 2) := by decide +kernel
theorem dX6_isTold_30 : decode cX6_isTold 30 = .ok (.aload 4, 2) := by decide +kernel
theorem dX6_isTold_32 : decode cX6_isTold 32 = .ok (.getfield 229, 3) := by decide +kernel
theorem dX6_isTold_35 : decode cX6_isTold 35 = .ok (.iconst 3, 1) := by decide +kernel
theorem dX6_isTold_36 : decode cX6_isTold 36 = .ok (.if_icmp .ne 29, 3) := by decide +kernel
theorem dX6_isTold_39 : decode cX6_isTold 39 = .ok (.aload_n 0, 1) := by decide +kernel
theorem dX6_isTold_40 : decode cX6_isTold 40 = .ok (.getfield 66, 3) := by decide +kernel
theorem dX6_isTold_43 : decode cX6_isTold 43 = .ok (.aload 4, 2) := by decide +kernel
theorem dX6_isTold_45 : decode cX6_isTold 45 = .ok (.getfield 230, 3) := by decide +kernel
theorem dX6_isTold_48 : decode cX6_isTold 48 = .ok (.aload 4, 2) := by decide +kernel
theorem dX6_isTold_50 : decode cX6_isTold 50 = .ok (.getfield 233, 3) := by decide +kernel
theorem dX6_isTold_53 : decode cX6_isTold 53 = .ok (.lload_n 1, 1) := by decide +kernel
theorem dX6_isTold_54 : decode cX6_isTold 54 = .ok (.invokevirtual 151, 3) := by decide +kernel
theorem dX6_isTold_57 : decode cX6_isTold 57 = .ok (.iconst (-1), 1) := by decide +kernel
theorem dX6_isTold_58 : decode cX6_isTold 58 = .ok (.if_icmp .eq 7, 3) := by decide +kernel
theorem dX6_isTold_61 : decode cX6_isTold 61 = .ok (.iconst 1, 1) := by decide +kernel
theorem dX6_isTold_62 : decode cX6_isTold 62 = .ok (.goto 4, 3) := by decide +kernel
theorem dX6_isTold_65 : decode cX6_isTold 65 = .ok (.iconst 0, 1) := by decide +kernel
theorem dX6_isTold_66 : decode cX6_isTold 66 = .ok (.istore 5, 2) := by decide +kernel
theorem dX6_isTold_68 : decode cX6_isTold 68 = .ok (.aload 4, 2) := by decide +kernel
theorem dX6_isTold_70 : decode cX6_isTold 70 = .ok (.getfield 228, 3) := by decide +kernel
theorem dX6_isTold_73 : decode cX6_isTold 73 = .ok (.lload_n 1, 1) := by decide +kernel
theorem dX6_isTold_74 : decode cX6_isTold 74 = .ok (.lcmp, 1) := by decide +kernel
theorem dX6_isTold_75 : decode cX6_isTold 75 = .ok (.ifCond .eq 8, 3) := by decide +kernel
theorem dX6_isTold_78 : decode cX6_isTold 78 = .ok (.iload 5, 2) := by decide +kernel
theorem dX6_isTold_80 : decode cX6_isTold 80 = .ok (.ifCond .eq 5, 3) := by decide +kernel
theorem dX6_isTold_83 : decode cX6_isTold 83 = .ok (.iconst 1, 1) := by decide +kernel
theorem dX6_isTold_84 : decode cX6_isTold 84 = .ok (.ireturn, 1) := by decide +kernel
theorem dX6_isTold_85 : decode cX6_isTold 85 = .ok (.iinc 3 1, 3) := by decide +kernel
theorem dX6_isTold_88 : decode cX6_isTold 88 = .ok (.goto (-86), 3) := by decide +kernel
theorem dX6_isTold_91 : decode cX6_isTold 91 = .ok (.iconst 0, 1) := by decide +kernel
theorem dX6_isTold_92 : decode cX6_isTold 92 = .ok (.ireturn, 1) := by decide +kernel
theorem dX6_levelOf_0 : decode cX6_levelOf 0 = .ok (.iload_n 0, 1) := by decide +kernel
theorem dX6_levelOf_1 : decode cX6_levelOf 1 = .ok (.lookupswitch 109 #[(37, 107), (38, 107), (42, 107), (43, 105), (45, 105), (47, 107), (60, 103), (61, 103), (62, 103), (224, 101), (225, 99)], 99) := by decide +kernel
theorem dX6_levelOf_100 : decode cX6_levelOf 100 = .ok (.iconst 0, 1) := by decide +kernel
theorem dX6_levelOf_101 : decode cX6_levelOf 101 = .ok (.ireturn, 1) := by decide +kernel
theorem dX6_levelOf_102 : decode cX6_levelOf 102 = .ok (.iconst 1, 1) := by decide +kernel
theorem dX6_levelOf_103 : decode cX6_levelOf 103 = .ok (.ireturn, 1) := by decide +kernel
theorem dX6_levelOf_104 : decode cX6_levelOf 104 = .ok (.iconst 2, 1) := by decide +kernel
theorem dX6_levelOf_105 : decode cX6_levelOf 105 = .ok (.ireturn, 1) := by decide +kernel
theorem dX6_levelOf_106 : decode cX6_levelOf 106 = .ok (.iconst 3, 1) := by decide +kernel
theorem dX6_levelOf_107 : decode cX6_levelOf 107 = .ok (.ireturn, 1) := by decide +kernel
theorem dX6_levelOf_108 : decode cX6_levelOf 108 = .ok (.iconst 4, 1) := by decide +kernel
theorem dX6_levelOf_109 : decode cX6_levelOf 109 = .ok (.ireturn, 1) := by decide +kernel
theorem dX6_levelOf_110 : decode cX6_levelOf 110 = .ok (.iconst (-1), 1) := by decide +kernel
theorem dX6_levelOf_111 : decode cX6_levelOf 111 = .ok (.ireturn, 1) := by decide +kernel
