theorem dX12_describe_0 : decode cX12_describe 0 = .ok (.aload_n 0, 1) := by decide +kernel
theorem dX12_describe_1 : decode cX12_describe 1 = .ok (.iconst 1, 1) := by decide +kernel
theorem dX12_describe_2 : decode cX12_describe 2 = .ok (.aload_n 0, 1) := by decide +kernel
theorem dX12_describe_3 : decode cX12_describe 3 = .ok (.getfield 67, 3) := by decide +kernel
theorem dX12_describe_6 : decode cX12_describe 6 = .ok (.isub, 1) := by decide +kernel
theorem dX12_describe_7 : decode cX12_describe 7 = .ok (.putfield 173, 3) := by decide +kernel
theorem dX12_describe_10 : decode cX12_describe 10 = .ok (.aload_n 0, 1) := by decide +kernel
theorem dX12_describe_11 : decode cX12_describe 11 = .ok (.getfield 70, 3) := by decide +kernel
theorem dX12_describe_14 : decode cX12_describe 14 = .ok (.aload_n 0, 1) := by decide +kernel
theorem dX12_describe_15 : decode cX12_describe 15 = .ok (.getfield 173, 3) := by decide +kernel
theorem dX12_describe_18 : decode cX12_describe 18 = .ok (.iconst 0, 1) := by decide +kernel
theorem dX12_describe_19 : decode cX12_describe 19 = .ok (.iastore, 1) := by decide +kernel
theorem dX12_describe_20 : decode cX12_describe 20 = .ok (.aload_n 0, 1) := by decide +kernel
theorem dX12_describe_21 : decode cX12_describe 21 = .ok (.getfield 73, 3) := by decide +kernel
theorem dX12_describe_24 : decode cX12_describe 24 = .ok (.aload_n 0, 1) := by decide +kernel
theorem dX12_describe_25 : decode cX12_describe 25 = .ok (.getfield 173, 3) := by decide +kernel
theorem dX12_describe_28 : decode cX12_describe 28 = .ok (.iconst 0, 1) := by decide +kernel
theorem dX12_describe_29 : decode cX12_describe 29 = .ok (.iastore, 1) := by decide +kernel
theorem dX12_describe_30 : decode cX12_describe 30 = .ok (.aload_n 0, 1) := by decide +kernel
theorem dX12_describe_31 : decode cX12_describe 31 = .ok (.sipush 3000, 3) := by decide +kernel
theorem dX12_describe_34 : decode cX12_describe 34 = .ok (.aload_n 0, 1) := by decide +kernel
theorem dX12_describe_35 : decode cX12_describe 35 = .ok (.getfield 173, 3) := by decide +kernel
theorem dX12_describe_38 : decode cX12_describe 38 = .ok (.imul, 1) := by decide +kernel
theorem dX12_describe_39 : decode cX12_describe 39 = .ok (.putfield 152, 3) := by decide +kernel
theorem dX12_describe_42 : decode cX12_describe 42 = .ok (.aload_n 0, 1) := by decide +kernel
theorem dX12_describe_43 : decode cX12_describe 43 = .ok (.iconst 0, 1) := by decide +kernel
theorem dX12_describe_44 : decode cX12_describe 44 = .ok (.putfield 164, 3) := by decide +kernel
theorem dX12_describe_47 : decode cX12_describe 47 = .ok (.aload_n 0, 1) := by decide +kernel
theorem dX12_describe_48 : decode cX12_describe 48 = .ok (.iconst 0, 1) := by decide +kernel
theorem dX12_describe_49 : decode cX12_describe 49 = .ok (.putfield 167, 3) := by decide +kernel
theorem dX12_describe_52 : decode cX12_describe 52 = .ok (.aload_n 0, 1) := by decide +kernel
theorem dX12_describe_53 : decode cX12_describe 53 = .ok (.iconst 0, 1) := by decide +kernel
theorem dX12_describe_54 : decode cX12_describe 54 = .ok (.putfield 179, 3) := by decide +kernel
theorem dX12_describe_57 : decode cX12_describe 57 = .ok (.aload_n 0, 1) := by decide +kernel
theorem dX12_describe_58 : decode cX12_describe 58 = .ok (.iconst 0, 1) := by decide +kernel
theorem dX12_describe_59 : decode cX12_describe 59 = .ok (.putfield 57, 3) := by decide +kernel
theorem dX12_describe_62 : decode cX12_describe 62 = .ok (.aload_n 0, 1) := by decide +kernel
theorem dX12_describe_63 : decode cX12_describe 63 = .ok (.invokevirtual 408, 3) := by decide +kernel
theorem dX12_describe_66 : decode cX12_describe 66 = .ok (.aload_n 0, 1) := by decide +kernel
theorem dX12_describe_67 : decode cX12_describe 67 = .ok (.aload_n 0, 1) := by decide +kernel
theorem dX12_describe_68 : decode cX12_describe 68 = .ok (.ldc2_w 332, 3) := by decide +kernel
theorem dX12_describe_71 : decode cX12_describe 71 = .ok (.invokevirtual 334, 3) := by decide +kernel
theorem dX12_describe_74 : decode cX12_describe 74 = .ok (.ifCond .ne 13, 3) := by decide +kernel
theorem dX12_describe_77 : decode cX12_describe 77 = .ok (.aload_n 0, 1) := by decide +kernel
theorem dX12_describe_78 : decode cX12_describe 78 = .ok (.ldc2_w 338, 3) := by decide +kernel
theorem dX12_describe_81 : decode cX12_describe 81 = .ok (.invokevirtual 334, 3) := by decide +kernel
theorem dX12_describe_84 : decode cX12_describe 84 = .ok (.ifCond .eq 7, 3) := by decide +kernel
theorem dX12_describe_87 : decode cX12_describe 87 = .ok (.iconst 1, 1) := by decide +kernel
theorem dX12_describe_88 : decode cX12_describe 88 = .ok (.goto 4, 3) := by decide +kernel
theorem dX12_describe_91 : decode cX12_describe 91 = .ok (.iconst 0, 1) := by decide +kernel
theorem dX12_describe_92 : decode cX12_describe 92 = .ok (.iconst 2, 1) := by decide +kernel
theorem dX12_describe_93 : decode cX12_describe 93 = .ok (.invokevirtual 404, 3) := by decide +kernel
theorem dX12_describe_96 : decode cX12_describe 96 = .ok (.ifCond .eq 24, 3) := by decide +kernel
theorem dX12_describe_99 : decode cX12_describe 99 = .ok (.aload_n 0, 1) := by decide +kernel
theorem dX12_describe_100 : decode cX12_describe 100 = .ok (.getfield 167, 3) := by decide +kernel
theorem dX12_describe_103 : decode cX12_describe 103 = .ok (.ifCond .ne 17, 3) := by decide +kernel
theorem dX12_describe_106 : decode cX12_describe 106 = .ok (.aload_n 0, 1) := by decide +kernel
theorem dX12_describe_107 : decode cX12_describe 107 = .ok (.getfield 51, 3) := by decide +kernel
theorem dX12_describe_110 : decode cX12_describe 110 = .ok (.ifCond .eq 10, 3) := by decide +kernel
theorem dX12_describe_113 : decode cX12_describe 113 = .ok (.aload_n 0, 1) := by decide +kernel
theorem dX12_describe_114 : decode cX12_describe 114 = .ok (.invokevirtual 411, 3) := by decide +kernel
theorem dX12_describe_117 : decode cX12_describe 117 = .ok (.goto (-18), 3) := by decide +kernel
theorem dX12_describe_120 : decode cX12_describe 120 = .ok (.iconst 0, 1) := by decide +kernel
theorem dX12_describe_121 : decode cX12_describe 121 = .ok (.istore_n 1, 1) := by decide +kernel
theorem dX12_describe_122 : decode cX12_describe 122 = .ok (.iload_n 1, 1) := by decide +kernel
theorem dX12_describe_123 : decode cX12_describe 123 = .ok (.aload_n 0, 1) := by decide +kernel
theorem dX12_describe_124 : decode cX12_describe 124 = .ok (.getfield 164, 3) := by decide +kernel
theorem dX12_describe_127 : decode cX12_describe 127 = .ok (.if_icmp .ge 75, 3) := by decide +kernel
theorem dX12_describe_130 : decode cX12_describe 130 = .ok (.aload_n 0, 1) := by decide +kernel
theorem dX12_describe_131 : decode cX12_describe 131 = .ok (.getfield 167, 3) := by decide +kernel
theorem dX12_describe_134 : decode cX12_describe 134 = .ok (.ifCond .ne 68, 3) := by decide +kernel
theorem dX12_describe_137 : decode cX12_describe 137 = .ok (.aload_n 0, 1) := by decide +kernel
theorem dX12_describe_138 : decode cX12_describe 138 = .ok (.getfield 107, 3) := by decide +kernel
theorem dX12_describe_141 : decode cX12_describe 141 = .ok (.aload_n 0, 1) := by decide +kernel
theorem dX12_describe_142 : decode cX12_describe 142 = .ok (.getfield 155, 3) := by decide +kernel
theorem dX12_describe_145 : decode cX12_describe 145 = .ok (.iload_n 1, 1) := by decide +kernel
theorem dX12_describe_146 : decode cX12_describe 146 = .ok (.iaload, 1) := by decide +kernel
theorem dX12_describe_147 : decode cX12_describe 147 = .ok (.aload_n 0, 1) := by decide +kernel
theorem dX12_describe_148 : decode cX12_describe 148 = .ok (.aload_n 0, 1) := by decide +kernel
theorem dX12_describe_149 : decode cX12_describe 149 = .ok (.getfield 161, 3) := by decide +kernel
theorem dX12_describe_152 : decode cX12_describe 152 = .ok (.iload_n 1, 1) := by decide +kernel
theorem dX12_describe_153 : decode cX12_describe 153 = .ok (.laload, 1) := by decide +kernel
theorem dX12_describe_154 : decode cX12_describe 154 = .ok (.aload_n 0, 1) := by decide +kernel
theorem dX12_describe_155 : decode cX12_describe 155 = .ok (.getfield 70, 3) := by decide +kernel
theorem dX12_describe_158 : decode cX12_describe 158 = .ok (.aload_n 0, 1) := by decide +kernel
theorem dX12_describe_159 : decode cX12_describe 159 = .ok (.getfield 173, 3) := by decide +kernel
theorem dX12_describe_162 : decode cX12_describe 162 = .ok (.iaload, 1) := by decide +kernel
theorem dX12_describe_163 : decode cX12_describe 163 = .ok (.invokevirtual 414, 3) := by decide +kernel
theorem dX12_describe_166 : decode cX12_describe 166 = .ok (.iastore, 1) := by decide +kernel
theorem dX12_describe_167 : decode cX12_describe 167 = .ok (.aload_n 0, 1) := by decide +kernel
theorem dX12_describe_168 : decode cX12_describe 168 = .ok (.getfield 107, 3) := by decide +kernel
theorem dX12_describe_171 : decode cX12_describe 171 = .ok (.aload_n 0, 1) := by decide +kernel
theorem dX12_describe_172 : decode cX12_describe 172 = .ok (.getfield 155, 3) := by decide +kernel
theorem dX12_describe_175 : decode cX12_describe 175 = .ok (.iload_n 1, 1) := by decide +kernel
theorem dX12_describe_176 : decode cX12_describe 176 = .ok (.iaload, 1) := by decide +kernel
theorem dX12_describe_177 : decode cX12_describe 177 = .ok (.iaload, 1) := by decide +kernel
theorem dX12_describe_178 : decode cX12_describe 178 = .ok (.ifCond .ge 18, 3) := by decide +kernel
theorem dX12_describe_181 : decode cX12_describe 181 = .ok (.aload_n 0, 1) := by decide +kernel
theorem dX12_describe_182 : decode cX12_describe 182 = .ok (.iconst 4, 1) := by decide +kernel
theorem dX12_describe_183 : decode cX12_describe 183 = .ok (.putfield 167, 3) := by decide +kernel
theorem dX12_describe_186 : decode cX12_describe 186 = .ok (.aload_n 0, 1) := by decide +kernel
theorem dX12_describe_187 : decode cX12_describe 187 = .ok (.aload_n 0, 1) := by decide +kernel
theorem dX12_describe_188 : decode cX12_describe 188 = .ok (.getfield 158, 3) := by decide +kernel
theorem dX12_describe_191 : decode cX12_describe 191 = .ok (.iload_n 1, 1) := by decide +kernel
theorem dX12_describe_192 : decode cX12_describe 192 = .ok (.iaload, 1) := by decide +kernel
theorem dX12_describe_193 : decode cX12_describe 193 = .ok (.putfield 170, 3) := by decide +kernel
theorem dX12_describe_196 : decode cX12_describe 196 = .ok (.iinc 1 1, 3) := by decide +kernel
theorem dX12_describe_199 : decode cX12_describe 199 = .ok (.goto (-77), 3) := by decide +kernel
theorem dX12_describe_202 : decode cX12_describe 202 = .ok (.aload_n 0, 1) := by decide +kernel
theorem dX12_describe_203 : decode cX12_describe 203 = .ok (.iconst 0, 1) := by decide +kernel
theorem dX12_describe_204 : decode cX12_describe 204 = .ok (.putfield 45, 3) := by decide +kernel
theorem dX12_describe_207 : decode cX12_describe 207 = .ok (.aload_n 0, 1) := by decide +kernel
theorem dX12_describe_208 : decode cX12_describe 208 = .ok (.aload_n 0, 1) := by decide +kernel
theorem dX12_describe_209 : decode cX12_describe 209 = .ok (.getfield 167, 3) := by decide +kernel
theorem dX12_describe_212 : decode cX12_describe 212 = .ok (.putfield 48, 3) := by decide +kernel
theorem dX12_describe_215 : decode cX12_describe 215 = .ok (.aload_n 0, 1) := by decide +kernel
theorem dX12_describe_216 : decode cX12_describe 216 = .ok (.getfield 167, 3) := by decide +kernel
theorem dX12_describe_219 : decode cX12_describe 219 = .ok (.ifCond .le 11, 3) := by decide +kernel
theorem dX12_describe_222 : decode cX12_describe 222 = .ok (.bipush (-10), 2) := by decide +kernel
theorem dX12_describe_224 : decode cX12_describe 224 = .ok (.aload_n 0, 1) := by decide +kernel
theorem dX12_describe_225 : decode cX12_describe 225 = .ok (.getfield 170, 3) := by decide +kernel
theorem dX12_describe_228 : decode cX12_describe 228 = .ok (.isub, 1) := by decide +kernel
theorem dX12_describe_229 : decode cX12_describe 229 = .ok (.ireturn, 1) := by decide +kernel
theorem dX12_describe_230 : decode cX12_describe 230 = .ok (.aload_n 0, 1) := by decide +kernel
theorem dX12_describe_231 : decode cX12_describe 231 = .ok (.aload_n 0, 1) := by decide +kernel
theorem dX12_describe_232 : decode cX12_describe 232 = .ok (.getfield 173, 3) := by decide +kernel
theorem dX12_describe_235 : decode cX12_describe 235 = .ok (.putfield 67, 3) := by decide +kernel
theorem dX12_describe_238 : decode cX12_describe 238 = .ok (.aload_n 0, 1) := by decide +kernel
theorem dX12_describe_239 : decode cX12_describe 239 = .ok (.iconst 0, 1) := by decide +kernel
theorem dX12_describe_240 : decode cX12_describe 240 = .ok (.putfield 208, 3) := by decide +kernel
theorem dX12_describe_243 : decode cX12_describe 243 = .ok (.aload_n 0, 1) := by decide +kernel
theorem dX12_describe_244 : decode cX12_describe 244 = .ok (.getfield 70, 3) := by decide +kernel
theorem dX12_describe_247 : decode cX12_describe 247 = .ok (.aload_n 0, 1) := by decide +kernel
theorem dX12_describe_248 : decode cX12_describe 248 = .ok (.getfield 67, 3) := by decide +kernel
theorem dX12_describe_251 : decode cX12_describe 251 = .ok (.iaload, 1) := by decide +kernel
theorem dX12_describe_252 : decode cX12_describe 252 = .ok (.ireturn, 1) := by decide +kernel
theorem dX12_differ_0 : decode cX12_differ 0 = .ok (.aload_n 0, 1) := by decide +kernel
theorem dX12_differ_1 : decode cX12_differ 1 = .ok (.iload_n 1, 1) := by decide +kernel
theorem dX12_differ_2 : decode cX12_differ 2 = .ok (.invokevirtual 293, 3) := by decide +kernel
theorem dX12_differ_5 : decode cX12_differ 5 = .ok (.ifCond .eq 26, 3) := by decide +kernel
theorem dX12_differ_8 : decode cX12_differ 8 = .ok (.aload_n 0, 1) := by decide +kernel
theorem dX12_differ_9 : decode cX12_differ 9 = .ok (.iload_n 2, 1) := by decide +kernel
theorem dX12_differ_10 : decode cX12_differ 10 = .ok (.invokevirtual 293, 3) := by decide +kernel
theorem dX12_differ_13 : decode cX12_differ 13 = .ok (.ifCond .eq 18, 3) := by decide +kernel
theorem dX12_differ_16 : decode cX12_differ 16 = .ok (.iload_n 3, 1) := by decide +kernel
theorem dX12_differ_17 : decode cX12_differ 17 = .ok (.ifCond .lt 14, 3) := by decide +kernel
theorem dX12_differ_20 : decode cX12_differ 20 = .ok (.iload 4, 2) := by decide +kernel
theorem dX12_differ_22 : decode cX12_differ 22 = .ok (.ifCond .lt 9, 3) := by decide +kernel
theorem dX12_differ_25 : decode cX12_differ 25 = .ok (.iload 4, 2) := by decide +kernel
theorem dX12_differ_27 : decode cX12_differ 27 = .ok (.iconst 1, 1) := by decide +kernel
theorem dX12_differ_28 : decode cX12_differ 28 = .ok (.if_icmp .le 5, 3) := by decide +kernel
theorem dX12_differ_31 : decode cX12_differ 31 = .ok (.iconst (-1), 1) := by decide +kernel
theorem dX12_differ_32 : decode cX12_differ 32 = .ok (.ireturn, 1) := by decide +kernel
theorem dX12_differ_33 : decode cX12_differ 33 = .ok (.aload_n 0, 1) := by decide +kernel
theorem dX12_differ_34 : decode cX12_differ 34 = .ok (.getfield 13, 3) := by decide +kernel
theorem dX12_differ_37 : decode cX12_differ 37 = .ok (.iload_n 1, 1) := by decide +kernel
theorem dX12_differ_38 : decode cX12_differ 38 = .ok (.iaload, 1) := by decide +kernel
theorem dX12_differ_39 : decode cX12_differ 39 = .ok (.aload_n 0, 1) := by decide +kernel
theorem dX12_differ_40 : decode cX12_differ 40 = .ok (.getfield 13, 3) := by decide +kernel
theorem dX12_differ_43 : decode cX12_differ 43 = .ok (.iload_n 2, 1) := by decide +kernel
theorem dX12_differ_44 : decode cX12_differ 44 = .ok (.iaload, 1) := by decide +kernel
theorem dX12_differ_45 : decode cX12_differ 45 = .ok (.if_icmp .le 12, 3) := by decide +kernel
theorem dX12_differ_48 : decode cX12_differ 48 = .ok (.aload_n 0, 1) := by decide +kernel
theorem dX12_differ_49 : decode cX12_differ 49 = .ok (.getfield 13, 3) := by decide +kernel
theorem dX12_differ_52 : decode cX12_differ 52 = .ok (.iload_n 1, 1) := by decide +kernel
theorem dX12_differ_53 : decode cX12_differ 53 = .ok (.iaload, 1) := by decide +kernel
theorem dX12_differ_54 : decode cX12_differ 54 = .ok (.goto 9, 3) := by decide +kernel
theorem dX12_differ_57 : decode cX12_differ 57 = .ok (.aload_n 0, 1) := by decide +kernel
theorem dX12_differ_58 : decode cX12_differ 58 = .ok (.getfield 13, 3) := by decide +kernel
theorem dX12_differ_61 : decode cX12_differ 61 = .ok (.iload_n 2, 1) := by decide +kernel
theorem dX12_differ_62 : decode cX12_differ 62 = .ok (.iaload, 1) := by decide +kernel
theorem dX12_differ_63 : decode cX12_differ 63 = .ok (.istore 5, 2) := by decide +kernel
theorem dX12_differ_65 : decode cX12_differ 65 = .ok (.iload_n 3, 1) := by decide +kernel
theorem dX12_differ_66 : decode cX12_differ 66 = .ok (.istore 6, 2) := by decide +kernel
theorem dX12_differ_68 : decode cX12_differ 68 = .ok (.iconst 1, 1) := by decide +kernel
theorem dX12_differ_69 : decode cX12_differ 69 = .ok (.istore 7, 2) := by decide +kernel
theorem dX12_differ_71 : decode cX12_differ 71 = .ok (.iconst (-1), 1) := by decide +kernel
theorem dX12_differ_72 : decode cX12_differ 72 = .ok (.istore 8, 2) := by decide +kernel
theorem dX12_differ_74 : decode cX12_differ 74 = .ok (.iconst 0, 1) := by decide +kernel
theorem dX12_differ_75 : decode cX12_differ 75 = .ok (.istore 9, 2) := by decide +kernel
theorem dX12_differ_77 : decode cX12_differ 77 = .ok (.iload 9, 2) := by decide +kernel
theorem dX12_differ_79 : decode cX12_differ 79 = .ok (.iload 5, 2) := by decide +kernel
theorem dX12_differ_81 : decode cX12_differ 81 = .ok (.if_icmp .ge 107, 3) := by decide +kernel
theorem dX12_differ_84 : decode cX12_differ 84 = .ok (.iload 9, 2) := by decide +kernel
theorem dX12_differ_86 : decode cX12_differ 86 = .ok (.aload_n 0, 1) := by decide +kernel
theorem dX12_differ_87 : decode cX12_differ 87 = .ok (.getfield 13, 3) := by decide +kernel
theorem dX12_differ_90 : decode cX12_differ 90 = .ok (.iload_n 1, 1) := by decide +kernel
theorem dX12_differ_91 : decode cX12_differ 91 = .ok (.iaload, 1) := by decide +kernel
theorem dX12_differ_92 : decode cX12_differ 92 = .ok (.if_icmp .ge 35, 3) := by decide +kernel
theorem dX12_differ_95 : decode cX12_differ 95 = .ok (.iload 9, 2) := by decide +kernel
theorem dX12_differ_97 : decode cX12_differ 97 = .ok (.aload_n 0, 1) := by decide +kernel
theorem dX12_differ_98 : decode cX12_differ 98 = .ok (.getfield 13, 3) := by decide +kernel
theorem dX12_differ_101 : decode cX12_differ 101 = .ok (.iload_n 2, 1) := by decide +kernel
theorem dX12_differ_102 : decode cX12_differ 102 = .ok (.iaload, 1) := by decide +kernel
theorem dX12_differ_103 : decode cX12_differ 103 = .ok (.if_icmp .ge 24, 3) := by decide +kernel
theorem dX12_differ_106 : decode cX12_differ 106 = .ok (.aload_n 0, 1) := by decide +kernel
theorem dX12_differ_107 : decode cX12_differ 107 = .ok (.iload_n 1, 1) := by decide +kernel
theorem dX12_differ_108 : decode cX12_differ 108 = .ok (.iload 9, 2) := by decide +kernel
theorem dX12_differ_110 : decode cX12_differ 110 = .ok (.invokevirtual 299, 3) := by decide +kernel
theorem dX12_differ_113 : decode cX12_differ 113 = .ok (.aload_n 0, 1) := by decide +kernel
theorem dX12_differ_114 : decode cX12_differ 114 = .ok (.iload_n 2, 1) := by decide +kernel
theorem dX12_differ_115 : decode cX12_differ 115 = .ok (.iload 9, 2) := by decide +kernel
theorem dX12_differ_117 : decode cX12_differ 117 = .ok (.invokevirtual 299, 3) := by decide +kernel
theorem dX12_differ_120 : decode cX12_differ 120 = .ok (.if_icmp .ne 7, 3) := by decide +kernel
theorem dX12_differ_123 : decode cX12_differ 123 = .ok (.iconst 1, 1) := by decide +kernel
theorem dX12_differ_124 : decode cX12_differ 124 = .ok (.goto 4, 3) := by decide +kernel
theorem dX12_differ_127 : decode cX12_differ 127 = .ok (.iconst 0, 1) := by decide +kernel
theorem dX12_differ_128 : decode cX12_differ 128 = .ok (.istore 10, 2) := by decide +kernel
theorem dX12_differ_130 : decode cX12_differ 130 = .ok (.iload 10, 2) := by decide +kernel
theorem dX12_differ_132 : decode cX12_differ 132 = .ok (.ifCond .ne 28, 3) := by decide +kernel
theorem dX12_differ_135 : decode cX12_differ 135 = .ok (.iload 7, 2) := by decide +kernel
theorem dX12_differ_137 : decode cX12_differ 137 = .ok (.ifCond .eq 23, 3) := by decide +kernel
theorem dX12_differ_140 : decode cX12_differ 140 = .ok (.iload 6, 2) := by decide +kernel
theorem dX12_differ_142 : decode cX12_differ 142 = .ok (.ifCond .ne 11, 3) := by decide +kernel
theorem dX12_differ_145 : decode cX12_differ 145 = .ok (.iload 4, 2) := by decide +kernel
theorem dX12_differ_147 : decode cX12_differ 147 = .ok (.ifCond .ne 6, 3) := by decide +kernel
theorem dX12_differ_150 : decode cX12_differ 150 = .ok (.iload 9, 2) := by decide +kernel
theorem dX12_differ_152 : decode cX12_differ 152 = .ok (.ireturn, 1) := by decide +kernel
theorem dX12_differ_153 : decode cX12_differ 153 = .ok (.iload 6, 2) := by decide +kernel
theorem dX12_differ_155 : decode cX12_differ 155 = .ok (.istore 8, 2) := by decide +kernel
theorem dX12_differ_157 : decode cX12_differ 157 = .ok (.iinc 6 (-1), 3) := by decide +kernel
theorem dX12_differ_160 : decode cX12_differ 160 = .ok (.iload 10, 2) := by decide +kernel
theorem dX12_differ_162 : decode cX12_differ 162 = .ok (.ifCond .eq 16, 3) := by decide +kernel
theorem dX12_differ_165 : decode cX12_differ 165 = .ok (.iload 7, 2) := by decide +kernel
theorem dX12_differ_167 : decode cX12_differ 167 = .ok (.ifCond .ne 11, 3) := by decide +kernel
theorem dX12_differ_170 : decode cX12_differ 170 = .ok (.iload 8, 2) := by decide +kernel
theorem dX12_differ_172 : decode cX12_differ 172 = .ok (.ifCond .ne 6, 3) := by decide +kernel
theorem dX12_differ_175 : decode cX12_differ 175 = .ok (.iload 9, 2) := by decide +kernel
theorem dX12_differ_177 : decode cX12_differ 177 = .ok (.ireturn, 1) := by decide +kernel
theorem dX12_differ_178 : decode cX12_differ 178 = .ok (.iload 10, 2) := by decide +kernel
theorem dX12_differ_180 : decode cX12_differ 180 = .ok (.istore 7, 2) := by decide +kernel
theorem dX12_differ_182 : decode cX12_differ 182 = .ok (.iinc 9 1, 3) := by decide +kernel
theorem dX12_differ_185 : decode cX12_differ 185 = .ok (.goto (-108), 3) := by decide +kernel
theorem dX12_differ_188 : decode cX12_differ 188 = .ok (.iload 7, 2) := by decide +kernel
theorem dX12_differ_190 : decode cX12_differ 190 = .ok (.ifCond .ne 13, 3) := by decide +kernel
theorem dX12_differ_193 : decode cX12_differ 193 = .ok (.iload 8, 2) := by decide +kernel
theorem dX12_differ_195 : decode cX12_differ 195 = .ok (.ifCond .ne 8, 3) := by decide +kernel
theorem dX12_differ_198 : decode cX12_differ 198 = .ok (.iload 5, 2) := by decide +kernel
theorem dX12_differ_200 : decode cX12_differ 200 = .ok (.goto 4, 3) := by decide +kernel
theorem dX12_differ_203 : decode cX12_differ 203 = .ok (.iconst (-1), 1) := by decide +kernel
theorem dX12_differ_204 : decode cX12_differ 204 = .ok (.ireturn, 1) := by decide +kernel
theorem dX12_digit_0 : decode cX12_digit 0 = .ok (.iload_n 1, 1) := by decide +kernel
theorem dX12_digit_1 : decode cX12_digit 1 = .ok (.bipush 48, 2) := by decide +kernel
theorem dX12_digit_3 : decode cX12_digit 3 = .ok (.if_icmp .lt 13, 3) := by decide +kernel
theorem dX12_digit_6 : decode cX12_digit 6 = .ok (.iload_n 1, 1) := by decide +kernel
theorem dX12_digit_7 : decode cX12_digit 7 = .ok (.bipush 57, 2) := by decide +kernel
theorem dX12_digit_9 : decode cX12_digit 9 = .ok (.if_icmp .gt 7, 3) := by decide +kernel
theorem dX12_digit_12 : decode cX12_digit 12 = .ok (.iconst 1, 1) := by decide +kernel
theorem dX12_digit_13 : decode cX12_digit 13 = .ok (.goto 4, 3) := by decide +kernel
theorem dX12_digit_16 : decode cX12_digit 16 = .ok (.iconst 0, 1) := by decide +kernel
theorem dX12_digit_17 : decode cX12_digit 17 = .ok (.ireturn, 1) := by decide +kernel
theorem dX12_drop_0 : decode cX12_drop 0 = .ok (.aload_n 0, 1) := by decide +kernel
theorem dX12_drop_1 : decode cX12_drop 1 = .ok (.iload_n 1, 1) := by decide +kernel
theorem dX12_drop_2 : decode cX12_drop 2 = .ok (.iconst 0, 1) := by decide +kernel
theorem dX12_drop_3 : decode cX12_drop 3 = .ok (.invokevirtual 303, 3) := by decide +kernel
theorem dX12_drop_6 : decode cX12_drop 6 = .ok (.ireturn, 1) := by decide +kernel
theorem dX12_due_0 : decode cX12_due 0 = .ok (.lconst 0, 1) := by decide +kernel
theorem dX12_due_1 : decode cX12_due 1 = .ok (.lstore 4, 2) := by decide +kernel
theorem dX12_due_3 : decode cX12_due 3 = .ok (.aload_n 0, 1) := by decide +kernel
theorem dX12_due_4 : decode cX12_due 4 = .ok (.getfield 280, 3) := by decide +kernel
theorem dX12_due_7 : decode cX12_due 7 = .ok (.l2i, 1) := by decide +kernel
theorem dX12_due_8 : decode cX12_due 8 = .ok (.istore 6, 2) := by decide +kernel
theorem dX12_due_10 : decode cX12_due 10 = .ok (.iload 6, 2) := by decide +kernel
theorem dX12_due_12 : decode cX12_due 12 = .ok (.i2l, 1) := by decide +kernel
theorem dX12_due_13 : decode cX12_due 13 = .ok (.aload_n 0, 1) := by decide +kernel
theorem dX12_due_14 : decode cX12_due 14 = .ok (.getfield 283, 3) := by decide +kernel
theorem dX12_due_17 : decode cX12_due 17 = .ok (.lcmp, 1) := by decide +kernel
theorem dX12_due_18 : decode cX12_due 18 = .ok (.ifCond .ge 121, 3) := by decide +kernel
theorem dX12_due_21 : decode cX12_due 21 = .ok (.aload_n 0, 1) := by decide +kernel
theorem dX12_due_22 : decode cX12_due 22 = .ok (.getfield 220, 3) := by decide +kernel
theorem dX12_due_25 : decode cX12_due 25 = .ok (.iload_n 3, 1) := by decide +kernel
theorem dX12_due_26 : decode cX12_due 26 = .ok (.iaload, 1) := by decide +kernel
theorem dX12_due_27 : decode cX12_due 27 = .ok (.iload 6, 2) := by decide +kernel
theorem dX12_due_29 : decode cX12_due 29 = .ok (.iadd, 1) := by decide +kernel
theorem dX12_due_30 : decode cX12_due 30 = .ok (.istore 7, 2) := by decide +kernel
theorem dX12_due_32 : decode cX12_due 32 = .ok (.iload 7, 2) := by decide +kernel
theorem dX12_due_34 : decode cX12_due 34 = .ok (.aload_n 0, 1) := by decide +kernel
theorem dX12_due_35 : decode cX12_due 35 = .ok (.getfield 220, 3) := by decide +kernel
theorem dX12_due_38 : decode cX12_due 38 = .ok (.iload_n 1, 1) := by decide +kernel
theorem dX12_due_39 : decode cX12_due 39 = .ok (.iaload, 1) := by decide +kernel
theorem dX12_due_40 : decode cX12_due 40 = .ok (.if_icmp .lt 17, 3) := by decide +kernel
theorem dX12_due_43 : decode cX12_due 43 = .ok (.iload 7, 2) := by decide +kernel
theorem dX12_due_45 : decode cX12_due 45 = .ok (.aload_n 0, 1) := by decide +kernel
theorem dX12_due_46 : decode cX12_due 46 = .ok (.getfield 223, 3) := by decide +kernel
theorem dX12_due_49 : decode cX12_due 49 = .ok (.iload_n 1, 1) := by decide +kernel
theorem dX12_due_50 : decode cX12_due 50 = .ok (.iaload, 1) := by decide +kernel
theorem dX12_due_51 : decode cX12_due 51 = .ok (.if_icmp .ge 6, 3) := by decide +kernel
theorem dX12_due_54 : decode cX12_due 54 = .ok (.goto 79, 3) := by decide +kernel
theorem dX12_due_57 : decode cX12_due 57 = .ok (.aload_n 0, 1) := by decide +kernel
theorem dX12_due_58 : decode cX12_due 58 = .ok (.getfield 119, 3) := by decide +kernel
theorem dX12_due_61 : decode cX12_due 61 = .ok (.iload_n 2, 1) := by decide +kernel
theorem dX12_due_62 : decode cX12_due 62 = .ok (.iaload, 1) := by decide +kernel
theorem dX12_due_63 : decode cX12_due 63 = .ok (.iconst 1, 1) := by decide +kernel
theorem dX12_due_64 : decode cX12_due 64 = .ok (.if_icmp .ne 22, 3) := by decide +kernel
theorem dX12_due_67 : decode cX12_due 67 = .ok (.lload 4, 2) := by decide +kernel
theorem dX12_due_69 : decode cX12_due 69 = .ok (.aload_n 0, 1) := by decide +kernel
theorem dX12_due_70 : decode cX12_due 70 = .ok (.aload_n 0, 1) := by decide +kernel
theorem dX12_due_71 : decode cX12_due 71 = .ok (.getfield 259, 3) := by decide +kernel
theorem dX12_due_74 : decode cX12_due 74 = .ok (.iload 7, 2) := by decide +kernel
theorem dX12_due_76 : decode cX12_due 76 = .ok (.invokevirtual 299, 3) := by decide +kernel
theorem dX12_due_79 : decode cX12_due 79 = .ok (.i2l, 1) := by decide +kernel
theorem dX12_due_80 : decode cX12_due 80 = .ok (.lxor, 1) := by decide +kernel
theorem dX12_due_81 : decode cX12_due 81 = .ok (.lstore 4, 2) := by decide +kernel
theorem dX12_due_83 : decode cX12_due 83 = .ok (.goto 50, 3) := by decide +kernel
theorem dX12_due_86 : decode cX12_due 86 = .ok (.aload_n 0, 1) := by decide +kernel
theorem dX12_due_87 : decode cX12_due 87 = .ok (.getfield 119, 3) := by decide +kernel
theorem dX12_due_90 : decode cX12_due 90 = .ok (.iload_n 2, 1) := by decide +kernel
theorem dX12_due_91 : decode cX12_due 91 = .ok (.iaload, 1) := by decide +kernel
theorem dX12_due_92 : decode cX12_due 92 = .ok (.iconst 3, 1) := by decide +kernel
theorem dX12_due_93 : decode cX12_due 93 = .ok (.if_icmp .ne 24, 3) := by decide +kernel
theorem dX12_due_96 : decode cX12_due 96 = .ok (.ldc2_w 670, 3) := by decide +kernel
theorem dX12_due_99 : decode cX12_due 99 = .ok (.lload 4, 2) := by decide +kernel
theorem dX12_due_101 : decode cX12_due 101 = .ok (.lmul, 1) := by decide +kernel
theorem dX12_due_102 : decode cX12_due 102 = .ok (.aload_n 0, 1) := by decide +kernel
theorem dX12_due_103 : decode cX12_due 103 = .ok (.aload_n 0, 1) := by decide +kernel
theorem dX12_due_104 : decode cX12_due 104 = .ok (.getfield 259, 3) := by decide +kernel
theorem dX12_due_107 : decode cX12_due 107 = .ok (.iload 7, 2) := by decide +kernel
theorem dX12_due_109 : decode cX12_due 109 = .ok (.invokevirtual 299, 3) := by decide +kernel
theorem dX12_due_112 : decode cX12_due 112 = .ok (.i2l, 1) := by decide +kernel
theorem dX12_due_113 : decode cX12_due 113 = .ok (.ladd, 1) := by decide +kernel
theorem dX12_due_114 : decode cX12_due 114 = .ok (.goto 17, 3) := by decide +kernel
theorem dX12_due_117 : decode cX12_due 117 = .ok (.lload 4, 2) := by decide +kernel
theorem dX12_due_119 : decode cX12_due 119 = .ok (.aload_n 0, 1) := by decide +kernel
theorem dX12_due_120 : decode cX12_due 120 = .ok (.aload_n 0, 1) := by decide +kernel
theorem dX12_due_121 : decode cX12_due 121 = .ok (.getfield 259, 3) := by decide +kernel
theorem dX12_due_124 : decode cX12_due 124 = .ok (.iload 7, 2) := by decide +kernel
theorem dX12_due_126 : decode cX12_due 126 = .ok (.invokevirtual 299, 3) := by decide +kernel
theorem dX12_due_129 : decode cX12_due 129 = .ok (.i2l, 1) := by decide +kernel
theorem dX12_due_130 : decode cX12_due 130 = .ok (.ladd, 1) := by decide +kernel
theorem dX12_due_131 : decode cX12_due 131 = .ok (.lstore 4, 2) := by decide +kernel
theorem dX12_due_133 : decode cX12_due 133 = .ok (.iinc 6 1, 3) := by decide +kernel
theorem dX12_due_136 : decode cX12_due 136 = .ok (.goto (-126), 3) := by decide +kernel
theorem dX12_due_139 : decode cX12_due 139 = .ok (.aload_n 0, 1) := by decide +kernel
theorem dX12_due_140 : decode cX12_due 140 = .ok (.getfield 119, 3) := by decide +kernel
theorem dX12_due_143 : decode cX12_due 143 = .ok (.iload_n 2, 1) := by decide +kernel
theorem dX12_due_144 : decode cX12_due 144 = .ok (.iaload, 1) := by decide +kernel
theorem dX12_due_145 : decode cX12_due 145 = .ok (.iconst 2, 1) := by decide +kernel
theorem dX12_due_146 : decode cX12_due 146 = .ok (.if_icmp .ne 12, 3) := by decide +kernel
theorem dX12_due_149 : decode cX12_due 149 = .ok (.ldc2_w 521, 3) := by decide +kernel
theorem dX12_due_152 : decode cX12_due 152 = .ok (.lload 4, 2) := by decide +kernel
theorem dX12_due_154 : decode cX12_due 154 = .ok (.lsub, 1) := by decide +kernel
theorem dX12_due_155 : decode cX12_due 155 = .ok (.goto 5, 3) := by decide +kernel
theorem dX12_due_158 : decode cX12_due 158 = .ok (.lload 4, 2) := by decide +kernel
theorem dX12_due_160 : decode cX12_due 160 = .ok (.aload_n 0, 1) := by decide +kernel
theorem dX12_due_161 : decode cX12_due 161 = .ok (.bipush 8, 2) := by decide +kernel
theorem dX12_due_163 : decode cX12_due 163 = .ok (.aload_n 0, 1) := by decide +kernel
theorem dX12_due_164 : decode cX12_due 164 = .ok (.getfield 101, 3) := by decide +kernel
theorem dX12_due_167 : decode cX12_due 167 = .ok (.iload_n 2, 1) := by decide +kernel
theorem dX12_due_168 : decode cX12_due 168 = .ok (.iaload, 1) := by decide +kernel
theorem dX12_due_169 : decode cX12_due 169 = .ok (.bipush 15, 2) := by decide +kernel
theorem dX12_due_171 : decode cX12_due 171 = .ok (.iand, 1) := by decide +kernel
theorem dX12_due_172 : decode cX12_due 172 = .ok (.imul, 1) := by decide +kernel
theorem dX12_due_173 : decode cX12_due 173 = .ok (.i2l, 1) := by decide +kernel
theorem dX12_due_174 : decode cX12_due 174 = .ok (.invokevirtual 663, 3) := by decide +kernel
theorem dX12_due_177 : decode cX12_due 177 = .ok (.land, 1) := by decide +kernel
theorem dX12_due_178 : decode cX12_due 178 = .ok (.lreturn, 1) := by decide +kernel
theorem dX12_either_0 : decode cX12_either 0 = .ok (.aload_n 0, 1) := by decide +kernel
theorem dX12_either_1 : decode cX12_either 1 = .ok (.getfield 152, 3) := by decide +kernel
theorem dX12_either_4 : decode cX12_either 4 = .ok (.istore_n 1, 1) := by decide +kernel
theorem dX12_either_5 : decode cX12_either 5 = .ok (.aload_n 0, 1) := by decide +kernel
theorem dX12_either_6 : decode cX12_either 6 = .ok (.iconst 0, 1) := by decide +kernel
theorem dX12_either_7 : decode cX12_either 7 = .ok (.putfield 195, 3) := by decide +kernel
theorem dX12_either_10 : decode cX12_either 10 = .ok (.aload_n 0, 1) := by decide +kernel
theorem dX12_either_11 : decode cX12_either 11 = .ok (.iconst 0, 1) := by decide +kernel
theorem dX12_either_12 : decode cX12_either 12 = .ok (.putfield 198, 3) := by decide +kernel
theorem dX12_either_15 : decode cX12_either 15 = .ok (.iconst 1, 1) := by decide +kernel
theorem dX12_either_16 : decode cX12_either 16 = .ok (.istore_n 2, 1) := by decide +kernel
theorem dX12_either_17 : decode cX12_either 17 = .ok (.iload_n 2, 1) := by decide +kernel
theorem dX12_either_18 : decode cX12_either 18 = .ok (.ifCond .eq 37, 3) := by decide +kernel
theorem dX12_either_21 : decode cX12_either 21 = .ok (.aload_n 0, 1) := by decide +kernel
theorem dX12_either_22 : decode cX12_either 22 = .ok (.getfield 167, 3) := by decide +kernel
theorem dX12_either_25 : decode cX12_either 25 = .ok (.ifCond .ne 30, 3) := by decide +kernel
theorem dX12_either_28 : decode cX12_either 28 = .ok (.aload_n 0, 1) := by decide +kernel
theorem dX12_either_29 : decode cX12_either 29 = .ok (.invokevirtual 536, 3) := by decide +kernel
theorem dX12_either_32 : decode cX12_either 32 = .ok (.aload_n 0, 1) := by decide +kernel
theorem dX12_either_33 : decode cX12_either 33 = .ok (.getfield 167, 3) := by decide +kernel
theorem dX12_either_36 : decode cX12_either 36 = .ok (.ifCond .ne 14, 3) := by decide +kernel
theorem dX12_either_39 : decode cX12_either 39 = .ok (.aload_n 0, 1) := by decide +kernel
theorem dX12_either_40 : decode cX12_either 40 = .ok (.invokevirtual 539, 3) := by decide +kernel
theorem dX12_either_43 : decode cX12_either 43 = .ok (.ifCond .eq 7, 3) := by decide +kernel
theorem dX12_either_46 : decode cX12_either 46 = .ok (.iconst 1, 1) := by decide +kernel
theorem dX12_either_47 : decode cX12_either 47 = .ok (.goto 4, 3) := by decide +kernel
theorem dX12_either_50 : decode cX12_either 50 = .ok (.iconst 0, 1) := by decide +kernel
theorem dX12_either_51 : decode cX12_either 51 = .ok (.istore_n 2, 1) := by decide +kernel
theorem dX12_either_52 : decode cX12_either 52 = .ok (.goto (-35), 3) := by decide +kernel
theorem dX12_either_55 : decode cX12_either 55 = .ok (.aload_n 0, 1) := by decide +kernel
theorem dX12_either_56 : decode cX12_either 56 = .ok (.getfield 167, 3) := by decide +kernel
theorem dX12_either_59 : decode cX12_either 59 = .ok (.ifCond .le 5, 3) := by decide +kernel
theorem dX12_either_62 : decode cX12_either 62 = .ok (.iconst (-1), 1) := by decide +kernel
theorem dX12_either_63 : decode cX12_either 63 = .ok (.ireturn, 1) := by decide +kernel
theorem dX12_either_64 : decode cX12_either 64 = .ok (.aload_n 0, 1) := by decide +kernel
theorem dX12_either_65 : decode cX12_either 65 = .ok (.iconst 1, 1) := by decide +kernel
theorem dX12_either_66 : decode cX12_either 66 = .ok (.invokevirtual 542, 3) := by decide +kernel
theorem dX12_either_69 : decode cX12_either 69 = .ok (.aload_n 0, 1) := by decide +kernel
theorem dX12_either_70 : decode cX12_either 70 = .ok (.aload_n 0, 1) := by decide +kernel
theorem dX12_either_71 : decode cX12_either 71 = .ok (.getfield 195, 3) := by decide +kernel
theorem dX12_either_74 : decode cX12_either 74 = .ok (.ifCond .ne 7, 3) := by decide +kernel
theorem dX12_either_77 : decode cX12_either 77 = .ok (.iconst 1, 1) := by decide +kernel
theorem dX12_either_78 : decode cX12_either 78 = .ok (.goto 4, 3) := by decide +kernel
theorem dX12_either_81 : decode cX12_either 81 = .ok (.iconst 0, 1) := by decide +kernel
theorem dX12_either_82 : decode cX12_either 82 = .ok (.iconst 2, 1) := by decide +kernel
theorem dX12_either_83 : decode cX12_either 83 = .ok (.invokevirtual 404, 3) := by decide +kernel
theorem dX12_either_86 : decode cX12_either 86 = .ok (.ifCond .ne 5, 3) := by decide +kernel
theorem dX12_either_89 : decode cX12_either 89 = .ok (.iconst (-1), 1) := by decide +kernel
theorem dX12_either_90 : decode cX12_either 90 = .ok (.ireturn, 1) := by decide +kernel
theorem dX12_either_91 : decode cX12_either 91 = .ok (.aload_n 0, 1) := by decide +kernel
theorem dX12_either_92 : decode cX12_either 92 = .ok (.getfield 201, 3) := by decide +kernel
theorem dX12_either_95 : decode cX12_either 95 = .ok (.aload_n 0, 1) := by decide +kernel
theorem dX12_either_96 : decode cX12_either 96 = .ok (.getfield 192, 3) := by decide +kernel
theorem dX12_either_99 : decode cX12_either 99 = .ok (.iconst 0, 1) := by decide +kernel
theorem dX12_either_100 : decode cX12_either 100 = .ok (.iaload, 1) := by decide +kernel
theorem dX12_either_101 : decode cX12_either 101 = .ok (.iload_n 1, 1) := by decide +kernel
theorem dX12_either_102 : decode cX12_either 102 = .ok (.iastore, 1) := by decide +kernel
theorem dX12_either_103 : decode cX12_either 103 = .ok (.aload_n 0, 1) := by decide +kernel
theorem dX12_either_104 : decode cX12_either 104 = .ok (.getfield 192, 3) := by decide +kernel
theorem dX12_either_107 : decode cX12_either 107 = .ok (.iconst 0, 1) := by decide +kernel
theorem dX12_either_108 : decode cX12_either 108 = .ok (.iaload, 1) := by decide +kernel
theorem dX12_either_109 : decode cX12_either 109 = .ok (.ireturn, 1) := by decide +kernel
theorem dX12_ended_0 : decode cX12_ended 0 = .ok (.aload_n 0, 1) := by decide +kernel
theorem dX12_ended_1 : decode cX12_ended 1 = .ok (.aload_n 0, 1) := by decide +kernel
theorem dX12_ended_2 : decode cX12_ended 2 = .ok (.invokevirtual 418, 3) := by decide +kernel
theorem dX12_ended_5 : decode cX12_ended 5 = .ok (.iconst 2, 1) := by decide +kernel
theorem dX12_ended_6 : decode cX12_ended 6 = .ok (.invokevirtual 404, 3) := by decide +kernel
theorem dX12_ended_9 : decode cX12_ended 9 = .ok (.ifCond .eq 36, 3) := by decide +kernel
theorem dX12_ended_12 : decode cX12_ended 12 = .ok (.aload_n 0, 1) := by decide +kernel
theorem dX12_ended_13 : decode cX12_ended 13 = .ok (.aload_n 0, 1) := by decide +kernel
theorem dX12_ended_14 : decode cX12_ended 14 = .ok (.aload_n 0, 1) := by decide +kernel
theorem dX12_ended_15 : decode cX12_ended 15 = .ok (.getfield 60, 3) := by decide +kernel
theorem dX12_ended_18 : decode cX12_ended 18 = .ok (.aload_n 0, 1) := by decide +kernel
theorem dX12_ended_19 : decode cX12_ended 19 = .ok (.getfield 70, 3) := by decide +kernel
theorem dX12_ended_22 : decode cX12_ended 22 = .ok (.aload_n 0, 1) := by decide +kernel
theorem dX12_ended_23 : decode cX12_ended 23 = .ok (.getfield 173, 3) := by decide +kernel
theorem dX12_ended_26 : decode cX12_ended 26 = .ok (.iaload, 1) := by decide +kernel
theorem dX12_ended_27 : decode cX12_ended 27 = .ok (.invokevirtual 414, 3) := by decide +kernel
theorem dX12_ended_30 : decode cX12_ended 30 = .ok (.ifCond .lt 7, 3) := by decide +kernel
theorem dX12_ended_33 : decode cX12_ended 33 = .ok (.iconst 1, 1) := by decide +kernel
theorem dX12_ended_34 : decode cX12_ended 34 = .ok (.goto 4, 3) := by decide +kernel
theorem dX12_ended_37 : decode cX12_ended 37 = .ok (.iconst 0, 1) := by decide +kernel
theorem dX12_ended_38 : decode cX12_ended 38 = .ok (.iconst 4, 1) := by decide +kernel
theorem dX12_ended_39 : decode cX12_ended 39 = .ok (.invokevirtual 404, 3) := by decide +kernel
theorem dX12_ended_42 : decode cX12_ended 42 = .ok (.ifCond .ne 5, 3) := by decide +kernel
theorem dX12_ended_45 : decode cX12_ended 45 = .ok (.iconst (-1), 1) := by decide +kernel
theorem dX12_ended_46 : decode cX12_ended 46 = .ok (.ireturn, 1) := by decide +kernel
theorem dX12_ended_47 : decode cX12_ended 47 = .ok (.aload_n 0, 1) := by decide +kernel
theorem dX12_ended_48 : decode cX12_ended 48 = .ok (.aload_n 0, 1) := by decide +kernel
theorem dX12_ended_49 : decode cX12_ended 49 = .ok (.getfield 60, 3) := by decide +kernel
theorem dX12_ended_52 : decode cX12_ended 52 = .ok (.aload_n 0, 1) := by decide +kernel
theorem dX12_ended_53 : decode cX12_ended 53 = .ok (.getfield 70, 3) := by decide +kernel
theorem dX12_ended_56 : decode cX12_ended 56 = .ok (.aload_n 0, 1) := by decide +kernel
theorem dX12_ended_57 : decode cX12_ended 57 = .ok (.getfield 173, 3) := by decide +kernel
theorem dX12_ended_60 : decode cX12_ended 60 = .ok (.iaload, 1) := by decide +kernel
theorem dX12_ended_61 : decode cX12_ended 61 = .ok (.invokevirtual 414, 3) := by decide +kernel
theorem dX12_ended_64 : decode cX12_ended 64 = .ok (.istore_n 1, 1) := by decide +kernel
theorem dX12_ended_65 : decode cX12_ended 65 = .ok (.aload_n 0, 1) := by decide +kernel
theorem dX12_ended_66 : decode cX12_ended 66 = .ok (.invokevirtual 408, 3) := by decide +kernel
theorem dX12_ended_69 : decode cX12_ended 69 = .ok (.iload_n 1, 1) := by decide +kernel
theorem dX12_ended_70 : decode cX12_ended 70 = .ok (.ireturn, 1) := by decide +kernel
theorem dX12_enumNamed_0 : decode cX12_enumNamed 0 = .ok (.iconst 0, 1) := by decide +kernel
theorem dX12_enumNamed_1 : decode cX12_enumNamed 1 = .ok (.istore_n 3, 1) := by decide +kernel
theorem dX12_enumNamed_2 : decode cX12_enumNamed 2 = .ok (.iload_n 3, 1) := by decide +kernel
theorem dX12_enumNamed_3 : decode cX12_enumNamed 3 = .ok (.aload_n 0, 1) := by decide +kernel
theorem dX12_enumNamed_4 : decode cX12_enumNamed 4 = .ok (.getfield 73, 3) := by decide +kernel
theorem dX12_enumNamed_7 : decode cX12_enumNamed 7 = .ok (.aload_n 0, 1) := by decide +kernel
theorem dX12_enumNamed_8 : decode cX12_enumNamed 8 = .ok (.getfield 173, 3) := by decide +kernel
theorem dX12_enumNamed_11 : decode cX12_enumNamed 11 = .ok (.iaload, 1) := by decide +kernel
theorem dX12_enumNamed_12 : decode cX12_enumNamed 12 = .ok (.if_icmp .ge 30, 3) := by decide +kernel
theorem dX12_enumNamed_15 : decode cX12_enumNamed 15 = .ok (.aload_n 0, 1) := by decide +kernel
theorem dX12_enumNamed_16 : decode cX12_enumNamed 16 = .ok (.getfield 86, 3) := by decide +kernel
theorem dX12_enumNamed_19 : decode cX12_enumNamed 19 = .ok (.bipush 8, 2) := by decide +kernel
theorem dX12_enumNamed_21 : decode cX12_enumNamed 21 = .ok (.aload_n 0, 1) := by decide +kernel
theorem dX12_enumNamed_22 : decode cX12_enumNamed 22 = .ok (.getfield 173, 3) := by decide +kernel
theorem dX12_enumNamed_25 : decode cX12_enumNamed 25 = .ok (.imul, 1) := by decide +kernel
theorem dX12_enumNamed_26 : decode cX12_enumNamed 26 = .ok (.iload_n 3, 1) := by decide +kernel
theorem dX12_enumNamed_27 : decode cX12_enumNamed 27 = .ok (.iadd, 1) := by decide +kernel
theorem dX12_enumNamed_28 : decode cX12_enumNamed 28 = .ok (.laload, 1) := by decide +kernel
theorem dX12_enumNamed_29 : decode cX12_enumNamed 29 = .ok (.lload_n 1, 1) := by decide +kernel
theorem dX12_enumNamed_30 : decode cX12_enumNamed 30 = .ok (.lcmp, 1) := by decide +kernel
theorem dX12_enumNamed_31 : decode cX12_enumNamed 31 = .ok (.ifCond .ne 5, 3) := by decide +kernel
theorem dX12_enumNamed_34 : decode cX12_enumNamed 34 = .ok (.iload_n 3, 1) := by decide +kernel
theorem dX12_enumNamed_35 : decode cX12_enumNamed 35 = .ok (.ireturn, 1) := by decide +kernel
theorem dX12_enumNamed_36 : decode cX12_enumNamed 36 = .ok (.iinc 3 1, 3) := by decide +kernel
theorem dX12_enumNamed_39 : decode cX12_enumNamed 39 = .ok (.goto (-37), 3) := by decide +kernel
theorem dX12_enumNamed_42 : decode cX12_enumNamed 42 = .ok (.iconst (-1), 1) := by decide +kernel
theorem dX12_enumNamed_43 : decode cX12_enumNamed 43 = .ok (.ireturn, 1) := by decide +kernel
theorem dX12_evaluate_0 : decode cX12_evaluate 0 = .ok (.aload_n 0, 1) := by decide +kernel
theorem dX12_evaluate_1 : decode cX12_evaluate 1 = .ok (.iload_n 1, 1) := by decide +kernel
theorem dX12_evaluate_2 : decode cX12_evaluate 2 = .ok (.iload_n 2, 1) := by decide +kernel
theorem dX12_evaluate_3 : decode cX12_evaluate 3 = .ok (.invokevirtual 688, 3) := by decide +kernel
theorem dX12_evaluate_6 : decode cX12_evaluate 6 = .ok (.ifCond .ne 5, 3) := by decide +kernel
theorem dX12_evaluate_9 : decode cX12_evaluate 9 = .ok (.iconst (-1), 1) := by decide +kernel
theorem dX12_evaluate_10 : decode cX12_evaluate 10 = .ok (.ireturn, 1) := by decide +kernel
theorem dX12_evaluate_11 : decode cX12_evaluate 11 = .ok (.sipush 400, 3) := by decide +kernel
theorem dX12_evaluate_14 : decode cX12_evaluate 14 = .ok (.iload_n 1, 1) := by decide +kernel
theorem dX12_evaluate_15 : decode cX12_evaluate 15 = .ok (.imul, 1) := by decide +kernel
theorem dX12_evaluate_16 : decode cX12_evaluate 16 = .ok (.iload_n 2, 1) := by decide +kernel
theorem dX12_evaluate_17 : decode cX12_evaluate 17 = .ok (.iadd, 1) := by decide +kernel
theorem dX12_evaluate_18 : decode cX12_evaluate 18 = .ok (.istore_n 3, 1) := by decide +kernel
theorem dX12_evaluate_19 : decode cX12_evaluate 19 = .ok (.aload_n 0, 1) := by decide +kernel
theorem dX12_evaluate_20 : decode cX12_evaluate 20 = .ok (.getfield 217, 3) := by decide +kernel
theorem dX12_evaluate_23 : decode cX12_evaluate 23 = .ok (.iload_n 3, 1) := by decide +kernel
theorem dX12_evaluate_24 : decode cX12_evaluate 24 = .ok (.iaload, 1) := by decide +kernel
theorem dX12_evaluate_25 : decode cX12_evaluate 25 = .ok (.ifCond .eq 6, 3) := by decide +kernel
theorem dX12_evaluate_28 : decode cX12_evaluate 28 = .ok (.bipush (-4), 2) := by decide +kernel
theorem dX12_evaluate_30 : decode cX12_evaluate 30 = .ok (.ireturn, 1) := by decide +kernel
theorem dX12_evaluate_31 : decode cX12_evaluate 31 = .ok (.aload_n 0, 1) := by decide +kernel
theorem dX12_evaluate_32 : decode cX12_evaluate 32 = .ok (.aload_n 0, 1) := by decide +kernel
theorem dX12_evaluate_33 : decode cX12_evaluate 33 = .ok (.getfield 235, 3) := by decide +kernel
theorem dX12_evaluate_36 : decode cX12_evaluate 36 = .ok (.iload_n 3, 1) := by decide +kernel
theorem dX12_evaluate_37 : decode cX12_evaluate 37 = .ok (.iaload, 1) := by decide +kernel
theorem dX12_evaluate_38 : decode cX12_evaluate 38 = .ok (.putfield 176, 3) := by decide +kernel
theorem dX12_evaluate_41 : decode cX12_evaluate 41 = .ok (.aload_n 0, 1) := by decide +kernel
theorem dX12_evaluate_42 : decode cX12_evaluate 42 = .ok (.aload_n 0, 1) := by decide +kernel
theorem dX12_evaluate_43 : decode cX12_evaluate 43 = .ok (.getfield 80, 3) := by decide +kernel
theorem dX12_evaluate_46 : decode cX12_evaluate 46 = .ok (.bipush 20, 2) := by decide +kernel
theorem dX12_evaluate_48 : decode cX12_evaluate 48 = .ok (.aload_n 0, 1) := by decide +kernel
theorem dX12_evaluate_49 : decode cX12_evaluate 49 = .ok (.getfield 173, 3) := by decide +kernel
theorem dX12_evaluate_52 : decode cX12_evaluate 52 = .ok (.imul, 1) := by decide +kernel
theorem dX12_evaluate_53 : decode cX12_evaluate 53 = .ok (.aload_n 0, 1) := by decide +kernel
theorem dX12_evaluate_54 : decode cX12_evaluate 54 = .ok (.getfield 176, 3) := by decide +kernel
theorem dX12_evaluate_57 : decode cX12_evaluate 57 = .ok (.iadd, 1) := by decide +kernel
theorem dX12_evaluate_58 : decode cX12_evaluate 58 = .ok (.iaload, 1) := by decide +kernel
theorem dX12_evaluate_59 : decode cX12_evaluate 59 = .ok (.putfield 186, 3) := by decide +kernel
theorem dX12_evaluate_62 : decode cX12_evaluate 62 = .ok (.aload_n 0, 1) := by decide +kernel
theorem dX12_evaluate_63 : decode cX12_evaluate 63 = .ok (.sipush 6000, 3) := by decide +kernel
theorem dX12_evaluate_66 : decode cX12_evaluate 66 = .ok (.putfield 152, 3) := by decide +kernel
theorem dX12_evaluate_69 : decode cX12_evaluate 69 = .ok (.aload_n 0, 1) := by decide +kernel
theorem dX12_evaluate_70 : decode cX12_evaluate 70 = .ok (.iconst 0, 1) := by decide +kernel
theorem dX12_evaluate_71 : decode cX12_evaluate 71 = .ok (.putfield 167, 3) := by decide +kernel
theorem dX12_evaluate_74 : decode cX12_evaluate 74 = .ok (.aload_n 0, 1) := by decide +kernel
theorem dX12_evaluate_75 : decode cX12_evaluate 75 = .ok (.iconst 0, 1) := by decide +kernel
theorem dX12_evaluate_76 : decode cX12_evaluate 76 = .ok (.putfield 179, 3) := by decide +kernel
theorem dX12_evaluate_79 : decode cX12_evaluate 79 = .ok (.aload_n 0, 1) := by decide +kernel
theorem dX12_evaluate_80 : decode cX12_evaluate 80 = .ok (.iconst 0, 1) := by decide +kernel
theorem dX12_evaluate_81 : decode cX12_evaluate 81 = .ok (.putfield 57, 3) := by decide +kernel
theorem dX12_evaluate_84 : decode cX12_evaluate 84 = .ok (.aload_n 0, 1) := by decide +kernel
theorem dX12_evaluate_85 : decode cX12_evaluate 85 = .ok (.invokevirtual 408, 3) := by decide +kernel
theorem dX12_evaluate_88 : decode cX12_evaluate 88 = .ok (.aload_n 0, 1) := by decide +kernel
theorem dX12_evaluate_89 : decode cX12_evaluate 89 = .ok (.invokevirtual 523, 3) := by decide +kernel
theorem dX12_evaluate_92 : decode cX12_evaluate 92 = .ok (.istore 4, 2) := by decide +kernel
theorem dX12_evaluate_94 : decode cX12_evaluate 94 = .ok (.aload_n 0, 1) := by decide +kernel
theorem dX12_evaluate_95 : decode cX12_evaluate 95 = .ok (.aload_n 0, 1) := by decide +kernel
theorem dX12_evaluate_96 : decode cX12_evaluate 96 = .ok (.getfield 51, 3) := by decide +kernel
theorem dX12_evaluate_99 : decode cX12_evaluate 99 = .ok (.ifCond .ne 7, 3) := by decide +kernel
theorem dX12_evaluate_102 : decode cX12_evaluate 102 = .ok (.iconst 1, 1) := by decide +kernel
theorem dX12_evaluate_103 : decode cX12_evaluate 103 = .ok (.goto 4, 3) := by decide +kernel
theorem dX12_evaluate_106 : decode cX12_evaluate 106 = .ok (.iconst 0, 1) := by decide +kernel
theorem dX12_evaluate_107 : decode cX12_evaluate 107 = .ok (.iconst 2, 1) := by decide +kernel
theorem dX12_evaluate_108 : decode cX12_evaluate 108 = .ok (.invokevirtual 404, 3) := by decide +kernel
theorem dX12_evaluate_111 : decode cX12_evaluate 111 = .ok (.istore 5, 2) := by decide +kernel
theorem dX12_evaluate_113 : decode cX12_evaluate 113 = .ok (.aload_n 0, 1) := by decide +kernel
theorem dX12_evaluate_114 : decode cX12_evaluate 114 = .ok (.iconst 0, 1) := by decide +kernel
theorem dX12_evaluate_115 : decode cX12_evaluate 115 = .ok (.putfield 45, 3) := by decide +kernel
theorem dX12_evaluate_118 : decode cX12_evaluate 118 = .ok (.aload_n 0, 1) := by decide +kernel
theorem dX12_evaluate_119 : decode cX12_evaluate 119 = .ok (.aload_n 0, 1) := by decide +kernel
theorem dX12_evaluate_120 : decode cX12_evaluate 120 = .ok (.getfield 167, 3) := by decide +kernel
theorem dX12_evaluate_123 : decode cX12_evaluate 123 = .ok (.putfield 48, 3) := by decide +kernel
theorem dX12_evaluate_126 : decode cX12_evaluate 126 = .ok (.aload_n 0, 1) := by decide +kernel
theorem dX12_evaluate_127 : decode cX12_evaluate 127 = .ok (.getfield 167, 3) := by decide +kernel
theorem dX12_evaluate_130 : decode cX12_evaluate 130 = .ok (.ifCond .le 11, 3) := by decide +kernel
theorem dX12_evaluate_133 : decode cX12_evaluate 133 = .ok (.bipush (-10), 2) := by decide +kernel
theorem dX12_evaluate_135 : decode cX12_evaluate 135 = .ok (.aload_n 0, 1) := by decide +kernel
theorem dX12_evaluate_136 : decode cX12_evaluate 136 = .ok (.getfield 170, 3) := by decide +kernel
theorem dX12_evaluate_139 : decode cX12_evaluate 139 = .ok (.isub, 1) := by decide +kernel
theorem dX12_evaluate_140 : decode cX12_evaluate 140 = .ok (.ireturn, 1) := by decide +kernel
theorem dX12_evaluate_141 : decode cX12_evaluate 141 = .ok (.aload_n 0, 1) := by decide +kernel
theorem dX12_evaluate_142 : decode cX12_evaluate 142 = .ok (.iload 4, 2) := by decide +kernel
theorem dX12_evaluate_144 : decode cX12_evaluate 144 = .ok (.iload_n 3, 1) := by decide +kernel
theorem dX12_evaluate_145 : decode cX12_evaluate 145 = .ok (.aload_n 0, 1) := by decide +kernel
theorem dX12_evaluate_146 : decode cX12_evaluate 146 = .ok (.getfield 223, 3) := by decide +kernel
theorem dX12_evaluate_149 : decode cX12_evaluate 149 = .ok (.iload_n 3, 1) := by decide +kernel
theorem dX12_evaluate_150 : decode cX12_evaluate 150 = .ok (.iaload, 1) := by decide +kernel
theorem dX12_evaluate_151 : decode cX12_evaluate 151 = .ok (.invokevirtual 608, 3) := by decide +kernel
theorem dX12_evaluate_154 : decode cX12_evaluate 154 = .ok (.lstore 6, 2) := by decide +kernel
theorem dX12_evaluate_156 : decode cX12_evaluate 156 = .ok (.aload_n 0, 1) := by decide +kernel
theorem dX12_evaluate_157 : decode cX12_evaluate 157 = .ok (.getfield 274, 3) := by decide +kernel
theorem dX12_evaluate_160 : decode cX12_evaluate 160 = .ok (.ifCond .eq 6, 3) := by decide +kernel
theorem dX12_evaluate_163 : decode cX12_evaluate 163 = .ok (.bipush (-3), 2) := by decide +kernel
theorem dX12_evaluate_165 : decode cX12_evaluate 165 = .ok (.ireturn, 1) := by decide +kernel
theorem dX12_evaluate_166 : decode cX12_evaluate 166 = .ok (.aload_n 0, 1) := by decide +kernel
theorem dX12_evaluate_167 : decode cX12_evaluate 167 = .ok (.lload 6, 2) := by decide +kernel
theorem dX12_evaluate_169 : decode cX12_evaluate 169 = .ok (.putfield 286, 3) := by decide +kernel
theorem dX12_evaluate_172 : decode cX12_evaluate 172 = .ok (.iconst 0, 1) := by decide +kernel
theorem dX12_evaluate_173 : decode cX12_evaluate 173 = .ok (.ireturn, 1) := by decide +kernel
theorem dX12_expr_0 : decode cX12_expr 0 = .ok (.aload_n 0, 1) := by decide +kernel
theorem dX12_expr_1 : decode cX12_expr 1 = .ok (.aload_n 0, 1) := by decide +kernel
theorem dX12_expr_2 : decode cX12_expr 2 = .ok (.getfield 80, 3) := by decide +kernel
theorem dX12_expr_5 : decode cX12_expr 5 = .ok (.bipush 20, 2) := by decide +kernel
theorem dX12_expr_7 : decode cX12_expr 7 = .ok (.aload_n 0, 1) := by decide +kernel
theorem dX12_expr_8 : decode cX12_expr 8 = .ok (.getfield 173, 3) := by decide +kernel
theorem dX12_expr_11 : decode cX12_expr 11 = .ok (.imul, 1) := by decide +kernel
theorem dX12_expr_12 : decode cX12_expr 12 = .ok (.aload_n 0, 1) := by decide +kernel
theorem dX12_expr_13 : decode cX12_expr 13 = .ok (.getfield 176, 3) := by decide +kernel
theorem dX12_expr_16 : decode cX12_expr 16 = .ok (.iadd, 1) := by decide +kernel
theorem dX12_expr_17 : decode cX12_expr 17 = .ok (.iaload, 1) := by decide +kernel
theorem dX12_expr_18 : decode cX12_expr 18 = .ok (.putfield 186, 3) := by decide +kernel
theorem dX12_expr_21 : decode cX12_expr 21 = .ok (.aload_n 0, 1) := by decide +kernel
theorem dX12_expr_22 : decode cX12_expr 22 = .ok (.invokevirtual 523, 3) := by decide +kernel
theorem dX12_expr_25 : decode cX12_expr 25 = .ok (.ireturn, 1) := by decide +kernel
theorem dX12_fault_0 : decode cX12_fault 0 = .ok (.aload_n 0, 1) := by decide +kernel
theorem dX12_fault_1 : decode cX12_fault 1 = .ok (.getfield 167, 3) := by decide +kernel
theorem dX12_fault_4 : decode cX12_fault 4 = .ok (.ifCond .le 4, 3) := by decide +kernel
theorem dX12_fault_7 : decode cX12_fault 7 = .ok (.return_, 1) := by decide +kernel
theorem dX12_fault_8 : decode cX12_fault 8 = .ok (.aload_n 0, 1) := by decide +kernel
theorem dX12_fault_9 : decode cX12_fault 9 = .ok (.aload_n 0, 1) := by decide +kernel
theorem dX12_fault_10 : decode cX12_fault 10 = .ok (.getfield 51, 3) := by decide +kernel
theorem dX12_fault_13 : decode cX12_fault 13 = .ok (.iconst 4, 1) := by decide +kernel
theorem dX12_fault_14 : decode cX12_fault 14 = .ok (.if_icmp .ne 7, 3) := by decide +kernel
theorem dX12_fault_17 : decode cX12_fault 17 = .ok (.iconst 1, 1) := by decide +kernel
theorem dX12_fault_18 : decode cX12_fault 18 = .ok (.goto 4, 3) := by decide +kernel
theorem dX12_fault_21 : decode cX12_fault 21 = .ok (.iload_n 1, 1) := by decide +kernel
theorem dX12_fault_22 : decode cX12_fault 22 = .ok (.putfield 167, 3) := by decide +kernel
theorem dX12_fault_25 : decode cX12_fault 25 = .ok (.aload_n 0, 1) := by decide +kernel
theorem dX12_fault_26 : decode cX12_fault 26 = .ok (.aload_n 0, 1) := by decide +kernel
theorem dX12_fault_27 : decode cX12_fault 27 = .ok (.getfield 54, 3) := by decide +kernel
theorem dX12_fault_30 : decode cX12_fault 30 = .ok (.putfield 170, 3) := by decide +kernel
theorem dX12_fault_33 : decode cX12_fault 33 = .ok (.return_, 1) := by decide +kernel
theorem dX12_faults_0 : decode cX12_faults 0 = .ok (.iload_n 1, 1) := by decide +kernel
theorem dX12_faults_1 : decode cX12_faults 1 = .ok (.ifCond .lt 20, 3) := by decide +kernel
theorem dX12_faults_4 : decode cX12_faults 4 = .ok (.iload_n 1, 1) := by decide +kernel
theorem dX12_faults_5 : decode cX12_faults 5 = .ok (.aload_n 0, 1) := by decide +kernel
theorem dX12_faults_6 : decode cX12_faults 6 = .ok (.getfield 208, 3) := by decide +kernel
theorem dX12_faults_9 : decode cX12_faults 9 = .ok (.if_icmp .ge 12, 3) := by decide +kernel
theorem dX12_faults_12 : decode cX12_faults 12 = .ok (.iload_n 2, 1) := by decide +kernel
theorem dX12_faults_13 : decode cX12_faults 13 = .ok (.ifCond .lt 8, 3) := by decide +kernel
theorem dX12_faults_16 : decode cX12_faults 16 = .ok (.iload_n 2, 1) := by decide +kernel
theorem dX12_faults_17 : decode cX12_faults 17 = .ok (.iconst 2, 1) := by decide +kernel
theorem dX12_faults_18 : decode cX12_faults 18 = .ok (.if_icmp .le 5, 3) := by decide +kernel
theorem dX12_faults_21 : decode cX12_faults 21 = .ok (.iconst (-1), 1) := by decide +kernel
theorem dX12_faults_22 : decode cX12_faults 22 = .ok (.ireturn, 1) := by decide +kernel
theorem dX12_faults_23 : decode cX12_faults 23 = .ok (.iload_n 2, 1) := by decide +kernel
theorem dX12_faults_24 : decode cX12_faults 24 = .ok (.iconst 2, 1) := by decide +kernel
theorem dX12_faults_25 : decode cX12_faults 25 = .ok (.if_icmp .ne 10, 3) := by decide +kernel
theorem dX12_faults_28 : decode cX12_faults 28 = .ok (.aload_n 0, 1) := by decide +kernel
theorem dX12_faults_29 : decode cX12_faults 29 = .ok (.getfield 214, 3) := by decide +kernel
theorem dX12_faults_32 : decode cX12_faults 32 = .ok (.iload_n 1, 1) := by decide +kernel
theorem dX12_faults_33 : decode cX12_faults 33 = .ok (.iaload, 1) := by decide +kernel
theorem dX12_faults_34 : decode cX12_faults 34 = .ok (.ireturn, 1) := by decide +kernel
theorem dX12_faults_35 : decode cX12_faults 35 = .ok (.iconst 0, 1) := by decide +kernel
theorem dX12_faults_36 : decode cX12_faults 36 = .ok (.istore_n 3, 1) := by decide +kernel
theorem dX12_faults_37 : decode cX12_faults 37 = .ok (.iconst (-1), 1) := by decide +kernel
theorem dX12_faults_38 : decode cX12_faults 38 = .ok (.istore 4, 2) := by decide +kernel
theorem dX12_faults_40 : decode cX12_faults 40 = .ok (.aload_n 0, 1) := by decide +kernel
theorem dX12_faults_41 : decode cX12_faults 41 = .ok (.getfield 214, 3) := by decide +kernel
theorem dX12_faults_44 : decode cX12_faults 44 = .ok (.iload_n 1, 1) := by decide +kernel
theorem dX12_faults_45 : decode cX12_faults 45 = .ok (.iaload, 1) := by decide +kernel
theorem dX12_faults_46 : decode cX12_faults 46 = .ok (.iconst 1, 1) := by decide +kernel
theorem dX12_faults_47 : decode cX12_faults 47 = .ok (.isub, 1) := by decide +kernel
theorem dX12_faults_48 : decode cX12_faults 48 = .ok (.istore 5, 2) := by decide +kernel
theorem dX12_faults_50 : decode cX12_faults 50 = .ok (.iload 5, 2) := by decide +kernel
theorem dX12_faults_52 : decode cX12_faults 52 = .ok (.ifCond .lt 35, 3) := by decide +kernel
theorem dX12_faults_55 : decode cX12_faults 55 = .ok (.aload_n 0, 1) := by decide +kernel
theorem dX12_faults_56 : decode cX12_faults 56 = .ok (.getfield 232, 3) := by decide +kernel
theorem dX12_faults_59 : decode cX12_faults 59 = .ok (.sipush 400, 3) := by decide +kernel
theorem dX12_faults_62 : decode cX12_faults 62 = .ok (.iload_n 1, 1) := by decide +kernel
theorem dX12_faults_63 : decode cX12_faults 63 = .ok (.imul, 1) := by decide +kernel
theorem dX12_faults_64 : decode cX12_faults 64 = .ok (.iload 5, 2) := by decide +kernel
theorem dX12_faults_66 : decode cX12_faults 66 = .ok (.iadd, 1) := by decide +kernel
theorem dX12_faults_67 : decode cX12_faults 67 = .ok (.iaload, 1) := by decide +kernel
theorem dX12_faults_68 : decode cX12_faults 68 = .ok (.ifCond .ne 6, 3) := by decide +kernel
theorem dX12_faults_71 : decode cX12_faults 71 = .ok (.goto 10, 3) := by decide +kernel
theorem dX12_faults_74 : decode cX12_faults 74 = .ok (.iinc 3 1, 3) := by decide +kernel
theorem dX12_faults_77 : decode cX12_faults 77 = .ok (.iload 5, 2) := by decide +kernel
theorem dX12_faults_79 : decode cX12_faults 79 = .ok (.istore 4, 2) := by decide +kernel
theorem dX12_faults_81 : decode cX12_faults 81 = .ok (.iinc 5 (-1), 3) := by decide +kernel
theorem dX12_faults_84 : decode cX12_faults 84 = .ok (.goto (-34), 3) := by decide +kernel
theorem dX12_faults_87 : decode cX12_faults 87 = .ok (.iload_n 2, 1) := by decide +kernel
theorem dX12_faults_88 : decode cX12_faults 88 = .ok (.ifCond .ne 7, 3) := by decide +kernel
theorem dX12_faults_91 : decode cX12_faults 91 = .ok (.iload_n 3, 1) := by decide +kernel
theorem dX12_faults_92 : decode cX12_faults 92 = .ok (.goto 5, 3) := by decide +kernel
theorem dX12_faults_95 : decode cX12_faults 95 = .ok (.iload 4, 2) := by decide +kernel
theorem dX12_faults_97 : decode cX12_faults 97 = .ok (.ireturn, 1) := by decide +kernel
theorem dX12_faulty_0 : decode cX12_faulty 0 = .ok (.aload_n 0, 1) := by decide +kernel
theorem dX12_faulty_1 : decode cX12_faulty 1 = .ok (.getfield 232, 3) := by decide +kernel
theorem dX12_faulty_4 : decode cX12_faulty 4 = .ok (.iload_n 1, 1) := by decide +kernel
theorem dX12_faulty_5 : decode cX12_faulty 5 = .ok (.iaload, 1) := by decide +kernel
theorem dX12_faulty_6 : decode cX12_faulty 6 = .ok (.ifCond .ne 10, 3) := by decide +kernel
theorem dX12_faulty_9 : decode cX12_faulty 9 = .ok (.aload_n 0, 1) := by decide +kernel
theorem dX12_faulty_10 : decode cX12_faulty 10 = .ok (.getfield 232, 3) := by decide +kernel
theorem dX12_faulty_13 : decode cX12_faulty 13 = .ok (.iload_n 1, 1) := by decide +kernel
theorem dX12_faulty_14 : decode cX12_faulty 14 = .ok (.iload_n 2, 1) := by decide +kernel
theorem dX12_faulty_15 : decode cX12_faulty 15 = .ok (.iastore, 1) := by decide +kernel
theorem dX12_faulty_16 : decode cX12_faulty 16 = .ok (.return_, 1) := by decide +kernel
theorem dX12_feed_0 : decode cX12_feed 0 = .ok (.iload_n 3, 1) := by decide +kernel
theorem dX12_feed_1 : decode cX12_feed 1 = .ok (.iconst 1, 1) := by decide +kernel
theorem dX12_feed_2 : decode cX12_feed 2 = .ok (.if_icmp .lt 9, 3) := by decide +kernel
theorem dX12_feed_5 : decode cX12_feed 5 = .ok (.iload_n 3, 1) := by decide +kernel
theorem dX12_feed_6 : decode cX12_feed 6 = .ok (.bipush 8, 2) := by decide +kernel
theorem dX12_feed_8 : decode cX12_feed 8 = .ok (.if_icmp .le 6, 3) := by decide +kernel
theorem dX12_feed_11 : decode cX12_feed 11 = .ok (.bipush (-3), 2) := by decide +kernel
theorem dX12_feed_13 : decode cX12_feed 13 = .ok (.ireturn, 1) := by decide +kernel
theorem dX12_feed_14 : decode cX12_feed 14 = .ok (.aload_n 0, 1) := by decide +kernel
theorem dX12_feed_15 : decode cX12_feed 15 = .ok (.getfield 45, 3) := by decide +kernel
theorem dX12_feed_18 : decode cX12_feed 18 = .ok (.iload_n 3, 1) := by decide +kernel
theorem dX12_feed_19 : decode cX12_feed 19 = .ok (.iadd, 1) := by decide +kernel
theorem dX12_feed_20 : decode cX12_feed 20 = .ok (.sipush 3000, 3) := by decide +kernel
theorem dX12_feed_23 : decode cX12_feed 23 = .ok (.if_icmp .le 6, 3) := by decide +kernel
theorem dX12_feed_26 : decode cX12_feed 26 = .ok (.bipush (-2), 2) := by decide +kernel
theorem dX12_feed_28 : decode cX12_feed 28 = .ok (.ireturn, 1) := by decide +kernel
theorem dX12_feed_29 : decode cX12_feed 29 = .ok (.iload_n 3, 1) := by decide +kernel
theorem dX12_feed_30 : decode cX12_feed 30 = .ok (.iconst 1, 1) := by decide +kernel
theorem dX12_feed_31 : decode cX12_feed 31 = .ok (.isub, 1) := by decide +kernel
theorem dX12_feed_32 : decode cX12_feed 32 = .ok (.istore 4, 2) := by decide +kernel
theorem dX12_feed_34 : decode cX12_feed 34 = .ok (.iload 4, 2) := by decide +kernel
theorem dX12_feed_36 : decode cX12_feed 36 = .ok (.ifCond .lt 40, 3) := by decide +kernel
theorem dX12_feed_39 : decode cX12_feed 39 = .ok (.aload_n 0, 1) := by decide +kernel
theorem dX12_feed_40 : decode cX12_feed 40 = .ok (.getfield 42, 3) := by decide +kernel
theorem dX12_feed_43 : decode cX12_feed 43 = .ok (.aload_n 0, 1) := by decide +kernel
theorem dX12_feed_44 : decode cX12_feed 44 = .ok (.getfield 45, 3) := by decide +kernel
theorem dX12_feed_47 : decode cX12_feed 47 = .ok (.lload_n 1, 1) := by decide +kernel
theorem dX12_feed_48 : decode cX12_feed 48 = .ok (.bipush 8, 2) := by decide +kernel
theorem dX12_feed_50 : decode cX12_feed 50 = .ok (.iload 4, 2) := by decide +kernel
theorem dX12_feed_52 : decode cX12_feed 52 = .ok (.imul, 1) := by decide +kernel
theorem dX12_feed_53 : decode cX12_feed 53 = .ok (.lshr, 1) := by decide +kernel
theorem dX12_feed_54 : decode cX12_feed 54 = .ok (.ldc2_w 297, 3) := by decide +kernel
theorem dX12_feed_57 : decode cX12_feed 57 = .ok (.land, 1) := by decide +kernel
theorem dX12_feed_58 : decode cX12_feed 58 = .ok (.l2i, 1) := by decide +kernel
theorem dX12_feed_59 : decode cX12_feed 59 = .ok (.iastore, 1) := by decide +kernel
theorem dX12_feed_60 : decode cX12_feed 60 = .ok (.aload_n 0, 1) := by decide +kernel
theorem dX12_feed_61 : decode cX12_feed 61 = .ok (.dup, 1) := by decide +kernel
theorem dX12_feed_62 : decode cX12_feed 62 = .ok (.getfield 45, 3) := by decide +kernel
theorem dX12_feed_65 : decode cX12_feed 65 = .ok (.iconst 1, 1) := by decide +kernel
theorem dX12_feed_66 : decode cX12_feed 66 = .ok (.iadd, 1) := by decide +kernel
theorem dX12_feed_67 : decode cX12_feed 67 = .ok (.putfield 45, 3) := by decide +kernel
theorem dX12_feed_70 : decode cX12_feed 70 = .ok (.iinc 4 (-1), 3) := by decide +kernel
theorem dX12_feed_73 : decode cX12_feed 73 = .ok (.goto (-39), 3) := by decide +kernel
theorem dX12_feed_76 : decode cX12_feed 76 = .ok (.aload_n 0, 1) := by decide +kernel
theorem dX12_feed_77 : decode cX12_feed 77 = .ok (.getfield 45, 3) := by decide +kernel
theorem dX12_feed_80 : decode cX12_feed 80 = .ok (.ireturn, 1) := by decide +kernel
theorem dX12_field_0 : decode cX12_field 0 = .ok (.bipush 14, 2) := by decide +kernel
theorem dX12_field_2 : decode cX12_field 2 = .ok (.bipush 20, 2) := by decide +kernel
theorem dX12_field_4 : decode cX12_field 4 = .ok (.aload_n 0, 1) := by decide +kernel
theorem dX12_field_5 : decode cX12_field 5 = .ok (.getfield 173, 3) := by decide +kernel
theorem dX12_field_8 : decode cX12_field 8 = .ok (.imul, 1) := by decide +kernel
theorem dX12_field_9 : decode cX12_field 9 = .ok (.iload_n 1, 1) := by decide +kernel
theorem dX12_field_10 : decode cX12_field 10 = .ok (.iadd, 1) := by decide +kernel
theorem dX12_field_11 : decode cX12_field 11 = .ok (.imul, 1) := by decide +kernel
theorem dX12_field_12 : decode cX12_field 12 = .ok (.iload_n 2, 1) := by decide +kernel
theorem dX12_field_13 : decode cX12_field 13 = .ok (.iadd, 1) := by decide +kernel
theorem dX12_field_14 : decode cX12_field 14 = .ok (.ireturn, 1) := by decide +kernel
theorem dX12_fieldBegun_0 : decode cX12_fieldBegun 0 = .ok (.aload_n 0, 1) := by decide +kernel
theorem dX12_fieldBegun_1 : decode cX12_fieldBegun 1 = .ok (.getfield 223, 3) := by decide +kernel
theorem dX12_fieldBegun_4 : decode cX12_fieldBegun 4 = .ok (.iload_n 1, 1) := by decide +kernel
theorem dX12_fieldBegun_5 : decode cX12_fieldBegun 5 = .ok (.iaload, 1) := by decide +kernel
theorem dX12_fieldBegun_6 : decode cX12_fieldBegun 6 = .ok (.istore_n 3, 1) := by decide +kernel
theorem dX12_fieldBegun_7 : decode cX12_fieldBegun 7 = .ok (.aload_n 0, 1) := by decide +kernel
theorem dX12_fieldBegun_8 : decode cX12_fieldBegun 8 = .ok (.getfield 110, 3) := by decide +kernel
theorem dX12_fieldBegun_11 : decode cX12_fieldBegun 11 = .ok (.iload_n 2, 1) := by decide +kernel
theorem dX12_fieldBegun_12 : decode cX12_fieldBegun 12 = .ok (.iaload, 1) := by decide +kernel
theorem dX12_fieldBegun_13 : decode cX12_fieldBegun 13 = .ok (.ifCond .lt 54, 3) := by decide +kernel
theorem dX12_fieldBegun_16 : decode cX12_fieldBegun 16 = .ok (.aload_n 0, 1) := by decide +kernel
theorem dX12_fieldBegun_17 : decode cX12_fieldBegun 17 = .ok (.aload_n 0, 1) := by decide +kernel
theorem dX12_fieldBegun_18 : decode cX12_fieldBegun 18 = .ok (.getfield 110, 3) := by decide +kernel
theorem dX12_fieldBegun_21 : decode cX12_fieldBegun 21 = .ok (.iload_n 2, 1) := by decide +kernel
theorem dX12_fieldBegun_22 : decode cX12_fieldBegun 22 = .ok (.iaload, 1) := by decide +kernel
theorem dX12_fieldBegun_23 : decode cX12_fieldBegun 23 = .ok (.iload_n 1, 1) := by decide +kernel
theorem dX12_fieldBegun_24 : decode cX12_fieldBegun 24 = .ok (.iload_n 3, 1) := by decide +kernel
theorem dX12_fieldBegun_25 : decode cX12_fieldBegun 25 = .ok (.invokevirtual 608, 3) := by decide +kernel
theorem dX12_fieldBegun_28 : decode cX12_fieldBegun 28 = .ok (.lconst 0, 1) := by decide +kernel
theorem dX12_fieldBegun_29 : decode cX12_fieldBegun 29 = .ok (.lcmp, 1) := by decide +kernel
theorem dX12_fieldBegun_30 : decode cX12_fieldBegun 30 = .ok (.ifCond .eq 7, 3) := by decide +kernel
theorem dX12_fieldBegun_33 : decode cX12_fieldBegun 33 = .ok (.iconst 1, 1) := by decide +kernel
theorem dX12_fieldBegun_34 : decode cX12_fieldBegun 34 = .ok (.goto 4, 3) := by decide +kernel
theorem dX12_fieldBegun_37 : decode cX12_fieldBegun 37 = .ok (.iconst 0, 1) := by decide +kernel
theorem dX12_fieldBegun_38 : decode cX12_fieldBegun 38 = .ok (.istore 4, 2) := by decide +kernel
theorem dX12_fieldBegun_40 : decode cX12_fieldBegun 40 = .ok (.aload_n 0, 1) := by decide +kernel
theorem dX12_fieldBegun_41 : decode cX12_fieldBegun 41 = .ok (.getfield 274, 3) := by decide +kernel
theorem dX12_fieldBegun_44 : decode cX12_fieldBegun 44 = .ok (.ifCond .eq 10, 3) := by decide +kernel
theorem dX12_fieldBegun_47 : decode cX12_fieldBegun 47 = .ok (.aload_n 0, 1) := by decide +kernel
theorem dX12_fieldBegun_48 : decode cX12_fieldBegun 48 = .ok (.iload_n 1, 1) := by decide +kernel
theorem dX12_fieldBegun_49 : decode cX12_fieldBegun 49 = .ok (.bipush 6, 2) := by decide +kernel
theorem dX12_fieldBegun_51 : decode cX12_fieldBegun 51 = .ok (.invokevirtual 577, 3) := by decide +kernel
theorem dX12_fieldBegun_54 : decode cX12_fieldBegun 54 = .ok (.aload_n 0, 1) := by decide +kernel
theorem dX12_fieldBegun_55 : decode cX12_fieldBegun 55 = .ok (.getfield 274, 3) := by decide +kernel
theorem dX12_fieldBegun_58 : decode cX12_fieldBegun 58 = .ok (.ifCond .ne 8, 3) := by decide +kernel
theorem dX12_fieldBegun_61 : decode cX12_fieldBegun 61 = .ok (.iload 4, 2) := by decide +kernel
theorem dX12_fieldBegun_63 : decode cX12_fieldBegun 63 = .ok (.ifCond .ne 4, 3) := by decide +kernel
theorem dX12_fieldBegun_66 : decode cX12_fieldBegun 66 = .ok (.return_, 1) := by decide +kernel
theorem dX12_fieldBegun_67 : decode cX12_fieldBegun 67 = .ok (.aload_n 0, 1) := by decide +kernel
theorem dX12_fieldBegun_68 : decode cX12_fieldBegun 68 = .ok (.getfield 98, 3) := by decide +kernel
theorem dX12_fieldBegun_71 : decode cX12_fieldBegun 71 = .ok (.iload_n 2, 1) := by decide +kernel
theorem dX12_fieldBegun_72 : decode cX12_fieldBegun 72 = .ok (.iaload, 1) := by decide +kernel
theorem dX12_fieldBegun_73 : decode cX12_fieldBegun 73 = .ok (.iconst 2, 1) := by decide +kernel
theorem dX12_fieldBegun_74 : decode cX12_fieldBegun 74 = .ok (.if_icmp .ne 17, 3) := by decide +kernel
theorem dX12_fieldBegun_77 : decode cX12_fieldBegun 77 = .ok (.aload_n 0, 1) := by decide +kernel
theorem dX12_fieldBegun_78 : decode cX12_fieldBegun 78 = .ok (.aload_n 0, 1) := by decide +kernel
theorem dX12_fieldBegun_79 : decode cX12_fieldBegun 79 = .ok (.getfield 107, 3) := by decide +kernel
theorem dX12_fieldBegun_82 : decode cX12_fieldBegun 82 = .ok (.iload_n 2, 1) := by decide +kernel
theorem dX12_fieldBegun_83 : decode cX12_fieldBegun 83 = .ok (.iaload, 1) := by decide +kernel
theorem dX12_fieldBegun_84 : decode cX12_fieldBegun 84 = .ok (.iload_n 1, 1) := by decide +kernel
theorem dX12_fieldBegun_85 : decode cX12_fieldBegun 85 = .ok (.iload_n 3, 1) := by decide +kernel
theorem dX12_fieldBegun_86 : decode cX12_fieldBegun 86 = .ok (.iload_n 2, 1) := by decide +kernel
theorem dX12_fieldBegun_87 : decode cX12_fieldBegun 87 = .ok (.invokevirtual 590, 3) := by decide +kernel
theorem dX12_fieldBegun_90 : decode cX12_fieldBegun 90 = .ok (.return_, 1) := by decide +kernel
theorem dX12_fieldBegun_91 : decode cX12_fieldBegun 91 = .ok (.aload_n 0, 1) := by decide +kernel
theorem dX12_fieldBegun_92 : decode cX12_fieldBegun 92 = .ok (.getfield 98, 3) := by decide +kernel
theorem dX12_fieldBegun_95 : decode cX12_fieldBegun 95 = .ok (.iload_n 2, 1) := by decide +kernel
theorem dX12_fieldBegun_96 : decode cX12_fieldBegun 96 = .ok (.iaload, 1) := by decide +kernel
theorem dX12_fieldBegun_97 : decode cX12_fieldBegun 97 = .ok (.ifCond .ne 7, 3) := by decide +kernel
theorem dX12_fieldBegun_100 : decode cX12_fieldBegun 100 = .ok (.iconst 1, 1) := by decide +kernel
theorem dX12_fieldBegun_101 : decode cX12_fieldBegun 101 = .ok (.goto 132, 3) := by decide +kernel
theorem dX12_fieldBegun_104 : decode cX12_fieldBegun 104 = .ok (.aload_n 0, 1) := by decide +kernel
theorem dX12_fieldBegun_105 : decode cX12_fieldBegun 105 = .ok (.getfield 98, 3) := by decide +kernel
theorem dX12_fieldBegun_108 : decode cX12_fieldBegun 108 = .ok (.iload_n 2, 1) := by decide +kernel
theorem dX12_fieldBegun_109 : decode cX12_fieldBegun 109 = .ok (.iaload, 1) := by decide +kernel
theorem dX12_fieldBegun_110 : decode cX12_fieldBegun 110 = .ok (.iconst 1, 1) := by decide +kernel
theorem dX12_fieldBegun_111 : decode cX12_fieldBegun 111 = .ok (.if_icmp .eq 13, 3) := by decide +kernel
theorem dX12_fieldBegun_114 : decode cX12_fieldBegun 114 = .ok (.aload_n 0, 1) := by decide +kernel
theorem dX12_fieldBegun_115 : decode cX12_fieldBegun 115 = .ok (.getfield 98, 3) := by decide +kernel
theorem dX12_fieldBegun_118 : decode cX12_fieldBegun 118 = .ok (.iload_n 2, 1) := by decide +kernel
theorem dX12_fieldBegun_119 : decode cX12_fieldBegun 119 = .ok (.iaload, 1) := by decide +kernel
theorem dX12_fieldBegun_120 : decode cX12_fieldBegun 120 = .ok (.iconst 3, 1) := by decide +kernel
theorem dX12_fieldBegun_121 : decode cX12_fieldBegun 121 = .ok (.if_icmp .ne 7, 3) := by decide +kernel
theorem dX12_fieldBegun_124 : decode cX12_fieldBegun 124 = .ok (.iconst 2, 1) := by decide +kernel
theorem dX12_fieldBegun_125 : decode cX12_fieldBegun 125 = .ok (.goto 108, 3) := by decide +kernel
theorem dX12_fieldBegun_128 : decode cX12_fieldBegun 128 = .ok (.aload_n 0, 1) := by decide +kernel
theorem dX12_fieldBegun_129 : decode cX12_fieldBegun 129 = .ok (.getfield 98, 3) := by decide +kernel
theorem dX12_fieldBegun_132 : decode cX12_fieldBegun 132 = .ok (.iload_n 2, 1) := by decide +kernel
theorem dX12_fieldBegun_133 : decode cX12_fieldBegun 133 = .ok (.iaload, 1) := by decide +kernel
theorem dX12_fieldBegun_134 : decode cX12_fieldBegun 134 = .ok (.iconst 4, 1) := by decide +kernel
theorem dX12_fieldBegun_135 : decode cX12_fieldBegun 135 = .ok (.if_icmp .ne 7, 3) := by decide +kernel
theorem dX12_fieldBegun_138 : decode cX12_fieldBegun 138 = .ok (.iconst 3, 1) := by decide +kernel
theorem dX12_fieldBegun_139 : decode cX12_fieldBegun 139 = .ok (.goto 94, 3) := by decide +kernel
theorem dX12_fieldBegun_142 : decode cX12_fieldBegun 142 = .ok (.aload_n 0, 1) := by decide +kernel
theorem dX12_fieldBegun_143 : decode cX12_fieldBegun 143 = .ok (.getfield 98, 3) := by decide +kernel
theorem dX12_fieldBegun_146 : decode cX12_fieldBegun 146 = .ok (.iload_n 2, 1) := by decide +kernel
theorem dX12_fieldBegun_147 : decode cX12_fieldBegun 147 = .ok (.iaload, 1) := by decide +kernel
theorem dX12_fieldBegun_148 : decode cX12_fieldBegun 148 = .ok (.iconst 5, 1) := by decide +kernel
theorem dX12_fieldBegun_149 : decode cX12_fieldBegun 149 = .ok (.if_icmp .eq 14, 3) := by decide +kernel
theorem dX12_fieldBegun_152 : decode cX12_fieldBegun 152 = .ok (.aload_n 0, 1) := by decide +kernel
theorem dX12_fieldBegun_153 : decode cX12_fieldBegun 153 = .ok (.getfield 98, 3) := by decide +kernel
theorem dX12_fieldBegun_156 : decode cX12_fieldBegun 156 = .ok (.iload_n 2, 1) := by decide +kernel
theorem dX12_fieldBegun_157 : decode cX12_fieldBegun 157 = .ok (.iaload, 1) := by decide +kernel
theorem dX12_fieldBegun_158 : decode cX12_fieldBegun 158 = .ok (.bipush 6, 2) := by decide +kernel
theorem dX12_fieldBegun_160 : decode cX12_fieldBegun 160 = .ok (.if_icmp .ne 7, 3) := by decide +kernel
theorem dX12_fieldBegun_163 : decode cX12_fieldBegun 163 = .ok (.iconst 5, 1) := by decide +kernel
theorem dX12_fieldBegun_164 : decode cX12_fieldBegun 164 = .ok (.goto 69, 3) := by decide +kernel
theorem dX12_fieldBegun_167 : decode cX12_fieldBegun 167 = .ok (.aload_n 0, 1) := by decide +kernel
theorem dX12_fieldBegun_168 : decode cX12_fieldBegun 168 = .ok (.getfield 98, 3) := by decide +kernel
theorem dX12_fieldBegun_171 : decode cX12_fieldBegun 171 = .ok (.iload_n 2, 1) := by decide +kernel
theorem dX12_fieldBegun_172 : decode cX12_fieldBegun 172 = .ok (.iaload, 1) := by decide +kernel
theorem dX12_fieldBegun_173 : decode cX12_fieldBegun 173 = .ok (.bipush 7, 2) := by decide +kernel
theorem dX12_fieldBegun_175 : decode cX12_fieldBegun 175 = .ok (.if_icmp .ne 8, 3) := by decide +kernel
theorem dX12_fieldBegun_178 : decode cX12_fieldBegun 178 = .ok (.bipush 6, 2) := by decide +kernel
theorem dX12_fieldBegun_180 : decode cX12_fieldBegun 180 = .ok (.goto 53, 3) := by decide +kernel
theorem dX12_fieldBegun_183 : decode cX12_fieldBegun 183 = .ok (.aload_n 0, 1) := by decide +kernel
theorem dX12_fieldBegun_184 : decode cX12_fieldBegun 184 = .ok (.getfield 98, 3) := by decide +kernel
theorem dX12_fieldBegun_187 : decode cX12_fieldBegun 187 = .ok (.iload_n 2, 1) := by decide +kernel
theorem dX12_fieldBegun_188 : decode cX12_fieldBegun 188 = .ok (.iaload, 1) := by decide +kernel
theorem dX12_fieldBegun_189 : decode cX12_fieldBegun 189 = .ok (.bipush 8, 2) := by decide +kernel
theorem dX12_fieldBegun_191 : decode cX12_fieldBegun 191 = .ok (.if_icmp .ne 8, 3) := by decide +kernel
theorem dX12_fieldBegun_194 : decode cX12_fieldBegun 194 = .ok (.bipush 7, 2) := by decide +kernel
theorem dX12_fieldBegun_196 : decode cX12_fieldBegun 196 = .ok (.goto 37, 3) := by decide +kernel
theorem dX12_fieldBegun_199 : decode cX12_fieldBegun 199 = .ok (.aload_n 0, 1) := by decide +kernel
theorem dX12_fieldBegun_200 : decode cX12_fieldBegun 200 = .ok (.getfield 98, 3) := by decide +kernel
theorem dX12_fieldBegun_203 : decode cX12_fieldBegun 203 = .ok (.iload_n 2, 1) := by decide +kernel
theorem dX12_fieldBegun_204 : decode cX12_fieldBegun 204 = .ok (.iaload, 1) := by decide +kernel
theorem dX12_fieldBegun_205 : decode cX12_fieldBegun 205 = .ok (.bipush 9, 2) := by decide +kernel
theorem dX12_fieldBegun_207 : decode cX12_fieldBegun 207 = .ok (.if_icmp .ne 8, 3) := by decide +kernel
theorem dX12_fieldBegun_210 : decode cX12_fieldBegun 210 = .ok (.bipush 8, 2) := by decide +kernel
theorem dX12_fieldBegun_212 : decode cX12_fieldBegun 212 = .ok (.goto 21, 3) := by decide +kernel
theorem dX12_fieldBegun_215 : decode cX12_fieldBegun 215 = .ok (.aload_n 0, 1) := by decide +kernel
theorem dX12_fieldBegun_216 : decode cX12_fieldBegun 216 = .ok (.getfield 98, 3) := by decide +kernel
theorem dX12_fieldBegun_219 : decode cX12_fieldBegun 219 = .ok (.iload_n 2, 1) := by decide +kernel
theorem dX12_fieldBegun_220 : decode cX12_fieldBegun 220 = .ok (.iaload, 1) := by decide +kernel
theorem dX12_fieldBegun_221 : decode cX12_fieldBegun 221 = .ok (.bipush 10, 2) := by decide +kernel
theorem dX12_fieldBegun_223 : decode cX12_fieldBegun 223 = .ok (.if_icmp .ne 8, 3) := by decide +kernel
theorem dX12_fieldBegun_226 : decode cX12_fieldBegun 226 = .ok (.bipush 9, 2) := by decide +kernel
theorem dX12_fieldBegun_228 : decode cX12_fieldBegun 228 = .ok (.goto 5, 3) := by decide +kernel
theorem dX12_fieldBegun_231 : decode cX12_fieldBegun 231 = .ok (.bipush 10, 2) := by decide +kernel
theorem dX12_fieldBegun_233 : decode cX12_fieldBegun 233 = .ok (.istore 4, 2) := by decide +kernel
theorem dX12_fieldBegun_235 : decode cX12_fieldBegun 235 = .ok (.aload_n 0, 1) := by decide +kernel
theorem dX12_fieldBegun_236 : decode cX12_fieldBegun 236 = .ok (.iload 4, 2) := by decide +kernel
theorem dX12_fieldBegun_238 : decode cX12_fieldBegun 238 = .ok (.iload_n 1, 1) := by decide +kernel
theorem dX12_fieldBegun_239 : decode cX12_fieldBegun 239 = .ok (.iload_n 3, 1) := by decide +kernel
theorem dX12_fieldBegun_240 : decode cX12_fieldBegun 240 = .ok (.iload_n 2, 1) := by decide +kernel
theorem dX12_fieldBegun_241 : decode cX12_fieldBegun 241 = .ok (.invokevirtual 580, 3) := by decide +kernel
theorem dX12_fieldBegun_244 : decode cX12_fieldBegun 244 = .ok (.istore 5, 2) := by decide +kernel
theorem dX12_fieldBegun_246 : decode cX12_fieldBegun 246 = .ok (.aload_n 0, 1) := by decide +kernel
theorem dX12_fieldBegun_247 : decode cX12_fieldBegun 247 = .ok (.getfield 262, 3) := by decide +kernel
theorem dX12_fieldBegun_250 : decode cX12_fieldBegun 250 = .ok (.ifCond .eq 4, 3) := by decide +kernel
theorem dX12_fieldBegun_253 : decode cX12_fieldBegun 253 = .ok (.return_, 1) := by decide +kernel
theorem dX12_fieldBegun_254 : decode cX12_fieldBegun 254 = .ok (.aload_n 0, 1) := by decide +kernel
theorem dX12_fieldBegun_255 : decode cX12_fieldBegun 255 = .ok (.getfield 271, 3) := by decide +kernel
theorem dX12_fieldBegun_258 : decode cX12_fieldBegun 258 = .ok (.istore 6, 2) := by decide +kernel
theorem dX12_fieldBegun_260 : decode cX12_fieldBegun 260 = .ok (.aload_n 0, 1) := by decide +kernel
theorem dX12_fieldBegun_261 : decode cX12_fieldBegun 261 = .ok (.iload 5, 2) := by decide +kernel
theorem dX12_fieldBegun_263 : decode cX12_fieldBegun 263 = .ok (.iload_n 2, 1) := by decide +kernel
theorem dX12_fieldBegun_264 : decode cX12_fieldBegun 264 = .ok (.iload_n 1, 1) := by decide +kernel
theorem dX12_fieldBegun_265 : decode cX12_fieldBegun 265 = .ok (.invokevirtual 612, 3) := by decide +kernel
theorem dX12_fieldBegun_268 : decode cX12_fieldBegun 268 = .ok (.istore 7, 2) := by decide +kernel
theorem dX12_fieldBegun_270 : decode cX12_fieldBegun 270 = .ok (.iload 7, 2) := by decide +kernel
theorem dX12_fieldBegun_272 : decode cX12_fieldBegun 272 = .ok (.ifCond .ne 7, 3) := by decide +kernel
theorem dX12_fieldBegun_275 : decode cX12_fieldBegun 275 = .ok (.aload_n 0, 1) := by decide +kernel
theorem dX12_fieldBegun_276 : decode cX12_fieldBegun 276 = .ok (.invokevirtual 605, 3) := by decide +kernel
theorem dX12_fieldBegun_279 : decode cX12_fieldBegun 279 = .ok (.aload_n 0, 1) := by decide +kernel
theorem dX12_fieldBegun_280 : decode cX12_fieldBegun 280 = .ok (.getfield 271, 3) := by decide +kernel
theorem dX12_fieldBegun_283 : decode cX12_fieldBegun 283 = .ok (.iload 6, 2) := by decide +kernel
theorem dX12_fieldBegun_285 : decode cX12_fieldBegun 285 = .ok (.if_icmp .ne 16, 3) := by decide +kernel
theorem dX12_fieldBegun_288 : decode cX12_fieldBegun 288 = .ok (.aload_n 0, 1) := by decide +kernel
theorem dX12_fieldBegun_289 : decode cX12_fieldBegun 289 = .ok (.getfield 223, 3) := by decide +kernel
theorem dX12_fieldBegun_292 : decode cX12_fieldBegun 292 = .ok (.iload_n 1, 1) := by decide +kernel
theorem dX12_fieldBegun_293 : decode cX12_fieldBegun 293 = .ok (.aload_n 0, 1) := by decide +kernel
theorem dX12_fieldBegun_294 : decode cX12_fieldBegun 294 = .ok (.getfield 223, 3) := by decide +kernel
theorem dX12_fieldBegun_297 : decode cX12_fieldBegun 297 = .ok (.iload 5, 2) := by decide +kernel
theorem dX12_fieldBegun_299 : decode cX12_fieldBegun 299 = .ok (.iaload, 1) := by decide +kernel
theorem dX12_fieldBegun_300 : decode cX12_fieldBegun 300 = .ok (.iastore, 1) := by decide +kernel
theorem dX12_fieldBegun_301 : decode cX12_fieldBegun 301 = .ok (.return_, 1) := by decide +kernel
theorem dX12_figure_0 : decode cX12_figure 0 = .ok (.iload_n 1, 1) := by decide +kernel
theorem dX12_figure_1 : decode cX12_figure 1 = .ok (.bipush 10, 2) := by decide +kernel
theorem dX12_figure_3 : decode cX12_figure 3 = .ok (.if_icmp .ge 10, 3) := by decide +kernel
theorem dX12_figure_6 : decode cX12_figure 6 = .ok (.bipush 48, 2) := by decide +kernel
theorem dX12_figure_8 : decode cX12_figure 8 = .ok (.iload_n 1, 1) := by decide +kernel
theorem dX12_figure_9 : decode cX12_figure 9 = .ok (.iadd, 1) := by decide +kernel
theorem dX12_figure_10 : decode cX12_figure 10 = .ok (.goto 10, 3) := by decide +kernel
theorem dX12_figure_13 : decode cX12_figure 13 = .ok (.bipush 97, 2) := by decide +kernel
theorem dX12_figure_15 : decode cX12_figure 15 = .ok (.iload_n 1, 1) := by decide +kernel
theorem dX12_figure_16 : decode cX12_figure 16 = .ok (.iadd, 1) := by decide +kernel
theorem dX12_figure_17 : decode cX12_figure 17 = .ok (.bipush 10, 2) := by decide +kernel
theorem dX12_figure_19 : decode cX12_figure 19 = .ok (.isub, 1) := by decide +kernel
theorem dX12_figure_20 : decode cX12_figure 20 = .ok (.ireturn, 1) := by decide +kernel
theorem dX12_filled_0 : decode cX12_filled 0 = .ok (.aload_n 0, 1) := by decide +kernel
theorem dX12_filled_1 : decode cX12_filled 1 = .ok (.getfield 98, 3) := by decide +kernel
theorem dX12_filled_4 : decode cX12_filled 4 = .ok (.iload_n 2, 1) := by decide +kernel
theorem dX12_filled_5 : decode cX12_filled 5 = .ok (.iaload, 1) := by decide +kernel
theorem dX12_filled_6 : decode cX12_filled 6 = .ok (.tableswitch 135 1 10 #[54, 135, 54, 135, 63, 71, 78, 135, 87, 128], 54) := by decide +kernel
theorem dX12_filled_60 : decode cX12_filled 60 = .ok (.aload_n 0, 1) := by decide +kernel
theorem dX12_filled_61 : decode cX12_filled 61 = .ok (.iload_n 1, 1) := by decide +kernel
theorem dX12_filled_62 : decode cX12_filled 62 = .ok (.iload_n 2, 1) := by decide +kernel
theorem dX12_filled_63 : decode cX12_filled 63 = .ok (.iload_n 3, 1) := by decide +kernel
theorem dX12_filled_64 : decode cX12_filled 64 = .ok (.invokevirtual 616, 3) := by decide +kernel
theorem dX12_filled_67 : decode cX12_filled 67 = .ok (.iconst 1, 1) := by decide +kernel
theorem dX12_filled_68 : decode cX12_filled 68 = .ok (.ireturn, 1) := by decide +kernel
theorem dX12_filled_69 : decode cX12_filled 69 = .ok (.aload_n 0, 1) := by decide +kernel
theorem dX12_filled_70 : decode cX12_filled 70 = .ok (.iload_n 1, 1) := by decide +kernel
theorem dX12_filled_71 : decode cX12_filled 71 = .ok (.iload_n 2, 1) := by decide +kernel
theorem dX12_filled_72 : decode cX12_filled 72 = .ok (.iload_n 3, 1) := by decide +kernel
theorem dX12_filled_73 : decode cX12_filled 73 = .ok (.invokevirtual 619, 3) := by decide +kernel
theorem dX12_filled_76 : decode cX12_filled 76 = .ok (.ireturn, 1) := by decide +kernel
theorem dX12_filled_77 : decode cX12_filled 77 = .ok (.aload_n 0, 1) := by decide +kernel
theorem dX12_filled_78 : decode cX12_filled 78 = .ok (.iload_n 1, 1) := by decide +kernel
theorem dX12_filled_79 : decode cX12_filled 79 = .ok (.iload_n 2, 1) := by decide +kernel
theorem dX12_filled_80 : decode cX12_filled 80 = .ok (.invokevirtual 622, 3) := by decide +kernel
theorem dX12_filled_83 : decode cX12_filled 83 = .ok (.ireturn, 1) := by decide +kernel
theorem dX12_filled_84 : decode cX12_filled 84 = .ok (.aload_n 0, 1) := by decide +kernel
theorem dX12_filled_85 : decode cX12_filled 85 = .ok (.iload_n 1, 1) := by decide +kernel
theorem dX12_filled_86 : decode cX12_filled 86 = .ok (.iload_n 2, 1) := by decide +kernel
theorem dX12_filled_87 : decode cX12_filled 87 = .ok (.iload_n 3, 1) := by decide +kernel
theorem dX12_filled_88 : decode cX12_filled 88 = .ok (.invokevirtual 625, 3) := by decide +kernel
theorem dX12_filled_91 : decode cX12_filled 91 = .ok (.iconst 1, 1) := by decide +kernel
theorem dX12_filled_92 : decode cX12_filled 92 = .ok (.ireturn, 1) := by decide +kernel
theorem dX12_filled_93 : decode cX12_filled 93 = .ok (.aload_n 0, 1) := by decide +kernel
theorem dX12_filled_94 : decode cX12_filled 94 = .ok (.iload_n 1, 1) := by decide +kernel
theorem dX12_filled_95 : decode cX12_filled 95 = .ok (.aload_n 0, 1) := by decide +kernel
theorem dX12_filled_96 : decode cX12_filled 96 = .ok (.getfield 119, 3) := by decide +kernel
theorem dX12_filled_99 : decode cX12_filled 99 = .ok (.iload_n 2, 1) := by decide +kernel
theorem dX12_filled_100 : decode cX12_filled 100 = .ok (.iaload, 1) := by decide +kernel
theorem dX12_filled_101 : decode cX12_filled 101 = .ok (.aload_n 0, 1) := by decide +kernel
theorem dX12_filled_102 : decode cX12_filled 102 = .ok (.getfield 220, 3) := by decide +kernel
theorem dX12_filled_105 : decode cX12_filled 105 = .ok (.iload_n 1, 1) := by decide +kernel
theorem dX12_filled_106 : decode cX12_filled 106 = .ok (.iaload, 1) := by decide +kernel
theorem dX12_filled_107 : decode cX12_filled 107 = .ok (.aload_n 0, 1) := by decide +kernel
theorem dX12_filled_108 : decode cX12_filled 108 = .ok (.getfield 220, 3) := by decide +kernel
theorem dX12_filled_111 : decode cX12_filled 111 = .ok (.iload_n 3, 1) := by decide +kernel
theorem dX12_filled_112 : decode cX12_filled 112 = .ok (.iaload, 1) := by decide +kernel
theorem dX12_filled_113 : decode cX12_filled 113 = .ok (.isub, 1) := by decide +kernel
theorem dX12_filled_114 : decode cX12_filled 114 = .ok (.aload_n 0, 1) := by decide +kernel
theorem dX12_filled_115 : decode cX12_filled 115 = .ok (.getfield 119, 3) := by decide +kernel
theorem dX12_filled_118 : decode cX12_filled 118 = .ok (.iload_n 2, 1) := by decide +kernel
theorem dX12_filled_119 : decode cX12_filled 119 = .ok (.iaload, 1) := by decide +kernel
theorem dX12_filled_120 : decode cX12_filled 120 = .ok (.irem, 1) := by decide +kernel
theorem dX12_filled_121 : decode cX12_filled 121 = .ok (.isub, 1) := by decide +kernel
theorem dX12_filled_122 : decode cX12_filled 122 = .ok (.aload_n 0, 1) := by decide +kernel
theorem dX12_filled_123 : decode cX12_filled 123 = .ok (.getfield 119, 3) := by decide +kernel
theorem dX12_filled_126 : decode cX12_filled 126 = .ok (.iload_n 2, 1) := by decide +kernel
theorem dX12_filled_127 : decode cX12_filled 127 = .ok (.iaload, 1) := by decide +kernel
theorem dX12_filled_128 : decode cX12_filled 128 = .ok (.irem, 1) := by decide +kernel
theorem dX12_filled_129 : decode cX12_filled 129 = .ok (.i2l, 1) := by decide +kernel
theorem dX12_filled_130 : decode cX12_filled 130 = .ok (.invokevirtual 602, 3) := by decide +kernel
theorem dX12_filled_133 : decode cX12_filled 133 = .ok (.ireturn, 1) := by decide +kernel
theorem dX12_filled_134 : decode cX12_filled 134 = .ok (.aload_n 0, 1) := by decide +kernel
theorem dX12_filled_135 : decode cX12_filled 135 = .ok (.iload_n 1, 1) := by decide +kernel
theorem dX12_filled_136 : decode cX12_filled 136 = .ok (.iload_n 2, 1) := by decide +kernel
theorem dX12_filled_137 : decode cX12_filled 137 = .ok (.invokevirtual 628, 3) := by decide +kernel
theorem dX12_filled_140 : decode cX12_filled 140 = .ok (.ireturn, 1) := by decide +kernel
theorem dX12_filled_141 : decode cX12_filled 141 = .ok (.aload_n 0, 1) := by decide +kernel
theorem dX12_filled_142 : decode cX12_filled 142 = .ok (.iload_n 1, 1) := by decide +kernel
theorem dX12_filled_143 : decode cX12_filled 143 = .ok (.aload_n 0, 1) := by decide +kernel
theorem dX12_filled_144 : decode cX12_filled 144 = .ok (.getfield 101, 3) := by decide +kernel
theorem dX12_filled_147 : decode cX12_filled 147 = .ok (.iload_n 2, 1) := by decide +kernel
theorem dX12_filled_148 : decode cX12_filled 148 = .ok (.iaload, 1) := by decide +kernel
theorem dX12_filled_149 : decode cX12_filled 149 = .ok (.bipush 15, 2) := by decide +kernel
theorem dX12_filled_151 : decode cX12_filled 151 = .ok (.iand, 1) := by decide +kernel
theorem dX12_filled_152 : decode cX12_filled 152 = .ok (.i2l, 1) := by decide +kernel
theorem dX12_filled_153 : decode cX12_filled 153 = .ok (.invokevirtual 602, 3) := by decide +kernel
theorem dX12_filled_156 : decode cX12_filled 156 = .ok (.ifCond .ne 5, 3) := by decide +kernel
theorem dX12_filled_159 : decode cX12_filled 159 = .ok (.iconst 0, 1) := by decide +kernel
theorem dX12_filled_160 : decode cX12_filled 160 = .ok (.ireturn, 1) := by decide +kernel
theorem dX12_filled_161 : decode cX12_filled 161 = .ok (.aload_n 0, 1) := by decide +kernel
theorem dX12_filled_162 : decode cX12_filled 162 = .ok (.getfield 98, 3) := by decide +kernel
theorem dX12_filled_165 : decode cX12_filled 165 = .ok (.iload_n 2, 1) := by decide +kernel
theorem dX12_filled_166 : decode cX12_filled 166 = .ok (.iaload, 1) := by decide +kernel
theorem dX12_filled_167 : decode cX12_filled 167 = .ok (.iconst 4, 1) := by decide +kernel
theorem dX12_filled_168 : decode cX12_filled 168 = .ok (.if_icmp .ne 12, 3) := by decide +kernel
theorem dX12_filled_171 : decode cX12_filled 171 = .ok (.aload_n 0, 1) := by decide +kernel
theorem dX12_filled_172 : decode cX12_filled 172 = .ok (.iload_n 1, 1) := by decide +kernel
theorem dX12_filled_173 : decode cX12_filled 173 = .ok (.iload_n 2, 1) := by decide +kernel
theorem dX12_filled_174 : decode cX12_filled 174 = .ok (.invokevirtual 631, 3) := by decide +kernel
theorem dX12_filled_177 : decode cX12_filled 177 = .ok (.goto 69, 3) := by decide +kernel
theorem dX12_filled_180 : decode cX12_filled 180 = .ok (.aload_n 0, 1) := by decide +kernel
theorem dX12_filled_181 : decode cX12_filled 181 = .ok (.getfield 98, 3) := by decide +kernel
theorem dX12_filled_184 : decode cX12_filled 184 = .ok (.iload_n 2, 1) := by decide +kernel
theorem dX12_filled_185 : decode cX12_filled 185 = .ok (.iaload, 1) := by decide +kernel
theorem dX12_filled_186 : decode cX12_filled 186 = .ok (.bipush 8, 2) := by decide +kernel
theorem dX12_filled_188 : decode cX12_filled 188 = .ok (.if_icmp .ne 13, 3) := by decide +kernel
theorem dX12_filled_191 : decode cX12_filled 191 = .ok (.aload_n 0, 1) := by decide +kernel
theorem dX12_filled_192 : decode cX12_filled 192 = .ok (.iload_n 1, 1) := by decide +kernel
theorem dX12_filled_193 : decode cX12_filled 193 = .ok (.iload_n 2, 1) := by decide +kernel
theorem dX12_filled_194 : decode cX12_filled 194 = .ok (.iload_n 3, 1) := by decide +kernel
theorem dX12_filled_195 : decode cX12_filled 195 = .ok (.invokevirtual 634, 3) := by decide +kernel
theorem dX12_filled_198 : decode cX12_filled 198 = .ok (.goto 48, 3) := by decide +kernel
theorem dX12_filled_201 : decode cX12_filled 201 = .ok (.aload_n 0, 1) := by decide +kernel
theorem dX12_filled_202 : decode cX12_filled 202 = .ok (.getfield 98, 3) := by decide +kernel
theorem dX12_filled_205 : decode cX12_filled 205 = .ok (.iload_n 2, 1) := by decide +kernel
theorem dX12_filled_206 : decode cX12_filled 206 = .ok (.iaload, 1) := by decide +kernel
theorem dX12_filled_207 : decode cX12_filled 207 = .ok (.bipush 11, 2) := by decide +kernel
theorem dX12_filled_209 : decode cX12_filled 209 = .ok (.if_icmp .ne 13, 3) := by decide +kernel
theorem dX12_filled_212 : decode cX12_filled 212 = .ok (.aload_n 0, 1) := by decide +kernel
theorem dX12_filled_213 : decode cX12_filled 213 = .ok (.iload_n 1, 1) := by decide +kernel
theorem dX12_filled_214 : decode cX12_filled 214 = .ok (.iload_n 2, 1) := by decide +kernel
theorem dX12_filled_215 : decode cX12_filled 215 = .ok (.iload_n 3, 1) := by decide +kernel
theorem dX12_filled_216 : decode cX12_filled 216 = .ok (.invokevirtual 637, 3) := by decide +kernel
theorem dX12_filled_219 : decode cX12_filled 219 = .ok (.goto 27, 3) := by decide +kernel
theorem dX12_filled_222 : decode cX12_filled 222 = .ok (.aload_n 0, 1) := by decide +kernel
theorem dX12_filled_223 : decode cX12_filled 223 = .ok (.getfield 104, 3) := by decide +kernel
theorem dX12_filled_226 : decode cX12_filled 226 = .ok (.iload_n 2, 1) := by decide +kernel
theorem dX12_filled_227 : decode cX12_filled 227 = .ok (.iaload, 1) := by decide +kernel
theorem dX12_filled_228 : decode cX12_filled 228 = .ok (.ifCond .lt 18, 3) := by decide +kernel
theorem dX12_filled_231 : decode cX12_filled 231 = .ok (.aload_n 0, 1) := by decide +kernel
theorem dX12_filled_232 : decode cX12_filled 232 = .ok (.iload_n 1, 1) := by decide +kernel
theorem dX12_filled_233 : decode cX12_filled 233 = .ok (.iload_n 2, 1) := by decide +kernel
theorem dX12_filled_234 : decode cX12_filled 234 = .ok (.invokevirtual 640, 3) := by decide +kernel
theorem dX12_filled_237 : decode cX12_filled 237 = .ok (.ifCond .ge 9, 3) := by decide +kernel
theorem dX12_filled_240 : decode cX12_filled 240 = .ok (.aload_n 0, 1) := by decide +kernel
theorem dX12_filled_241 : decode cX12_filled 241 = .ok (.iload_n 1, 1) := by decide +kernel
theorem dX12_filled_242 : decode cX12_filled 242 = .ok (.iconst 4, 1) := by decide +kernel
theorem dX12_filled_243 : decode cX12_filled 243 = .ok (.invokevirtual 577, 3) := by decide +kernel
theorem dX12_filled_246 : decode cX12_filled 246 = .ok (.iconst 1, 1) := by decide +kernel
theorem dX12_filled_247 : decode cX12_filled 247 = .ok (.ireturn, 1) := by decide +kernel
theorem dX12_find_0 : decode cX12_find 0 = .ok (.aload_n 0, 1) := by decide +kernel
theorem dX12_find_1 : decode cX12_find 1 = .ok (.iload_n 1, 1) := by decide +kernel
theorem dX12_find_2 : decode cX12_find 2 = .ok (.iconst 0, 1) := by decide +kernel
theorem dX12_find_3 : decode cX12_find 3 = .ok (.invokevirtual 688, 3) := by decide +kernel
theorem dX12_find_6 : decode cX12_find 6 = .ok (.ifCond .ne 5, 3) := by decide +kernel
theorem dX12_find_9 : decode cX12_find 9 = .ok (.iconst (-1), 1) := by decide +kernel
theorem dX12_find_10 : decode cX12_find 10 = .ok (.ireturn, 1) := by decide +kernel
theorem dX12_find_11 : decode cX12_find 11 = .ok (.sipush 400, 3) := by decide +kernel
theorem dX12_find_14 : decode cX12_find 14 = .ok (.iload_n 1, 1) := by decide +kernel
theorem dX12_find_15 : decode cX12_find 15 = .ok (.imul, 1) := by decide +kernel
theorem dX12_find_16 : decode cX12_find 16 = .ok (.istore_n 2, 1) := by decide +kernel
theorem dX12_find_17 : decode cX12_find 17 = .ok (.iconst 0, 1) := by decide +kernel
theorem dX12_find_18 : decode cX12_find 18 = .ok (.istore_n 3, 1) := by decide +kernel
theorem dX12_find_19 : decode cX12_find 19 = .ok (.aload_n 0, 1) := by decide +kernel
theorem dX12_find_20 : decode cX12_find 20 = .ok (.iconst 0, 1) := by decide +kernel
theorem dX12_find_21 : decode cX12_find 21 = .ok (.putfield 57, 3) := by decide +kernel
theorem dX12_find_24 : decode cX12_find 24 = .ok (.aload_n 0, 1) := by decide +kernel
theorem dX12_find_25 : decode cX12_find 25 = .ok (.invokevirtual 408, 3) := by decide +kernel
theorem dX12_find_28 : decode cX12_find 28 = .ok (.aload_n 0, 1) := by decide +kernel
theorem dX12_find_29 : decode cX12_find 29 = .ok (.getfield 51, 3) := by decide +kernel
theorem dX12_find_32 : decode cX12_find 32 = .ok (.ifCond .eq 108, 3) := by decide +kernel
theorem dX12_find_35 : decode cX12_find 35 = .ok (.iconst (-1), 1) := by decide +kernel
theorem dX12_find_36 : decode cX12_find 36 = .ok (.istore 4, 2) := by decide +kernel
theorem dX12_find_38 : decode cX12_find 38 = .ok (.aload_n 0, 1) := by decide +kernel
theorem dX12_find_39 : decode cX12_find 39 = .ok (.getfield 51, 3) := by decide +kernel
theorem dX12_find_42 : decode cX12_find 42 = .ok (.iconst 2, 1) := by decide +kernel
theorem dX12_find_43 : decode cX12_find 43 = .ok (.if_icmp .ne 14, 3) := by decide +kernel
theorem dX12_find_46 : decode cX12_find 46 = .ok (.aload_n 0, 1) := by decide +kernel
theorem dX12_find_47 : decode cX12_find 47 = .ok (.iload_n 2, 1) := by decide +kernel
theorem dX12_find_48 : decode cX12_find 48 = .ok (.aload_n 0, 1) := by decide +kernel
theorem dX12_find_49 : decode cX12_find 49 = .ok (.getfield 64, 3) := by decide +kernel
theorem dX12_find_52 : decode cX12_find 52 = .ok (.invokevirtual 694, 3) := by decide +kernel
theorem dX12_find_55 : decode cX12_find 55 = .ok (.istore 4, 2) := by decide +kernel
theorem dX12_find_57 : decode cX12_find 57 = .ok (.aload_n 0, 1) := by decide +kernel
theorem dX12_find_58 : decode cX12_find 58 = .ok (.getfield 244, 3) := by decide +kernel
theorem dX12_find_61 : decode cX12_find 61 = .ok (.iload_n 2, 1) := by decide +kernel
theorem dX12_find_62 : decode cX12_find 62 = .ok (.iaload, 1) := by decide +kernel
theorem dX12_find_63 : decode cX12_find 63 = .ok (.istore 5, 2) := by decide +kernel
theorem dX12_find_65 : decode cX12_find 65 = .ok (.iload 5, 2) := by decide +kernel
theorem dX12_find_67 : decode cX12_find 67 = .ok (.ifCond .lt 45, 3) := by decide +kernel
theorem dX12_find_70 : decode cX12_find 70 = .ok (.iload 4, 2) := by decide +kernel
theorem dX12_find_72 : decode cX12_find 72 = .ok (.ifCond .ge 40, 3) := by decide +kernel
theorem dX12_find_75 : decode cX12_find 75 = .ok (.aload_n 0, 1) := by decide +kernel
theorem dX12_find_76 : decode cX12_find 76 = .ok (.invokevirtual 418, 3) := by decide +kernel
theorem dX12_find_79 : decode cX12_find 79 = .ok (.ifCond .eq 33, 3) := by decide +kernel
theorem dX12_find_82 : decode cX12_find 82 = .ok (.aload_n 0, 1) := by decide +kernel
theorem dX12_find_83 : decode cX12_find 83 = .ok (.iload 5, 2) := by decide +kernel
theorem dX12_find_85 : decode cX12_find 85 = .ok (.invokevirtual 698, 3) := by decide +kernel
theorem dX12_find_88 : decode cX12_find 88 = .ok (.aload_n 0, 1) := by decide +kernel
theorem dX12_find_89 : decode cX12_find 89 = .ok (.getfield 60, 3) := by decide +kernel
theorem dX12_find_92 : decode cX12_find 92 = .ok (.lcmp, 1) := by decide +kernel
theorem dX12_find_93 : decode cX12_find 93 = .ok (.ifCond .ne 7, 3) := by decide +kernel
theorem dX12_find_96 : decode cX12_find 96 = .ok (.iload 5, 2) := by decide +kernel
theorem dX12_find_98 : decode cX12_find 98 = .ok (.istore 4, 2) := by decide +kernel
theorem dX12_find_100 : decode cX12_find 100 = .ok (.aload_n 0, 1) := by decide +kernel
theorem dX12_find_101 : decode cX12_find 101 = .ok (.getfield 250, 3) := by decide +kernel
theorem dX12_find_104 : decode cX12_find 104 = .ok (.iload 5, 2) := by decide +kernel
theorem dX12_find_106 : decode cX12_find 106 = .ok (.iaload, 1) := by decide +kernel
theorem dX12_find_107 : decode cX12_find 107 = .ok (.istore 5, 2) := by decide +kernel
theorem dX12_find_109 : decode cX12_find 109 = .ok (.goto (-44), 3) := by decide +kernel
theorem dX12_find_112 : decode cX12_find 112 = .ok (.iload 4, 2) := by decide +kernel
theorem dX12_find_114 : decode cX12_find 114 = .ok (.ifCond .ge 13, 3) := by decide +kernel
theorem dX12_find_117 : decode cX12_find 117 = .ok (.aload_n 0, 1) := by decide +kernel
theorem dX12_find_118 : decode cX12_find 118 = .ok (.iconst 0, 1) := by decide +kernel
theorem dX12_find_119 : decode cX12_find 119 = .ok (.putfield 45, 3) := by decide +kernel
theorem dX12_find_122 : decode cX12_find 122 = .ok (.bipush (-10), 2) := by decide +kernel
theorem dX12_find_124 : decode cX12_find 124 = .ok (.iload_n 3, 1) := by decide +kernel
theorem dX12_find_125 : decode cX12_find 125 = .ok (.isub, 1) := by decide +kernel
theorem dX12_find_126 : decode cX12_find 126 = .ok (.ireturn, 1) := by decide +kernel
theorem dX12_find_127 : decode cX12_find 127 = .ok (.iload 4, 2) := by decide +kernel
theorem dX12_find_129 : decode cX12_find 129 = .ok (.istore_n 2, 1) := by decide +kernel
theorem dX12_find_130 : decode cX12_find 130 = .ok (.iinc 3 1, 3) := by decide +kernel
theorem dX12_find_133 : decode cX12_find 133 = .ok (.aload_n 0, 1) := by decide +kernel
theorem dX12_find_134 : decode cX12_find 134 = .ok (.invokevirtual 408, 3) := by decide +kernel
theorem dX12_find_137 : decode cX12_find 137 = .ok (.goto (-109), 3) := by decide +kernel
theorem dX12_find_140 : decode cX12_find 140 = .ok (.aload_n 0, 1) := by decide +kernel
theorem dX12_find_141 : decode cX12_find 141 = .ok (.iconst 0, 1) := by decide +kernel
theorem dX12_find_142 : decode cX12_find 142 = .ok (.putfield 45, 3) := by decide +kernel
theorem dX12_find_145 : decode cX12_find 145 = .ok (.aload_n 0, 1) := by decide +kernel
theorem dX12_find_146 : decode cX12_find 146 = .ok (.iload_n 2, 1) := by decide +kernel
theorem dX12_find_147 : decode cX12_find 147 = .ok (.invokevirtual 691, 3) := by decide +kernel
theorem dX12_find_150 : decode cX12_find 150 = .ok (.ireturn, 1) := by decide +kernel
theorem dX12_fix_0 : decode cX12_fix 0 = .ok (.aload_n 0, 1) := by decide +kernel
theorem dX12_fix_1 : decode cX12_fix 1 = .ok (.iload_n 1, 1) := by decide +kernel
theorem dX12_fix_2 : decode cX12_fix 2 = .ok (.iload_n 2, 1) := by decide +kernel
theorem dX12_fix_3 : decode cX12_fix 3 = .ok (.invokevirtual 688, 3) := by decide +kernel
theorem dX12_fix_6 : decode cX12_fix 6 = .ok (.ifCond .ne 5, 3) := by decide +kernel
theorem dX12_fix_9 : decode cX12_fix 9 = .ok (.iconst (-1), 1) := by decide +kernel
theorem dX12_fix_10 : decode cX12_fix 10 = .ok (.ireturn, 1) := by decide +kernel
theorem dX12_fix_11 : decode cX12_fix 11 = .ok (.sipush 400, 3) := by decide +kernel
theorem dX12_fix_14 : decode cX12_fix 14 = .ok (.iload_n 1, 1) := by decide +kernel
theorem dX12_fix_15 : decode cX12_fix 15 = .ok (.imul, 1) := by decide +kernel
theorem dX12_fix_16 : decode cX12_fix 16 = .ok (.iload_n 2, 1) := by decide +kernel
theorem dX12_fix_17 : decode cX12_fix 17 = .ok (.iadd, 1) := by decide +kernel
theorem dX12_fix_18 : decode cX12_fix 18 = .ok (.istore_n 3, 1) := by decide +kernel
theorem dX12_fix_19 : decode cX12_fix 19 = .ok (.aload_n 0, 1) := by decide +kernel
theorem dX12_fix_20 : decode cX12_fix 20 = .ok (.getfield 217, 3) := by decide +kernel
theorem dX12_fix_23 : decode cX12_fix 23 = .ok (.iload_n 3, 1) := by decide +kernel
theorem dX12_fix_24 : decode cX12_fix 24 = .ok (.iaload, 1) := by decide +kernel
theorem dX12_fix_25 : decode cX12_fix 25 = .ok (.bipush 10, 2) := by decide +kernel
theorem dX12_fix_27 : decode cX12_fix 27 = .ok (.if_icmp .eq 6, 3) := by decide +kernel
theorem dX12_fix_30 : decode cX12_fix 30 = .ok (.bipush (-4), 2) := by decide +kernel
theorem dX12_fix_32 : decode cX12_fix 32 = .ok (.ireturn, 1) := by decide +kernel
theorem dX12_fix_33 : decode cX12_fix 33 = .ok (.aload_n 0, 1) := by decide +kernel
theorem dX12_fix_34 : decode cX12_fix 34 = .ok (.getfield 232, 3) := by decide +kernel
theorem dX12_fix_37 : decode cX12_fix 37 = .ok (.iload_n 3, 1) := by decide +kernel
theorem dX12_fix_38 : decode cX12_fix 38 = .ok (.iaload, 1) := by decide +kernel
theorem dX12_fix_39 : decode cX12_fix 39 = .ok (.iconst 1, 1) := by decide +kernel
theorem dX12_fix_40 : decode cX12_fix 40 = .ok (.if_icmp .ne 6, 3) := by decide +kernel
theorem dX12_fix_43 : decode cX12_fix 43 = .ok (.bipush (-5), 2) := by decide +kernel
theorem dX12_fix_45 : decode cX12_fix 45 = .ok (.ireturn, 1) := by decide +kernel
theorem dX12_fix_46 : decode cX12_fix 46 = .ok (.aload_n 0, 1) := by decide +kernel
theorem dX12_fix_47 : decode cX12_fix 47 = .ok (.getfield 238, 3) := by decide +kernel
theorem dX12_fix_50 : decode cX12_fix 50 = .ok (.iload_n 3, 1) := by decide +kernel
theorem dX12_fix_51 : decode cX12_fix 51 = .ok (.iaload, 1) := by decide +kernel
theorem dX12_fix_52 : decode cX12_fix 52 = .ok (.istore 4, 2) := by decide +kernel
theorem dX12_fix_54 : decode cX12_fix 54 = .ok (.aload_n 0, 1) := by decide +kernel
theorem dX12_fix_55 : decode cX12_fix 55 = .ok (.iload_n 3, 1) := by decide +kernel
theorem dX12_fix_56 : decode cX12_fix 56 = .ok (.iload 4, 2) := by decide +kernel
theorem dX12_fix_58 : decode cX12_fix 58 = .ok (.aload_n 0, 1) := by decide +kernel
theorem dX12_fix_59 : decode cX12_fix 59 = .ok (.getfield 226, 3) := by decide +kernel
theorem dX12_fix_62 : decode cX12_fix 62 = .ok (.iload_n 3, 1) := by decide +kernel
theorem dX12_fix_63 : decode cX12_fix 63 = .ok (.iaload, 1) := by decide +kernel
theorem dX12_fix_64 : decode cX12_fix 64 = .ok (.invokevirtual 672, 3) := by decide +kernel
theorem dX12_fix_67 : decode cX12_fix 67 = .ok (.ifCond .le 6, 3) := by decide +kernel
theorem dX12_fix_70 : decode cX12_fix 70 = .ok (.bipush (-3), 2) := by decide +kernel
theorem dX12_fix_72 : decode cX12_fix 72 = .ok (.ireturn, 1) := by decide +kernel
theorem dX12_fix_73 : decode cX12_fix 73 = .ok (.aload_n 0, 1) := by decide +kernel
theorem dX12_fix_74 : decode cX12_fix 74 = .ok (.aload_n 0, 1) := by decide +kernel
theorem dX12_fix_75 : decode cX12_fix 75 = .ok (.getfield 220, 3) := by decide +kernel
theorem dX12_fix_78 : decode cX12_fix 78 = .ok (.iload_n 3, 1) := by decide +kernel
theorem dX12_fix_79 : decode cX12_fix 79 = .ok (.iaload, 1) := by decide +kernel
theorem dX12_fix_80 : decode cX12_fix 80 = .ok (.aload_n 0, 1) := by decide +kernel
theorem dX12_fix_81 : decode cX12_fix 81 = .ok (.iload_n 3, 1) := by decide +kernel
theorem dX12_fix_82 : decode cX12_fix 82 = .ok (.iload 4, 2) := by decide +kernel
theorem dX12_fix_84 : decode cX12_fix 84 = .ok (.aload_n 0, 1) := by decide +kernel
theorem dX12_fix_85 : decode cX12_fix 85 = .ok (.getfield 226, 3) := by decide +kernel
theorem dX12_fix_88 : decode cX12_fix 88 = .ok (.iload_n 3, 1) := by decide +kernel
theorem dX12_fix_89 : decode cX12_fix 89 = .ok (.iaload, 1) := by decide +kernel
theorem dX12_fix_90 : decode cX12_fix 90 = .ok (.invokevirtual 675, 3) := by decide +kernel
theorem dX12_fix_93 : decode cX12_fix 93 = .ok (.aload_n 0, 1) := by decide +kernel
theorem dX12_fix_94 : decode cX12_fix 94 = .ok (.getfield 101, 3) := by decide +kernel
theorem dX12_fix_97 : decode cX12_fix 97 = .ok (.iload 4, 2) := by decide +kernel
theorem dX12_fix_99 : decode cX12_fix 99 = .ok (.iaload, 1) := by decide +kernel
theorem dX12_fix_100 : decode cX12_fix 100 = .ok (.invokevirtual 704, 3) := by decide +kernel
theorem dX12_fix_103 : decode cX12_fix 103 = .ok (.aload_n 0, 1) := by decide +kernel
theorem dX12_fix_104 : decode cX12_fix 104 = .ok (.getfield 232, 3) := by decide +kernel
theorem dX12_fix_107 : decode cX12_fix 107 = .ok (.iload_n 3, 1) := by decide +kernel
theorem dX12_fix_108 : decode cX12_fix 108 = .ok (.iaload, 1) := by decide +kernel
theorem dX12_fix_109 : decode cX12_fix 109 = .ok (.iconst 3, 1) := by decide +kernel
theorem dX12_fix_110 : decode cX12_fix 110 = .ok (.if_icmp .ne 10, 3) := by decide +kernel
theorem dX12_fix_113 : decode cX12_fix 113 = .ok (.aload_n 0, 1) := by decide +kernel
theorem dX12_fix_114 : decode cX12_fix 114 = .ok (.getfield 232, 3) := by decide +kernel
theorem dX12_fix_117 : decode cX12_fix 117 = .ok (.iload_n 3, 1) := by decide +kernel
theorem dX12_fix_118 : decode cX12_fix 118 = .ok (.iconst 0, 1) := by decide +kernel
theorem dX12_fix_119 : decode cX12_fix 119 = .ok (.iastore, 1) := by decide +kernel
theorem dX12_fix_120 : decode cX12_fix 120 = .ok (.iconst 0, 1) := by decide +kernel
theorem dX12_fix_121 : decode cX12_fix 121 = .ok (.ireturn, 1) := by decide +kernel
theorem dX12_fresh_0 : decode cX12_fresh 0 = .ok (.aload_n 0, 1) := by decide +kernel
theorem dX12_fresh_1 : decode cX12_fresh 1 = .ok (.aload_n 0, 1) := by decide +kernel
theorem dX12_fresh_2 : decode cX12_fresh 2 = .ok (.invokevirtual 418, 3) := by decide +kernel
theorem dX12_fresh_5 : decode cX12_fresh 5 = .ok (.iconst 2, 1) := by decide +kernel
theorem dX12_fresh_6 : decode cX12_fresh 6 = .ok (.invokevirtual 404, 3) := by decide +kernel
theorem dX12_fresh_9 : decode cX12_fresh 9 = .ok (.ifCond .ne 5, 3) := by decide +kernel
theorem dX12_fresh_12 : decode cX12_fresh 12 = .ok (.iconst 0, 1) := by decide +kernel
theorem dX12_fresh_13 : decode cX12_fresh 13 = .ok (.ireturn, 1) := by decide +kernel
theorem dX12_fresh_14 : decode cX12_fresh 14 = .ok (.iconst 0, 1) := by decide +kernel
theorem dX12_fresh_15 : decode cX12_fresh 15 = .ok (.istore_n 2, 1) := by decide +kernel
theorem dX12_fresh_16 : decode cX12_fresh 16 = .ok (.iload_n 2, 1) := by decide +kernel
theorem dX12_fresh_17 : decode cX12_fresh 17 = .ok (.aload_n 0, 1) := by decide +kernel
theorem dX12_fresh_18 : decode cX12_fresh 18 = .ok (.getfield 80, 3) := by decide +kernel
theorem dX12_fresh_21 : decode cX12_fresh 21 = .ok (.bipush 20, 2) := by decide +kernel
theorem dX12_fresh_23 : decode cX12_fresh 23 = .ok (.aload_n 0, 1) := by decide +kernel
theorem dX12_fresh_24 : decode cX12_fresh 24 = .ok (.getfield 173, 3) := by decide +kernel
theorem dX12_fresh_27 : decode cX12_fresh 27 = .ok (.imul, 1) := by decide +kernel
theorem dX12_fresh_28 : decode cX12_fresh 28 = .ok (.aload_n 0, 1) := by decide +kernel
theorem dX12_fresh_29 : decode cX12_fresh 29 = .ok (.getfield 176, 3) := by decide +kernel
theorem dX12_fresh_32 : decode cX12_fresh 32 = .ok (.iadd, 1) := by decide +kernel
theorem dX12_fresh_33 : decode cX12_fresh 33 = .ok (.iaload, 1) := by decide +kernel
theorem dX12_fresh_34 : decode cX12_fresh 34 = .ok (.if_icmp .ge 34, 3) := by decide +kernel
theorem dX12_fresh_37 : decode cX12_fresh 37 = .ok (.aload_n 0, 1) := by decide +kernel
theorem dX12_fresh_38 : decode cX12_fresh 38 = .ok (.aload_n 0, 1) := by decide +kernel
theorem dX12_fresh_39 : decode cX12_fresh 39 = .ok (.aload_n 0, 1) := by decide +kernel
theorem dX12_fresh_40 : decode cX12_fresh 40 = .ok (.getfield 176, 3) := by decide +kernel
theorem dX12_fresh_43 : decode cX12_fresh 43 = .ok (.iload_n 2, 1) := by decide +kernel
theorem dX12_fresh_44 : decode cX12_fresh 44 = .ok (.invokevirtual 447, 3) := by decide +kernel
theorem dX12_fresh_47 : decode cX12_fresh 47 = .ok (.aload_n 0, 1) := by decide +kernel
theorem dX12_fresh_48 : decode cX12_fresh 48 = .ok (.getfield 60, 3) := by decide +kernel
theorem dX12_fresh_51 : decode cX12_fresh 51 = .ok (.invokevirtual 450, 3) := by decide +kernel
theorem dX12_fresh_54 : decode cX12_fresh 54 = .ok (.ifCond .eq 8, 3) := by decide +kernel
theorem dX12_fresh_57 : decode cX12_fresh 57 = .ok (.aload_n 0, 1) := by decide +kernel
theorem dX12_fresh_58 : decode cX12_fresh 58 = .ok (.iconst 3, 1) := by decide +kernel
theorem dX12_fresh_59 : decode cX12_fresh 59 = .ok (.invokevirtual 397, 3) := by decide +kernel
theorem dX12_fresh_62 : decode cX12_fresh 62 = .ok (.iinc 2 1, 3) := by decide +kernel
theorem dX12_fresh_65 : decode cX12_fresh 65 = .ok (.goto (-49), 3) := by decide +kernel
theorem dX12_fresh_68 : decode cX12_fresh 68 = .ok (.aload_n 0, 1) := by decide +kernel
theorem dX12_fresh_69 : decode cX12_fresh 69 = .ok (.getfield 182, 3) := by decide +kernel
theorem dX12_fresh_72 : decode cX12_fresh 72 = .ok (.ifCond .eq 22, 3) := by decide +kernel
theorem dX12_fresh_75 : decode cX12_fresh 75 = .ok (.aload_n 0, 1) := by decide +kernel
theorem dX12_fresh_76 : decode cX12_fresh 76 = .ok (.getfield 128, 3) := by decide +kernel
theorem dX12_fresh_79 : decode cX12_fresh 79 = .ok (.iload_n 1, 1) := by decide +kernel
theorem dX12_fresh_80 : decode cX12_fresh 80 = .ok (.laload, 1) := by decide +kernel
theorem dX12_fresh_81 : decode cX12_fresh 81 = .ok (.aload_n 0, 1) := by decide +kernel
theorem dX12_fresh_82 : decode cX12_fresh 82 = .ok (.getfield 60, 3) := by decide +kernel
theorem dX12_fresh_85 : decode cX12_fresh 85 = .ok (.lcmp, 1) := by decide +kernel
theorem dX12_fresh_86 : decode cX12_fresh 86 = .ok (.ifCond .ne 8, 3) := by decide +kernel
theorem dX12_fresh_89 : decode cX12_fresh 89 = .ok (.aload_n 0, 1) := by decide +kernel
theorem dX12_fresh_90 : decode cX12_fresh 90 = .ok (.iconst 3, 1) := by decide +kernel
theorem dX12_fresh_91 : decode cX12_fresh 91 = .ok (.invokevirtual 397, 3) := by decide +kernel
theorem dX12_fresh_94 : decode cX12_fresh 94 = .ok (.iconst 0, 1) := by decide +kernel
theorem dX12_fresh_95 : decode cX12_fresh 95 = .ok (.istore_n 2, 1) := by decide +kernel
theorem dX12_fresh_96 : decode cX12_fresh 96 = .ok (.aload_n 0, 1) := by decide +kernel
theorem dX12_fresh_97 : decode cX12_fresh 97 = .ok (.getfield 182, 3) := by decide +kernel
theorem dX12_fresh_100 : decode cX12_fresh 100 = .ok (.ifCond .eq 43, 3) := by decide +kernel
theorem dX12_fresh_103 : decode cX12_fresh 103 = .ok (.iload_n 2, 1) := by decide +kernel
theorem dX12_fresh_104 : decode cX12_fresh 104 = .ok (.aload_n 0, 1) := by decide +kernel
theorem dX12_fresh_105 : decode cX12_fresh 105 = .ok (.getfield 125, 3) := by decide +kernel
theorem dX12_fresh_108 : decode cX12_fresh 108 = .ok (.iload_n 1, 1) := by decide +kernel
theorem dX12_fresh_109 : decode cX12_fresh 109 = .ok (.iaload, 1) := by decide +kernel
theorem dX12_fresh_110 : decode cX12_fresh 110 = .ok (.if_icmp .ge 33, 3) := by decide +kernel
theorem dX12_fresh_113 : decode cX12_fresh 113 = .ok (.aload_n 0, 1) := by decide +kernel
theorem dX12_fresh_114 : decode cX12_fresh 114 = .ok (.getfield 131, 3) := by decide +kernel
theorem dX12_fresh_117 : decode cX12_fresh 117 = .ok (.bipush 16, 2) := by decide +kernel
theorem dX12_fresh_119 : decode cX12_fresh 119 = .ok (.iload_n 1, 1) := by decide +kernel
theorem dX12_fresh_120 : decode cX12_fresh 120 = .ok (.imul, 1) := by decide +kernel
theorem dX12_fresh_121 : decode cX12_fresh 121 = .ok (.iload_n 2, 1) := by decide +kernel
theorem dX12_fresh_122 : decode cX12_fresh 122 = .ok (.iadd, 1) := by decide +kernel
theorem dX12_fresh_123 : decode cX12_fresh 123 = .ok (.laload, 1) := by decide +kernel
theorem dX12_fresh_124 : decode cX12_fresh 124 = .ok (.aload_n 0, 1) := by decide +kernel
theorem dX12_fresh_125 : decode cX12_fresh 125 = .ok (.getfield 60, 3) := by decide +kernel
theorem dX12_fresh_128 : decode cX12_fresh 128 = .ok (.lcmp, 1) := by decide +kernel
theorem dX12_fresh_129 : decode cX12_fresh 129 = .ok (.ifCond .ne 8, 3) := by decide +kernel
theorem dX12_fresh_132 : decode cX12_fresh 132 = .ok (.aload_n 0, 1) := by decide +kernel
theorem dX12_fresh_133 : decode cX12_fresh 133 = .ok (.iconst 3, 1) := by decide +kernel
theorem dX12_fresh_134 : decode cX12_fresh 134 = .ok (.invokevirtual 397, 3) := by decide +kernel
theorem dX12_fresh_137 : decode cX12_fresh 137 = .ok (.iinc 2 1, 3) := by decide +kernel
theorem dX12_fresh_140 : decode cX12_fresh 140 = .ok (.goto (-44), 3) := by decide +kernel
theorem dX12_fresh_143 : decode cX12_fresh 143 = .ok (.aload_n 0, 1) := by decide +kernel
theorem dX12_fresh_144 : decode cX12_fresh 144 = .ok (.getfield 167, 3) := by decide +kernel
theorem dX12_fresh_147 : decode cX12_fresh 147 = .ok (.ifCond .ne 7, 3) := by decide +kernel
theorem dX12_fresh_150 : decode cX12_fresh 150 = .ok (.iconst 1, 1) := by decide +kernel
theorem dX12_fresh_151 : decode cX12_fresh 151 = .ok (.goto 4, 3) := by decide +kernel
theorem dX12_fresh_154 : decode cX12_fresh 154 = .ok (.iconst 0, 1) := by decide +kernel
theorem dX12_fresh_155 : decode cX12_fresh 155 = .ok (.ireturn, 1) := by decide +kernel
theorem dX12_gap_0 : decode cX12_gap 0 = .ok (.aload_n 0, 1) := by decide +kernel
theorem dX12_gap_1 : decode cX12_gap 1 = .ok (.iload_n 1, 1) := by decide +kernel
theorem dX12_gap_2 : decode cX12_gap 2 = .ok (.iconst 0, 1) := by decide +kernel
theorem dX12_gap_3 : decode cX12_gap 3 = .ok (.invokevirtual 688, 3) := by decide +kernel
theorem dX12_gap_6 : decode cX12_gap 6 = .ok (.ifCond .eq 16, 3) := by decide +kernel
theorem dX12_gap_9 : decode cX12_gap 9 = .ok (.iload_n 2, 1) := by decide +kernel
theorem dX12_gap_10 : decode cX12_gap 10 = .ok (.ifCond .lt 12, 3) := by decide +kernel
theorem dX12_gap_13 : decode cX12_gap 13 = .ok (.iload_n 3, 1) := by decide +kernel
theorem dX12_gap_14 : decode cX12_gap 14 = .ok (.ifCond .lt 8, 3) := by decide +kernel
theorem dX12_gap_17 : decode cX12_gap 17 = .ok (.iload_n 3, 1) := by decide +kernel
theorem dX12_gap_18 : decode cX12_gap 18 = .ok (.iconst 1, 1) := by decide +kernel
theorem dX12_gap_19 : decode cX12_gap 19 = .ok (.if_icmp .le 5, 3) := by decide +kernel
theorem dX12_gap_22 : decode cX12_gap 22 = .ok (.iconst (-1), 1) := by decide +kernel
theorem dX12_gap_23 : decode cX12_gap 23 = .ok (.ireturn, 1) := by decide +kernel
theorem dX12_gap_24 : decode cX12_gap 24 = .ok (.iload_n 2, 1) := by decide +kernel
theorem dX12_gap_25 : decode cX12_gap 25 = .ok (.istore 4, 2) := by decide +kernel
theorem dX12_gap_27 : decode cX12_gap 27 = .ok (.iconst 1, 1) := by decide +kernel
theorem dX12_gap_28 : decode cX12_gap 28 = .ok (.istore 5, 2) := by decide +kernel
theorem dX12_gap_30 : decode cX12_gap 30 = .ok (.iconst (-1), 1) := by decide +kernel
theorem dX12_gap_31 : decode cX12_gap 31 = .ok (.istore 6, 2) := by decide +kernel
theorem dX12_gap_33 : decode cX12_gap 33 = .ok (.iconst 0, 1) := by decide +kernel
theorem dX12_gap_34 : decode cX12_gap 34 = .ok (.istore 7, 2) := by decide +kernel
theorem dX12_gap_36 : decode cX12_gap 36 = .ok (.iload 7, 2) := by decide +kernel
theorem dX12_gap_38 : decode cX12_gap 38 = .ok (.aload_n 0, 1) := by decide +kernel
theorem dX12_gap_39 : decode cX12_gap 39 = .ok (.getfield 13, 3) := by decide +kernel
theorem dX12_gap_42 : decode cX12_gap 42 = .ok (.aload_n 0, 1) := by decide +kernel
theorem dX12_gap_43 : decode cX12_gap 43 = .ok (.getfield 259, 3) := by decide +kernel
theorem dX12_gap_46 : decode cX12_gap 46 = .ok (.iaload, 1) := by decide +kernel
theorem dX12_gap_47 : decode cX12_gap 47 = .ok (.if_icmp .ge 69, 3) := by decide +kernel
theorem dX12_gap_50 : decode cX12_gap 50 = .ok (.aload_n 0, 1) := by decide +kernel
theorem dX12_gap_51 : decode cX12_gap 51 = .ok (.iload_n 1, 1) := by decide +kernel
theorem dX12_gap_52 : decode cX12_gap 52 = .ok (.iload 7, 2) := by decide +kernel
theorem dX12_gap_54 : decode cX12_gap 54 = .ok (.invokevirtual 710, 3) := by decide +kernel
theorem dX12_gap_57 : decode cX12_gap 57 = .ok (.istore 8, 2) := by decide +kernel
theorem dX12_gap_59 : decode cX12_gap 59 = .ok (.iload 8, 2) := by decide +kernel
theorem dX12_gap_61 : decode cX12_gap 61 = .ok (.ifCond .ne 27, 3) := by decide +kernel
theorem dX12_gap_64 : decode cX12_gap 64 = .ok (.iload 5, 2) := by decide +kernel
theorem dX12_gap_66 : decode cX12_gap 66 = .ok (.ifCond .eq 22, 3) := by decide +kernel
theorem dX12_gap_69 : decode cX12_gap 69 = .ok (.iload 4, 2) := by decide +kernel
theorem dX12_gap_71 : decode cX12_gap 71 = .ok (.ifCond .ne 10, 3) := by decide +kernel
theorem dX12_gap_74 : decode cX12_gap 74 = .ok (.iload_n 3, 1) := by decide +kernel
theorem dX12_gap_75 : decode cX12_gap 75 = .ok (.ifCond .ne 6, 3) := by decide +kernel
theorem dX12_gap_78 : decode cX12_gap 78 = .ok (.iload 7, 2) := by decide +kernel
theorem dX12_gap_80 : decode cX12_gap 80 = .ok (.ireturn, 1) := by decide +kernel
theorem dX12_gap_81 : decode cX12_gap 81 = .ok (.iload 4, 2) := by decide +kernel
theorem dX12_gap_83 : decode cX12_gap 83 = .ok (.istore 6, 2) := by decide +kernel
theorem dX12_gap_85 : decode cX12_gap 85 = .ok (.iinc 4 (-1), 3) := by decide +kernel
theorem dX12_gap_88 : decode cX12_gap 88 = .ok (.iload 8, 2) := by decide +kernel
theorem dX12_gap_90 : decode cX12_gap 90 = .ok (.ifCond .eq 16, 3) := by decide +kernel
theorem dX12_gap_93 : decode cX12_gap 93 = .ok (.iload 5, 2) := by decide +kernel
theorem dX12_gap_95 : decode cX12_gap 95 = .ok (.ifCond .ne 11, 3) := by decide +kernel
theorem dX12_gap_98 : decode cX12_gap 98 = .ok (.iload 6, 2) := by decide +kernel
theorem dX12_gap_100 : decode cX12_gap 100 = .ok (.ifCond .ne 6, 3) := by decide +kernel
theorem dX12_gap_103 : decode cX12_gap 103 = .ok (.iload 7, 2) := by decide +kernel
theorem dX12_gap_105 : decode cX12_gap 105 = .ok (.ireturn, 1) := by decide +kernel
theorem dX12_gap_106 : decode cX12_gap 106 = .ok (.iload 8, 2) := by decide +kernel
theorem dX12_gap_108 : decode cX12_gap 108 = .ok (.istore 5, 2) := by decide +kernel
theorem dX12_gap_110 : decode cX12_gap 110 = .ok (.iinc 7 1, 3) := by decide +kernel
theorem dX12_gap_113 : decode cX12_gap 113 = .ok (.goto (-77), 3) := by decide +kernel
theorem dX12_gap_116 : decode cX12_gap 116 = .ok (.iload 5, 2) := by decide +kernel
theorem dX12_gap_118 : decode cX12_gap 118 = .ok (.ifCond .ne 20, 3) := by decide +kernel
theorem dX12_gap_121 : decode cX12_gap 121 = .ok (.iload 6, 2) := by decide +kernel
theorem dX12_gap_123 : decode cX12_gap 123 = .ok (.ifCond .ne 15, 3) := by decide +kernel
theorem dX12_gap_126 : decode cX12_gap 126 = .ok (.aload_n 0, 1) := by decide +kernel
theorem dX12_gap_127 : decode cX12_gap 127 = .ok (.getfield 13, 3) := by decide +kernel
theorem dX12_gap_130 : decode cX12_gap 130 = .ok (.aload_n 0, 1) := by decide +kernel
theorem dX12_gap_131 : decode cX12_gap 131 = .ok (.getfield 259, 3) := by decide +kernel
theorem dX12_gap_134 : decode cX12_gap 134 = .ok (.iaload, 1) := by decide +kernel
theorem dX12_gap_135 : decode cX12_gap 135 = .ok (.goto 4, 3) := by decide +kernel
theorem dX12_gap_138 : decode cX12_gap 138 = .ok (.iconst (-1), 1) := by decide +kernel
theorem dX12_gap_139 : decode cX12_gap 139 = .ok (.ireturn, 1) := by decide +kernel
theorem dX12_goesOn_0 : decode cX12_goesOn 0 = .ok (.aload_n 0, 1) := by decide +kernel
theorem dX12_goesOn_1 : decode cX12_goesOn 1 = .ok (.bipush 41, 2) := by decide +kernel
theorem dX12_goesOn_3 : decode cX12_goesOn 3 = .ok (.invokevirtual 401, 3) := by decide +kernel
theorem dX12_goesOn_6 : decode cX12_goesOn 6 = .ok (.ifCond .eq 48, 3) := by decide +kernel
theorem dX12_goesOn_9 : decode cX12_goesOn 9 = .ok (.aload_n 0, 1) := by decide +kernel
theorem dX12_goesOn_10 : decode cX12_goesOn 10 = .ok (.invokevirtual 548, 3) := by decide +kernel
theorem dX12_goesOn_13 : decode cX12_goesOn 13 = .ok (.ifCond .eq 41, 3) := by decide +kernel
theorem dX12_goesOn_16 : decode cX12_goesOn 16 = .ok (.aload_n 0, 1) := by decide +kernel
theorem dX12_goesOn_17 : decode cX12_goesOn 17 = .ok (.iconst 1, 1) := by decide +kernel
theorem dX12_goesOn_18 : decode cX12_goesOn 18 = .ok (.invokevirtual 542, 3) := by decide +kernel
theorem dX12_goesOn_21 : decode cX12_goesOn 21 = .ok (.aload_n 0, 1) := by decide +kernel
theorem dX12_goesOn_22 : decode cX12_goesOn 22 = .ok (.dup, 1) := by decide +kernel
theorem dX12_goesOn_23 : decode cX12_goesOn 23 = .ok (.getfield 195, 3) := by decide +kernel
theorem dX12_goesOn_26 : decode cX12_goesOn 26 = .ok (.iconst 1, 1) := by decide +kernel
theorem dX12_goesOn_27 : decode cX12_goesOn 27 = .ok (.isub, 1) := by decide +kernel
theorem dX12_goesOn_28 : decode cX12_goesOn 28 = .ok (.putfield 195, 3) := by decide +kernel
theorem dX12_goesOn_31 : decode cX12_goesOn 31 = .ok (.aload_n 0, 1) := by decide +kernel
theorem dX12_goesOn_32 : decode cX12_goesOn 32 = .ok (.dup, 1) := by decide +kernel
theorem dX12_goesOn_33 : decode cX12_goesOn 33 = .ok (.getfield 179, 3) := by decide +kernel
theorem dX12_goesOn_36 : decode cX12_goesOn 36 = .ok (.iconst 1, 1) := by decide +kernel
theorem dX12_goesOn_37 : decode cX12_goesOn 37 = .ok (.isub, 1) := by decide +kernel
theorem dX12_goesOn_38 : decode cX12_goesOn 38 = .ok (.putfield 179, 3) := by decide +kernel
theorem dX12_goesOn_41 : decode cX12_goesOn 41 = .ok (.aload_n 0, 1) := by decide +kernel
theorem dX12_goesOn_42 : decode cX12_goesOn 42 = .ok (.invokevirtual 408, 3) := by decide +kernel
theorem dX12_goesOn_45 : decode cX12_goesOn 45 = .ok (.aload_n 0, 1) := by decide +kernel
theorem dX12_goesOn_46 : decode cX12_goesOn 46 = .ok (.bipush 6, 2) := by decide +kernel
theorem dX12_goesOn_48 : decode cX12_goesOn 48 = .ok (.invokevirtual 542, 3) := by decide +kernel
theorem dX12_goesOn_51 : decode cX12_goesOn 51 = .ok (.goto (-51), 3) := by decide +kernel
theorem dX12_goesOn_54 : decode cX12_goesOn 54 = .ok (.aload_n 0, 1) := by decide +kernel
theorem dX12_goesOn_55 : decode cX12_goesOn 55 = .ok (.invokevirtual 551, 3) := by decide +kernel
theorem dX12_goesOn_58 : decode cX12_goesOn 58 = .ok (.istore_n 1, 1) := by decide +kernel
theorem dX12_goesOn_59 : decode cX12_goesOn 59 = .ok (.iload_n 1, 1) := by decide +kernel
theorem dX12_goesOn_60 : decode cX12_goesOn 60 = .ok (.iconst (-1), 1) := by decide +kernel
theorem dX12_goesOn_61 : decode cX12_goesOn 61 = .ok (.if_icmp .ne 5, 3) := by decide +kernel
theorem dX12_goesOn_64 : decode cX12_goesOn 64 = .ok (.iconst 0, 1) := by decide +kernel
theorem dX12_goesOn_65 : decode cX12_goesOn 65 = .ok (.ireturn, 1) := by decide +kernel
theorem dX12_goesOn_66 : decode cX12_goesOn 66 = .ok (.aload_n 0, 1) := by decide +kernel
theorem dX12_goesOn_67 : decode cX12_goesOn 67 = .ok (.iload_n 1, 1) := by decide +kernel
theorem dX12_goesOn_68 : decode cX12_goesOn 68 = .ok (.invokevirtual 526, 3) := by decide +kernel
theorem dX12_goesOn_71 : decode cX12_goesOn 71 = .ok (.istore_n 2, 1) := by decide +kernel
theorem dX12_goesOn_72 : decode cX12_goesOn 72 = .ok (.aload_n 0, 1) := by decide +kernel
theorem dX12_goesOn_73 : decode cX12_goesOn 73 = .ok (.iload_n 2, 1) := by decide +kernel
theorem dX12_goesOn_74 : decode cX12_goesOn 74 = .ok (.iconst 3, 1) := by decide +kernel
theorem dX12_goesOn_75 : decode cX12_goesOn 75 = .ok (.if_icmp .ne 7, 3) := by decide +kernel
theorem dX12_goesOn_78 : decode cX12_goesOn 78 = .ok (.iconst 4, 1) := by decide +kernel
theorem dX12_goesOn_79 : decode cX12_goesOn 79 = .ok (.goto 4, 3) := by decide +kernel
theorem dX12_goesOn_82 : decode cX12_goesOn 82 = .ok (.iload_n 2, 1) := by decide +kernel
theorem dX12_goesOn_83 : decode cX12_goesOn 83 = .ok (.invokevirtual 542, 3) := by decide +kernel
theorem dX12_goesOn_86 : decode cX12_goesOn 86 = .ok (.iload_n 2, 1) := by decide +kernel
theorem dX12_goesOn_87 : decode cX12_goesOn 87 = .ok (.iconst 3, 1) := by decide +kernel
theorem dX12_goesOn_88 : decode cX12_goesOn 88 = .ok (.if_icmp .ne 31, 3) := by decide +kernel
theorem dX12_goesOn_91 : decode cX12_goesOn 91 = .ok (.aload_n 0, 1) := by decide +kernel
theorem dX12_goesOn_92 : decode cX12_goesOn 92 = .ok (.getfield 195, 3) := by decide +kernel
theorem dX12_goesOn_95 : decode cX12_goesOn 95 = .ok (.ifCond .le 24, 3) := by decide +kernel
theorem dX12_goesOn_98 : decode cX12_goesOn 98 = .ok (.aload_n 0, 1) := by decide +kernel
theorem dX12_goesOn_99 : decode cX12_goesOn 99 = .ok (.aload_n 0, 1) := by decide +kernel
theorem dX12_goesOn_100 : decode cX12_goesOn 100 = .ok (.getfield 189, 3) := by decide +kernel
theorem dX12_goesOn_103 : decode cX12_goesOn 103 = .ok (.aload_n 0, 1) := by decide +kernel
theorem dX12_goesOn_104 : decode cX12_goesOn 104 = .ok (.getfield 195, 3) := by decide +kernel
theorem dX12_goesOn_107 : decode cX12_goesOn 107 = .ok (.iconst 1, 1) := by decide +kernel
theorem dX12_goesOn_108 : decode cX12_goesOn 108 = .ok (.isub, 1) := by decide +kernel
theorem dX12_goesOn_109 : decode cX12_goesOn 109 = .ok (.iaload, 1) := by decide +kernel
theorem dX12_goesOn_110 : decode cX12_goesOn 110 = .ok (.invokevirtual 526, 3) := by decide +kernel
theorem dX12_goesOn_113 : decode cX12_goesOn 113 = .ok (.iconst 3, 1) := by decide +kernel
theorem dX12_goesOn_114 : decode cX12_goesOn 114 = .ok (.if_icmp .ne 5, 3) := by decide +kernel
theorem dX12_goesOn_117 : decode cX12_goesOn 117 = .ok (.iconst 0, 1) := by decide +kernel
theorem dX12_goesOn_118 : decode cX12_goesOn 118 = .ok (.ireturn, 1) := by decide +kernel
theorem dX12_goesOn_119 : decode cX12_goesOn 119 = .ok (.aload_n 0, 1) := by decide +kernel
theorem dX12_goesOn_120 : decode cX12_goesOn 120 = .ok (.getfield 189, 3) := by decide +kernel
theorem dX12_goesOn_123 : decode cX12_goesOn 123 = .ok (.aload_n 0, 1) := by decide +kernel
theorem dX12_goesOn_124 : decode cX12_goesOn 124 = .ok (.getfield 195, 3) := by decide +kernel
theorem dX12_goesOn_127 : decode cX12_goesOn 127 = .ok (.iload_n 1, 1) := by decide +kernel
theorem dX12_goesOn_128 : decode cX12_goesOn 128 = .ok (.iastore, 1) := by decide +kernel
theorem dX12_goesOn_129 : decode cX12_goesOn 129 = .ok (.aload_n 0, 1) := by decide +kernel
theorem dX12_goesOn_130 : decode cX12_goesOn 130 = .ok (.dup, 1) := by decide +kernel
theorem dX12_goesOn_131 : decode cX12_goesOn 131 = .ok (.getfield 195, 3) := by decide +kernel
theorem dX12_goesOn_134 : decode cX12_goesOn 134 = .ok (.iconst 1, 1) := by decide +kernel
theorem dX12_goesOn_135 : decode cX12_goesOn 135 = .ok (.iadd, 1) := by decide +kernel
theorem dX12_goesOn_136 : decode cX12_goesOn 136 = .ok (.putfield 195, 3) := by decide +kernel
theorem dX12_goesOn_139 : decode cX12_goesOn 139 = .ok (.aload_n 0, 1) := by decide +kernel
theorem dX12_goesOn_140 : decode cX12_goesOn 140 = .ok (.invokevirtual 408, 3) := by decide +kernel
theorem dX12_goesOn_143 : decode cX12_goesOn 143 = .ok (.iconst 1, 1) := by decide +kernel
theorem dX12_goesOn_144 : decode cX12_goesOn 144 = .ok (.ireturn, 1) := by decide +kernel
theorem dX12_has_0 : decode cX12_has 0 = .ok (.aload_n 0, 1) := by decide +kernel
theorem dX12_has_1 : decode cX12_has 1 = .ok (.getfield 17, 3) := by decide +kernel
theorem dX12_has_4 : decode cX12_has 4 = .ok (.iload_n 1, 1) := by decide +kernel
theorem dX12_has_5 : decode cX12_has 5 = .ok (.iaload, 1) := by decide +kernel
theorem dX12_has_6 : decode cX12_has 6 = .ok (.iconst 1, 1) := by decide +kernel
theorem dX12_has_7 : decode cX12_has 7 = .ok (.isub, 1) := by decide +kernel
theorem dX12_has_8 : decode cX12_has 8 = .ok (.istore_n 3, 1) := by decide +kernel
theorem dX12_has_9 : decode cX12_has 9 = .ok (.iload_n 3, 1) := by decide +kernel
theorem dX12_has_10 : decode cX12_has 10 = .ok (.ifCond .lt 37, 3) := by decide +kernel
theorem dX12_has_13 : decode cX12_has 13 = .ok (.aload_n 0, 1) := by decide +kernel
theorem dX12_has_14 : decode cX12_has 14 = .ok (.getfield 24, 3) := by decide +kernel
theorem dX12_has_17 : decode cX12_has 17 = .ok (.aload_n 0, 1) := by decide +kernel
theorem dX12_has_18 : decode cX12_has 18 = .ok (.iload_n 1, 1) := by decide +kernel
theorem dX12_has_19 : decode cX12_has 19 = .ok (.iload_n 3, 1) := by decide +kernel
theorem dX12_has_20 : decode cX12_has 20 = .ok (.iload_n 2, 1) := by decide +kernel
theorem dX12_has_21 : decode cX12_has 21 = .ok (.invokevirtual 289, 3) := by decide +kernel
theorem dX12_has_24 : decode cX12_has 24 = .ok (.iaload, 1) := by decide +kernel
theorem dX12_has_25 : decode cX12_has 25 = .ok (.ifCond .lt 16, 3) := by decide +kernel
theorem dX12_has_28 : decode cX12_has 28 = .ok (.aload_n 0, 1) := by decide +kernel
theorem dX12_has_29 : decode cX12_has 29 = .ok (.getfield 24, 3) := by decide +kernel
theorem dX12_has_32 : decode cX12_has 32 = .ok (.aload_n 0, 1) := by decide +kernel
theorem dX12_has_33 : decode cX12_has 33 = .ok (.iload_n 1, 1) := by decide +kernel
theorem dX12_has_34 : decode cX12_has 34 = .ok (.iload_n 3, 1) := by decide +kernel
theorem dX12_has_35 : decode cX12_has 35 = .ok (.iload_n 2, 1) := by decide +kernel
theorem dX12_has_36 : decode cX12_has 36 = .ok (.invokevirtual 289, 3) := by decide +kernel
theorem dX12_has_39 : decode cX12_has 39 = .ok (.iaload, 1) := by decide +kernel
theorem dX12_has_40 : decode cX12_has 40 = .ok (.ireturn, 1) := by decide +kernel
theorem dX12_has_41 : decode cX12_has 41 = .ok (.iinc 3 (-1), 3) := by decide +kernel
theorem dX12_has_44 : decode cX12_has 44 = .ok (.goto (-35), 3) := by decide +kernel
theorem dX12_has_47 : decode cX12_has 47 = .ok (.aload_n 0, 1) := by decide +kernel
theorem dX12_has_48 : decode cX12_has 48 = .ok (.getfield 20, 3) := by decide +kernel
theorem dX12_has_51 : decode cX12_has 51 = .ok (.sipush 2000, 3) := by decide +kernel
theorem dX12_has_54 : decode cX12_has 54 = .ok (.iload_n 1, 1) := by decide +kernel
theorem dX12_has_55 : decode cX12_has 55 = .ok (.imul, 1) := by decide +kernel
theorem dX12_has_56 : decode cX12_has 56 = .ok (.iload_n 2, 1) := by decide +kernel
theorem dX12_has_57 : decode cX12_has 57 = .ok (.iadd, 1) := by decide +kernel
theorem dX12_has_58 : decode cX12_has 58 = .ok (.iaload, 1) := by decide +kernel
theorem dX12_has_59 : decode cX12_has 59 = .ok (.ireturn, 1) := by decide +kernel
theorem dX12_has__0 : decode cX12_has_ 0 = .ok (.iload_n 3, 1) := by decide +kernel
theorem dX12_has__1 : decode cX12_has_ 1 = .ok (.bipush 8, 2) := by decide +kernel
theorem dX12_has__3 : decode cX12_has_ 3 = .ok (.if_icmp .ne 5, 3) := by decide +kernel
theorem dX12_has__6 : decode cX12_has_ 6 = .ok (.iconst 1, 1) := by decide +kernel
theorem dX12_has__7 : decode cX12_has_ 7 = .ok (.ireturn, 1) := by decide +kernel
theorem dX12_has__8 : decode cX12_has_ 8 = .ok (.lconst 1, 1) := by decide +kernel
theorem dX12_has__9 : decode cX12_has_ 9 = .ok (.bipush 8, 2) := by decide +kernel
theorem dX12_has__11 : decode cX12_has_ 11 = .ok (.iload_n 3, 1) := by decide +kernel
theorem dX12_has__12 : decode cX12_has_ 12 = .ok (.imul, 1) := by decide +kernel
theorem dX12_has__13 : decode cX12_has_ 13 = .ok (.iconst 1, 1) := by decide +kernel
theorem dX12_has__14 : decode cX12_has_ 14 = .ok (.isub, 1) := by decide +kernel
theorem dX12_has__15 : decode cX12_has_ 15 = .ok (.lshl, 1) := by decide +kernel
theorem dX12_has__16 : decode cX12_has_ 16 = .ok (.lstore 5, 2) := by decide +kernel
theorem dX12_has__18 : decode cX12_has_ 18 = .ok (.iload 4, 2) := by decide +kernel
theorem dX12_has__20 : decode cX12_has_ 20 = .ok (.ifCond .eq 26, 3) := by decide +kernel
theorem dX12_has__23 : decode cX12_has_ 23 = .ok (.lload_n 1, 1) := by decide +kernel
theorem dX12_has__24 : decode cX12_has_ 24 = .ok (.lload 5, 2) := by decide +kernel
theorem dX12_has__26 : decode cX12_has_ 26 = .ok (.lneg, 1) := by decide +kernel
theorem dX12_has__27 : decode cX12_has_ 27 = .ok (.lcmp, 1) := by decide +kernel
theorem dX12_has__28 : decode cX12_has_ 28 = .ok (.ifCond .lt 14, 3) := by decide +kernel
theorem dX12_has__31 : decode cX12_has_ 31 = .ok (.lload_n 1, 1) := by decide +kernel
theorem dX12_has__32 : decode cX12_has_ 32 = .ok (.lload 5, 2) := by decide +kernel
theorem dX12_has__34 : decode cX12_has_ 34 = .ok (.lcmp, 1) := by decide +kernel
theorem dX12_has__35 : decode cX12_has_ 35 = .ok (.ifCond .ge 7, 3) := by decide +kernel
theorem dX12_has__38 : decode cX12_has_ 38 = .ok (.iconst 1, 1) := by decide +kernel
theorem dX12_has__39 : decode cX12_has_ 39 = .ok (.goto 29, 3) := by decide +kernel
theorem dX12_has__42 : decode cX12_has_ 42 = .ok (.iconst 0, 1) := by decide +kernel
theorem dX12_has__43 : decode cX12_has_ 43 = .ok (.goto 25, 3) := by decide +kernel
theorem dX12_has__46 : decode cX12_has_ 46 = .ok (.lload_n 1, 1) := by decide +kernel
theorem dX12_has__47 : decode cX12_has_ 47 = .ok (.lconst 0, 1) := by decide +kernel
theorem dX12_has__48 : decode cX12_has_ 48 = .ok (.lcmp, 1) := by decide +kernel
theorem dX12_has__49 : decode cX12_has_ 49 = .ok (.ifCond .lt 18, 3) := by decide +kernel
theorem dX12_has__52 : decode cX12_has_ 52 = .ok (.lload_n 1, 1) := by decide +kernel
theorem dX12_has__53 : decode cX12_has_ 53 = .ok (.ldc2_w 708, 3) := by decide +kernel
theorem dX12_has__56 : decode cX12_has_ 56 = .ok (.lload 5, 2) := by decide +kernel
theorem dX12_has__58 : decode cX12_has_ 58 = .ok (.lmul, 1) := by decide +kernel
theorem dX12_has__59 : decode cX12_has_ 59 = .ok (.lcmp, 1) := by decide +kernel
theorem dX12_has__60 : decode cX12_has_ 60 = .ok (.ifCond .ge 7, 3) := by decide +kernel
theorem dX12_has__63 : decode cX12_has_ 63 = .ok (.iconst 1, 1) := by decide +kernel
theorem dX12_has__64 : decode cX12_has_ 64 = .ok (.goto 4, 3) := by decide +kernel
theorem dX12_has__67 : decode cX12_has_ 67 = .ok (.iconst 0, 1) := by decide +kernel
theorem dX12_has__68 : decode cX12_has_ 68 = .ok (.ireturn, 1) := by decide +kernel
theorem dX12_hex_0 : decode cX12_hex 0 = .ok (.aload_n 0, 1) := by decide +kernel
theorem dX12_hex_1 : decode cX12_hex 1 = .ok (.iload_n 1, 1) := by decide +kernel
theorem dX12_hex_2 : decode cX12_hex 2 = .ok (.invokevirtual 293, 3) := by decide +kernel
theorem dX12_hex_5 : decode cX12_hex 5 = .ok (.ifCond .eq 30, 3) := by decide +kernel
theorem dX12_hex_8 : decode cX12_hex 8 = .ok (.iload_n 2, 1) := by decide +kernel
theorem dX12_hex_9 : decode cX12_hex 9 = .ok (.ifCond .lt 26, 3) := by decide +kernel
theorem dX12_hex_12 : decode cX12_hex 12 = .ok (.iload_n 2, 1) := by decide +kernel
theorem dX12_hex_13 : decode cX12_hex 13 = .ok (.bipush 125, 2) := by decide +kernel
theorem dX12_hex_15 : decode cX12_hex 15 = .ok (.if_icmp .ge 20, 3) := by decide +kernel
theorem dX12_hex_18 : decode cX12_hex 18 = .ok (.bipush 16, 2) := by decide +kernel
theorem dX12_hex_20 : decode cX12_hex 20 = .ok (.iload_n 2, 1) := by decide +kernel
theorem dX12_hex_21 : decode cX12_hex 21 = .ok (.imul, 1) := by decide +kernel
theorem dX12_hex_22 : decode cX12_hex 22 = .ok (.aload_n 0, 1) := by decide +kernel
theorem dX12_hex_23 : decode cX12_hex 23 = .ok (.getfield 13, 3) := by decide +kernel
theorem dX12_hex_26 : decode cX12_hex 26 = .ok (.iload_n 1, 1) := by decide +kernel
theorem dX12_hex_27 : decode cX12_hex 27 = .ok (.iaload, 1) := by decide +kernel
theorem dX12_hex_28 : decode cX12_hex 28 = .ok (.if_icmp .ge 7, 3) := by decide +kernel
theorem dX12_hex_31 : decode cX12_hex 31 = .ok (.iload_n 3, 1) := by decide +kernel
theorem dX12_hex_32 : decode cX12_hex 32 = .ok (.ifCond .ge 5, 3) := by decide +kernel
theorem dX12_hex_35 : decode cX12_hex 35 = .ok (.iconst (-1), 1) := by decide +kernel
theorem dX12_hex_36 : decode cX12_hex 36 = .ok (.ireturn, 1) := by decide +kernel
theorem dX12_hex_37 : decode cX12_hex 37 = .ok (.aload_n 0, 1) := by decide +kernel
theorem dX12_hex_38 : decode cX12_hex 38 = .ok (.getfield 13, 3) := by decide +kernel
theorem dX12_hex_41 : decode cX12_hex 41 = .ok (.iload_n 1, 1) := by decide +kernel
theorem dX12_hex_42 : decode cX12_hex 42 = .ok (.iaload, 1) := by decide +kernel
theorem dX12_hex_43 : decode cX12_hex 43 = .ok (.bipush 16, 2) := by decide +kernel
theorem dX12_hex_45 : decode cX12_hex 45 = .ok (.iload_n 2, 1) := by decide +kernel
theorem dX12_hex_46 : decode cX12_hex 46 = .ok (.imul, 1) := by decide +kernel
theorem dX12_hex_47 : decode cX12_hex 47 = .ok (.isub, 1) := by decide +kernel
theorem dX12_hex_48 : decode cX12_hex 48 = .ok (.bipush 16, 2) := by decide +kernel
theorem dX12_hex_50 : decode cX12_hex 50 = .ok (.if_icmp .ge 17, 3) := by decide +kernel
theorem dX12_hex_53 : decode cX12_hex 53 = .ok (.aload_n 0, 1) := by decide +kernel
theorem dX12_hex_54 : decode cX12_hex 54 = .ok (.getfield 13, 3) := by decide +kernel
theorem dX12_hex_57 : decode cX12_hex 57 = .ok (.iload_n 1, 1) := by decide +kernel
theorem dX12_hex_58 : decode cX12_hex 58 = .ok (.iaload, 1) := by decide +kernel
theorem dX12_hex_59 : decode cX12_hex 59 = .ok (.bipush 16, 2) := by decide +kernel
theorem dX12_hex_61 : decode cX12_hex 61 = .ok (.iload_n 2, 1) := by decide +kernel
theorem dX12_hex_62 : decode cX12_hex 62 = .ok (.imul, 1) := by decide +kernel
theorem dX12_hex_63 : decode cX12_hex 63 = .ok (.isub, 1) := by decide +kernel
theorem dX12_hex_64 : decode cX12_hex 64 = .ok (.goto 5, 3) := by decide +kernel
theorem dX12_hex_67 : decode cX12_hex 67 = .ok (.bipush 16, 2) := by decide +kernel
theorem dX12_hex_69 : decode cX12_hex 69 = .ok (.istore 4, 2) := by decide +kernel
theorem dX12_hex_71 : decode cX12_hex 71 = .ok (.iload_n 3, 1) := by decide +kernel
theorem dX12_hex_72 : decode cX12_hex 72 = .ok (.iconst 4, 1) := by decide +kernel
theorem dX12_hex_73 : decode cX12_hex 73 = .ok (.if_icmp .ge 21, 3) := by decide +kernel
theorem dX12_hex_76 : decode cX12_hex 76 = .ok (.aload_n 0, 1) := by decide +kernel
theorem dX12_hex_77 : decode cX12_hex 77 = .ok (.bipush 16, 2) := by decide +kernel
theorem dX12_hex_79 : decode cX12_hex 79 = .ok (.iload_n 2, 1) := by decide +kernel
theorem dX12_hex_80 : decode cX12_hex 80 = .ok (.imul, 1) := by decide +kernel
theorem dX12_hex_81 : decode cX12_hex 81 = .ok (.iconst 4, 1) := by decide +kernel
theorem dX12_hex_82 : decode cX12_hex 82 = .ok (.iconst 3, 1) := by decide +kernel
theorem dX12_hex_83 : decode cX12_hex 83 = .ok (.iload_n 3, 1) := by decide +kernel
theorem dX12_hex_84 : decode cX12_hex 84 = .ok (.isub, 1) := by decide +kernel
theorem dX12_hex_85 : decode cX12_hex 85 = .ok (.imul, 1) := by decide +kernel
theorem dX12_hex_86 : decode cX12_hex 86 = .ok (.ishr, 1) := by decide +kernel
theorem dX12_hex_87 : decode cX12_hex 87 = .ok (.bipush 15, 2) := by decide +kernel
theorem dX12_hex_89 : decode cX12_hex 89 = .ok (.iand, 1) := by decide +kernel
theorem dX12_hex_90 : decode cX12_hex 90 = .ok (.invokevirtual 713, 3) := by decide +kernel
theorem dX12_hex_93 : decode cX12_hex 93 = .ok (.ireturn, 1) := by decide +kernel
theorem dX12_hex_94 : decode cX12_hex 94 = .ok (.iload_n 3, 1) := by decide +kernel
theorem dX12_hex_95 : decode cX12_hex 95 = .ok (.iconst 4, 1) := by decide +kernel
theorem dX12_hex_96 : decode cX12_hex 96 = .ok (.if_icmp .ne 6, 3) := by decide +kernel
theorem dX12_hex_99 : decode cX12_hex 99 = .ok (.bipush 58, 2) := by decide +kernel
theorem dX12_hex_101 : decode cX12_hex 101 = .ok (.ireturn, 1) := by decide +kernel
theorem dX12_hex_102 : decode cX12_hex 102 = .ok (.iload_n 3, 1) := by decide +kernel
theorem dX12_hex_103 : decode cX12_hex 103 = .ok (.bipush 53, 2) := by decide +kernel
theorem dX12_hex_105 : decode cX12_hex 105 = .ok (.if_icmp .ge 69, 3) := by decide +kernel
theorem dX12_hex_108 : decode cX12_hex 108 = .ok (.iload_n 3, 1) := by decide +kernel
theorem dX12_hex_109 : decode cX12_hex 109 = .ok (.iconst 5, 1) := by decide +kernel
theorem dX12_hex_110 : decode cX12_hex 110 = .ok (.isub, 1) := by decide +kernel
theorem dX12_hex_111 : decode cX12_hex 111 = .ok (.iconst 3, 1) := by decide +kernel
theorem dX12_hex_112 : decode cX12_hex 112 = .ok (.idiv, 1) := by decide +kernel
theorem dX12_hex_113 : decode cX12_hex 113 = .ok (.istore 5, 2) := by decide +kernel
theorem dX12_hex_115 : decode cX12_hex 115 = .ok (.iload_n 3, 1) := by decide +kernel
theorem dX12_hex_116 : decode cX12_hex 116 = .ok (.iconst 5, 1) := by decide +kernel
theorem dX12_hex_117 : decode cX12_hex 117 = .ok (.isub, 1) := by decide +kernel
theorem dX12_hex_118 : decode cX12_hex 118 = .ok (.iconst 3, 1) := by decide +kernel
theorem dX12_hex_119 : decode cX12_hex 119 = .ok (.irem, 1) := by decide +kernel
theorem dX12_hex_120 : decode cX12_hex 120 = .ok (.istore 6, 2) := by decide +kernel
theorem dX12_hex_122 : decode cX12_hex 122 = .ok (.iload 5, 2) := by decide +kernel
theorem dX12_hex_124 : decode cX12_hex 124 = .ok (.iload 4, 2) := by decide +kernel
theorem dX12_hex_126 : decode cX12_hex 126 = .ok (.if_icmp .ge 8, 3) := by decide +kernel
theorem dX12_hex_129 : decode cX12_hex 129 = .ok (.iload 6, 2) := by decide +kernel
theorem dX12_hex_131 : decode cX12_hex 131 = .ok (.ifCond .ne 6, 3) := by decide +kernel
theorem dX12_hex_134 : decode cX12_hex 134 = .ok (.bipush 32, 2) := by decide +kernel
theorem dX12_hex_136 : decode cX12_hex 136 = .ok (.ireturn, 1) := by decide +kernel
theorem dX12_hex_137 : decode cX12_hex 137 = .ok (.aload_n 0, 1) := by decide +kernel
theorem dX12_hex_138 : decode cX12_hex 138 = .ok (.iload_n 1, 1) := by decide +kernel
theorem dX12_hex_139 : decode cX12_hex 139 = .ok (.bipush 16, 2) := by decide +kernel
theorem dX12_hex_141 : decode cX12_hex 141 = .ok (.iload_n 2, 1) := by decide +kernel
theorem dX12_hex_142 : decode cX12_hex 142 = .ok (.imul, 1) := by decide +kernel
theorem dX12_hex_143 : decode cX12_hex 143 = .ok (.iload 5, 2) := by decide +kernel
theorem dX12_hex_145 : decode cX12_hex 145 = .ok (.iadd, 1) := by decide +kernel
theorem dX12_hex_146 : decode cX12_hex 146 = .ok (.invokevirtual 299, 3) := by decide +kernel
theorem dX12_hex_149 : decode cX12_hex 149 = .ok (.istore 7, 2) := by decide +kernel
theorem dX12_hex_151 : decode cX12_hex 151 = .ok (.aload_n 0, 1) := by decide +kernel
theorem dX12_hex_152 : decode cX12_hex 152 = .ok (.iload 6, 2) := by decide +kernel
theorem dX12_hex_154 : decode cX12_hex 154 = .ok (.iconst 1, 1) := by decide +kernel
theorem dX12_hex_155 : decode cX12_hex 155 = .ok (.if_icmp .ne 10, 3) := by decide +kernel
theorem dX12_hex_158 : decode cX12_hex 158 = .ok (.iload 7, 2) := by decide +kernel
theorem dX12_hex_160 : decode cX12_hex 160 = .ok (.iconst 4, 1) := by decide +kernel
theorem dX12_hex_161 : decode cX12_hex 161 = .ok (.ishr, 1) := by decide +kernel
theorem dX12_hex_162 : decode cX12_hex 162 = .ok (.goto 8, 3) := by decide +kernel
theorem dX12_hex_165 : decode cX12_hex 165 = .ok (.iload 7, 2) := by decide +kernel
theorem dX12_hex_167 : decode cX12_hex 167 = .ok (.bipush 15, 2) := by decide +kernel
theorem dX12_hex_169 : decode cX12_hex 169 = .ok (.iand, 1) := by decide +kernel
theorem dX12_hex_170 : decode cX12_hex 170 = .ok (.invokevirtual 713, 3) := by decide +kernel
theorem dX12_hex_173 : decode cX12_hex 173 = .ok (.ireturn, 1) := by decide +kernel
theorem dX12_hex_174 : decode cX12_hex 174 = .ok (.iload_n 3, 1) := by decide +kernel
theorem dX12_hex_175 : decode cX12_hex 175 = .ok (.bipush 53, 2) := by decide +kernel
theorem dX12_hex_177 : decode cX12_hex 177 = .ok (.if_icmp .ne 6, 3) := by decide +kernel
theorem dX12_hex_180 : decode cX12_hex 180 = .ok (.bipush 32, 2) := by decide +kernel
theorem dX12_hex_182 : decode cX12_hex 182 = .ok (.ireturn, 1) := by decide +kernel
theorem dX12_hex_183 : decode cX12_hex 183 = .ok (.iload_n 3, 1) := by decide +kernel
theorem dX12_hex_184 : decode cX12_hex 184 = .ok (.bipush 54, 2) := by decide +kernel
theorem dX12_hex_186 : decode cX12_hex 186 = .ok (.if_icmp .eq 12, 3) := by decide +kernel
theorem dX12_hex_189 : decode cX12_hex 189 = .ok (.iload_n 3, 1) := by decide +kernel
theorem dX12_hex_190 : decode cX12_hex 190 = .ok (.bipush 55, 2) := by decide +kernel
theorem dX12_hex_192 : decode cX12_hex 192 = .ok (.iload 4, 2) := by decide +kernel
theorem dX12_hex_194 : decode cX12_hex 194 = .ok (.iadd, 1) := by decide +kernel
theorem dX12_hex_195 : decode cX12_hex 195 = .ok (.if_icmp .ne 6, 3) := by decide +kernel
theorem dX12_hex_198 : decode cX12_hex 198 = .ok (.bipush 124, 2) := by decide +kernel
theorem dX12_hex_200 : decode cX12_hex 200 = .ok (.ireturn, 1) := by decide +kernel
theorem dX12_hex_201 : decode cX12_hex 201 = .ok (.iload_n 3, 1) := by decide +kernel
theorem dX12_hex_202 : decode cX12_hex 202 = .ok (.bipush 55, 2) := by decide +kernel
theorem dX12_hex_204 : decode cX12_hex 204 = .ok (.iload 4, 2) := by decide +kernel
theorem dX12_hex_206 : decode cX12_hex 206 = .ok (.iadd, 1) := by decide +kernel
theorem dX12_hex_207 : decode cX12_hex 207 = .ok (.if_icmp .le 5, 3) := by decide +kernel
theorem dX12_hex_210 : decode cX12_hex 210 = .ok (.iconst (-1), 1) := by decide +kernel
theorem dX12_hex_211 : decode cX12_hex 211 = .ok (.ireturn, 1) := by decide +kernel
theorem dX12_hex_212 : decode cX12_hex 212 = .ok (.aload_n 0, 1) := by decide +kernel
theorem dX12_hex_213 : decode cX12_hex 213 = .ok (.iload_n 1, 1) := by decide +kernel
theorem dX12_hex_214 : decode cX12_hex 214 = .ok (.bipush 16, 2) := by decide +kernel
theorem dX12_hex_216 : decode cX12_hex 216 = .ok (.iload_n 2, 1) := by decide +kernel
theorem dX12_hex_217 : decode cX12_hex 217 = .ok (.imul, 1) := by decide +kernel
theorem dX12_hex_218 : decode cX12_hex 218 = .ok (.iload_n 3, 1) := by decide +kernel
theorem dX12_hex_219 : decode cX12_hex 219 = .ok (.iadd, 1) := by decide +kernel
theorem dX12_hex_220 : decode cX12_hex 220 = .ok (.bipush 55, 2) := by decide +kernel
theorem dX12_hex_222 : decode cX12_hex 222 = .ok (.isub, 1) := by decide +kernel
theorem dX12_hex_223 : decode cX12_hex 223 = .ok (.invokevirtual 299, 3) := by decide +kernel
theorem dX12_hex_226 : decode cX12_hex 226 = .ok (.istore 5, 2) := by decide +kernel
theorem dX12_hex_228 : decode cX12_hex 228 = .ok (.iload 5, 2) := by decide +kernel
theorem dX12_hex_230 : decode cX12_hex 230 = .ok (.bipush 32, 2) := by decide +kernel
theorem dX12_hex_232 : decode cX12_hex 232 = .ok (.if_icmp .lt 15, 3) := by decide +kernel
theorem dX12_hex_235 : decode cX12_hex 235 = .ok (.iload 5, 2) := by decide +kernel
theorem dX12_hex_237 : decode cX12_hex 237 = .ok (.bipush 126, 2) := by decide +kernel
theorem dX12_hex_239 : decode cX12_hex 239 = .ok (.if_icmp .gt 8, 3) := by decide +kernel
theorem dX12_hex_242 : decode cX12_hex 242 = .ok (.iload 5, 2) := by decide +kernel
theorem dX12_hex_244 : decode cX12_hex 244 = .ok (.goto 5, 3) := by decide +kernel
theorem dX12_hex_247 : decode cX12_hex 247 = .ok (.bipush 46, 2) := by decide +kernel
theorem dX12_hex_249 : decode cX12_hex 249 = .ok (.ireturn, 1) := by decide +kernel
theorem dX12_image_0 : decode cX12_image 0 = .ok (.aload_n 0, 1) := by decide +kernel
theorem dX12_image_1 : decode cX12_image 1 = .ok (.getfield 7, 3) := by decide +kernel
theorem dX12_image_4 : decode cX12_image 4 = .ok (.bipush 6, 2) := by decide +kernel
theorem dX12_image_6 : decode cX12_image 6 = .ok (.if_icmp .ne 6, 3) := by decide +kernel
theorem dX12_image_9 : decode cX12_image 9 = .ok (.bipush (-2), 2) := by decide +kernel
theorem dX12_image_11 : decode cX12_image 11 = .ok (.ireturn, 1) := by decide +kernel
theorem dX12_image_12 : decode cX12_image 12 = .ok (.aload_n 0, 1) := by decide +kernel
theorem dX12_image_13 : decode cX12_image 13 = .ok (.getfield 13, 3) := by decide +kernel
theorem dX12_image_16 : decode cX12_image 16 = .ok (.aload_n 0, 1) := by decide +kernel
theorem dX12_image_17 : decode cX12_image 17 = .ok (.getfield 7, 3) := by decide +kernel
theorem dX12_image_20 : decode cX12_image 20 = .ok (.iconst 0, 1) := by decide +kernel
theorem dX12_image_21 : decode cX12_image 21 = .ok (.iastore, 1) := by decide +kernel
theorem dX12_image_22 : decode cX12_image 22 = .ok (.aload_n 0, 1) := by decide +kernel
theorem dX12_image_23 : decode cX12_image 23 = .ok (.getfield 17, 3) := by decide +kernel
theorem dX12_image_26 : decode cX12_image 26 = .ok (.aload_n 0, 1) := by decide +kernel
theorem dX12_image_27 : decode cX12_image 27 = .ok (.getfield 7, 3) := by decide +kernel
theorem dX12_image_30 : decode cX12_image 30 = .ok (.iconst 0, 1) := by decide +kernel
theorem dX12_image_31 : decode cX12_image 31 = .ok (.iastore, 1) := by decide +kernel
theorem dX12_image_32 : decode cX12_image 32 = .ok (.aload_n 0, 1) := by decide +kernel
theorem dX12_image_33 : decode cX12_image 33 = .ok (.dup, 1) := by decide +kernel
theorem dX12_image_34 : decode cX12_image 34 = .ok (.getfield 7, 3) := by decide +kernel
theorem dX12_image_37 : decode cX12_image 37 = .ok (.iconst 1, 1) := by decide +kernel
theorem dX12_image_38 : decode cX12_image 38 = .ok (.iadd, 1) := by decide +kernel
theorem dX12_image_39 : decode cX12_image 39 = .ok (.putfield 7, 3) := by decide +kernel
theorem dX12_image_42 : decode cX12_image 42 = .ok (.aload_n 0, 1) := by decide +kernel
theorem dX12_image_43 : decode cX12_image 43 = .ok (.getfield 7, 3) := by decide +kernel
theorem dX12_image_46 : decode cX12_image 46 = .ok (.iconst 1, 1) := by decide +kernel
theorem dX12_image_47 : decode cX12_image 47 = .ok (.isub, 1) := by decide +kernel
theorem dX12_image_48 : decode cX12_image 48 = .ok (.ireturn, 1) := by decide +kernel
theorem dX12_init_0 : decode cX12_init 0 = .ok (.aload_n 0, 1) := by decide +kernel
theorem dX12_init_1 : decode cX12_init 1 = .ok (.invokespecial 1, 3) := by decide +kernel
theorem dX12_init_4 : decode cX12_init 4 = .ok (.aload_n 0, 1) := by decide +kernel
theorem dX12_init_5 : decode cX12_init 5 = .ok (.iconst 0, 1) := by decide +kernel
theorem dX12_init_6 : decode cX12_init 6 = .ok (.putfield 7, 3) := by decide +kernel
theorem dX12_init_9 : decode cX12_init 9 = .ok (.aload_n 0, 1) := by decide +kernel
theorem dX12_init_10 : decode cX12_init 10 = .ok (.bipush 6, 2) := by decide +kernel
theorem dX12_init_12 : decode cX12_init 12 = .ok (.newarray .int, 2) := by decide +kernel
theorem dX12_init_14 : decode cX12_init 14 = .ok (.putfield 13, 3) := by decide +kernel
theorem dX12_init_17 : decode cX12_init 17 = .ok (.aload_n 0, 1) := by decide +kernel
theorem dX12_init_18 : decode cX12_init 18 = .ok (.bipush 6, 2) := by decide +kernel
theorem dX12_init_20 : decode cX12_init 20 = .ok (.newarray .int, 2) := by decide +kernel
theorem dX12_init_22 : decode cX12_init 22 = .ok (.putfield 17, 3) := by decide +kernel
theorem dX12_init_25 : decode cX12_init 25 = .ok (.aload_n 0, 1) := by decide +kernel
theorem dX12_init_26 : decode cX12_init 26 = .ok (.sipush 12000, 3) := by decide +kernel
theorem dX12_init_29 : decode cX12_init 29 = .ok (.newarray .int, 2) := by decide +kernel
theorem dX12_init_31 : decode cX12_init 31 = .ok (.putfield 20, 3) := by decide +kernel
theorem dX12_init_34 : decode cX12_init 34 = .ok (.aload_n 0, 1) := by decide +kernel
theorem dX12_init_35 : decode cX12_init 35 = .ok (.ldc 23, 2) := by decide +kernel
theorem dX12_init_37 : decode cX12_init 37 = .ok (.newarray .int, 2) := by decide +kernel
theorem dX12_init_39 : decode cX12_init 39 = .ok (.putfield 24, 3) := by decide +kernel
theorem dX12_init_42 : decode cX12_init 42 = .ok (.aload_n 0, 1) := by decide +kernel
theorem dX12_init_43 : decode cX12_init 43 = .ok (.bipush 24, 2) := by decide +kernel
theorem dX12_init_45 : decode cX12_init 45 = .ok (.newarray .int, 2) := by decide +kernel
theorem dX12_init_47 : decode cX12_init 47 = .ok (.putfield 27, 3) := by decide +kernel
theorem dX12_init_50 : decode cX12_init 50 = .ok (.aload_n 0, 1) := by decide +kernel
theorem dX12_init_51 : decode cX12_init 51 = .ok (.sipush 480, 3) := by decide +kernel
theorem dX12_init_54 : decode cX12_init 54 = .ok (.newarray .int, 2) := by decide +kernel
theorem dX12_init_56 : decode cX12_init 56 = .ok (.putfield 30, 3) := by decide +kernel
theorem dX12_init_59 : decode cX12_init 59 = .ok (.aload_n 0, 1) := by decide +kernel
theorem dX12_init_60 : decode cX12_init 60 = .ok (.sipush 3840, 3) := by decide +kernel
theorem dX12_init_63 : decode cX12_init 63 = .ok (.newarray .int, 2) := by decide +kernel
theorem dX12_init_65 : decode cX12_init 65 = .ok (.putfield 33, 3) := by decide +kernel
theorem dX12_init_68 : decode cX12_init 68 = .ok (.aload_n 0, 1) := by decide +kernel
theorem dX12_init_69 : decode cX12_init 69 = .ok (.sipush 3840, 3) := by decide +kernel
theorem dX12_init_72 : decode cX12_init 72 = .ok (.newarray .int, 2) := by decide +kernel
theorem dX12_init_74 : decode cX12_init 74 = .ok (.putfield 36, 3) := by decide +kernel
theorem dX12_init_77 : decode cX12_init 77 = .ok (.aload_n 0, 1) := by decide +kernel
theorem dX12_init_78 : decode cX12_init 78 = .ok (.bipush 8, 2) := by decide +kernel
theorem dX12_init_80 : decode cX12_init 80 = .ok (.newarray .int, 2) := by decide +kernel
theorem dX12_init_82 : decode cX12_init 82 = .ok (.putfield 39, 3) := by decide +kernel
theorem dX12_init_85 : decode cX12_init 85 = .ok (.aload_n 0, 1) := by decide +kernel
theorem dX12_init_86 : decode cX12_init 86 = .ok (.sipush 3000, 3) := by decide +kernel
theorem dX12_init_89 : decode cX12_init 89 = .ok (.newarray .int, 2) := by decide +kernel
theorem dX12_init_91 : decode cX12_init 91 = .ok (.putfield 42, 3) := by decide +kernel
theorem dX12_init_94 : decode cX12_init 94 = .ok (.aload_n 0, 1) := by decide +kernel
theorem dX12_init_95 : decode cX12_init 95 = .ok (.iconst 0, 1) := by decide +kernel
theorem dX12_init_96 : decode cX12_init 96 = .ok (.putfield 45, 3) := by decide +kernel
theorem dX12_init_99 : decode cX12_init 99 = .ok (.aload_n 0, 1) := by decide +kernel
theorem dX12_init_100 : decode cX12_init 100 = .ok (.iconst 0, 1) := by decide +kernel
theorem dX12_init_101 : decode cX12_init 101 = .ok (.putfield 48, 3) := by decide +kernel
theorem dX12_init_104 : decode cX12_init 104 = .ok (.aload_n 0, 1) := by decide +kernel
theorem dX12_init_105 : decode cX12_init 105 = .ok (.iconst 0, 1) := by decide +kernel
theorem dX12_init_106 : decode cX12_init 106 = .ok (.putfield 51, 3) := by decide +kernel
theorem dX12_init_109 : decode cX12_init 109 = .ok (.aload_n 0, 1) := by decide +kernel
theorem dX12_init_110 : decode cX12_init 110 = .ok (.iconst 0, 1) := by decide +kernel
theorem dX12_init_111 : decode cX12_init 111 = .ok (.putfield 54, 3) := by decide +kernel
theorem dX12_init_114 : decode cX12_init 114 = .ok (.aload_n 0, 1) := by decide +kernel
theorem dX12_init_115 : decode cX12_init 115 = .ok (.iconst 0, 1) := by decide +kernel
theorem dX12_init_116 : decode cX12_init 116 = .ok (.putfield 57, 3) := by decide +kernel
theorem dX12_init_119 : decode cX12_init 119 = .ok (.aload_n 0, 1) := by decide +kernel
theorem dX12_init_120 : decode cX12_init 120 = .ok (.lconst 0, 1) := by decide +kernel
theorem dX12_init_121 : decode cX12_init 121 = .ok (.putfield 60, 3) := by decide +kernel
theorem dX12_init_124 : decode cX12_init 124 = .ok (.aload_n 0, 1) := by decide +kernel
theorem dX12_init_125 : decode cX12_init 125 = .ok (.lconst 0, 1) := by decide +kernel
theorem dX12_init_126 : decode cX12_init 126 = .ok (.putfield 64, 3) := by decide +kernel
theorem dX12_init_129 : decode cX12_init 129 = .ok (.aload_n 0, 1) := by decide +kernel
theorem dX12_init_130 : decode cX12_init 130 = .ok (.iconst 0, 1) := by decide +kernel
theorem dX12_init_131 : decode cX12_init 131 = .ok (.putfield 67, 3) := by decide +kernel
theorem dX12_init_134 : decode cX12_init 134 = .ok (.aload_n 0, 1) := by decide +kernel
theorem dX12_init_135 : decode cX12_init 135 = .ok (.iconst 2, 1) := by decide +kernel
theorem dX12_init_136 : decode cX12_init 136 = .ok (.newarray .int, 2) := by decide +kernel
theorem dX12_init_138 : decode cX12_init 138 = .ok (.putfield 70, 3) := by decide +kernel
theorem dX12_init_141 : decode cX12_init 141 = .ok (.aload_n 0, 1) := by decide +kernel
theorem dX12_init_142 : decode cX12_init 142 = .ok (.iconst 2, 1) := by decide +kernel
theorem dX12_init_143 : decode cX12_init 143 = .ok (.newarray .int, 2) := by decide +kernel
theorem dX12_init_145 : decode cX12_init 145 = .ok (.putfield 73, 3) := by decide +kernel
theorem dX12_init_148 : decode cX12_init 148 = .ok (.aload_n 0, 1) := by decide +kernel
theorem dX12_init_149 : decode cX12_init 149 = .ok (.bipush 40, 2) := by decide +kernel
theorem dX12_init_151 : decode cX12_init 151 = .ok (.newarray .long, 2) := by decide +kernel
theorem dX12_init_153 : decode cX12_init 153 = .ok (.putfield 76, 3) := by decide +kernel
theorem dX12_init_156 : decode cX12_init 156 = .ok (.aload_n 0, 1) := by decide +kernel
theorem dX12_init_157 : decode cX12_init 157 = .ok (.bipush 40, 2) := by decide +kernel
theorem dX12_init_159 : decode cX12_init 159 = .ok (.newarray .int, 2) := by decide +kernel
theorem dX12_init_161 : decode cX12_init 161 = .ok (.putfield 80, 3) := by decide +kernel
theorem dX12_init_164 : decode cX12_init 164 = .ok (.aload_n 0, 1) := by decide +kernel
theorem dX12_init_165 : decode cX12_init 165 = .ok (.bipush 40, 2) := by decide +kernel
theorem dX12_init_167 : decode cX12_init 167 = .ok (.newarray .int, 2) := by decide +kernel
theorem dX12_init_169 : decode cX12_init 169 = .ok (.putfield 83, 3) := by decide +kernel
theorem dX12_init_172 : decode cX12_init 172 = .ok (.aload_n 0, 1) := by decide +kernel
theorem dX12_init_173 : decode cX12_init 173 = .ok (.bipush 16, 2) := by decide +kernel
theorem dX12_init_175 : decode cX12_init 175 = .ok (.newarray .long, 2) := by decide +kernel
theorem dX12_init_177 : decode cX12_init 177 = .ok (.putfield 86, 3) := by decide +kernel
theorem dX12_init_180 : decode cX12_init 180 = .ok (.aload_n 0, 1) := by decide +kernel
theorem dX12_init_181 : decode cX12_init 181 = .ok (.bipush 16, 2) := by decide +kernel
theorem dX12_init_183 : decode cX12_init 183 = .ok (.newarray .int, 2) := by decide +kernel
theorem dX12_init_185 : decode cX12_init 185 = .ok (.putfield 89, 3) := by decide +kernel
theorem dX12_init_188 : decode cX12_init 188 = .ok (.aload_n 0, 1) := by decide +kernel
theorem dX12_init_189 : decode cX12_init 189 = .ok (.sipush 160, 3) := by decide +kernel
theorem dX12_init_192 : decode cX12_init 192 = .ok (.newarray .long, 2) := by decide +kernel
theorem dX12_init_194 : decode cX12_init 194 = .ok (.putfield 92, 3) := by decide +kernel
theorem dX12_init_197 : decode cX12_init 197 = .ok (.aload_n 0, 1) := by decide +kernel
theorem dX12_init_198 : decode cX12_init 198 = .ok (.sipush 160, 3) := by decide +kernel
theorem dX12_init_201 : decode cX12_init 201 = .ok (.newarray .long, 2) := by decide +kernel
theorem dX12_init_203 : decode cX12_init 203 = .ok (.putfield 95, 3) := by decide +kernel
theorem dX12_init_206 : decode cX12_init 206 = .ok (.aload_n 0, 1) := by decide +kernel
theorem dX12_init_207 : decode cX12_init 207 = .ok (.sipush 560, 3) := by decide +kernel
theorem dX12_init_210 : decode cX12_init 210 = .ok (.newarray .int, 2) := by decide +kernel
theorem dX12_init_212 : decode cX12_init 212 = .ok (.putfield 98, 3) := by decide +kernel
theorem dX12_init_215 : decode cX12_init 215 = .ok (.aload_n 0, 1) := by decide +kernel
theorem dX12_init_216 : decode cX12_init 216 = .ok (.sipush 560, 3) := by decide +kernel
theorem dX12_init_219 : decode cX12_init 219 = .ok (.newarray .int, 2) := by decide +kernel
theorem dX12_init_221 : decode cX12_init 221 = .ok (.putfield 101, 3) := by decide +kernel
theorem dX12_init_224 : decode cX12_init 224 = .ok (.aload_n 0, 1) := by decide +kernel
theorem dX12_init_225 : decode cX12_init 225 = .ok (.sipush 560, 3) := by decide +kernel
theorem dX12_init_228 : decode cX12_init 228 = .ok (.newarray .int, 2) := by decide +kernel
theorem dX12_init_230 : decode cX12_init 230 = .ok (.putfield 104, 3) := by decide +kernel
theorem dX12_init_233 : decode cX12_init 233 = .ok (.aload_n 0, 1) := by decide +kernel
theorem dX12_init_234 : decode cX12_init 234 = .ok (.sipush 560, 3) := by decide +kernel
theorem dX12_init_237 : decode cX12_init 237 = .ok (.newarray .int, 2) := by decide +kernel
theorem dX12_init_239 : decode cX12_init 239 = .ok (.putfield 107, 3) := by decide +kernel
theorem dX12_init_242 : decode cX12_init 242 = .ok (.aload_n 0, 1) := by decide +kernel
theorem dX12_init_243 : decode cX12_init 243 = .ok (.sipush 560, 3) := by decide +kernel
theorem dX12_init_246 : decode cX12_init 246 = .ok (.newarray .int, 2) := by decide +kernel
theorem dX12_init_248 : decode cX12_init 248 = .ok (.putfield 110, 3) := by decide +kernel
theorem dX12_init_251 : decode cX12_init 251 = .ok (.aload_n 0, 1) := by decide +kernel
theorem dX12_init_252 : decode cX12_init 252 = .ok (.sipush 560, 3) := by decide +kernel
theorem dX12_init_255 : decode cX12_init 255 = .ok (.newarray .int, 2) := by decide +kernel
theorem dX12_init_257 : decode cX12_init 257 = .ok (.putfield 113, 3) := by decide +kernel
theorem dX12_init_260 : decode cX12_init 260 = .ok (.aload_n 0, 1) := by decide +kernel
theorem dX12_init_261 : decode cX12_init 261 = .ok (.sipush 560, 3) := by decide +kernel
theorem dX12_init_264 : decode cX12_init 264 = .ok (.newarray .int, 2) := by decide +kernel
theorem dX12_init_266 : decode cX12_init 266 = .ok (.putfield 116, 3) := by decide +kernel
theorem dX12_init_269 : decode cX12_init 269 = .ok (.aload_n 0, 1) := by decide +kernel
theorem dX12_init_270 : decode cX12_init 270 = .ok (.sipush 560, 3) := by decide +kernel
theorem dX12_init_273 : decode cX12_init 273 = .ok (.newarray .int, 2) := by decide +kernel
theorem dX12_init_275 : decode cX12_init 275 = .ok (.putfield 119, 3) := by decide +kernel
theorem dX12_init_278 : decode cX12_init 278 = .ok (.aload_n 0, 1) := by decide +kernel
theorem dX12_init_279 : decode cX12_init 279 = .ok (.sipush 560, 3) := by decide +kernel
theorem dX12_init_282 : decode cX12_init 282 = .ok (.newarray .int, 2) := by decide +kernel
theorem dX12_init_284 : decode cX12_init 284 = .ok (.putfield 122, 3) := by decide +kernel
theorem dX12_init_287 : decode cX12_init 287 = .ok (.aload_n 0, 1) := by decide +kernel
theorem dX12_init_288 : decode cX12_init 288 = .ok (.sipush 560, 3) := by decide +kernel
theorem dX12_init_291 : decode cX12_init 291 = .ok (.newarray .int, 2) := by decide +kernel
theorem dX12_init_293 : decode cX12_init 293 = .ok (.putfield 125, 3) := by decide +kernel
theorem dX12_init_296 : decode cX12_init 296 = .ok (.aload_n 0, 1) := by decide +kernel
theorem dX12_init_297 : decode cX12_init 297 = .ok (.sipush 560, 3) := by decide +kernel
theorem dX12_init_300 : decode cX12_init 300 = .ok (.newarray .long, 2) := by decide +kernel
theorem dX12_init_302 : decode cX12_init 302 = .ok (.putfield 128, 3) := by decide +kernel
theorem dX12_init_305 : decode cX12_init 305 = .ok (.aload_n 0, 1) := by decide +kernel
theorem dX12_init_306 : decode cX12_init 306 = .ok (.sipush 8960, 3) := by decide +kernel
theorem dX12_init_309 : decode cX12_init 309 = .ok (.newarray .long, 2) := by decide +kernel
theorem dX12_init_311 : decode cX12_init 311 = .ok (.putfield 131, 3) := by decide +kernel
theorem dX12_init_314 : decode cX12_init 314 = .ok (.aload_n 0, 1) := by decide +kernel
theorem dX12_init_315 : decode cX12_init 315 = .ok (.sipush 8960, 3) := by decide +kernel
theorem dX12_init_318 : decode cX12_init 318 = .ok (.newarray .long, 2) := by decide +kernel
theorem dX12_init_320 : decode cX12_init 320 = .ok (.putfield 134, 3) := by decide +kernel
theorem dX12_init_323 : decode cX12_init 323 = .ok (.aload_n 0, 1) := by decide +kernel
theorem dX12_init_324 : decode cX12_init 324 = .ok (.sipush 8960, 3) := by decide +kernel
theorem dX12_init_327 : decode cX12_init 327 = .ok (.newarray .int, 2) := by decide +kernel
theorem dX12_init_329 : decode cX12_init 329 = .ok (.putfield 137, 3) := by decide +kernel
theorem dX12_init_332 : decode cX12_init 332 = .ok (.aload_n 0, 1) := by decide +kernel
theorem dX12_init_333 : decode cX12_init 333 = .ok (.sipush 9000, 3) := by decide +kernel
theorem dX12_init_336 : decode cX12_init 336 = .ok (.newarray .int, 2) := by decide +kernel
theorem dX12_init_338 : decode cX12_init 338 = .ok (.putfield 140, 3) := by decide +kernel
theorem dX12_init_341 : decode cX12_init 341 = .ok (.aload_n 0, 1) := by decide +kernel
theorem dX12_init_342 : decode cX12_init 342 = .ok (.sipush 9000, 3) := by decide +kernel
theorem dX12_init_345 : decode cX12_init 345 = .ok (.newarray .int, 2) := by decide +kernel
theorem dX12_init_347 : decode cX12_init 347 = .ok (.putfield 143, 3) := by decide +kernel
theorem dX12_init_350 : decode cX12_init 350 = .ok (.aload_n 0, 1) := by decide +kernel
theorem dX12_init_351 : decode cX12_init 351 = .ok (.sipush 9000, 3) := by decide +kernel
theorem dX12_init_354 : decode cX12_init 354 = .ok (.newarray .int, 2) := by decide +kernel
theorem dX12_init_356 : decode cX12_init 356 = .ok (.putfield 146, 3) := by decide +kernel
theorem dX12_init_359 : decode cX12_init 359 = .ok (.aload_n 0, 1) := by decide +kernel
theorem dX12_init_360 : decode cX12_init 360 = .ok (.sipush 9000, 3) := by decide +kernel
theorem dX12_init_363 : decode cX12_init 363 = .ok (.newarray .long, 2) := by decide +kernel
theorem dX12_init_365 : decode cX12_init 365 = .ok (.putfield 149, 3) := by decide +kernel
theorem dX12_init_368 : decode cX12_init 368 = .ok (.aload_n 0, 1) := by decide +kernel
theorem dX12_init_369 : decode cX12_init 369 = .ok (.iconst 0, 1) := by decide +kernel
theorem dX12_init_370 : decode cX12_init 370 = .ok (.putfield 152, 3) := by decide +kernel
theorem dX12_init_373 : decode cX12_init 373 = .ok (.aload_n 0, 1) := by decide +kernel
theorem dX12_init_374 : decode cX12_init 374 = .ok (.sipush 280, 3) := by decide +kernel
theorem dX12_init_377 : decode cX12_init 377 = .ok (.newarray .int, 2) := by decide +kernel
theorem dX12_init_379 : decode cX12_init 379 = .ok (.putfield 155, 3) := by decide +kernel
theorem dX12_init_382 : decode cX12_init 382 = .ok (.aload_n 0, 1) := by decide +kernel
theorem dX12_init_383 : decode cX12_init 383 = .ok (.sipush 280, 3) := by decide +kernel
theorem dX12_init_386 : decode cX12_init 386 = .ok (.newarray .int, 2) := by decide +kernel
theorem dX12_init_388 : decode cX12_init 388 = .ok (.putfield 158, 3) := by decide +kernel
theorem dX12_init_391 : decode cX12_init 391 = .ok (.aload_n 0, 1) := by decide +kernel
theorem dX12_init_392 : decode cX12_init 392 = .ok (.sipush 280, 3) := by decide +kernel
theorem dX12_init_395 : decode cX12_init 395 = .ok (.newarray .long, 2) := by decide +kernel
theorem dX12_init_397 : decode cX12_init 397 = .ok (.putfield 161, 3) := by decide +kernel
theorem dX12_init_400 : decode cX12_init 400 = .ok (.aload_n 0, 1) := by decide +kernel
theorem dX12_init_401 : decode cX12_init 401 = .ok (.iconst 0, 1) := by decide +kernel
theorem dX12_init_402 : decode cX12_init 402 = .ok (.putfield 164, 3) := by decide +kernel
theorem dX12_init_405 : decode cX12_init 405 = .ok (.aload_n 0, 1) := by decide +kernel
theorem dX12_init_406 : decode cX12_init 406 = .ok (.iconst 0, 1) := by decide +kernel
theorem dX12_init_407 : decode cX12_init 407 = .ok (.putfield 167, 3) := by decide +kernel
theorem dX12_init_410 : decode cX12_init 410 = .ok (.aload_n 0, 1) := by decide +kernel
theorem dX12_init_411 : decode cX12_init 411 = .ok (.iconst 0, 1) := by decide +kernel
theorem dX12_init_412 : decode cX12_init 412 = .ok (.putfield 170, 3) := by decide +kernel
theorem dX12_init_415 : decode cX12_init 415 = .ok (.aload_n 0, 1) := by decide +kernel
theorem dX12_init_416 : decode cX12_init 416 = .ok (.iconst 0, 1) := by decide +kernel
theorem dX12_init_417 : decode cX12_init 417 = .ok (.putfield 173, 3) := by decide +kernel
theorem dX12_init_420 : decode cX12_init 420 = .ok (.aload_n 0, 1) := by decide +kernel
theorem dX12_init_421 : decode cX12_init 421 = .ok (.iconst 0, 1) := by decide +kernel
theorem dX12_init_422 : decode cX12_init 422 = .ok (.putfield 176, 3) := by decide +kernel
theorem dX12_init_425 : decode cX12_init 425 = .ok (.aload_n 0, 1) := by decide +kernel
theorem dX12_init_426 : decode cX12_init 426 = .ok (.iconst 0, 1) := by decide +kernel
theorem dX12_init_427 : decode cX12_init 427 = .ok (.putfield 179, 3) := by decide +kernel
theorem dX12_init_430 : decode cX12_init 430 = .ok (.aload_n 0, 1) := by decide +kernel
theorem dX12_init_431 : decode cX12_init 431 = .ok (.iconst 0, 1) := by decide +kernel
theorem dX12_init_432 : decode cX12_init 432 = .ok (.putfield 182, 3) := by decide +kernel
theorem dX12_init_435 : decode cX12_init 435 = .ok (.aload_n 0, 1) := by decide +kernel
theorem dX12_init_436 : decode cX12_init 436 = .ok (.iconst 0, 1) := by decide +kernel
theorem dX12_init_437 : decode cX12_init 437 = .ok (.putfield 186, 3) := by decide +kernel
theorem dX12_init_440 : decode cX12_init 440 = .ok (.aload_n 0, 1) := by decide +kernel
theorem dX12_init_441 : decode cX12_init 441 = .ok (.sipush 128, 3) := by decide +kernel
theorem dX12_init_444 : decode cX12_init 444 = .ok (.newarray .int, 2) := by decide +kernel
theorem dX12_init_446 : decode cX12_init 446 = .ok (.putfield 189, 3) := by decide +kernel
theorem dX12_init_449 : decode cX12_init 449 = .ok (.aload_n 0, 1) := by decide +kernel
theorem dX12_init_450 : decode cX12_init 450 = .ok (.sipush 128, 3) := by decide +kernel
theorem dX12_init_453 : decode cX12_init 453 = .ok (.newarray .int, 2) := by decide +kernel
theorem dX12_init_455 : decode cX12_init 455 = .ok (.putfield 192, 3) := by decide +kernel
theorem dX12_init_458 : decode cX12_init 458 = .ok (.aload_n 0, 1) := by decide +kernel
theorem dX12_init_459 : decode cX12_init 459 = .ok (.iconst 0, 1) := by decide +kernel
theorem dX12_init_460 : decode cX12_init 460 = .ok (.putfield 195, 3) := by decide +kernel
theorem dX12_init_463 : decode cX12_init 463 = .ok (.aload_n 0, 1) := by decide +kernel
theorem dX12_init_464 : decode cX12_init 464 = .ok (.iconst 0, 1) := by decide +kernel
theorem dX12_init_465 : decode cX12_init 465 = .ok (.putfield 198, 3) := by decide +kernel
theorem dX12_init_468 : decode cX12_init 468 = .ok (.aload_n 0, 1) := by decide +kernel
theorem dX12_init_469 : decode cX12_init 469 = .ok (.sipush 9000, 3) := by decide +kernel
theorem dX12_init_472 : decode cX12_init 472 = .ok (.newarray .int, 2) := by decide +kernel
theorem dX12_init_474 : decode cX12_init 474 = .ok (.putfield 201, 3) := by decide +kernel
theorem dX12_init_477 : decode cX12_init 477 = .ok (.aload_n 0, 1) := by decide +kernel
theorem dX12_init_478 : decode cX12_init 478 = .ok (.bipush 20, 2) := by decide +kernel
theorem dX12_init_480 : decode cX12_init 480 = .ok (.newarray .boolean, 2) := by decide +kernel
theorem dX12_init_482 : decode cX12_init 482 = .ok (.putfield 204, 3) := by decide +kernel
theorem dX12_init_485 : decode cX12_init 485 = .ok (.aload_n 0, 1) := by decide +kernel
theorem dX12_init_486 : decode cX12_init 486 = .ok (.iconst 0, 1) := by decide +kernel
theorem dX12_init_487 : decode cX12_init 487 = .ok (.putfield 208, 3) := by decide +kernel
theorem dX12_init_490 : decode cX12_init 490 = .ok (.aload_n 0, 1) := by decide +kernel
theorem dX12_init_491 : decode cX12_init 491 = .ok (.bipush 7, 2) := by decide +kernel
theorem dX12_init_493 : decode cX12_init 493 = .ok (.newarray .int, 2) := by decide +kernel
theorem dX12_init_495 : decode cX12_init 495 = .ok (.putfield 211, 3) := by decide +kernel
theorem dX12_init_498 : decode cX12_init 498 = .ok (.aload_n 0, 1) := by decide +kernel
theorem dX12_init_499 : decode cX12_init 499 = .ok (.bipush 7, 2) := by decide +kernel
theorem dX12_init_501 : decode cX12_init 501 = .ok (.newarray .int, 2) := by decide +kernel
theorem dX12_init_503 : decode cX12_init 503 = .ok (.putfield 214, 3) := by decide +kernel
theorem dX12_init_506 : decode cX12_init 506 = .ok (.aload_n 0, 1) := by decide +kernel
theorem dX12_init_507 : decode cX12_init 507 = .ok (.sipush 2800, 3) := by decide +kernel
theorem dX12_init_510 : decode cX12_init 510 = .ok (.newarray .int, 2) := by decide +kernel
theorem dX12_init_512 : decode cX12_init 512 = .ok (.putfield 217, 3) := by decide +kernel
theorem dX12_init_515 : decode cX12_init 515 = .ok (.aload_n 0, 1) := by decide +kernel
theorem dX12_init_516 : decode cX12_init 516 = .ok (.sipush 2800, 3) := by decide +kernel
theorem dX12_init_519 : decode cX12_init 519 = .ok (.newarray .int, 2) := by decide +kernel
theorem dX12_init_521 : decode cX12_init 521 = .ok (.putfield 220, 3) := by decide +kernel
theorem dX12_init_524 : decode cX12_init 524 = .ok (.aload_n 0, 1) := by decide +kernel
theorem dX12_init_525 : decode cX12_init 525 = .ok (.sipush 2800, 3) := by decide +kernel
theorem dX12_init_528 : decode cX12_init 528 = .ok (.newarray .int, 2) := by decide +kernel
theorem dX12_init_530 : decode cX12_init 530 = .ok (.putfield 223, 3) := by decide +kernel
theorem dX12_init_533 : decode cX12_init 533 = .ok (.aload_n 0, 1) := by decide +kernel
theorem dX12_init_534 : decode cX12_init 534 = .ok (.sipush 2800, 3) := by decide +kernel
theorem dX12_init_537 : decode cX12_init 537 = .ok (.newarray .int, 2) := by decide +kernel
theorem dX12_init_539 : decode cX12_init 539 = .ok (.putfield 226, 3) := by decide +kernel
theorem dX12_init_542 : decode cX12_init 542 = .ok (.aload_n 0, 1) := by decide +kernel
theorem dX12_init_543 : decode cX12_init 543 = .ok (.sipush 2800, 3) := by decide +kernel
theorem dX12_init_546 : decode cX12_init 546 = .ok (.newarray .int, 2) := by decide +kernel
theorem dX12_init_548 : decode cX12_init 548 = .ok (.putfield 229, 3) := by decide +kernel
theorem dX12_init_551 : decode cX12_init 551 = .ok (.aload_n 0, 1) := by decide +kernel
theorem dX12_init_552 : decode cX12_init 552 = .ok (.sipush 2800, 3) := by decide +kernel
theorem dX12_init_555 : decode cX12_init 555 = .ok (.newarray .int, 2) := by decide +kernel
theorem dX12_init_557 : decode cX12_init 557 = .ok (.putfield 232, 3) := by decide +kernel
theorem dX12_init_560 : decode cX12_init 560 = .ok (.aload_n 0, 1) := by decide +kernel
theorem dX12_init_561 : decode cX12_init 561 = .ok (.sipush 2800, 3) := by decide +kernel
theorem dX12_init_564 : decode cX12_init 564 = .ok (.newarray .int, 2) := by decide +kernel
theorem dX12_init_566 : decode cX12_init 566 = .ok (.putfield 235, 3) := by decide +kernel
theorem dX12_init_569 : decode cX12_init 569 = .ok (.aload_n 0, 1) := by decide +kernel
theorem dX12_init_570 : decode cX12_init 570 = .ok (.sipush 2800, 3) := by decide +kernel
theorem dX12_init_573 : decode cX12_init 573 = .ok (.newarray .int, 2) := by decide +kernel
theorem dX12_init_575 : decode cX12_init 575 = .ok (.putfield 238, 3) := by decide +kernel
theorem dX12_init_578 : decode cX12_init 578 = .ok (.aload_n 0, 1) := by decide +kernel
theorem dX12_init_579 : decode cX12_init 579 = .ok (.sipush 2800, 3) := by decide +kernel
theorem dX12_init_582 : decode cX12_init 582 = .ok (.newarray .int, 2) := by decide +kernel
theorem dX12_init_584 : decode cX12_init 584 = .ok (.putfield 241, 3) := by decide +kernel
theorem dX12_init_587 : decode cX12_init 587 = .ok (.aload_n 0, 1) := by decide +kernel
theorem dX12_init_588 : decode cX12_init 588 = .ok (.sipush 2800, 3) := by decide +kernel
theorem dX12_init_591 : decode cX12_init 591 = .ok (.newarray .int, 2) := by decide +kernel
theorem dX12_init_593 : decode cX12_init 593 = .ok (.putfield 244, 3) := by decide +kernel
theorem dX12_init_596 : decode cX12_init 596 = .ok (.aload_n 0, 1) := by decide +kernel
theorem dX12_init_597 : decode cX12_init 597 = .ok (.sipush 2800, 3) := by decide +kernel
theorem dX12_init_600 : decode cX12_init 600 = .ok (.newarray .int, 2) := by decide +kernel
theorem dX12_init_602 : decode cX12_init 602 = .ok (.putfield 247, 3) := by decide +kernel
theorem dX12_init_605 : decode cX12_init 605 = .ok (.aload_n 0, 1) := by decide +kernel
theorem dX12_init_606 : decode cX12_init 606 = .ok (.sipush 2800, 3) := by decide +kernel
theorem dX12_init_609 : decode cX12_init 609 = .ok (.newarray .int, 2) := by decide +kernel
theorem dX12_init_611 : decode cX12_init 611 = .ok (.putfield 250, 3) := by decide +kernel
theorem dX12_init_614 : decode cX12_init 614 = .ok (.aload_n 0, 1) := by decide +kernel
theorem dX12_init_615 : decode cX12_init 615 = .ok (.sipush 2800, 3) := by decide +kernel
theorem dX12_init_618 : decode cX12_init 618 = .ok (.newarray .boolean, 2) := by decide +kernel
theorem dX12_init_620 : decode cX12_init 620 = .ok (.putfield 253, 3) := by decide +kernel
theorem dX12_init_623 : decode cX12_init 623 = .ok (.aload_n 0, 1) := by decide +kernel
theorem dX12_init_624 : decode cX12_init 624 = .ok (.iconst 0, 1) := by decide +kernel
theorem dX12_init_625 : decode cX12_init 625 = .ok (.putfield 256, 3) := by decide +kernel
theorem dX12_init_628 : decode cX12_init 628 = .ok (.aload_n 0, 1) := by decide +kernel
theorem dX12_init_629 : decode cX12_init 629 = .ok (.iconst 0, 1) := by decide +kernel
theorem dX12_init_630 : decode cX12_init 630 = .ok (.putfield 259, 3) := by decide +kernel
theorem dX12_init_633 : decode cX12_init 633 = .ok (.aload_n 0, 1) := by decide +kernel
theorem dX12_init_634 : decode cX12_init 634 = .ok (.iconst 0, 1) := by decide +kernel
theorem dX12_init_635 : decode cX12_init 635 = .ok (.putfield 262, 3) := by decide +kernel
theorem dX12_init_638 : decode cX12_init 638 = .ok (.aload_n 0, 1) := by decide +kernel
theorem dX12_init_639 : decode cX12_init 639 = .ok (.sipush 128, 3) := by decide +kernel
theorem dX12_init_642 : decode cX12_init 642 = .ok (.newarray .int, 2) := by decide +kernel
theorem dX12_init_644 : decode cX12_init 644 = .ok (.putfield 265, 3) := by decide +kernel
theorem dX12_init_647 : decode cX12_init 647 = .ok (.aload_n 0, 1) := by decide +kernel
theorem dX12_init_648 : decode cX12_init 648 = .ok (.sipush 128, 3) := by decide +kernel
theorem dX12_init_651 : decode cX12_init 651 = .ok (.newarray .int, 2) := by decide +kernel
theorem dX12_init_653 : decode cX12_init 653 = .ok (.putfield 268, 3) := by decide +kernel
theorem dX12_init_656 : decode cX12_init 656 = .ok (.aload_n 0, 1) := by decide +kernel
theorem dX12_init_657 : decode cX12_init 657 = .ok (.iconst 0, 1) := by decide +kernel
theorem dX12_init_658 : decode cX12_init 658 = .ok (.putfield 271, 3) := by decide +kernel
theorem dX12_init_661 : decode cX12_init 661 = .ok (.aload_n 0, 1) := by decide +kernel
theorem dX12_init_662 : decode cX12_init 662 = .ok (.iconst 0, 1) := by decide +kernel
theorem dX12_init_663 : decode cX12_init 663 = .ok (.putfield 274, 3) := by decide +kernel
theorem dX12_init_666 : decode cX12_init 666 = .ok (.aload_n 0, 1) := by decide +kernel
theorem dX12_init_667 : decode cX12_init 667 = .ok (.sipush 9000, 3) := by decide +kernel
theorem dX12_init_670 : decode cX12_init 670 = .ok (.newarray .long, 2) := by decide +kernel
theorem dX12_init_672 : decode cX12_init 672 = .ok (.putfield 277, 3) := by decide +kernel
theorem dX12_init_675 : decode cX12_init 675 = .ok (.aload_n 0, 1) := by decide +kernel
theorem dX12_init_676 : decode cX12_init 676 = .ok (.lconst 0, 1) := by decide +kernel
theorem dX12_init_677 : decode cX12_init 677 = .ok (.putfield 280, 3) := by decide +kernel
theorem dX12_init_680 : decode cX12_init 680 = .ok (.aload_n 0, 1) := by decide +kernel
theorem dX12_init_681 : decode cX12_init 681 = .ok (.lconst 0, 1) := by decide +kernel
theorem dX12_init_682 : decode cX12_init 682 = .ok (.putfield 283, 3) := by decide +kernel
theorem dX12_init_685 : decode cX12_init 685 = .ok (.aload_n 0, 1) := by decide +kernel
theorem dX12_init_686 : decode cX12_init 686 = .ok (.lconst 0, 1) := by decide +kernel
theorem dX12_init_687 : decode cX12_init 687 = .ok (.putfield 286, 3) := by decide +kernel
theorem dX12_init_690 : decode cX12_init 690 = .ok (.return_, 1) := by decide +kernel
theorem dX12_isImage_0 : decode cX12_isImage 0 = .ok (.iload_n 1, 1) := by decide +kernel
theorem dX12_isImage_1 : decode cX12_isImage 1 = .ok (.ifCond .lt 15, 3) := by decide +kernel
theorem dX12_isImage_4 : decode cX12_isImage 4 = .ok (.iload_n 1, 1) := by decide +kernel
theorem dX12_isImage_5 : decode cX12_isImage 5 = .ok (.aload_n 0, 1) := by decide +kernel
theorem dX12_isImage_6 : decode cX12_isImage 6 = .ok (.getfield 7, 3) := by decide +kernel
theorem dX12_isImage_9 : decode cX12_isImage 9 = .ok (.if_icmp .ge 7, 3) := by decide +kernel
theorem dX12_isImage_12 : decode cX12_isImage 12 = .ok (.iconst 1, 1) := by decide +kernel
theorem dX12_isImage_13 : decode cX12_isImage 13 = .ok (.goto 4, 3) := by decide +kernel
theorem dX12_isImage_16 : decode cX12_isImage 16 = .ok (.iconst 0, 1) := by decide +kernel
theorem dX12_isImage_17 : decode cX12_isImage 17 = .ok (.ireturn, 1) := by decide +kernel
theorem dX12_isIn_0 : decode cX12_isIn 0 = .ok (.sipush 400, 3) := by decide +kernel
theorem dX12_isIn_3 : decode cX12_isIn 3 = .ok (.iload_n 1, 1) := by decide +kernel
theorem dX12_isIn_4 : decode cX12_isIn 4 = .ok (.imul, 1) := by decide +kernel
theorem dX12_isIn_5 : decode cX12_isIn 5 = .ok (.istore_n 3, 1) := by decide +kernel
theorem dX12_isIn_6 : decode cX12_isIn 6 = .ok (.iload_n 3, 1) := by decide +kernel
theorem dX12_isIn_7 : decode cX12_isIn 7 = .ok (.sipush 400, 3) := by decide +kernel
theorem dX12_isIn_10 : decode cX12_isIn 10 = .ok (.iload_n 1, 1) := by decide +kernel
theorem dX12_isIn_11 : decode cX12_isIn 11 = .ok (.imul, 1) := by decide +kernel
theorem dX12_isIn_12 : decode cX12_isIn 12 = .ok (.aload_n 0, 1) := by decide +kernel
theorem dX12_isIn_13 : decode cX12_isIn 13 = .ok (.getfield 214, 3) := by decide +kernel
theorem dX12_isIn_16 : decode cX12_isIn 16 = .ok (.iload_n 1, 1) := by decide +kernel
theorem dX12_isIn_17 : decode cX12_isIn 17 = .ok (.iaload, 1) := by decide +kernel
theorem dX12_isIn_18 : decode cX12_isIn 18 = .ok (.iadd, 1) := by decide +kernel
theorem dX12_isIn_19 : decode cX12_isIn 19 = .ok (.if_icmp .ge 73, 3) := by decide +kernel
theorem dX12_isIn_22 : decode cX12_isIn 22 = .ok (.aload_n 0, 1) := by decide +kernel
theorem dX12_isIn_23 : decode cX12_isIn 23 = .ok (.getfield 217, 3) := by decide +kernel
theorem dX12_isIn_26 : decode cX12_isIn 26 = .ok (.iload_n 3, 1) := by decide +kernel
theorem dX12_isIn_27 : decode cX12_isIn 27 = .ok (.iaload, 1) := by decide +kernel
theorem dX12_isIn_28 : decode cX12_isIn 28 = .ok (.ifCond .eq 28, 3) := by decide +kernel
theorem dX12_isIn_31 : decode cX12_isIn 31 = .ok (.aload_n 0, 1) := by decide +kernel
theorem dX12_isIn_32 : decode cX12_isIn 32 = .ok (.getfield 217, 3) := by decide +kernel
theorem dX12_isIn_35 : decode cX12_isIn 35 = .ok (.iload_n 3, 1) := by decide +kernel
theorem dX12_isIn_36 : decode cX12_isIn 36 = .ok (.iaload, 1) := by decide +kernel
theorem dX12_isIn_37 : decode cX12_isIn 37 = .ok (.iconst 2, 1) := by decide +kernel
theorem dX12_isIn_38 : decode cX12_isIn 38 = .ok (.if_icmp .eq 18, 3) := by decide +kernel
theorem dX12_isIn_41 : decode cX12_isIn 41 = .ok (.aload_n 0, 1) := by decide +kernel
theorem dX12_isIn_42 : decode cX12_isIn 42 = .ok (.getfield 217, 3) := by decide +kernel
theorem dX12_isIn_45 : decode cX12_isIn 45 = .ok (.iload_n 3, 1) := by decide +kernel
theorem dX12_isIn_46 : decode cX12_isIn 46 = .ok (.iaload, 1) := by decide +kernel
theorem dX12_isIn_47 : decode cX12_isIn 47 = .ok (.bipush 6, 2) := by decide +kernel
theorem dX12_isIn_49 : decode cX12_isIn 49 = .ok (.if_icmp .eq 7, 3) := by decide +kernel
theorem dX12_isIn_52 : decode cX12_isIn 52 = .ok (.iconst 1, 1) := by decide +kernel
theorem dX12_isIn_53 : decode cX12_isIn 53 = .ok (.goto 4, 3) := by decide +kernel
theorem dX12_isIn_56 : decode cX12_isIn 56 = .ok (.iconst 0, 1) := by decide +kernel
theorem dX12_isIn_57 : decode cX12_isIn 57 = .ok (.istore 4, 2) := by decide +kernel
theorem dX12_isIn_59 : decode cX12_isIn 59 = .ok (.iload 4, 2) := by decide +kernel
theorem dX12_isIn_61 : decode cX12_isIn 61 = .ok (.ifCond .eq 25, 3) := by decide +kernel
theorem dX12_isIn_64 : decode cX12_isIn 64 = .ok (.aload_n 0, 1) := by decide +kernel
theorem dX12_isIn_65 : decode cX12_isIn 65 = .ok (.getfield 220, 3) := by decide +kernel
theorem dX12_isIn_68 : decode cX12_isIn 68 = .ok (.iload_n 3, 1) := by decide +kernel
theorem dX12_isIn_69 : decode cX12_isIn 69 = .ok (.iaload, 1) := by decide +kernel
theorem dX12_isIn_70 : decode cX12_isIn 70 = .ok (.iload_n 2, 1) := by decide +kernel
theorem dX12_isIn_71 : decode cX12_isIn 71 = .ok (.if_icmp .gt 15, 3) := by decide +kernel
theorem dX12_isIn_74 : decode cX12_isIn 74 = .ok (.iload_n 2, 1) := by decide +kernel
theorem dX12_isIn_75 : decode cX12_isIn 75 = .ok (.aload_n 0, 1) := by decide +kernel
theorem dX12_isIn_76 : decode cX12_isIn 76 = .ok (.getfield 223, 3) := by decide +kernel
theorem dX12_isIn_79 : decode cX12_isIn 79 = .ok (.iload_n 3, 1) := by decide +kernel
theorem dX12_isIn_80 : decode cX12_isIn 80 = .ok (.iaload, 1) := by decide +kernel
theorem dX12_isIn_81 : decode cX12_isIn 81 = .ok (.if_icmp .ge 5, 3) := by decide +kernel
theorem dX12_isIn_84 : decode cX12_isIn 84 = .ok (.iconst 1, 1) := by decide +kernel
theorem dX12_isIn_85 : decode cX12_isIn 85 = .ok (.ireturn, 1) := by decide +kernel
theorem dX12_isIn_86 : decode cX12_isIn 86 = .ok (.iinc 3 1, 3) := by decide +kernel
theorem dX12_isIn_89 : decode cX12_isIn 89 = .ok (.goto (-83), 3) := by decide +kernel
theorem dX12_isIn_92 : decode cX12_isIn 92 = .ok (.iconst 0, 1) := by decide +kernel
theorem dX12_isIn_93 : decode cX12_isIn 93 = .ok (.ireturn, 1) := by decide +kernel
theorem dX12_isKeyword_0 : decode cX12_isKeyword 0 = .ok (.aload_n 0, 1) := by decide +kernel
theorem dX12_isKeyword_1 : decode cX12_isKeyword 1 = .ok (.ldc2_w 332, 3) := by decide +kernel
theorem dX12_isKeyword_4 : decode cX12_isKeyword 4 = .ok (.invokevirtual 334, 3) := by decide +kernel
theorem dX12_isKeyword_7 : decode cX12_isKeyword 7 = .ok (.ifCond .ne 270, 3) := by decide +kernel
theorem dX12_isKeyword_10 : decode cX12_isKeyword 10 = .ok (.aload_n 0, 1) := by decide +kernel
theorem dX12_isKeyword_11 : decode cX12_isKeyword 11 = .ok (.ldc2_w 338, 3) := by decide +kernel
theorem dX12_isKeyword_14 : decode cX12_isKeyword 14 = .ok (.invokevirtual 334, 3) := by decide +kernel
theorem dX12_isKeyword_17 : decode cX12_isKeyword 17 = .ok (.ifCond .ne 260, 3) := by decide +kernel
theorem dX12_isKeyword_20 : decode cX12_isKeyword 20 = .ok (.aload_n 0, 1) := by decide +kernel
theorem dX12_isKeyword_21 : decode cX12_isKeyword 21 = .ok (.ldc2_w 340, 3) := by decide +kernel
theorem dX12_isKeyword_24 : decode cX12_isKeyword 24 = .ok (.invokevirtual 334, 3) := by decide +kernel
theorem dX12_isKeyword_27 : decode cX12_isKeyword 27 = .ok (.ifCond .ne 250, 3) := by decide +kernel
theorem dX12_isKeyword_30 : decode cX12_isKeyword 30 = .ok (.aload_n 0, 1) := by decide +kernel
theorem dX12_isKeyword_31 : decode cX12_isKeyword 31 = .ok (.ldc2_w 342, 3) := by decide +kernel
theorem dX12_isKeyword_34 : decode cX12_isKeyword 34 = .ok (.invokevirtual 334, 3) := by decide +kernel
theorem dX12_isKeyword_37 : decode cX12_isKeyword 37 = .ok (.ifCond .ne 240, 3) := by decide +kernel
theorem dX12_isKeyword_40 : decode cX12_isKeyword 40 = .ok (.aload_n 0, 1) := by decide +kernel
theorem dX12_isKeyword_41 : decode cX12_isKeyword 41 = .ok (.ldc2_w 344, 3) := by decide +kernel
theorem dX12_isKeyword_44 : decode cX12_isKeyword 44 = .ok (.invokevirtual 334, 3) := by decide +kernel
theorem dX12_isKeyword_47 : decode cX12_isKeyword 47 = .ok (.ifCond .ne 230, 3) := by decide +kernel
theorem dX12_isKeyword_50 : decode cX12_isKeyword 50 = .ok (.aload_n 0, 1) := by decide +kernel
theorem dX12_isKeyword_51 : decode cX12_isKeyword 51 = .ok (.ldc2_w 346, 3) := by decide +kernel
theorem dX12_isKeyword_54 : decode cX12_isKeyword 54 = .ok (.invokevirtual 334, 3) := by decide +kernel
theorem dX12_isKeyword_57 : decode cX12_isKeyword 57 = .ok (.ifCond .ne 220, 3) := by decide +kernel
theorem dX12_isKeyword_60 : decode cX12_isKeyword 60 = .ok (.aload_n 0, 1) := by decide +kernel
theorem dX12_isKeyword_61 : decode cX12_isKeyword 61 = .ok (.ldc2_w 348, 3) := by decide +kernel
theorem dX12_isKeyword_64 : decode cX12_isKeyword 64 = .ok (.invokevirtual 334, 3) := by decide +kernel
theorem dX12_isKeyword_67 : decode cX12_isKeyword 67 = .ok (.ifCond .ne 210, 3) := by decide +kernel
theorem dX12_isKeyword_70 : decode cX12_isKeyword 70 = .ok (.aload_n 0, 1) := by decide +kernel
theorem dX12_isKeyword_71 : decode cX12_isKeyword 71 = .ok (.ldc2_w 350, 3) := by decide +kernel
theorem dX12_isKeyword_74 : decode cX12_isKeyword 74 = .ok (.invokevirtual 334, 3) := by decide +kernel
theorem dX12_isKeyword_77 : decode cX12_isKeyword 77 = .ok (.ifCond .ne 200, 3) := by decide +kernel
theorem dX12_isKeyword_80 : decode cX12_isKeyword 80 = .ok (.aload_n 0, 1) := by decide +kernel
theorem dX12_isKeyword_81 : decode cX12_isKeyword 81 = .ok (.ldc2_w 352, 3) := by decide +kernel
theorem dX12_isKeyword_84 : decode cX12_isKeyword 84 = .ok (.invokevirtual 334, 3) := by decide +kernel
theorem dX12_isKeyword_87 : decode cX12_isKeyword 87 = .ok (.ifCond .ne 190, 3) := by decide +kernel
theorem dX12_isKeyword_90 : decode cX12_isKeyword 90 = .ok (.aload_n 0, 1) := by decide +kernel
theorem dX12_isKeyword_91 : decode cX12_isKeyword 91 = .ok (.ldc2_w 354, 3) := by decide +kernel
theorem dX12_isKeyword_94 : decode cX12_isKeyword 94 = .ok (.invokevirtual 334, 3) := by decide +kernel
theorem dX12_isKeyword_97 : decode cX12_isKeyword 97 = .ok (.ifCond .ne 180, 3) := by decide +kernel
theorem dX12_isKeyword_100 : decode cX12_isKeyword 100 = .ok (.aload_n 0, 1) := by decide +kernel
theorem dX12_isKeyword_101 : decode cX12_isKeyword 101 = .ok (.ldc2_w 356, 3) := by decide +kernel
theorem dX12_isKeyword_104 : decode cX12_isKeyword 104 = .ok (.invokevirtual 334, 3) := by decide +kernel
theorem dX12_isKeyword_107 : decode cX12_isKeyword 107 = .ok (.ifCond .ne 170, 3) := by decide +kernel
theorem dX12_isKeyword_110 : decode cX12_isKeyword 110 = .ok (.aload_n 0, 1) := by decide +kernel
theorem dX12_isKeyword_111 : decode cX12_isKeyword 111 = .ok (.ldc2_w 358, 3) := by decide +kernel
theorem dX12_isKeyword_114 : decode cX12_isKeyword 114 = .ok (.invokevirtual 334, 3) := by decide +kernel
theorem dX12_isKeyword_117 : decode cX12_isKeyword 117 = .ok (.ifCond .ne 160, 3) := by decide +kernel
theorem dX12_isKeyword_120 : decode cX12_isKeyword 120 = .ok (.aload_n 0, 1) := by decide +kernel
theorem dX12_isKeyword_121 : decode cX12_isKeyword 121 = .ok (.ldc2_w 360, 3) := by decide +kernel
theorem dX12_isKeyword_124 : decode cX12_isKeyword 124 = .ok (.invokevirtual 334, 3) := by decide +kernel
theorem dX12_isKeyword_127 : decode cX12_isKeyword 127 = .ok (.ifCond .ne 150, 3) := by decide +kernel
theorem dX12_isKeyword_130 : decode cX12_isKeyword 130 = .ok (.aload_n 0, 1) := by decide +kernel
theorem dX12_isKeyword_131 : decode cX12_isKeyword 131 = .ok (.ldc2_w 362, 3) := by decide +kernel
theorem dX12_isKeyword_134 : decode cX12_isKeyword 134 = .ok (.invokevirtual 334, 3) := by decide +kernel
theorem dX12_isKeyword_137 : decode cX12_isKeyword 137 = .ok (.ifCond .ne 140, 3) := by decide +kernel
theorem dX12_isKeyword_140 : decode cX12_isKeyword 140 = .ok (.aload_n 0, 1) := by decide +kernel
theorem dX12_isKeyword_141 : decode cX12_isKeyword 141 = .ok (.ldc2_w 364, 3) := by decide +kernel
theorem dX12_isKeyword_144 : decode cX12_isKeyword 144 = .ok (.invokevirtual 334, 3) := by decide +kernel
theorem dX12_isKeyword_147 : decode cX12_isKeyword 147 = .ok (.ifCond .ne 130, 3) := by decide +kernel
theorem dX12_isKeyword_150 : decode cX12_isKeyword 150 = .ok (.aload_n 0, 1) := by decide +kernel
theorem dX12_isKeyword_151 : decode cX12_isKeyword 151 = .ok (.ldc2_w 366, 3) := by decide +kernel
theorem dX12_isKeyword_154 : decode cX12_isKeyword 154 = .ok (.invokevirtual 334, 3) := by decide +kernel
theorem dX12_isKeyword_157 : decode cX12_isKeyword 157 = .ok (.ifCond .ne 120, 3) := by decide +kernel
theorem dX12_isKeyword_160 : decode cX12_isKeyword 160 = .ok (.aload_n 0, 1) := by decide +kernel
theorem dX12_isKeyword_161 : decode cX12_isKeyword 161 = .ok (.ldc2_w 368, 3) := by decide +kernel
theorem dX12_isKeyword_164 : decode cX12_isKeyword 164 = .ok (.invokevirtual 334, 3) := by decide +kernel
theorem dX12_isKeyword_167 : decode cX12_isKeyword 167 = .ok (.ifCond .ne 110, 3) := by decide +kernel
theorem dX12_isKeyword_170 : decode cX12_isKeyword 170 = .ok (.aload_n 0, 1) := by decide +kernel
theorem dX12_isKeyword_171 : decode cX12_isKeyword 171 = .ok (.ldc2_w 370, 3) := by decide +kernel
theorem dX12_isKeyword_174 : decode cX12_isKeyword 174 = .ok (.invokevirtual 334, 3) := by decide +kernel
theorem dX12_isKeyword_177 : decode cX12_isKeyword 177 = .ok (.ifCond .ne 100, 3) := by decide +kernel
theorem dX12_isKeyword_180 : decode cX12_isKeyword 180 = .ok (.aload_n 0, 1) := by decide +kernel
theorem dX12_isKeyword_181 : decode cX12_isKeyword 181 = .ok (.ldc2_w 372, 3) := by decide +kernel
theorem dX12_isKeyword_184 : decode cX12_isKeyword 184 = .ok (.invokevirtual 334, 3) := by decide +kernel
theorem dX12_isKeyword_187 : decode cX12_isKeyword 187 = .ok (.ifCond .ne 90, 3) := by decide +kernel
theorem dX12_isKeyword_190 : decode cX12_isKeyword 190 = .ok (.aload_n 0, 1) := by decide +kernel
theorem dX12_isKeyword_191 : decode cX12_isKeyword 191 = .ok (.ldc2_w 374, 3) := by decide +kernel
theorem dX12_isKeyword_194 : decode cX12_isKeyword 194 = .ok (.invokevirtual 334, 3) := by decide +kernel
theorem dX12_isKeyword_197 : decode cX12_isKeyword 197 = .ok (.ifCond .ne 80, 3) := by decide +kernel
theorem dX12_isKeyword_200 : decode cX12_isKeyword 200 = .ok (.aload_n 0, 1) := by decide +kernel
theorem dX12_isKeyword_201 : decode cX12_isKeyword 201 = .ok (.ldc2_w 376, 3) := by decide +kernel
theorem dX12_isKeyword_204 : decode cX12_isKeyword 204 = .ok (.invokevirtual 334, 3) := by decide +kernel
theorem dX12_isKeyword_207 : decode cX12_isKeyword 207 = .ok (.ifCond .ne 70, 3) := by decide +kernel
theorem dX12_isKeyword_210 : decode cX12_isKeyword 210 = .ok (.aload_n 0, 1) := by decide +kernel
theorem dX12_isKeyword_211 : decode cX12_isKeyword 211 = .ok (.ldc2_w 378, 3) := by decide +kernel
theorem dX12_isKeyword_214 : decode cX12_isKeyword 214 = .ok (.invokevirtual 334, 3) := by decide +kernel
theorem dX12_isKeyword_217 : decode cX12_isKeyword 217 = .ok (.ifCond .ne 60, 3) := by decide +kernel
theorem dX12_isKeyword_220 : decode cX12_isKeyword 220 = .ok (.aload_n 0, 1) := by decide +kernel
theorem dX12_isKeyword_221 : decode cX12_isKeyword 221 = .ok (.ldc2_w 380, 3) := by decide +kernel
theorem dX12_isKeyword_224 : decode cX12_isKeyword 224 = .ok (.invokevirtual 334, 3) := by decide +kernel
theorem dX12_isKeyword_227 : decode cX12_isKeyword 227 = .ok (.ifCond .ne 50, 3) := by decide +kernel
theorem dX12_isKeyword_230 : decode cX12_isKeyword 230 = .ok (.aload_n 0, 1) := by decide +kernel
theorem dX12_isKeyword_231 : decode cX12_isKeyword 231 = .ok (.ldc2_w 382, 3) := by decide +kernel
theorem dX12_isKeyword_234 : decode cX12_isKeyword 234 = .ok (.invokevirtual 334, 3) := by decide +kernel
theorem dX12_isKeyword_237 : decode cX12_isKeyword 237 = .ok (.ifCond .ne 40, 3) := by decide +kernel
theorem dX12_isKeyword_240 : decode cX12_isKeyword 240 = .ok (.aload_n 0, 1) := by decide +kernel
theorem dX12_isKeyword_241 : decode cX12_isKeyword 241 = .ok (.ldc2_w 384, 3) := by decide +kernel
theorem dX12_isKeyword_244 : decode cX12_isKeyword 244 = .ok (.invokevirtual 334, 3) := by decide +kernel
theorem dX12_isKeyword_247 : decode cX12_isKeyword 247 = .ok (.ifCond .ne 30, 3) := by decide +kernel
theorem dX12_isKeyword_250 : decode cX12_isKeyword 250 = .ok (.aload_n 0, 1) := by decide +kernel
theorem dX12_isKeyword_251 : decode cX12_isKeyword 251 = .ok (.ldc2_w 386, 3) := by decide +kernel
theorem dX12_isKeyword_254 : decode cX12_isKeyword 254 = .ok (.invokevirtual 334, 3) := by decide +kernel
theorem dX12_isKeyword_257 : decode cX12_isKeyword 257 = .ok (.ifCond .ne 20, 3) := by decide +kernel
theorem dX12_isKeyword_260 : decode cX12_isKeyword 260 = .ok (.aload_n 0, 1) := by decide +kernel
theorem dX12_isKeyword_261 : decode cX12_isKeyword 261 = .ok (.ldc2_w 388, 3) := by decide +kernel
theorem dX12_isKeyword_264 : decode cX12_isKeyword 264 = .ok (.invokevirtual 334, 3) := by decide +kernel
theorem dX12_isKeyword_267 : decode cX12_isKeyword 267 = .ok (.ifCond .ne 10, 3) := by decide +kernel
theorem dX12_isKeyword_270 : decode cX12_isKeyword 270 = .ok (.aload_n 0, 1) := by decide +kernel
theorem dX12_isKeyword_271 : decode cX12_isKeyword 271 = .ok (.invokevirtual 390, 3) := by decide +kernel
theorem dX12_isKeyword_274 : decode cX12_isKeyword 274 = .ok (.ifCond .le 7, 3) := by decide +kernel
theorem dX12_isKeyword_277 : decode cX12_isKeyword 277 = .ok (.iconst 1, 1) := by decide +kernel
theorem dX12_isKeyword_278 : decode cX12_isKeyword 278 = .ok (.goto 4, 3) := by decide +kernel
theorem dX12_isKeyword_281 : decode cX12_isKeyword 281 = .ok (.iconst 0, 1) := by decide +kernel
theorem dX12_isKeyword_282 : decode cX12_isKeyword 282 = .ok (.ireturn, 1) := by decide +kernel
theorem dX12_isName_0 : decode cX12_isName 0 = .ok (.aload_n 0, 1) := by decide +kernel
theorem dX12_isName_1 : decode cX12_isName 1 = .ok (.getfield 51, 3) := by decide +kernel
theorem dX12_isName_4 : decode cX12_isName 4 = .ok (.iconst 1, 1) := by decide +kernel
theorem dX12_isName_5 : decode cX12_isName 5 = .ok (.if_icmp .ne 14, 3) := by decide +kernel
theorem dX12_isName_8 : decode cX12_isName 8 = .ok (.aload_n 0, 1) := by decide +kernel
theorem dX12_isName_9 : decode cX12_isName 9 = .ok (.invokevirtual 394, 3) := by decide +kernel
theorem dX12_isName_12 : decode cX12_isName 12 = .ok (.ifCond .ne 7, 3) := by decide +kernel
theorem dX12_isName_15 : decode cX12_isName 15 = .ok (.iconst 1, 1) := by decide +kernel
theorem dX12_isName_16 : decode cX12_isName 16 = .ok (.goto 4, 3) := by decide +kernel
theorem dX12_isName_19 : decode cX12_isName 19 = .ok (.iconst 0, 1) := by decide +kernel
theorem dX12_isName_20 : decode cX12_isName 20 = .ok (.ireturn, 1) := by decide +kernel
theorem dX12_isNode_0 : decode cX12_isNode 0 = .ok (.iload_n 1, 1) := by decide +kernel
theorem dX12_isNode_1 : decode cX12_isNode 1 = .ok (.ifCond .lt 25, 3) := by decide +kernel
theorem dX12_isNode_4 : decode cX12_isNode 4 = .ok (.iload_n 1, 1) := by decide +kernel
theorem dX12_isNode_5 : decode cX12_isNode 5 = .ok (.aload_n 0, 1) := by decide +kernel
theorem dX12_isNode_6 : decode cX12_isNode 6 = .ok (.getfield 208, 3) := by decide +kernel
theorem dX12_isNode_9 : decode cX12_isNode 9 = .ok (.if_icmp .ge 17, 3) := by decide +kernel
theorem dX12_isNode_12 : decode cX12_isNode 12 = .ok (.iload_n 2, 1) := by decide +kernel
theorem dX12_isNode_13 : decode cX12_isNode 13 = .ok (.ifCond .lt 13, 3) := by decide +kernel
theorem dX12_isNode_16 : decode cX12_isNode 16 = .ok (.iload_n 2, 1) := by decide +kernel
theorem dX12_isNode_17 : decode cX12_isNode 17 = .ok (.aload_n 0, 1) := by decide +kernel
theorem dX12_isNode_18 : decode cX12_isNode 18 = .ok (.getfield 214, 3) := by decide +kernel
theorem dX12_isNode_21 : decode cX12_isNode 21 = .ok (.iload_n 1, 1) := by decide +kernel
theorem dX12_isNode_22 : decode cX12_isNode 22 = .ok (.iaload, 1) := by decide +kernel
theorem dX12_isNode_23 : decode cX12_isNode 23 = .ok (.if_icmp .lt 5, 3) := by decide +kernel
theorem dX12_isNode_26 : decode cX12_isNode 26 = .ok (.iconst 0, 1) := by decide +kernel
theorem dX12_isNode_27 : decode cX12_isNode 27 = .ok (.ireturn, 1) := by decide +kernel
theorem dX12_isNode_28 : decode cX12_isNode 28 = .ok (.aload_n 0, 1) := by decide +kernel
theorem dX12_isNode_29 : decode cX12_isNode 29 = .ok (.iload_n 1, 1) := by decide +kernel
theorem dX12_isNode_30 : decode cX12_isNode 30 = .ok (.putfield 256, 3) := by decide +kernel
theorem dX12_isNode_33 : decode cX12_isNode 33 = .ok (.aload_n 0, 1) := by decide +kernel
theorem dX12_isNode_34 : decode cX12_isNode 34 = .ok (.aload_n 0, 1) := by decide +kernel
theorem dX12_isNode_35 : decode cX12_isNode 35 = .ok (.getfield 211, 3) := by decide +kernel
theorem dX12_isNode_38 : decode cX12_isNode 38 = .ok (.iload_n 1, 1) := by decide +kernel
theorem dX12_isNode_39 : decode cX12_isNode 39 = .ok (.iaload, 1) := by decide +kernel
theorem dX12_isNode_40 : decode cX12_isNode 40 = .ok (.putfield 259, 3) := by decide +kernel
theorem dX12_isNode_43 : decode cX12_isNode 43 = .ok (.aload_n 0, 1) := by decide +kernel
theorem dX12_isNode_44 : decode cX12_isNode 44 = .ok (.aload_n 0, 1) := by decide +kernel
theorem dX12_isNode_45 : decode cX12_isNode 45 = .ok (.getfield 67, 3) := by decide +kernel
theorem dX12_isNode_48 : decode cX12_isNode 48 = .ok (.putfield 173, 3) := by decide +kernel
theorem dX12_isNode_51 : decode cX12_isNode 51 = .ok (.iconst 1, 1) := by decide +kernel
theorem dX12_isNode_52 : decode cX12_isNode 52 = .ok (.ireturn, 1) := by decide +kernel
theorem dX12_isOpen_0 : decode cX12_isOpen 0 = .ok (.iconst 0, 1) := by decide +kernel
theorem dX12_isOpen_1 : decode cX12_isOpen 1 = .ok (.istore_n 1, 1) := by decide +kernel
theorem dX12_isOpen_2 : decode cX12_isOpen 2 = .ok (.iload_n 1, 1) := by decide +kernel
theorem dX12_isOpen_3 : decode cX12_isOpen 3 = .ok (.aload_n 0, 1) := by decide +kernel
theorem dX12_isOpen_4 : decode cX12_isOpen 4 = .ok (.getfield 195, 3) := by decide +kernel
theorem dX12_isOpen_7 : decode cX12_isOpen 7 = .ok (.if_icmp .ge 22, 3) := by decide +kernel
theorem dX12_isOpen_10 : decode cX12_isOpen 10 = .ok (.aload_n 0, 1) := by decide +kernel
theorem dX12_isOpen_11 : decode cX12_isOpen 11 = .ok (.getfield 189, 3) := by decide +kernel
theorem dX12_isOpen_14 : decode cX12_isOpen 14 = .ok (.iload_n 1, 1) := by decide +kernel
theorem dX12_isOpen_15 : decode cX12_isOpen 15 = .ok (.iaload, 1) := by decide +kernel
theorem dX12_isOpen_16 : decode cX12_isOpen 16 = .ok (.bipush 18, 2) := by decide +kernel
theorem dX12_isOpen_18 : decode cX12_isOpen 18 = .ok (.if_icmp .ne 5, 3) := by decide +kernel
theorem dX12_isOpen_21 : decode cX12_isOpen 21 = .ok (.iconst 1, 1) := by decide +kernel
theorem dX12_isOpen_22 : decode cX12_isOpen 22 = .ok (.ireturn, 1) := by decide +kernel
theorem dX12_isOpen_23 : decode cX12_isOpen 23 = .ok (.iinc 1 1, 3) := by decide +kernel
theorem dX12_isOpen_26 : decode cX12_isOpen 26 = .ok (.goto (-24), 3) := by decide +kernel
theorem dX12_isOpen_29 : decode cX12_isOpen 29 = .ok (.iconst 0, 1) := by decide +kernel
theorem dX12_isOpen_30 : decode cX12_isOpen 30 = .ok (.ireturn, 1) := by decide +kernel
theorem dX12_isSign_0 : decode cX12_isSign 0 = .ok (.aload_n 0, 1) := by decide +kernel
theorem dX12_isSign_1 : decode cX12_isSign 1 = .ok (.getfield 51, 3) := by decide +kernel
theorem dX12_isSign_4 : decode cX12_isSign 4 = .ok (.iconst 3, 1) := by decide +kernel
theorem dX12_isSign_5 : decode cX12_isSign 5 = .ok (.if_icmp .ne 17, 3) := by decide +kernel
theorem dX12_isSign_8 : decode cX12_isSign 8 = .ok (.aload_n 0, 1) := by decide +kernel
theorem dX12_isSign_9 : decode cX12_isSign 9 = .ok (.getfield 64, 3) := by decide +kernel
theorem dX12_isSign_12 : decode cX12_isSign 12 = .ok (.iload_n 1, 1) := by decide +kernel
theorem dX12_isSign_13 : decode cX12_isSign 13 = .ok (.i2l, 1) := by decide +kernel
theorem dX12_isSign_14 : decode cX12_isSign 14 = .ok (.lcmp, 1) := by decide +kernel
theorem dX12_isSign_15 : decode cX12_isSign 15 = .ok (.ifCond .ne 7, 3) := by decide +kernel
theorem dX12_isSign_18 : decode cX12_isSign 18 = .ok (.iconst 1, 1) := by decide +kernel
theorem dX12_isSign_19 : decode cX12_isSign 19 = .ok (.goto 4, 3) := by decide +kernel
theorem dX12_isSign_22 : decode cX12_isSign 22 = .ok (.iconst 0, 1) := by decide +kernel
theorem dX12_isSign_23 : decode cX12_isSign 23 = .ok (.ireturn, 1) := by decide +kernel
theorem dX12_isStruct_0 : decode cX12_isStruct 0 = .ok (.iload_n 1, 1) := by decide +kernel
theorem dX12_isStruct_1 : decode cX12_isStruct 1 = .ok (.ifCond .lt 20, 3) := by decide +kernel
theorem dX12_isStruct_4 : decode cX12_isStruct 4 = .ok (.iload_n 1, 1) := by decide +kernel
theorem dX12_isStruct_5 : decode cX12_isStruct 5 = .ok (.aload_n 0, 1) := by decide +kernel
theorem dX12_isStruct_6 : decode cX12_isStruct 6 = .ok (.getfield 70, 3) := by decide +kernel
theorem dX12_isStruct_9 : decode cX12_isStruct 9 = .ok (.aload_n 0, 1) := by decide +kernel
theorem dX12_isStruct_10 : decode cX12_isStruct 10 = .ok (.getfield 67, 3) := by decide +kernel
theorem dX12_isStruct_13 : decode cX12_isStruct 13 = .ok (.iaload, 1) := by decide +kernel
theorem dX12_isStruct_14 : decode cX12_isStruct 14 = .ok (.if_icmp .ge 7, 3) := by decide +kernel
theorem dX12_isStruct_17 : decode cX12_isStruct 17 = .ok (.iconst 1, 1) := by decide +kernel
theorem dX12_isStruct_18 : decode cX12_isStruct 18 = .ok (.goto 4, 3) := by decide +kernel
theorem dX12_isStruct_21 : decode cX12_isStruct 21 = .ok (.iconst 0, 1) := by decide +kernel
theorem dX12_isStruct_22 : decode cX12_isStruct 22 = .ok (.ireturn, 1) := by decide +kernel
theorem dX12_isWord_0 : decode cX12_isWord 0 = .ok (.aload_n 0, 1) := by decide +kernel
theorem dX12_isWord_1 : decode cX12_isWord 1 = .ok (.getfield 51, 3) := by decide +kernel
theorem dX12_isWord_4 : decode cX12_isWord 4 = .ok (.iconst 1, 1) := by decide +kernel
theorem dX12_isWord_5 : decode cX12_isWord 5 = .ok (.if_icmp .ne 16, 3) := by decide +kernel
theorem dX12_isWord_8 : decode cX12_isWord 8 = .ok (.aload_n 0, 1) := by decide +kernel
theorem dX12_isWord_9 : decode cX12_isWord 9 = .ok (.getfield 60, 3) := by decide +kernel
theorem dX12_isWord_12 : decode cX12_isWord 12 = .ok (.lload_n 1, 1) := by decide +kernel
theorem dX12_isWord_13 : decode cX12_isWord 13 = .ok (.lcmp, 1) := by decide +kernel
theorem dX12_isWord_14 : decode cX12_isWord 14 = .ok (.ifCond .ne 7, 3) := by decide +kernel
theorem dX12_isWord_17 : decode cX12_isWord 17 = .ok (.iconst 1, 1) := by decide +kernel
theorem dX12_isWord_18 : decode cX12_isWord 18 = .ok (.goto 4, 3) := by decide +kernel
theorem dX12_isWord_21 : decode cX12_isWord 21 = .ok (.iconst 0, 1) := by decide +kernel
theorem dX12_isWord_22 : decode cX12_isWord 22 = .ok (.ireturn, 1) := by decide +kernel
theorem dX12_item_0 : decode cX12_item 0 = .ok (.aload_n 0, 1) := by decide +kernel
theorem dX12_item_1 : decode cX12_item 1 = .ok (.ldc2_w 332, 3) := by decide +kernel
theorem dX12_item_4 : decode cX12_item 4 = .ok (.invokevirtual 334, 3) := by decide +kernel
theorem dX12_item_7 : decode cX12_item 7 = .ok (.istore_n 1, 1) := by decide +kernel
theorem dX12_item_8 : decode cX12_item 8 = .ok (.aload_n 0, 1) := by decide +kernel
theorem dX12_item_9 : decode cX12_item 9 = .ok (.iload_n 1, 1) := by decide +kernel
theorem dX12_item_10 : decode cX12_item 10 = .ok (.ifCond .ne 13, 3) := by decide +kernel
theorem dX12_item_13 : decode cX12_item 13 = .ok (.aload_n 0, 1) := by decide +kernel
theorem dX12_item_14 : decode cX12_item 14 = .ok (.ldc2_w 338, 3) := by decide +kernel
theorem dX12_item_17 : decode cX12_item 17 = .ok (.invokevirtual 334, 3) := by decide +kernel
theorem dX12_item_20 : decode cX12_item 20 = .ok (.ifCond .eq 7, 3) := by decide +kernel
theorem dX12_item_23 : decode cX12_item 23 = .ok (.iconst 1, 1) := by decide +kernel
theorem dX12_item_24 : decode cX12_item 24 = .ok (.goto 4, 3) := by decide +kernel
theorem dX12_item_27 : decode cX12_item 27 = .ok (.iconst 0, 1) := by decide +kernel
theorem dX12_item_28 : decode cX12_item 28 = .ok (.iconst 2, 1) := by decide +kernel
theorem dX12_item_29 : decode cX12_item 29 = .ok (.invokevirtual 404, 3) := by decide +kernel
theorem dX12_item_32 : decode cX12_item 32 = .ok (.ifCond .eq 56, 3) := by decide +kernel
theorem dX12_item_35 : decode cX12_item 35 = .ok (.aload_n 0, 1) := by decide +kernel
theorem dX12_item_36 : decode cX12_item 36 = .ok (.iload_n 1, 1) := by decide +kernel
theorem dX12_item_37 : decode cX12_item 37 = .ok (.ifCond .eq 25, 3) := by decide +kernel
theorem dX12_item_40 : decode cX12_item 40 = .ok (.aload_n 0, 1) := by decide +kernel
theorem dX12_item_41 : decode cX12_item 41 = .ok (.getfield 73, 3) := by decide +kernel
theorem dX12_item_44 : decode cX12_item 44 = .ok (.aload_n 0, 1) := by decide +kernel
theorem dX12_item_45 : decode cX12_item 45 = .ok (.getfield 173, 3) := by decide +kernel
theorem dX12_item_48 : decode cX12_item 48 = .ok (.iaload, 1) := by decide +kernel
theorem dX12_item_49 : decode cX12_item 49 = .ok (.bipush 8, 2) := by decide +kernel
theorem dX12_item_51 : decode cX12_item 51 = .ok (.if_icmp .ge 7, 3) := by decide +kernel
theorem dX12_item_54 : decode cX12_item 54 = .ok (.iconst 1, 1) := by decide +kernel
theorem dX12_item_55 : decode cX12_item 55 = .ok (.goto 26, 3) := by decide +kernel
theorem dX12_item_58 : decode cX12_item 58 = .ok (.iconst 0, 1) := by decide +kernel
theorem dX12_item_59 : decode cX12_item 59 = .ok (.goto 22, 3) := by decide +kernel
theorem dX12_item_62 : decode cX12_item 62 = .ok (.aload_n 0, 1) := by decide +kernel
theorem dX12_item_63 : decode cX12_item 63 = .ok (.getfield 70, 3) := by decide +kernel
theorem dX12_item_66 : decode cX12_item 66 = .ok (.aload_n 0, 1) := by decide +kernel
theorem dX12_item_67 : decode cX12_item 67 = .ok (.getfield 173, 3) := by decide +kernel
theorem dX12_item_70 : decode cX12_item 70 = .ok (.iaload, 1) := by decide +kernel
theorem dX12_item_71 : decode cX12_item 71 = .ok (.bipush 20, 2) := by decide +kernel
theorem dX12_item_73 : decode cX12_item 73 = .ok (.if_icmp .ge 7, 3) := by decide +kernel
theorem dX12_item_76 : decode cX12_item 76 = .ok (.iconst 1, 1) := by decide +kernel
theorem dX12_item_77 : decode cX12_item 77 = .ok (.goto 4, 3) := by decide +kernel
theorem dX12_item_80 : decode cX12_item 80 = .ok (.iconst 0, 1) := by decide +kernel
theorem dX12_item_81 : decode cX12_item 81 = .ok (.iconst 5, 1) := by decide +kernel
theorem dX12_item_82 : decode cX12_item 82 = .ok (.invokevirtual 404, 3) := by decide +kernel
theorem dX12_item_85 : decode cX12_item 85 = .ok (.ifCond .ne 4, 3) := by decide +kernel
theorem dX12_item_88 : decode cX12_item 88 = .ok (.return_, 1) := by decide +kernel
theorem dX12_item_89 : decode cX12_item 89 = .ok (.aload_n 0, 1) := by decide +kernel
theorem dX12_item_90 : decode cX12_item 90 = .ok (.invokevirtual 408, 3) := by decide +kernel
theorem dX12_item_93 : decode cX12_item 93 = .ok (.aload_n 0, 1) := by decide +kernel
theorem dX12_item_94 : decode cX12_item 94 = .ok (.aload_n 0, 1) := by decide +kernel
theorem dX12_item_95 : decode cX12_item 95 = .ok (.invokevirtual 418, 3) := by decide +kernel
theorem dX12_item_98 : decode cX12_item 98 = .ok (.iconst 2, 1) := by decide +kernel
theorem dX12_item_99 : decode cX12_item 99 = .ok (.invokevirtual 404, 3) := by decide +kernel
theorem dX12_item_102 : decode cX12_item 102 = .ok (.ifCond .eq 47, 3) := by decide +kernel
theorem dX12_item_105 : decode cX12_item 105 = .ok (.aload_n 0, 1) := by decide +kernel
theorem dX12_item_106 : decode cX12_item 106 = .ok (.aload_n 0, 1) := by decide +kernel
theorem dX12_item_107 : decode cX12_item 107 = .ok (.aload_n 0, 1) := by decide +kernel
theorem dX12_item_108 : decode cX12_item 108 = .ok (.getfield 60, 3) := by decide +kernel
theorem dX12_item_111 : decode cX12_item 111 = .ok (.aload_n 0, 1) := by decide +kernel
theorem dX12_item_112 : decode cX12_item 112 = .ok (.getfield 70, 3) := by decide +kernel
theorem dX12_item_115 : decode cX12_item 115 = .ok (.aload_n 0, 1) := by decide +kernel
theorem dX12_item_116 : decode cX12_item 116 = .ok (.getfield 173, 3) := by decide +kernel
theorem dX12_item_119 : decode cX12_item 119 = .ok (.iaload, 1) := by decide +kernel
theorem dX12_item_120 : decode cX12_item 120 = .ok (.invokevirtual 414, 3) := by decide +kernel
theorem dX12_item_123 : decode cX12_item 123 = .ok (.ifCond .ge 18, 3) := by decide +kernel
theorem dX12_item_126 : decode cX12_item 126 = .ok (.aload_n 0, 1) := by decide +kernel
theorem dX12_item_127 : decode cX12_item 127 = .ok (.aload_n 0, 1) := by decide +kernel
theorem dX12_item_128 : decode cX12_item 128 = .ok (.getfield 60, 3) := by decide +kernel
theorem dX12_item_131 : decode cX12_item 131 = .ok (.invokevirtual 421, 3) := by decide +kernel
theorem dX12_item_134 : decode cX12_item 134 = .ok (.ifCond .ge 7, 3) := by decide +kernel
theorem dX12_item_137 : decode cX12_item 137 = .ok (.iconst 1, 1) := by decide +kernel
theorem dX12_item_138 : decode cX12_item 138 = .ok (.goto 4, 3) := by decide +kernel
theorem dX12_item_141 : decode cX12_item 141 = .ok (.iconst 0, 1) := by decide +kernel
theorem dX12_item_142 : decode cX12_item 142 = .ok (.iconst 3, 1) := by decide +kernel
theorem dX12_item_143 : decode cX12_item 143 = .ok (.invokevirtual 404, 3) := by decide +kernel
theorem dX12_item_146 : decode cX12_item 146 = .ok (.ifCond .ne 4, 3) := by decide +kernel
theorem dX12_item_149 : decode cX12_item 149 = .ok (.return_, 1) := by decide +kernel
theorem dX12_item_150 : decode cX12_item 150 = .ok (.iload_n 1, 1) := by decide +kernel
theorem dX12_item_151 : decode cX12_item 151 = .ok (.ifCond .eq 10, 3) := by decide +kernel
theorem dX12_item_154 : decode cX12_item 154 = .ok (.aload_n 0, 1) := by decide +kernel
theorem dX12_item_155 : decode cX12_item 155 = .ok (.invokevirtual 425, 3) := by decide +kernel
theorem dX12_item_158 : decode cX12_item 158 = .ok (.goto 7, 3) := by decide +kernel
theorem dX12_item_161 : decode cX12_item 161 = .ok (.aload_n 0, 1) := by decide +kernel
theorem dX12_item_162 : decode cX12_item 162 = .ok (.invokevirtual 428, 3) := by decide +kernel
theorem dX12_item_165 : decode cX12_item 165 = .ok (.return_, 1) := by decide +kernel
theorem dX12_join_0 : decode cX12_join 0 = .ok (.aload_n 0, 1) := by decide +kernel
theorem dX12_join_1 : decode cX12_join 1 = .ok (.dup, 1) := by decide +kernel
theorem dX12_join_2 : decode cX12_join 2 = .ok (.getfield 195, 3) := by decide +kernel
theorem dX12_join_5 : decode cX12_join 5 = .ok (.iconst 1, 1) := by decide +kernel
theorem dX12_join_6 : decode cX12_join 6 = .ok (.isub, 1) := by decide +kernel
theorem dX12_join_7 : decode cX12_join 7 = .ok (.putfield 195, 3) := by decide +kernel
theorem dX12_join_10 : decode cX12_join 10 = .ok (.aload_n 0, 1) := by decide +kernel
theorem dX12_join_11 : decode cX12_join 11 = .ok (.getfield 189, 3) := by decide +kernel
theorem dX12_join_14 : decode cX12_join 14 = .ok (.aload_n 0, 1) := by decide +kernel
theorem dX12_join_15 : decode cX12_join 15 = .ok (.getfield 195, 3) := by decide +kernel
theorem dX12_join_18 : decode cX12_join 18 = .ok (.iaload, 1) := by decide +kernel
theorem dX12_join_19 : decode cX12_join 19 = .ok (.istore_n 1, 1) := by decide +kernel
theorem dX12_join_20 : decode cX12_join 20 = .ok (.aload_n 0, 1) := by decide +kernel
theorem dX12_join_21 : decode cX12_join 21 = .ok (.iload_n 1, 1) := by decide +kernel
theorem dX12_join_22 : decode cX12_join 22 = .ok (.invokevirtual 526, 3) := by decide +kernel
theorem dX12_join_25 : decode cX12_join 25 = .ok (.bipush 6, 2) := by decide +kernel
theorem dX12_join_27 : decode cX12_join 27 = .ok (.if_icmp .ne 45, 3) := by decide +kernel
theorem dX12_join_30 : decode cX12_join 30 = .ok (.aload_n 0, 1) := by decide +kernel
theorem dX12_join_31 : decode cX12_join 31 = .ok (.getfield 192, 3) := by decide +kernel
theorem dX12_join_34 : decode cX12_join 34 = .ok (.aload_n 0, 1) := by decide +kernel
theorem dX12_join_35 : decode cX12_join 35 = .ok (.getfield 198, 3) := by decide +kernel
theorem dX12_join_38 : decode cX12_join 38 = .ok (.iconst 1, 1) := by decide +kernel
theorem dX12_join_39 : decode cX12_join 39 = .ok (.isub, 1) := by decide +kernel
theorem dX12_join_40 : decode cX12_join 40 = .ok (.aload_n 0, 1) := by decide +kernel
theorem dX12_join_41 : decode cX12_join 41 = .ok (.iload_n 1, 1) := by decide +kernel
theorem dX12_join_42 : decode cX12_join 42 = .ok (.aload_n 0, 1) := by decide +kernel
theorem dX12_join_43 : decode cX12_join 43 = .ok (.getfield 192, 3) := by decide +kernel
theorem dX12_join_46 : decode cX12_join 46 = .ok (.aload_n 0, 1) := by decide +kernel
theorem dX12_join_47 : decode cX12_join 47 = .ok (.getfield 198, 3) := by decide +kernel
theorem dX12_join_50 : decode cX12_join 50 = .ok (.iconst 1, 1) := by decide +kernel
theorem dX12_join_51 : decode cX12_join 51 = .ok (.isub, 1) := by decide +kernel
theorem dX12_join_52 : decode cX12_join 52 = .ok (.iaload, 1) := by decide +kernel
theorem dX12_join_53 : decode cX12_join 53 = .ok (.iconst (-1), 1) := by decide +kernel
theorem dX12_join_54 : decode cX12_join 54 = .ok (.lconst 0, 1) := by decide +kernel
theorem dX12_join_55 : decode cX12_join 55 = .ok (.invokevirtual 529, 3) := by decide +kernel
theorem dX12_join_58 : decode cX12_join 58 = .ok (.iastore, 1) := by decide +kernel
theorem dX12_join_59 : decode cX12_join 59 = .ok (.aload_n 0, 1) := by decide +kernel
theorem dX12_join_60 : decode cX12_join 60 = .ok (.dup, 1) := by decide +kernel
theorem dX12_join_61 : decode cX12_join 61 = .ok (.getfield 179, 3) := by decide +kernel
theorem dX12_join_64 : decode cX12_join 64 = .ok (.iconst 1, 1) := by decide +kernel
theorem dX12_join_65 : decode cX12_join 65 = .ok (.isub, 1) := by decide +kernel
theorem dX12_join_66 : decode cX12_join 66 = .ok (.putfield 179, 3) := by decide +kernel
theorem dX12_join_69 : decode cX12_join 69 = .ok (.goto 52, 3) := by decide +kernel
theorem dX12_join_72 : decode cX12_join 72 = .ok (.aload_n 0, 1) := by decide +kernel
theorem dX12_join_73 : decode cX12_join 73 = .ok (.getfield 192, 3) := by decide +kernel
theorem dX12_join_76 : decode cX12_join 76 = .ok (.aload_n 0, 1) := by decide +kernel
theorem dX12_join_77 : decode cX12_join 77 = .ok (.getfield 198, 3) := by decide +kernel
theorem dX12_join_80 : decode cX12_join 80 = .ok (.iconst 2, 1) := by decide +kernel
theorem dX12_join_81 : decode cX12_join 81 = .ok (.isub, 1) := by decide +kernel
theorem dX12_join_82 : decode cX12_join 82 = .ok (.aload_n 0, 1) := by decide +kernel
theorem dX12_join_83 : decode cX12_join 83 = .ok (.iload_n 1, 1) := by decide +kernel
theorem dX12_join_84 : decode cX12_join 84 = .ok (.aload_n 0, 1) := by decide +kernel
theorem dX12_join_85 : decode cX12_join 85 = .ok (.getfield 192, 3) := by decide +kernel
theorem dX12_join_88 : decode cX12_join 88 = .ok (.aload_n 0, 1) := by decide +kernel
theorem dX12_join_89 : decode cX12_join 89 = .ok (.getfield 198, 3) := by decide +kernel
theorem dX12_join_92 : decode cX12_join 92 = .ok (.iconst 2, 1) := by decide +kernel
theorem dX12_join_93 : decode cX12_join 93 = .ok (.isub, 1) := by decide +kernel
theorem dX12_join_94 : decode cX12_join 94 = .ok (.iaload, 1) := by decide +kernel
theorem dX12_join_95 : decode cX12_join 95 = .ok (.aload_n 0, 1) := by decide +kernel
theorem dX12_join_96 : decode cX12_join 96 = .ok (.getfield 192, 3) := by decide +kernel
theorem dX12_join_99 : decode cX12_join 99 = .ok (.aload_n 0, 1) := by decide +kernel
theorem dX12_join_100 : decode cX12_join 100 = .ok (.getfield 198, 3) := by decide +kernel
theorem dX12_join_103 : decode cX12_join 103 = .ok (.iconst 1, 1) := by decide +kernel
theorem dX12_join_104 : decode cX12_join 104 = .ok (.isub, 1) := by decide +kernel
theorem dX12_join_105 : decode cX12_join 105 = .ok (.iaload, 1) := by decide +kernel
theorem dX12_join_106 : decode cX12_join 106 = .ok (.lconst 0, 1) := by decide +kernel
theorem dX12_join_107 : decode cX12_join 107 = .ok (.invokevirtual 529, 3) := by decide +kernel
theorem dX12_join_110 : decode cX12_join 110 = .ok (.iastore, 1) := by decide +kernel
theorem dX12_join_111 : decode cX12_join 111 = .ok (.aload_n 0, 1) := by decide +kernel
theorem dX12_join_112 : decode cX12_join 112 = .ok (.dup, 1) := by decide +kernel
theorem dX12_join_113 : decode cX12_join 113 = .ok (.getfield 198, 3) := by decide +kernel
theorem dX12_join_116 : decode cX12_join 116 = .ok (.iconst 1, 1) := by decide +kernel
theorem dX12_join_117 : decode cX12_join 117 = .ok (.isub, 1) := by decide +kernel
theorem dX12_join_118 : decode cX12_join 118 = .ok (.putfield 198, 3) := by decide +kernel
theorem dX12_join_121 : decode cX12_join 121 = .ok (.return_, 1) := by decide +kernel
