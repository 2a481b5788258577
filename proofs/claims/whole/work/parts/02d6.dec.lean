theorem dX6_operandNamed_0 : decode cX6_operandNamed 0 = .ok (.iconst 0, 1) := by decide +kernel
theorem dX6_operandNamed_1 : decode cX6_operandNamed 1 = .ok (.istore_n 3, 1) := by decide +kernel
theorem dX6_operandNamed_2 : decode cX6_operandNamed 2 = .ok (.iload_n 3, 1) := by decide +kernel
theorem dX6_operandNamed_3 : decode cX6_operandNamed 3 = .ok (.aload_n 0, 1) := by decide +kernel
theorem dX6_operandNamed_4 : decode cX6_operandNamed 4 = .ok (.getfield 54, 3) := by decide +kernel
theorem dX6_operandNamed_7 : decode cX6_operandNamed 7 = .ok (.getfield 170, 3) := by decide +kernel
theorem dX6_operandNamed_10 : decode cX6_operandNamed 10 = .ok (.if_icmp .ge 135, 3) := by decide +kernel
theorem dX6_operandNamed_13 : decode cX6_operandNamed 13 = .ok (.aload_n 0, 1) := by decide +kernel
theorem dX6_operandNamed_14 : decode cX6_operandNamed 14 = .ok (.getfield 54, 3) := by decide +kernel
theorem dX6_operandNamed_17 : decode cX6_operandNamed 17 = .ok (.getfield 186, 3) := by decide +kernel
theorem dX6_operandNamed_20 : decode cX6_operandNamed 20 = .ok (.iload_n 3, 1) := by decide +kernel
theorem dX6_operandNamed_21 : decode cX6_operandNamed 21 = .ok (.aaload, 1) := by decide +kernel
theorem dX6_operandNamed_22 : decode cX6_operandNamed 22 = .ok (.astore 4, 2) := by decide +kernel
theorem dX6_operandNamed_24 : decode cX6_operandNamed 24 = .ok (.aload 4, 2) := by decide +kernel
theorem dX6_operandNamed_26 : decode cX6_operandNamed 26 = .ok (.getfield 229, 3) := by decide +kernel
theorem dX6_operandNamed_29 : decode cX6_operandNamed 29 = .ok (.iconst 1, 1) := by decide +kernel
theorem dX6_operandNamed_30 : decode cX6_operandNamed 30 = .ok (.if_icmp .eq 23, 3) := by decide +kernel
theorem dX6_operandNamed_33 : decode cX6_operandNamed 33 = .ok (.aload 4, 2) := by decide +kernel
theorem dX6_operandNamed_35 : decode cX6_operandNamed 35 = .ok (.getfield 229, 3) := by decide +kernel
theorem dX6_operandNamed_38 : decode cX6_operandNamed 38 = .ok (.bipush 10, 2) := by decide +kernel
theorem dX6_operandNamed_40 : decode cX6_operandNamed 40 = .ok (.if_icmp .eq 13, 3) := by decide +kernel
theorem dX6_operandNamed_43 : decode cX6_operandNamed 43 = .ok (.aload 4, 2) := by decide +kernel
theorem dX6_operandNamed_45 : decode cX6_operandNamed 45 = .ok (.getfield 229, 3) := by decide +kernel
theorem dX6_operandNamed_48 : decode cX6_operandNamed 48 = .ok (.bipush 7, 2) := by decide +kernel
theorem dX6_operandNamed_50 : decode cX6_operandNamed 50 = .ok (.if_icmp .ne 7, 3) := by decide +kernel
theorem dX6_operandNamed_53 : decode cX6_operandNamed 53 = .ok (.iconst 1, 1) := by decide +kernel
theorem dX6_operandNamed_54 : decode cX6_operandNamed 54 = .ok (.goto 4, 3) := by decide +kernel
theorem dX6_operandNamed_57 : decode cX6_operandNamed 57 = .ok (.iconst 0, 1) := by decide +kernel
theorem dX6_operandNamed_58 : decode cX6_operandNamed 58 = .ok (.istore 5, 2) := by decide +kernel
theorem dX6_operandNamed_60 : decode cX6_operandNamed 60 = .ok (.iload 5, 2) := by decide +kernel
theorem dX6_operandNamed_62 : decode cX6_operandNamed 62 = .ok (.ifCond .eq 18, 3) := by decide +kernel
theorem dX6_operandNamed_65 : decode cX6_operandNamed 65 = .ok (.aload 4, 2) := by decide +kernel
theorem dX6_operandNamed_67 : decode cX6_operandNamed 67 = .ok (.getfield 228, 3) := by decide +kernel
theorem dX6_operandNamed_70 : decode cX6_operandNamed 70 = .ok (.lload_n 1, 1) := by decide +kernel
theorem dX6_operandNamed_71 : decode cX6_operandNamed 71 = .ok (.lcmp, 1) := by decide +kernel
theorem dX6_operandNamed_72 : decode cX6_operandNamed 72 = .ok (.ifCond .ne 8, 3) := by decide +kernel
theorem dX6_operandNamed_75 : decode cX6_operandNamed 75 = .ok (.iload_n 3, 1) := by decide +kernel
theorem dX6_operandNamed_76 : decode cX6_operandNamed 76 = .ok (.bipush 13, 2) := by decide +kernel
theorem dX6_operandNamed_78 : decode cX6_operandNamed 78 = .ok (.imul, 1) := by decide +kernel
theorem dX6_operandNamed_79 : decode cX6_operandNamed 79 = .ok (.ireturn, 1) := by decide +kernel
theorem dX6_operandNamed_80 : decode cX6_operandNamed 80 = .ok (.iconst 0, 1) := by decide +kernel
theorem dX6_operandNamed_81 : decode cX6_operandNamed 81 = .ok (.istore 6, 2) := by decide +kernel
theorem dX6_operandNamed_83 : decode cX6_operandNamed 83 = .ok (.aload 4, 2) := by decide +kernel
theorem dX6_operandNamed_85 : decode cX6_operandNamed 85 = .ok (.getfield 229, 3) := by decide +kernel
theorem dX6_operandNamed_88 : decode cX6_operandNamed 88 = .ok (.iconst 3, 1) := by decide +kernel
theorem dX6_operandNamed_89 : decode cX6_operandNamed 89 = .ok (.if_icmp .ne 50, 3) := by decide +kernel
theorem dX6_operandNamed_92 : decode cX6_operandNamed 92 = .ok (.iload 6, 2) := by decide +kernel
theorem dX6_operandNamed_94 : decode cX6_operandNamed 94 = .ok (.aload 4, 2) := by decide +kernel
theorem dX6_operandNamed_96 : decode cX6_operandNamed 96 = .ok (.getfield 233, 3) := by decide +kernel
theorem dX6_operandNamed_99 : decode cX6_operandNamed 99 = .ok (.if_icmp .ge 40, 3) := by decide +kernel
theorem dX6_operandNamed_102 : decode cX6_operandNamed 102 = .ok (.aload_n 0, 1) := by decide +kernel
theorem dX6_operandNamed_103 : decode cX6_operandNamed 103 = .ok (.getfield 66, 3) := by decide +kernel
theorem dX6_operandNamed_106 : decode cX6_operandNamed 106 = .ok (.getfield 322, 3) := by decide +kernel
theorem dX6_operandNamed_109 : decode cX6_operandNamed 109 = .ok (.aload 4, 2) := by decide +kernel
theorem dX6_operandNamed_111 : decode cX6_operandNamed 111 = .ok (.getfield 230, 3) := by decide +kernel
theorem dX6_operandNamed_114 : decode cX6_operandNamed 114 = .ok (.iload 6, 2) := by decide +kernel
theorem dX6_operandNamed_116 : decode cX6_operandNamed 116 = .ok (.iadd, 1) := by decide +kernel
theorem dX6_operandNamed_117 : decode cX6_operandNamed 117 = .ok (.laload, 1) := by decide +kernel
theorem dX6_operandNamed_118 : decode cX6_operandNamed 118 = .ok (.lload_n 1, 1) := by decide +kernel
theorem dX6_operandNamed_119 : decode cX6_operandNamed 119 = .ok (.lcmp, 1) := by decide +kernel
theorem dX6_operandNamed_120 : decode cX6_operandNamed 120 = .ok (.ifCond .ne 13, 3) := by decide +kernel
theorem dX6_operandNamed_123 : decode cX6_operandNamed 123 = .ok (.iload_n 3, 1) := by decide +kernel
theorem dX6_operandNamed_124 : decode cX6_operandNamed 124 = .ok (.bipush 13, 2) := by decide +kernel
theorem dX6_operandNamed_126 : decode cX6_operandNamed 126 = .ok (.imul, 1) := by decide +kernel
theorem dX6_operandNamed_127 : decode cX6_operandNamed 127 = .ok (.iconst 1, 1) := by decide +kernel
theorem dX6_operandNamed_128 : decode cX6_operandNamed 128 = .ok (.iadd, 1) := by decide +kernel
theorem dX6_operandNamed_129 : decode cX6_operandNamed 129 = .ok (.iload 6, 2) := by decide +kernel
theorem dX6_operandNamed_131 : decode cX6_operandNamed 131 = .ok (.iadd, 1) := by decide +kernel
theorem dX6_operandNamed_132 : decode cX6_operandNamed 132 = .ok (.ireturn, 1) := by decide +kernel
theorem dX6_operandNamed_133 : decode cX6_operandNamed 133 = .ok (.iinc 6 1, 3) := by decide +kernel
theorem dX6_operandNamed_136 : decode cX6_operandNamed 136 = .ok (.goto (-53), 3) := by decide +kernel
theorem dX6_operandNamed_139 : decode cX6_operandNamed 139 = .ok (.iinc 3 1, 3) := by decide +kernel
theorem dX6_operandNamed_142 : decode cX6_operandNamed 142 = .ok (.goto (-140), 3) := by decide +kernel
theorem dX6_operandNamed_145 : decode cX6_operandNamed 145 = .ok (.iconst (-1), 1) := by decide +kernel
theorem dX6_operandNamed_146 : decode cX6_operandNamed 146 = .ok (.ireturn, 1) := by decide +kernel
theorem dX6_pass_0 : decode cX6_pass 0 = .ok (.aload_n 0, 1) := by decide +kernel
theorem dX6_pass_1 : decode cX6_pass 1 = .ok (.getfield 77, 3) := by decide +kernel
theorem dX6_pass_4 : decode cX6_pass 4 = .ok (.aload_n 0, 1) := by decide +kernel
theorem dX6_pass_5 : decode cX6_pass 5 = .ok (.getfield 62, 3) := by decide +kernel
theorem dX6_pass_8 : decode cX6_pass 8 = .ok (.getfield 97, 3) := by decide +kernel
theorem dX6_pass_11 : decode cX6_pass 11 = .ok (.iconst 1, 1) := by decide +kernel
theorem dX6_pass_12 : decode cX6_pass 12 = .ok (.isub, 1) := by decide +kernel
theorem dX6_pass_13 : decode cX6_pass 13 = .ok (.if_icmp .ge 45, 3) := by decide +kernel
theorem dX6_pass_16 : decode cX6_pass 16 = .ok (.aload_n 0, 1) := by decide +kernel
theorem dX6_pass_17 : decode cX6_pass 17 = .ok (.dup, 1) := by decide +kernel
theorem dX6_pass_18 : decode cX6_pass 18 = .ok (.getfield 77, 3) := by decide +kernel
theorem dX6_pass_21 : decode cX6_pass 21 = .ok (.iconst 1, 1) := by decide +kernel
theorem dX6_pass_22 : decode cX6_pass 22 = .ok (.iadd, 1) := by decide +kernel
theorem dX6_pass_23 : decode cX6_pass 23 = .ok (.putfield 77, 3) := by decide +kernel
theorem dX6_pass_26 : decode cX6_pass 26 = .ok (.aload_n 0, 1) := by decide +kernel
theorem dX6_pass_27 : decode cX6_pass 27 = .ok (.aload_n 0, 1) := by decide +kernel
theorem dX6_pass_28 : decode cX6_pass 28 = .ok (.getfield 62, 3) := by decide +kernel
theorem dX6_pass_31 : decode cX6_pass 31 = .ok (.getfield 80, 3) := by decide +kernel
theorem dX6_pass_34 : decode cX6_pass 34 = .ok (.aload_n 0, 1) := by decide +kernel
theorem dX6_pass_35 : decode cX6_pass 35 = .ok (.getfield 77, 3) := by decide +kernel
theorem dX6_pass_38 : decode cX6_pass 38 = .ok (.iaload, 1) := by decide +kernel
theorem dX6_pass_39 : decode cX6_pass 39 = .ok (.putfield 24, 3) := by decide +kernel
theorem dX6_pass_42 : decode cX6_pass 42 = .ok (.aload_n 0, 1) := by decide +kernel
theorem dX6_pass_43 : decode cX6_pass 43 = .ok (.aload_n 0, 1) := by decide +kernel
theorem dX6_pass_44 : decode cX6_pass 44 = .ok (.getfield 62, 3) := by decide +kernel
theorem dX6_pass_47 : decode cX6_pass 47 = .ok (.getfield 86, 3) := by decide +kernel
theorem dX6_pass_50 : decode cX6_pass 50 = .ok (.aload_n 0, 1) := by decide +kernel
theorem dX6_pass_51 : decode cX6_pass 51 = .ok (.getfield 77, 3) := by decide +kernel
theorem dX6_pass_54 : decode cX6_pass 54 = .ok (.laload, 1) := by decide +kernel
theorem dX6_pass_55 : decode cX6_pass 55 = .ok (.putfield 90, 3) := by decide +kernel
theorem dX6_pass_58 : decode cX6_pass 58 = .ok (.return_, 1) := by decide +kernel
theorem dX6_readBits_0 : decode cX6_readBits 0 = .ok (.aload_n 0, 1) := by decide +kernel
theorem dX6_readBits_1 : decode cX6_readBits 1 = .ok (.getfield 106, 3) := by decide +kernel
theorem dX6_readBits_4 : decode cX6_readBits 4 = .ok (.iconst 3, 1) := by decide +kernel
theorem dX6_readBits_5 : decode cX6_readBits 5 = .ok (.putfield 229, 3) := by decide +kernel
theorem dX6_readBits_8 : decode cX6_readBits 8 = .ok (.aload_n 0, 1) := by decide +kernel
theorem dX6_readBits_9 : decode cX6_readBits 9 = .ok (.getfield 106, 3) := by decide +kernel
theorem dX6_readBits_12 : decode cX6_readBits 12 = .ok (.aload_n 0, 1) := by decide +kernel
theorem dX6_readBits_13 : decode cX6_readBits 13 = .ok (.getfield 66, 3) := by decide +kernel
theorem dX6_readBits_16 : decode cX6_readBits 16 = .ok (.getfield 139, 3) := by decide +kernel
theorem dX6_readBits_19 : decode cX6_readBits 19 = .ok (.putfield 230, 3) := by decide +kernel
theorem dX6_readBits_22 : decode cX6_readBits 22 = .ok (.aload_n 0, 1) := by decide +kernel
theorem dX6_readBits_23 : decode cX6_readBits 23 = .ok (.invokevirtual 100, 3) := by decide +kernel
theorem dX6_readBits_26 : decode cX6_readBits 26 = .ok (.aload_n 0, 1) := by decide +kernel
theorem dX6_readBits_27 : decode cX6_readBits 27 = .ok (.invokevirtual 234, 3) := by decide +kernel
theorem dX6_readBits_30 : decode cX6_readBits 30 = .ok (.ifCond .eq 19, 3) := by decide +kernel
theorem dX6_readBits_33 : decode cX6_readBits 33 = .ok (.aload_n 0, 1) := by decide +kernel
theorem dX6_readBits_34 : decode cX6_readBits 34 = .ok (.invokevirtual 237, 3) := by decide +kernel
theorem dX6_readBits_37 : decode cX6_readBits 37 = .ok (.ifCond .eq 12, 3) := by decide +kernel
theorem dX6_readBits_40 : decode cX6_readBits 40 = .ok (.aload_n 0, 1) := by decide +kernel
theorem dX6_readBits_41 : decode cX6_readBits 41 = .ok (.bipush 123, 2) := by decide +kernel
theorem dX6_readBits_43 : decode cX6_readBits 43 = .ok (.invokevirtual 116, 3) := by decide +kernel
theorem dX6_readBits_46 : decode cX6_readBits 46 = .ok (.ifCond .ne 5, 3) := by decide +kernel
theorem dX6_readBits_49 : decode cX6_readBits 49 = .ok (.iconst 0, 1) := by decide +kernel
theorem dX6_readBits_50 : decode cX6_readBits 50 = .ok (.ireturn, 1) := by decide +kernel
theorem dX6_readBits_51 : decode cX6_readBits 51 = .ok (.iconst 0, 1) := by decide +kernel
theorem dX6_readBits_52 : decode cX6_readBits 52 = .ok (.istore_n 1, 1) := by decide +kernel
theorem dX6_readBits_53 : decode cX6_readBits 53 = .ok (.iconst 1, 1) := by decide +kernel
theorem dX6_readBits_54 : decode cX6_readBits 54 = .ok (.istore_n 2, 1) := by decide +kernel
theorem dX6_readBits_55 : decode cX6_readBits 55 = .ok (.iconst 0, 1) := by decide +kernel
theorem dX6_readBits_56 : decode cX6_readBits 56 = .ok (.istore_n 3, 1) := by decide +kernel
theorem dX6_readBits_57 : decode cX6_readBits 57 = .ok (.iload_n 3, 1) := by decide +kernel
theorem dX6_readBits_58 : decode cX6_readBits 58 = .ok (.bipush 12, 2) := by decide +kernel
theorem dX6_readBits_60 : decode cX6_readBits 60 = .ok (.if_icmp .gt 38, 3) := by decide +kernel
theorem dX6_readBits_63 : decode cX6_readBits 63 = .ok (.iload_n 2, 1) := by decide +kernel
theorem dX6_readBits_64 : decode cX6_readBits 64 = .ok (.ifCond .eq 34, 3) := by decide +kernel
theorem dX6_readBits_67 : decode cX6_readBits 67 = .ok (.aload_n 0, 1) := by decide +kernel
theorem dX6_readBits_68 : decode cX6_readBits 68 = .ok (.iload_n 1, 1) := by decide +kernel
theorem dX6_readBits_69 : decode cX6_readBits 69 = .ok (.invokevirtual 258, 3) := by decide +kernel
theorem dX6_readBits_72 : decode cX6_readBits 72 = .ok (.ifCond .ne 5, 3) := by decide +kernel
theorem dX6_readBits_75 : decode cX6_readBits 75 = .ok (.iconst 0, 1) := by decide +kernel
theorem dX6_readBits_76 : decode cX6_readBits 76 = .ok (.ireturn, 1) := by decide +kernel
theorem dX6_readBits_77 : decode cX6_readBits 77 = .ok (.iload_n 1, 1) := by decide +kernel
theorem dX6_readBits_78 : decode cX6_readBits 78 = .ok (.aload_n 0, 1) := by decide +kernel
theorem dX6_readBits_79 : decode cX6_readBits 79 = .ok (.getfield 103, 3) := by decide +kernel
theorem dX6_readBits_82 : decode cX6_readBits 82 = .ok (.l2i, 1) := by decide +kernel
theorem dX6_readBits_83 : decode cX6_readBits 83 = .ok (.iadd, 1) := by decide +kernel
theorem dX6_readBits_84 : decode cX6_readBits 84 = .ok (.istore_n 1, 1) := by decide +kernel
theorem dX6_readBits_85 : decode cX6_readBits 85 = .ok (.aload_n 0, 1) := by decide +kernel
theorem dX6_readBits_86 : decode cX6_readBits 86 = .ok (.bipush 44, 2) := by decide +kernel
theorem dX6_readBits_88 : decode cX6_readBits 88 = .ok (.invokevirtual 148, 3) := by decide +kernel
theorem dX6_readBits_91 : decode cX6_readBits 91 = .ok (.istore_n 2, 1) := by decide +kernel
theorem dX6_readBits_92 : decode cX6_readBits 92 = .ok (.iinc 3 1, 3) := by decide +kernel
theorem dX6_readBits_95 : decode cX6_readBits 95 = .ok (.goto (-38), 3) := by decide +kernel
theorem dX6_readBits_98 : decode cX6_readBits 98 = .ok (.aload_n 0, 1) := by decide +kernel
theorem dX6_readBits_99 : decode cX6_readBits 99 = .ok (.bipush 125, 2) := by decide +kernel
theorem dX6_readBits_101 : decode cX6_readBits 101 = .ok (.invokevirtual 116, 3) := by decide +kernel
theorem dX6_readBits_104 : decode cX6_readBits 104 = .ok (.ireturn, 1) := by decide +kernel
theorem dX6_readByte_0 : decode cX6_readByte 0 = .ok (.aload_n 0, 1) := by decide +kernel
theorem dX6_readByte_1 : decode cX6_readByte 1 = .ok (.aload_n 0, 1) := by decide +kernel
theorem dX6_readByte_2 : decode cX6_readByte 2 = .ok (.getfield 24, 3) := by decide +kernel
theorem dX6_readByte_5 : decode cX6_readByte 5 = .ok (.iconst 3, 1) := by decide +kernel
theorem dX6_readByte_6 : decode cX6_readByte 6 = .ok (.if_icmp .eq 12, 3) := by decide +kernel
theorem dX6_readByte_9 : decode cX6_readByte 9 = .ok (.aload_n 0, 1) := by decide +kernel
theorem dX6_readByte_10 : decode cX6_readByte 10 = .ok (.getfield 24, 3) := by decide +kernel
theorem dX6_readByte_13 : decode cX6_readByte 13 = .ok (.bipush 42, 2) := by decide +kernel
theorem dX6_readByte_15 : decode cX6_readByte 15 = .ok (.if_icmp .ne 7, 3) := by decide +kernel
theorem dX6_readByte_18 : decode cX6_readByte 18 = .ok (.iconst 1, 1) := by decide +kernel
theorem dX6_readByte_19 : decode cX6_readByte 19 = .ok (.goto 4, 3) := by decide +kernel
theorem dX6_readByte_22 : decode cX6_readByte 22 = .ok (.iconst 0, 1) := by decide +kernel
theorem dX6_readByte_23 : decode cX6_readByte 23 = .ok (.iconst 2, 1) := by decide +kernel
theorem dX6_readByte_24 : decode cX6_readByte 24 = .ok (.invokevirtual 28, 3) := by decide +kernel
theorem dX6_readByte_27 : decode cX6_readByte 27 = .ok (.ifCond .eq 28, 3) := by decide +kernel
theorem dX6_readByte_30 : decode cX6_readByte 30 = .ok (.aload_n 0, 1) := by decide +kernel
theorem dX6_readByte_31 : decode cX6_readByte 31 = .ok (.aload_n 0, 1) := by decide +kernel
theorem dX6_readByte_32 : decode cX6_readByte 32 = .ok (.getfield 106, 3) := by decide +kernel
theorem dX6_readByte_35 : decode cX6_readByte 35 = .ok (.getfield 233, 3) := by decide +kernel
theorem dX6_readByte_38 : decode cX6_readByte 38 = .ok (.bipush 16, 2) := by decide +kernel
theorem dX6_readByte_40 : decode cX6_readByte 40 = .ok (.if_icmp .ge 7, 3) := by decide +kernel
theorem dX6_readByte_43 : decode cX6_readByte 43 = .ok (.iconst 1, 1) := by decide +kernel
theorem dX6_readByte_44 : decode cX6_readByte 44 = .ok (.goto 4, 3) := by decide +kernel
theorem dX6_readByte_47 : decode cX6_readByte 47 = .ok (.iconst 0, 1) := by decide +kernel
theorem dX6_readByte_48 : decode cX6_readByte 48 = .ok (.iconst 5, 1) := by decide +kernel
theorem dX6_readByte_49 : decode cX6_readByte 49 = .ok (.invokevirtual 28, 3) := by decide +kernel
theorem dX6_readByte_52 : decode cX6_readByte 52 = .ok (.ifCond .ne 5, 3) := by decide +kernel
theorem dX6_readByte_55 : decode cX6_readByte 55 = .ok (.iconst 0, 1) := by decide +kernel
theorem dX6_readByte_56 : decode cX6_readByte 56 = .ok (.ireturn, 1) := by decide +kernel
theorem dX6_readByte_57 : decode cX6_readByte 57 = .ok (.aload_n 0, 1) := by decide +kernel
theorem dX6_readByte_58 : decode cX6_readByte 58 = .ok (.bipush 42, 2) := by decide +kernel
theorem dX6_readByte_60 : decode cX6_readByte 60 = .ok (.invokevirtual 148, 3) := by decide +kernel
theorem dX6_readByte_63 : decode cX6_readByte 63 = .ok (.istore_n 1, 1) := by decide +kernel
theorem dX6_readByte_64 : decode cX6_readByte 64 = .ok (.iload_n 1, 1) := by decide +kernel
theorem dX6_readByte_65 : decode cX6_readByte 65 = .ok (.ifCond .ne 16, 3) := by decide +kernel
theorem dX6_readByte_68 : decode cX6_readByte 68 = .ok (.aload_n 0, 1) := by decide +kernel
theorem dX6_readByte_69 : decode cX6_readByte 69 = .ok (.lconst 0, 1) := by decide +kernel
theorem dX6_readByte_70 : decode cX6_readByte 70 = .ok (.ldc2_w 274, 3) := by decide +kernel
theorem dX6_readByte_73 : decode cX6_readByte 73 = .ok (.invokevirtual 270, 3) := by decide +kernel
theorem dX6_readByte_76 : decode cX6_readByte 76 = .ok (.ifCond .ne 5, 3) := by decide +kernel
theorem dX6_readByte_79 : decode cX6_readByte 79 = .ok (.iconst 0, 1) := by decide +kernel
theorem dX6_readByte_80 : decode cX6_readByte 80 = .ok (.ireturn, 1) := by decide +kernel
theorem dX6_readByte_81 : decode cX6_readByte 81 = .ok (.aload_n 0, 1) := by decide +kernel
theorem dX6_readByte_82 : decode cX6_readByte 82 = .ok (.getfield 66, 3) := by decide +kernel
theorem dX6_readByte_85 : decode cX6_readByte 85 = .ok (.lconst 0, 1) := by decide +kernel
theorem dX6_readByte_86 : decode cX6_readByte 86 = .ok (.iload_n 1, 1) := by decide +kernel
theorem dX6_readByte_87 : decode cX6_readByte 87 = .ok (.ifCond .eq 9, 3) := by decide +kernel
theorem dX6_readByte_90 : decode cX6_readByte 90 = .ok (.ldc2_w 296, 3) := by decide +kernel
theorem dX6_readByte_93 : decode cX6_readByte 93 = .ok (.goto 7, 3) := by decide +kernel
theorem dX6_readByte_96 : decode cX6_readByte 96 = .ok (.aload_n 0, 1) := by decide +kernel
theorem dX6_readByte_97 : decode cX6_readByte 97 = .ok (.getfield 103, 3) := by decide +kernel
theorem dX6_readByte_100 : decode cX6_readByte 100 = .ok (.iconst 0, 1) := by decide +kernel
theorem dX6_readByte_101 : decode cX6_readByte 101 = .ok (.invokevirtual 158, 3) := by decide +kernel
theorem dX6_readByte_104 : decode cX6_readByte 104 = .ok (.aload_n 0, 1) := by decide +kernel
theorem dX6_readByte_105 : decode cX6_readByte 105 = .ok (.getfield 106, 3) := by decide +kernel
theorem dX6_readByte_108 : decode cX6_readByte 108 = .ok (.dup, 1) := by decide +kernel
theorem dX6_readByte_109 : decode cX6_readByte 109 = .ok (.getfield 233, 3) := by decide +kernel
theorem dX6_readByte_112 : decode cX6_readByte 112 = .ok (.iconst 1, 1) := by decide +kernel
theorem dX6_readByte_113 : decode cX6_readByte 113 = .ok (.iadd, 1) := by decide +kernel
theorem dX6_readByte_114 : decode cX6_readByte 114 = .ok (.putfield 233, 3) := by decide +kernel
theorem dX6_readByte_117 : decode cX6_readByte 117 = .ok (.iconst 1, 1) := by decide +kernel
theorem dX6_readByte_118 : decode cX6_readByte 118 = .ok (.ireturn, 1) := by decide +kernel
theorem dX6_readCase_0 : decode cX6_readCase 0 = .ok (.aload_n 0, 1) := by decide +kernel
theorem dX6_readCase_1 : decode cX6_readCase 1 = .ok (.aload_n 0, 1) := by decide +kernel
theorem dX6_readCase_2 : decode cX6_readCase 2 = .ok (.getfield 24, 3) := by decide +kernel
theorem dX6_readCase_5 : decode cX6_readCase 5 = .ok (.iconst 3, 1) := by decide +kernel
theorem dX6_readCase_6 : decode cX6_readCase 6 = .ok (.if_icmp .eq 12, 3) := by decide +kernel
theorem dX6_readCase_9 : decode cX6_readCase 9 = .ok (.aload_n 0, 1) := by decide +kernel
theorem dX6_readCase_10 : decode cX6_readCase 10 = .ok (.getfield 24, 3) := by decide +kernel
theorem dX6_readCase_13 : decode cX6_readCase 13 = .ok (.bipush 45, 2) := by decide +kernel
theorem dX6_readCase_15 : decode cX6_readCase 15 = .ok (.if_icmp .ne 7, 3) := by decide +kernel
theorem dX6_readCase_18 : decode cX6_readCase 18 = .ok (.iconst 1, 1) := by decide +kernel
theorem dX6_readCase_19 : decode cX6_readCase 19 = .ok (.goto 4, 3) := by decide +kernel
theorem dX6_readCase_22 : decode cX6_readCase 22 = .ok (.iconst 0, 1) := by decide +kernel
theorem dX6_readCase_23 : decode cX6_readCase 23 = .ok (.iconst 2, 1) := by decide +kernel
theorem dX6_readCase_24 : decode cX6_readCase 24 = .ok (.invokevirtual 28, 3) := by decide +kernel
theorem dX6_readCase_27 : decode cX6_readCase 27 = .ok (.ifCond .eq 28, 3) := by decide +kernel
theorem dX6_readCase_30 : decode cX6_readCase 30 = .ok (.aload_n 0, 1) := by decide +kernel
theorem dX6_readCase_31 : decode cX6_readCase 31 = .ok (.aload_n 0, 1) := by decide +kernel
theorem dX6_readCase_32 : decode cX6_readCase 32 = .ok (.getfield 106, 3) := by decide +kernel
theorem dX6_readCase_35 : decode cX6_readCase 35 = .ok (.getfield 233, 3) := by decide +kernel
theorem dX6_readCase_38 : decode cX6_readCase 38 = .ok (.bipush 8, 2) := by decide +kernel
theorem dX6_readCase_40 : decode cX6_readCase 40 = .ok (.if_icmp .ge 7, 3) := by decide +kernel
theorem dX6_readCase_43 : decode cX6_readCase 43 = .ok (.iconst 1, 1) := by decide +kernel
theorem dX6_readCase_44 : decode cX6_readCase 44 = .ok (.goto 4, 3) := by decide +kernel
theorem dX6_readCase_47 : decode cX6_readCase 47 = .ok (.iconst 0, 1) := by decide +kernel
theorem dX6_readCase_48 : decode cX6_readCase 48 = .ok (.iconst 5, 1) := by decide +kernel
theorem dX6_readCase_49 : decode cX6_readCase 49 = .ok (.invokevirtual 28, 3) := by decide +kernel
theorem dX6_readCase_52 : decode cX6_readCase 52 = .ok (.ifCond .ne 5, 3) := by decide +kernel
theorem dX6_readCase_55 : decode cX6_readCase 55 = .ok (.iconst 0, 1) := by decide +kernel
theorem dX6_readCase_56 : decode cX6_readCase 56 = .ok (.ireturn, 1) := by decide +kernel
theorem dX6_readCase_57 : decode cX6_readCase 57 = .ok (.aload_n 0, 1) := by decide +kernel
theorem dX6_readCase_58 : decode cX6_readCase 58 = .ok (.invokevirtual 155, 3) := by decide +kernel
theorem dX6_readCase_61 : decode cX6_readCase 61 = .ok (.ifCond .eq 12, 3) := by decide +kernel
theorem dX6_readCase_64 : decode cX6_readCase 64 = .ok (.aload_n 0, 1) := by decide +kernel
theorem dX6_readCase_65 : decode cX6_readCase 65 = .ok (.bipush 58, 2) := by decide +kernel
theorem dX6_readCase_67 : decode cX6_readCase 67 = .ok (.invokevirtual 116, 3) := by decide +kernel
theorem dX6_readCase_70 : decode cX6_readCase 70 = .ok (.ifCond .ne 5, 3) := by decide +kernel
theorem dX6_readCase_73 : decode cX6_readCase 73 = .ok (.iconst 0, 1) := by decide +kernel
theorem dX6_readCase_74 : decode cX6_readCase 74 = .ok (.ireturn, 1) := by decide +kernel
theorem dX6_readCase_75 : decode cX6_readCase 75 = .ok (.aload_n 0, 1) := by decide +kernel
theorem dX6_readCase_76 : decode cX6_readCase 76 = .ok (.invokevirtual 240, 3) := by decide +kernel
theorem dX6_readCase_79 : decode cX6_readCase 79 = .ok (.istore_n 1, 1) := by decide +kernel
theorem dX6_readCase_80 : decode cX6_readCase 80 = .ok (.iload_n 1, 1) := by decide +kernel
theorem dX6_readCase_81 : decode cX6_readCase 81 = .ok (.iconst (-1), 1) := by decide +kernel
theorem dX6_readCase_82 : decode cX6_readCase 82 = .ok (.if_icmp .eq 12, 3) := by decide +kernel
theorem dX6_readCase_85 : decode cX6_readCase 85 = .ok (.aload_n 0, 1) := by decide +kernel
theorem dX6_readCase_86 : decode cX6_readCase 86 = .ok (.bipush 59, 2) := by decide +kernel
theorem dX6_readCase_88 : decode cX6_readCase 88 = .ok (.invokevirtual 116, 3) := by decide +kernel
theorem dX6_readCase_91 : decode cX6_readCase 91 = .ok (.ifCond .ne 5, 3) := by decide +kernel
theorem dX6_readCase_94 : decode cX6_readCase 94 = .ok (.iconst 0, 1) := by decide +kernel
theorem dX6_readCase_95 : decode cX6_readCase 95 = .ok (.ireturn, 1) := by decide +kernel
theorem dX6_readCase_96 : decode cX6_readCase 96 = .ok (.aload_n 0, 1) := by decide +kernel
theorem dX6_readCase_97 : decode cX6_readCase 97 = .ok (.getfield 66, 3) := by decide +kernel
theorem dX6_readCase_100 : decode cX6_readCase 100 = .ok (.lconst 0, 1) := by decide +kernel
theorem dX6_readCase_101 : decode cX6_readCase 101 = .ok (.aload_n 0, 1) := by decide +kernel
theorem dX6_readCase_102 : decode cX6_readCase 102 = .ok (.getfield 103, 3) := by decide +kernel
theorem dX6_readCase_105 : decode cX6_readCase 105 = .ok (.iload_n 1, 1) := by decide +kernel
theorem dX6_readCase_106 : decode cX6_readCase 106 = .ok (.invokevirtual 158, 3) := by decide +kernel
theorem dX6_readCase_109 : decode cX6_readCase 109 = .ok (.aload_n 0, 1) := by decide +kernel
theorem dX6_readCase_110 : decode cX6_readCase 110 = .ok (.getfield 106, 3) := by decide +kernel
theorem dX6_readCase_113 : decode cX6_readCase 113 = .ok (.dup, 1) := by decide +kernel
theorem dX6_readCase_114 : decode cX6_readCase 114 = .ok (.getfield 233, 3) := by decide +kernel
theorem dX6_readCase_117 : decode cX6_readCase 117 = .ok (.iconst 1, 1) := by decide +kernel
theorem dX6_readCase_118 : decode cX6_readCase 118 = .ok (.iadd, 1) := by decide +kernel
theorem dX6_readCase_119 : decode cX6_readCase 119 = .ok (.putfield 233, 3) := by decide +kernel
theorem dX6_readCase_122 : decode cX6_readCase 122 = .ok (.iconst 1, 1) := by decide +kernel
theorem dX6_readCase_123 : decode cX6_readCase 123 = .ok (.ireturn, 1) := by decide +kernel
theorem dX6_readDescription_0 : decode cX6_readDescription 0 = .ok (.aload_n 0, 1) := by decide +kernel
theorem dX6_readDescription_1 : decode cX6_readDescription 1 = .ok (.aload_n 1, 1) := by decide +kernel
theorem dX6_readDescription_2 : decode cX6_readDescription 2 = .ok (.aload_n 2, 1) := by decide +kernel
theorem dX6_readDescription_3 : decode cX6_readDescription 3 = .ok (.aload_n 2, 1) := by decide +kernel
theorem dX6_readDescription_4 : decode cX6_readDescription 4 = .ok (.getfield 9, 3) := by decide +kernel
theorem dX6_readDescription_7 : decode cX6_readDescription 7 = .ok (.invokevirtual 15, 3) := by decide +kernel
theorem dX6_readDescription_10 : decode cX6_readDescription 10 = .ok (.aload_n 2, 1) := by decide +kernel
theorem dX6_readDescription_11 : decode cX6_readDescription 11 = .ok (.invokevirtual 21, 3) := by decide +kernel
theorem dX6_readDescription_14 : decode cX6_readDescription 14 = .ok (.iconst 0, 1) := by decide +kernel
theorem dX6_readDescription_15 : decode cX6_readDescription 15 = .ok (.istore_n 3, 1) := by decide +kernel
theorem dX6_readDescription_16 : decode cX6_readDescription 16 = .ok (.iload_n 3, 1) := by decide +kernel
theorem dX6_readDescription_17 : decode cX6_readDescription 17 = .ok (.sipush 3000, 3) := by decide +kernel
theorem dX6_readDescription_20 : decode cX6_readDescription 20 = .ok (.if_icmp .gt 84, 3) := by decide +kernel
theorem dX6_readDescription_23 : decode cX6_readDescription 23 = .ok (.iload_n 3, 1) := by decide +kernel
theorem dX6_readDescription_24 : decode cX6_readDescription 24 = .ok (.ifCond .eq 10, 3) := by decide +kernel
theorem dX6_readDescription_27 : decode cX6_readDescription 27 = .ok (.aload_n 0, 1) := by decide +kernel
theorem dX6_readDescription_28 : decode cX6_readDescription 28 = .ok (.getfield 24, 3) := by decide +kernel
theorem dX6_readDescription_31 : decode cX6_readDescription 31 = .ok (.ifCond .eq 73, 3) := by decide +kernel
theorem dX6_readDescription_34 : decode cX6_readDescription 34 = .ok (.aload_n 0, 1) := by decide +kernel
theorem dX6_readDescription_35 : decode cX6_readDescription 35 = .ok (.aload_n 0, 1) := by decide +kernel
theorem dX6_readDescription_36 : decode cX6_readDescription 36 = .ok (.getfield 24, 3) := by decide +kernel
theorem dX6_readDescription_39 : decode cX6_readDescription 39 = .ok (.sipush 200, 3) := by decide +kernel
theorem dX6_readDescription_42 : decode cX6_readDescription 42 = .ok (.if_icmp .eq 13, 3) := by decide +kernel
theorem dX6_readDescription_45 : decode cX6_readDescription 45 = .ok (.aload_n 0, 1) := by decide +kernel
theorem dX6_readDescription_46 : decode cX6_readDescription 46 = .ok (.getfield 24, 3) := by decide +kernel
theorem dX6_readDescription_49 : decode cX6_readDescription 49 = .ok (.sipush 201, 3) := by decide +kernel
theorem dX6_readDescription_52 : decode cX6_readDescription 52 = .ok (.if_icmp .ne 7, 3) := by decide +kernel
theorem dX6_readDescription_55 : decode cX6_readDescription 55 = .ok (.iconst 1, 1) := by decide +kernel
theorem dX6_readDescription_56 : decode cX6_readDescription 56 = .ok (.goto 4, 3) := by decide +kernel
theorem dX6_readDescription_59 : decode cX6_readDescription 59 = .ok (.iconst 0, 1) := by decide +kernel
theorem dX6_readDescription_60 : decode cX6_readDescription 60 = .ok (.iconst 2, 1) := by decide +kernel
theorem dX6_readDescription_61 : decode cX6_readDescription 61 = .ok (.invokevirtual 28, 3) := by decide +kernel
theorem dX6_readDescription_64 : decode cX6_readDescription 64 = .ok (.ifCond .ne 5, 3) := by decide +kernel
theorem dX6_readDescription_67 : decode cX6_readDescription 67 = .ok (.iconst 0, 1) := by decide +kernel
theorem dX6_readDescription_68 : decode cX6_readDescription 68 = .ok (.ireturn, 1) := by decide +kernel
theorem dX6_readDescription_69 : decode cX6_readDescription 69 = .ok (.aload_n 0, 1) := by decide +kernel
theorem dX6_readDescription_70 : decode cX6_readDescription 70 = .ok (.getfield 24, 3) := by decide +kernel
theorem dX6_readDescription_73 : decode cX6_readDescription 73 = .ok (.sipush 200, 3) := by decide +kernel
theorem dX6_readDescription_76 : decode cX6_readDescription 76 = .ok (.if_icmp .ne 13, 3) := by decide +kernel
theorem dX6_readDescription_79 : decode cX6_readDescription 79 = .ok (.aload_n 0, 1) := by decide +kernel
theorem dX6_readDescription_80 : decode cX6_readDescription 80 = .ok (.invokevirtual 32, 3) := by decide +kernel
theorem dX6_readDescription_83 : decode cX6_readDescription 83 = .ok (.ifCond .ne 15, 3) := by decide +kernel
theorem dX6_readDescription_86 : decode cX6_readDescription 86 = .ok (.goto 10, 3) := by decide +kernel
theorem dX6_readDescription_89 : decode cX6_readDescription 89 = .ok (.aload_n 0, 1) := by decide +kernel
theorem dX6_readDescription_90 : decode cX6_readDescription 90 = .ok (.invokevirtual 36, 3) := by decide +kernel
theorem dX6_readDescription_93 : decode cX6_readDescription 93 = .ok (.ifCond .ne 5, 3) := by decide +kernel
theorem dX6_readDescription_96 : decode cX6_readDescription 96 = .ok (.iconst 0, 1) := by decide +kernel
theorem dX6_readDescription_97 : decode cX6_readDescription 97 = .ok (.ireturn, 1) := by decide +kernel
theorem dX6_readDescription_98 : decode cX6_readDescription 98 = .ok (.iinc 3 1, 3) := by decide +kernel
theorem dX6_readDescription_101 : decode cX6_readDescription 101 = .ok (.goto (-85), 3) := by decide +kernel
theorem dX6_readDescription_104 : decode cX6_readDescription 104 = .ok (.aload_n 0, 1) := by decide +kernel
theorem dX6_readDescription_105 : decode cX6_readDescription 105 = .ok (.invokevirtual 39, 3) := by decide +kernel
theorem dX6_readDescription_108 : decode cX6_readDescription 108 = .ok (.ifCond .ne 5, 3) := by decide +kernel
theorem dX6_readDescription_111 : decode cX6_readDescription 111 = .ok (.iconst 0, 1) := by decide +kernel
theorem dX6_readDescription_112 : decode cX6_readDescription 112 = .ok (.ireturn, 1) := by decide +kernel
theorem dX6_readDescription_113 : decode cX6_readDescription 113 = .ok (.aload_n 2, 1) := by decide +kernel
theorem dX6_readDescription_114 : decode cX6_readDescription 114 = .ok (.invokevirtual 42, 3) := by decide +kernel
theorem dX6_readDescription_117 : decode cX6_readDescription 117 = .ok (.iconst 1, 1) := by decide +kernel
theorem dX6_readDescription_118 : decode cX6_readDescription 118 = .ok (.ireturn, 1) := by decide +kernel
theorem dX6_readEnum_0 : decode cX6_readEnum 0 = .ok (.aload_n 0, 1) := by decide +kernel
theorem dX6_readEnum_1 : decode cX6_readEnum 1 = .ok (.getfield 66, 3) := by decide +kernel
theorem dX6_readEnum_4 : decode cX6_readEnum 4 = .ok (.getfield 127, 3) := by decide +kernel
theorem dX6_readEnum_7 : decode cX6_readEnum 7 = .ok (.istore_n 1, 1) := by decide +kernel
theorem dX6_readEnum_8 : decode cX6_readEnum 8 = .ok (.aload_n 0, 1) := by decide +kernel
theorem dX6_readEnum_9 : decode cX6_readEnum 9 = .ok (.iload_n 1, 1) := by decide +kernel
theorem dX6_readEnum_10 : decode cX6_readEnum 10 = .ok (.bipush 8, 2) := by decide +kernel
theorem dX6_readEnum_12 : decode cX6_readEnum 12 = .ok (.if_icmp .ge 7, 3) := by decide +kernel
theorem dX6_readEnum_15 : decode cX6_readEnum 15 = .ok (.iconst 1, 1) := by decide +kernel
theorem dX6_readEnum_16 : decode cX6_readEnum 16 = .ok (.goto 4, 3) := by decide +kernel
theorem dX6_readEnum_19 : decode cX6_readEnum 19 = .ok (.iconst 0, 1) := by decide +kernel
theorem dX6_readEnum_20 : decode cX6_readEnum 20 = .ok (.iconst 5, 1) := by decide +kernel
theorem dX6_readEnum_21 : decode cX6_readEnum 21 = .ok (.invokevirtual 28, 3) := by decide +kernel
theorem dX6_readEnum_24 : decode cX6_readEnum 24 = .ok (.ifCond .ne 5, 3) := by decide +kernel
theorem dX6_readEnum_27 : decode cX6_readEnum 27 = .ok (.iconst 0, 1) := by decide +kernel
theorem dX6_readEnum_28 : decode cX6_readEnum 28 = .ok (.ireturn, 1) := by decide +kernel
theorem dX6_readEnum_29 : decode cX6_readEnum 29 = .ok (.aload_n 0, 1) := by decide +kernel
theorem dX6_readEnum_30 : decode cX6_readEnum 30 = .ok (.invokevirtual 100, 3) := by decide +kernel
theorem dX6_readEnum_33 : decode cX6_readEnum 33 = .ok (.aload_n 0, 1) := by decide +kernel
theorem dX6_readEnum_34 : decode cX6_readEnum 34 = .ok (.invokevirtual 130, 3) := by decide +kernel
theorem dX6_readEnum_37 : decode cX6_readEnum 37 = .ok (.ifCond .ne 5, 3) := by decide +kernel
theorem dX6_readEnum_40 : decode cX6_readEnum 40 = .ok (.iconst 0, 1) := by decide +kernel
theorem dX6_readEnum_41 : decode cX6_readEnum 41 = .ok (.ireturn, 1) := by decide +kernel
theorem dX6_readEnum_42 : decode cX6_readEnum 42 = .ok (.aload_n 0, 1) := by decide +kernel
theorem dX6_readEnum_43 : decode cX6_readEnum 43 = .ok (.getfield 66, 3) := by decide +kernel
theorem dX6_readEnum_46 : decode cX6_readEnum 46 = .ok (.getfield 133, 3) := by decide +kernel
theorem dX6_readEnum_49 : decode cX6_readEnum 49 = .ok (.iload_n 1, 1) := by decide +kernel
theorem dX6_readEnum_50 : decode cX6_readEnum 50 = .ok (.aload_n 0, 1) := by decide +kernel
theorem dX6_readEnum_51 : decode cX6_readEnum 51 = .ok (.getfield 90, 3) := by decide +kernel
theorem dX6_readEnum_54 : decode cX6_readEnum 54 = .ok (.lastore, 1) := by decide +kernel
theorem dX6_readEnum_55 : decode cX6_readEnum 55 = .ok (.aload_n 0, 1) := by decide +kernel
theorem dX6_readEnum_56 : decode cX6_readEnum 56 = .ok (.getfield 66, 3) := by decide +kernel
theorem dX6_readEnum_59 : decode cX6_readEnum 59 = .ok (.getfield 136, 3) := by decide +kernel
theorem dX6_readEnum_62 : decode cX6_readEnum 62 = .ok (.iload_n 1, 1) := by decide +kernel
theorem dX6_readEnum_63 : decode cX6_readEnum 63 = .ok (.aload_n 0, 1) := by decide +kernel
theorem dX6_readEnum_64 : decode cX6_readEnum 64 = .ok (.getfield 66, 3) := by decide +kernel
theorem dX6_readEnum_67 : decode cX6_readEnum 67 = .ok (.getfield 139, 3) := by decide +kernel
theorem dX6_readEnum_70 : decode cX6_readEnum 70 = .ok (.iastore, 1) := by decide +kernel
theorem dX6_readEnum_71 : decode cX6_readEnum 71 = .ok (.aload_n 0, 1) := by decide +kernel
theorem dX6_readEnum_72 : decode cX6_readEnum 72 = .ok (.getfield 66, 3) := by decide +kernel
theorem dX6_readEnum_75 : decode cX6_readEnum 75 = .ok (.getfield 142, 3) := by decide +kernel
theorem dX6_readEnum_78 : decode cX6_readEnum 78 = .ok (.iload_n 1, 1) := by decide +kernel
theorem dX6_readEnum_79 : decode cX6_readEnum 79 = .ok (.iconst 0, 1) := by decide +kernel
theorem dX6_readEnum_80 : decode cX6_readEnum 80 = .ok (.iastore, 1) := by decide +kernel
theorem dX6_readEnum_81 : decode cX6_readEnum 81 = .ok (.aload_n 0, 1) := by decide +kernel
theorem dX6_readEnum_82 : decode cX6_readEnum 82 = .ok (.invokevirtual 100, 3) := by decide +kernel
theorem dX6_readEnum_85 : decode cX6_readEnum 85 = .ok (.aload_n 0, 1) := by decide +kernel
theorem dX6_readEnum_86 : decode cX6_readEnum 86 = .ok (.bipush 123, 2) := by decide +kernel
theorem dX6_readEnum_88 : decode cX6_readEnum 88 = .ok (.invokevirtual 116, 3) := by decide +kernel
theorem dX6_readEnum_91 : decode cX6_readEnum 91 = .ok (.ifCond .ne 5, 3) := by decide +kernel
theorem dX6_readEnum_94 : decode cX6_readEnum 94 = .ok (.iconst 0, 1) := by decide +kernel
theorem dX6_readEnum_95 : decode cX6_readEnum 95 = .ok (.ireturn, 1) := by decide +kernel
theorem dX6_readEnum_96 : decode cX6_readEnum 96 = .ok (.iconst 1, 1) := by decide +kernel
theorem dX6_readEnum_97 : decode cX6_readEnum 97 = .ok (.istore_n 2, 1) := by decide +kernel
theorem dX6_readEnum_98 : decode cX6_readEnum 98 = .ok (.iconst 0, 1) := by decide +kernel
theorem dX6_readEnum_99 : decode cX6_readEnum 99 = .ok (.istore_n 3, 1) := by decide +kernel
theorem dX6_readEnum_100 : decode cX6_readEnum 100 = .ok (.iload_n 3, 1) := by decide +kernel
theorem dX6_readEnum_101 : decode cX6_readEnum 101 = .ok (.bipush 10, 2) := by decide +kernel
theorem dX6_readEnum_103 : decode cX6_readEnum 103 = .ok (.if_icmp .gt 30, 3) := by decide +kernel
theorem dX6_readEnum_106 : decode cX6_readEnum 106 = .ok (.iload_n 2, 1) := by decide +kernel
theorem dX6_readEnum_107 : decode cX6_readEnum 107 = .ok (.ifCond .eq 26, 3) := by decide +kernel
theorem dX6_readEnum_110 : decode cX6_readEnum 110 = .ok (.aload_n 0, 1) := by decide +kernel
theorem dX6_readEnum_111 : decode cX6_readEnum 111 = .ok (.iload_n 1, 1) := by decide +kernel
theorem dX6_readEnum_112 : decode cX6_readEnum 112 = .ok (.invokevirtual 145, 3) := by decide +kernel
theorem dX6_readEnum_115 : decode cX6_readEnum 115 = .ok (.ifCond .ne 5, 3) := by decide +kernel
theorem dX6_readEnum_118 : decode cX6_readEnum 118 = .ok (.iconst 0, 1) := by decide +kernel
theorem dX6_readEnum_119 : decode cX6_readEnum 119 = .ok (.ireturn, 1) := by decide +kernel
theorem dX6_readEnum_120 : decode cX6_readEnum 120 = .ok (.aload_n 0, 1) := by decide +kernel
theorem dX6_readEnum_121 : decode cX6_readEnum 121 = .ok (.bipush 44, 2) := by decide +kernel
theorem dX6_readEnum_123 : decode cX6_readEnum 123 = .ok (.invokevirtual 148, 3) := by decide +kernel
theorem dX6_readEnum_126 : decode cX6_readEnum 126 = .ok (.istore_n 2, 1) := by decide +kernel
theorem dX6_readEnum_127 : decode cX6_readEnum 127 = .ok (.iinc 3 1, 3) := by decide +kernel
theorem dX6_readEnum_130 : decode cX6_readEnum 130 = .ok (.goto (-30), 3) := by decide +kernel
theorem dX6_readEnum_133 : decode cX6_readEnum 133 = .ok (.aload_n 0, 1) := by decide +kernel
theorem dX6_readEnum_134 : decode cX6_readEnum 134 = .ok (.getfield 66, 3) := by decide +kernel
theorem dX6_readEnum_137 : decode cX6_readEnum 137 = .ok (.dup, 1) := by decide +kernel
theorem dX6_readEnum_138 : decode cX6_readEnum 138 = .ok (.getfield 127, 3) := by decide +kernel
theorem dX6_readEnum_141 : decode cX6_readEnum 141 = .ok (.iconst 1, 1) := by decide +kernel
theorem dX6_readEnum_142 : decode cX6_readEnum 142 = .ok (.iadd, 1) := by decide +kernel
theorem dX6_readEnum_143 : decode cX6_readEnum 143 = .ok (.putfield 127, 3) := by decide +kernel
theorem dX6_readEnum_146 : decode cX6_readEnum 146 = .ok (.aload_n 0, 1) := by decide +kernel
theorem dX6_readEnum_147 : decode cX6_readEnum 147 = .ok (.bipush 125, 2) := by decide +kernel
theorem dX6_readEnum_149 : decode cX6_readEnum 149 = .ok (.invokevirtual 116, 3) := by decide +kernel
theorem dX6_readEnum_152 : decode cX6_readEnum 152 = .ok (.ireturn, 1) := by decide +kernel
theorem dX6_readExpression_0 : decode cX6_readExpression 0 = .ok (.aload_n 0, 1) := by decide +kernel
theorem dX6_readExpression_1 : decode cX6_readExpression 1 = .ok (.getfield 70, 3) := by decide +kernel
theorem dX6_readExpression_4 : decode cX6_readExpression 4 = .ok (.getfield 45, 3) := by decide +kernel
theorem dX6_readExpression_7 : decode cX6_readExpression 7 = .ok (.istore_n 1, 1) := by decide +kernel
theorem dX6_readExpression_8 : decode cX6_readExpression 8 = .ok (.aload_n 0, 1) := by decide +kernel
theorem dX6_readExpression_9 : decode cX6_readExpression 9 = .ok (.iconst 0, 1) := by decide +kernel
theorem dX6_readExpression_10 : decode cX6_readExpression 10 = .ok (.iconst 0, 1) := by decide +kernel
theorem dX6_readExpression_11 : decode cX6_readExpression 11 = .ok (.invokevirtual 305, 3) := by decide +kernel
theorem dX6_readExpression_14 : decode cX6_readExpression 14 = .ok (.ifCond .ne 5, 3) := by decide +kernel
theorem dX6_readExpression_17 : decode cX6_readExpression 17 = .ok (.iconst (-1), 1) := by decide +kernel
theorem dX6_readExpression_18 : decode cX6_readExpression 18 = .ok (.ireturn, 1) := by decide +kernel
theorem dX6_readExpression_19 : decode cX6_readExpression 19 = .ok (.aload_n 0, 1) := by decide +kernel
theorem dX6_readExpression_20 : decode cX6_readExpression 20 = .ok (.getfield 70, 3) := by decide +kernel
theorem dX6_readExpression_23 : decode cX6_readExpression 23 = .ok (.iconst 0, 1) := by decide +kernel
theorem dX6_readExpression_24 : decode cX6_readExpression 24 = .ok (.lconst 0, 1) := by decide +kernel
theorem dX6_readExpression_25 : decode cX6_readExpression 25 = .ok (.invokevirtual 309, 3) := by decide +kernel
theorem dX6_readExpression_28 : decode cX6_readExpression 28 = .ok (.iload_n 1, 1) := by decide +kernel
theorem dX6_readExpression_29 : decode cX6_readExpression 29 = .ok (.ireturn, 1) := by decide +kernel
theorem dX6_readFactor_0 : decode cX6_readFactor 0 = .ok (.aload_n 0, 1) := by decide +kernel
theorem dX6_readFactor_1 : decode cX6_readFactor 1 = .ok (.getfield 24, 3) := by decide +kernel
theorem dX6_readFactor_4 : decode cX6_readFactor 4 = .ok (.istore_n 2, 1) := by decide +kernel
theorem dX6_readFactor_5 : decode cX6_readFactor 5 = .ok (.iload_n 2, 1) := by decide +kernel
theorem dX6_readFactor_6 : decode cX6_readFactor 6 = .ok (.bipush 40, 2) := by decide +kernel
theorem dX6_readFactor_8 : decode cX6_readFactor 8 = .ok (.if_icmp .eq 16, 3) := by decide +kernel
theorem dX6_readFactor_11 : decode cX6_readFactor 11 = .ok (.iload_n 2, 1) := by decide +kernel
theorem dX6_readFactor_12 : decode cX6_readFactor 12 = .ok (.bipush 45, 2) := by decide +kernel
theorem dX6_readFactor_14 : decode cX6_readFactor 14 = .ok (.if_icmp .eq 10, 3) := by decide +kernel
theorem dX6_readFactor_17 : decode cX6_readFactor 17 = .ok (.iload_n 2, 1) := by decide +kernel
theorem dX6_readFactor_18 : decode cX6_readFactor 18 = .ok (.sipush 226, 3) := by decide +kernel
theorem dX6_readFactor_21 : decode cX6_readFactor 21 = .ok (.if_icmp .ne 7, 3) := by decide +kernel
theorem dX6_readFactor_24 : decode cX6_readFactor 24 = .ok (.iconst 1, 1) := by decide +kernel
theorem dX6_readFactor_25 : decode cX6_readFactor 25 = .ok (.goto 4, 3) := by decide +kernel
theorem dX6_readFactor_28 : decode cX6_readFactor 28 = .ok (.iconst 0, 1) := by decide +kernel
theorem dX6_readFactor_29 : decode cX6_readFactor 29 = .ok (.istore_n 3, 1) := by decide +kernel
theorem dX6_readFactor_30 : decode cX6_readFactor 30 = .ok (.iload_n 2, 1) := by decide +kernel
theorem dX6_readFactor_31 : decode cX6_readFactor 31 = .ok (.iconst 2, 1) := by decide +kernel
theorem dX6_readFactor_32 : decode cX6_readFactor 32 = .ok (.if_icmp .ne 7, 3) := by decide +kernel
theorem dX6_readFactor_35 : decode cX6_readFactor 35 = .ok (.iconst 1, 1) := by decide +kernel
theorem dX6_readFactor_36 : decode cX6_readFactor 36 = .ok (.goto 4, 3) := by decide +kernel
theorem dX6_readFactor_39 : decode cX6_readFactor 39 = .ok (.iconst 0, 1) := by decide +kernel
theorem dX6_readFactor_40 : decode cX6_readFactor 40 = .ok (.istore 4, 2) := by decide +kernel
theorem dX6_readFactor_42 : decode cX6_readFactor 42 = .ok (.iload_n 2, 1) := by decide +kernel
theorem dX6_readFactor_43 : decode cX6_readFactor 43 = .ok (.iconst 3, 1) := by decide +kernel
theorem dX6_readFactor_44 : decode cX6_readFactor 44 = .ok (.if_icmp .eq 24, 3) := by decide +kernel
theorem dX6_readFactor_47 : decode cX6_readFactor 47 = .ok (.iload_n 2, 1) := by decide +kernel
theorem dX6_readFactor_48 : decode cX6_readFactor 48 = .ok (.sipush 212, 3) := by decide +kernel
theorem dX6_readFactor_51 : decode cX6_readFactor 51 = .ok (.if_icmp .eq 17, 3) := by decide +kernel
theorem dX6_readFactor_54 : decode cX6_readFactor 54 = .ok (.iload_n 2, 1) := by decide +kernel
theorem dX6_readFactor_55 : decode cX6_readFactor 55 = .ok (.sipush 222, 3) := by decide +kernel
theorem dX6_readFactor_58 : decode cX6_readFactor 58 = .ok (.if_icmp .eq 10, 3) := by decide +kernel
theorem dX6_readFactor_61 : decode cX6_readFactor 61 = .ok (.iload_n 2, 1) := by decide +kernel
theorem dX6_readFactor_62 : decode cX6_readFactor 62 = .ok (.sipush 223, 3) := by decide +kernel
theorem dX6_readFactor_65 : decode cX6_readFactor 65 = .ok (.if_icmp .ne 7, 3) := by decide +kernel
theorem dX6_readFactor_68 : decode cX6_readFactor 68 = .ok (.iconst 1, 1) := by decide +kernel
theorem dX6_readFactor_69 : decode cX6_readFactor 69 = .ok (.goto 4, 3) := by decide +kernel
theorem dX6_readFactor_72 : decode cX6_readFactor 72 = .ok (.iconst 0, 1) := by decide +kernel
theorem dX6_readFactor_73 : decode cX6_readFactor 73 = .ok (.istore 5, 2) := by decide +kernel
theorem dX6_readFactor_75 : decode cX6_readFactor 75 = .ok (.iload 4, 2) := by decide +kernel
theorem dX6_readFactor_77 : decode cX6_readFactor 77 = .ok (.ifCond .eq 15, 3) := by decide +kernel
theorem dX6_readFactor_80 : decode cX6_readFactor 80 = .ok (.aload_n 0, 1) := by decide +kernel
theorem dX6_readFactor_81 : decode cX6_readFactor 81 = .ok (.aload_n 0, 1) := by decide +kernel
theorem dX6_readFactor_82 : decode cX6_readFactor 82 = .ok (.getfield 90, 3) := by decide +kernel
theorem dX6_readFactor_85 : decode cX6_readFactor 85 = .ok (.invokevirtual 319, 3) := by decide +kernel
theorem dX6_readFactor_88 : decode cX6_readFactor 88 = .ok (.i2l, 1) := by decide +kernel
theorem dX6_readFactor_89 : decode cX6_readFactor 89 = .ok (.goto 7, 3) := by decide +kernel
theorem dX6_readFactor_92 : decode cX6_readFactor 92 = .ok (.aload_n 0, 1) := by decide +kernel
theorem dX6_readFactor_93 : decode cX6_readFactor 93 = .ok (.getfield 90, 3) := by decide +kernel
theorem dX6_readFactor_96 : decode cX6_readFactor 96 = .ok (.lstore 6, 2) := by decide +kernel
theorem dX6_readFactor_98 : decode cX6_readFactor 98 = .ok (.aload_n 0, 1) := by decide +kernel
theorem dX6_readFactor_99 : decode cX6_readFactor 99 = .ok (.iload_n 3, 1) := by decide +kernel
theorem dX6_readFactor_100 : decode cX6_readFactor 100 = .ok (.ifCond .ne 13, 3) := by decide +kernel
theorem dX6_readFactor_103 : decode cX6_readFactor 103 = .ok (.iload 4, 2) := by decide +kernel
theorem dX6_readFactor_105 : decode cX6_readFactor 105 = .ok (.ifCond .ne 8, 3) := by decide +kernel
theorem dX6_readFactor_108 : decode cX6_readFactor 108 = .ok (.iload 5, 2) := by decide +kernel
theorem dX6_readFactor_110 : decode cX6_readFactor 110 = .ok (.ifCond .eq 7, 3) := by decide +kernel
theorem dX6_readFactor_113 : decode cX6_readFactor 113 = .ok (.iconst 1, 1) := by decide +kernel
theorem dX6_readFactor_114 : decode cX6_readFactor 114 = .ok (.goto 4, 3) := by decide +kernel
theorem dX6_readFactor_117 : decode cX6_readFactor 117 = .ok (.iconst 0, 1) := by decide +kernel
theorem dX6_readFactor_118 : decode cX6_readFactor 118 = .ok (.iconst 2, 1) := by decide +kernel
theorem dX6_readFactor_119 : decode cX6_readFactor 119 = .ok (.invokevirtual 28, 3) := by decide +kernel
theorem dX6_readFactor_122 : decode cX6_readFactor 122 = .ok (.ifCond .eq 53, 3) := by decide +kernel
theorem dX6_readFactor_125 : decode cX6_readFactor 125 = .ok (.aload_n 0, 1) := by decide +kernel
theorem dX6_readFactor_126 : decode cX6_readFactor 126 = .ok (.iload 4, 2) := by decide +kernel
theorem dX6_readFactor_128 : decode cX6_readFactor 128 = .ok (.ifCond .eq 12, 3) := by decide +kernel
theorem dX6_readFactor_131 : decode cX6_readFactor 131 = .ok (.lload 6, 2) := by decide +kernel
theorem dX6_readFactor_133 : decode cX6_readFactor 133 = .ok (.ldc2_w 296, 3) := by decide +kernel
theorem dX6_readFactor_136 : decode cX6_readFactor 136 = .ok (.lcmp, 1) := by decide +kernel
theorem dX6_readFactor_137 : decode cX6_readFactor 137 = .ok (.ifCond .eq 7, 3) := by decide +kernel
theorem dX6_readFactor_140 : decode cX6_readFactor 140 = .ok (.iconst 1, 1) := by decide +kernel
theorem dX6_readFactor_141 : decode cX6_readFactor 141 = .ok (.goto 4, 3) := by decide +kernel
theorem dX6_readFactor_144 : decode cX6_readFactor 144 = .ok (.iconst 0, 1) := by decide +kernel
theorem dX6_readFactor_145 : decode cX6_readFactor 145 = .ok (.iconst 4, 1) := by decide +kernel
theorem dX6_readFactor_146 : decode cX6_readFactor 146 = .ok (.invokevirtual 28, 3) := by decide +kernel
theorem dX6_readFactor_149 : decode cX6_readFactor 149 = .ok (.ifCond .eq 26, 3) := by decide +kernel
theorem dX6_readFactor_152 : decode cX6_readFactor 152 = .ok (.aload_n 0, 1) := by decide +kernel
theorem dX6_readFactor_153 : decode cX6_readFactor 153 = .ok (.iload_n 3, 1) := by decide +kernel
theorem dX6_readFactor_154 : decode cX6_readFactor 154 = .ok (.ifCond .eq 9, 3) := by decide +kernel
theorem dX6_readFactor_157 : decode cX6_readFactor 157 = .ok (.iload_n 1, 1) := by decide +kernel
theorem dX6_readFactor_158 : decode cX6_readFactor 158 = .ok (.bipush 15, 2) := by decide +kernel
theorem dX6_readFactor_160 : decode cX6_readFactor 160 = .ok (.if_icmp .ge 7, 3) := by decide +kernel
theorem dX6_readFactor_163 : decode cX6_readFactor 163 = .ok (.iconst 1, 1) := by decide +kernel
theorem dX6_readFactor_164 : decode cX6_readFactor 164 = .ok (.goto 4, 3) := by decide +kernel
theorem dX6_readFactor_167 : decode cX6_readFactor 167 = .ok (.iconst 0, 1) := by decide +kernel
theorem dX6_readFactor_168 : decode cX6_readFactor 168 = .ok (.iconst 5, 1) := by decide +kernel
theorem dX6_readFactor_169 : decode cX6_readFactor 169 = .ok (.invokevirtual 28, 3) := by decide +kernel
theorem dX6_readFactor_172 : decode cX6_readFactor 172 = .ok (.ifCond .ne 5, 3) := by decide +kernel
theorem dX6_readFactor_175 : decode cX6_readFactor 175 = .ok (.iconst 0, 1) := by decide +kernel
theorem dX6_readFactor_176 : decode cX6_readFactor 176 = .ok (.ireturn, 1) := by decide +kernel
theorem dX6_readFactor_177 : decode cX6_readFactor 177 = .ok (.aload_n 0, 1) := by decide +kernel
theorem dX6_readFactor_178 : decode cX6_readFactor 178 = .ok (.invokevirtual 100, 3) := by decide +kernel
theorem dX6_readFactor_181 : decode cX6_readFactor 181 = .ok (.iload_n 3, 1) := by decide +kernel
theorem dX6_readFactor_182 : decode cX6_readFactor 182 = .ok (.ifCond .ne 15, 3) := by decide +kernel
theorem dX6_readFactor_185 : decode cX6_readFactor 185 = .ok (.aload_n 0, 1) := by decide +kernel
theorem dX6_readFactor_186 : decode cX6_readFactor 186 = .ok (.getfield 70, 3) := by decide +kernel
theorem dX6_readFactor_189 : decode cX6_readFactor 189 = .ok (.iload_n 2, 1) := by decide +kernel
theorem dX6_readFactor_190 : decode cX6_readFactor 190 = .ok (.lload 6, 2) := by decide +kernel
theorem dX6_readFactor_192 : decode cX6_readFactor 192 = .ok (.invokevirtual 309, 3) := by decide +kernel
theorem dX6_readFactor_195 : decode cX6_readFactor 195 = .ok (.iconst 1, 1) := by decide +kernel
theorem dX6_readFactor_196 : decode cX6_readFactor 196 = .ok (.ireturn, 1) := by decide +kernel
theorem dX6_readFactor_197 : decode cX6_readFactor 197 = .ok (.iload_n 2, 1) := by decide +kernel
theorem dX6_readFactor_198 : decode cX6_readFactor 198 = .ok (.bipush 40, 2) := by decide +kernel
theorem dX6_readFactor_200 : decode cX6_readFactor 200 = .ok (.if_icmp .eq 34, 3) := by decide +kernel
theorem dX6_readFactor_203 : decode cX6_readFactor 203 = .ok (.aload_n 0, 1) := by decide +kernel
theorem dX6_readFactor_204 : decode cX6_readFactor 204 = .ok (.iload_n 1, 1) := by decide +kernel
theorem dX6_readFactor_205 : decode cX6_readFactor 205 = .ok (.iconst 1, 1) := by decide +kernel
theorem dX6_readFactor_206 : decode cX6_readFactor 206 = .ok (.iadd, 1) := by decide +kernel
theorem dX6_readFactor_207 : decode cX6_readFactor 207 = .ok (.invokevirtual 313, 3) := by decide +kernel
theorem dX6_readFactor_210 : decode cX6_readFactor 210 = .ok (.istore 8, 2) := by decide +kernel
theorem dX6_readFactor_212 : decode cX6_readFactor 212 = .ok (.aload_n 0, 1) := by decide +kernel
theorem dX6_readFactor_213 : decode cX6_readFactor 213 = .ok (.getfield 70, 3) := by decide +kernel
theorem dX6_readFactor_216 : decode cX6_readFactor 216 = .ok (.iload_n 2, 1) := by decide +kernel
theorem dX6_readFactor_217 : decode cX6_readFactor 217 = .ok (.bipush 45, 2) := by decide +kernel
theorem dX6_readFactor_219 : decode cX6_readFactor 219 = .ok (.if_icmp .ne 7, 3) := by decide +kernel
theorem dX6_readFactor_222 : decode cX6_readFactor 222 = .ok (.iconst 5, 1) := by decide +kernel
theorem dX6_readFactor_223 : decode cX6_readFactor 223 = .ok (.goto 4, 3) := by decide +kernel
theorem dX6_readFactor_226 : decode cX6_readFactor 226 = .ok (.iload_n 2, 1) := by decide +kernel
theorem dX6_readFactor_227 : decode cX6_readFactor 227 = .ok (.lconst 0, 1) := by decide +kernel
theorem dX6_readFactor_228 : decode cX6_readFactor 228 = .ok (.invokevirtual 309, 3) := by decide +kernel
theorem dX6_readFactor_231 : decode cX6_readFactor 231 = .ok (.iload 8, 2) := by decide +kernel
theorem dX6_readFactor_233 : decode cX6_readFactor 233 = .ok (.ireturn, 1) := by decide +kernel
theorem dX6_readFactor_234 : decode cX6_readFactor 234 = .ok (.aload_n 0, 1) := by decide +kernel
theorem dX6_readFactor_235 : decode cX6_readFactor 235 = .ok (.iconst 0, 1) := by decide +kernel
theorem dX6_readFactor_236 : decode cX6_readFactor 236 = .ok (.iload_n 1, 1) := by decide +kernel
theorem dX6_readFactor_237 : decode cX6_readFactor 237 = .ok (.iconst 1, 1) := by decide +kernel
theorem dX6_readFactor_238 : decode cX6_readFactor 238 = .ok (.iadd, 1) := by decide +kernel
theorem dX6_readFactor_239 : decode cX6_readFactor 239 = .ok (.invokevirtual 305, 3) := by decide +kernel
theorem dX6_readFactor_242 : decode cX6_readFactor 242 = .ok (.ifCond .eq 25, 3) := by decide +kernel
theorem dX6_readFactor_245 : decode cX6_readFactor 245 = .ok (.aload_n 0, 1) := by decide +kernel
theorem dX6_readFactor_246 : decode cX6_readFactor 246 = .ok (.aload_n 0, 1) := by decide +kernel
theorem dX6_readFactor_247 : decode cX6_readFactor 247 = .ok (.getfield 24, 3) := by decide +kernel
theorem dX6_readFactor_250 : decode cX6_readFactor 250 = .ok (.bipush 41, 2) := by decide +kernel
theorem dX6_readFactor_252 : decode cX6_readFactor 252 = .ok (.if_icmp .ne 7, 3) := by decide +kernel
theorem dX6_readFactor_255 : decode cX6_readFactor 255 = .ok (.iconst 1, 1) := by decide +kernel
theorem dX6_readFactor_256 : decode cX6_readFactor 256 = .ok (.goto 4, 3) := by decide +kernel
theorem dX6_readFactor_259 : decode cX6_readFactor 259 = .ok (.iconst 0, 1) := by decide +kernel
theorem dX6_readFactor_260 : decode cX6_readFactor 260 = .ok (.iconst 2, 1) := by decide +kernel
theorem dX6_readFactor_261 : decode cX6_readFactor 261 = .ok (.invokevirtual 28, 3) := by decide +kernel
theorem dX6_readFactor_264 : decode cX6_readFactor 264 = .ok (.ifCond .ne 5, 3) := by decide +kernel
theorem dX6_readFactor_267 : decode cX6_readFactor 267 = .ok (.iconst 0, 1) := by decide +kernel
theorem dX6_readFactor_268 : decode cX6_readFactor 268 = .ok (.ireturn, 1) := by decide +kernel
theorem dX6_readFactor_269 : decode cX6_readFactor 269 = .ok (.aload_n 0, 1) := by decide +kernel
theorem dX6_readFactor_270 : decode cX6_readFactor 270 = .ok (.invokevirtual 100, 3) := by decide +kernel
theorem dX6_readFactor_273 : decode cX6_readFactor 273 = .ok (.iconst 1, 1) := by decide +kernel
theorem dX6_readFactor_274 : decode cX6_readFactor 274 = .ok (.ireturn, 1) := by decide +kernel
theorem dX6_readField_0 : decode cX6_readField 0 = .ok (.aload_n 0, 1) := by decide +kernel
theorem dX6_readField_1 : decode cX6_readField 1 = .ok (.getfield 24, 3) := by decide +kernel
theorem dX6_readField_4 : decode cX6_readField 4 = .ok (.sipush 202, 3) := by decide +kernel
theorem dX6_readField_7 : decode cX6_readField 7 = .ok (.if_icmp .eq 10, 3) := by decide +kernel
theorem dX6_readField_10 : decode cX6_readField 10 = .ok (.aload_n 0, 1) := by decide +kernel
theorem dX6_readField_11 : decode cX6_readField 11 = .ok (.invokevirtual 183, 3) := by decide +kernel
theorem dX6_readField_14 : decode cX6_readField 14 = .ok (.ifCond .eq 28, 3) := by decide +kernel
theorem dX6_readField_17 : decode cX6_readField 17 = .ok (.aload_n 0, 1) := by decide +kernel
theorem dX6_readField_18 : decode cX6_readField 18 = .ok (.aload_n 0, 1) := by decide +kernel
theorem dX6_readField_19 : decode cX6_readField 19 = .ok (.getfield 54, 3) := by decide +kernel
theorem dX6_readField_22 : decode cX6_readField 22 = .ok (.getfield 170, 3) := by decide +kernel
theorem dX6_readField_25 : decode cX6_readField 25 = .ok (.bipush 14, 2) := by decide +kernel
theorem dX6_readField_27 : decode cX6_readField 27 = .ok (.if_icmp .ge 7, 3) := by decide +kernel
theorem dX6_readField_30 : decode cX6_readField 30 = .ok (.iconst 1, 1) := by decide +kernel
theorem dX6_readField_31 : decode cX6_readField 31 = .ok (.goto 4, 3) := by decide +kernel
theorem dX6_readField_34 : decode cX6_readField 34 = .ok (.iconst 0, 1) := by decide +kernel
theorem dX6_readField_35 : decode cX6_readField 35 = .ok (.iconst 5, 1) := by decide +kernel
theorem dX6_readField_36 : decode cX6_readField 36 = .ok (.invokevirtual 28, 3) := by decide +kernel
theorem dX6_readField_39 : decode cX6_readField 39 = .ok (.ifCond .ne 5, 3) := by decide +kernel
theorem dX6_readField_42 : decode cX6_readField 42 = .ok (.iconst 0, 1) := by decide +kernel
theorem dX6_readField_43 : decode cX6_readField 43 = .ok (.ireturn, 1) := by decide +kernel
theorem dX6_readField_44 : decode cX6_readField 44 = .ok (.aload_n 0, 1) := by decide +kernel
theorem dX6_readField_45 : decode cX6_readField 45 = .ok (.aload_n 0, 1) := by decide +kernel
theorem dX6_readField_46 : decode cX6_readField 46 = .ok (.getfield 54, 3) := by decide +kernel
theorem dX6_readField_49 : decode cX6_readField 49 = .ok (.getfield 186, 3) := by decide +kernel
theorem dX6_readField_52 : decode cX6_readField 52 = .ok (.aload_n 0, 1) := by decide +kernel
theorem dX6_readField_53 : decode cX6_readField 53 = .ok (.getfield 54, 3) := by decide +kernel
theorem dX6_readField_56 : decode cX6_readField 56 = .ok (.getfield 170, 3) := by decide +kernel
theorem dX6_readField_59 : decode cX6_readField 59 = .ok (.aaload, 1) := by decide +kernel
theorem dX6_readField_60 : decode cX6_readField 60 = .ok (.putfield 106, 3) := by decide +kernel
theorem dX6_readField_63 : decode cX6_readField 63 = .ok (.aload_n 0, 1) := by decide +kernel
theorem dX6_readField_64 : decode cX6_readField 64 = .ok (.getfield 106, 3) := by decide +kernel
theorem dX6_readField_67 : decode cX6_readField 67 = .ok (.invokevirtual 190, 3) := by decide +kernel
theorem dX6_readField_70 : decode cX6_readField 70 = .ok (.aload_n 0, 1) := by decide +kernel
theorem dX6_readField_71 : decode cX6_readField 71 = .ok (.sipush 202, 3) := by decide +kernel
theorem dX6_readField_74 : decode cX6_readField 74 = .ok (.invokevirtual 148, 3) := by decide +kernel
theorem dX6_readField_77 : decode cX6_readField 77 = .ok (.ifCond .eq 43, 3) := by decide +kernel
theorem dX6_readField_80 : decode cX6_readField 80 = .ok (.aload_n 0, 1) := by decide +kernel
theorem dX6_readField_81 : decode cX6_readField 81 = .ok (.getfield 106, 3) := by decide +kernel
theorem dX6_readField_84 : decode cX6_readField 84 = .ok (.aload_n 0, 1) := by decide +kernel
theorem dX6_readField_85 : decode cX6_readField 85 = .ok (.invokevirtual 58, 3) := by decide +kernel
theorem dX6_readField_88 : decode cX6_readField 88 = .ok (.putfield 191, 3) := by decide +kernel
theorem dX6_readField_91 : decode cX6_readField 91 = .ok (.aload_n 0, 1) := by decide +kernel
theorem dX6_readField_92 : decode cX6_readField 92 = .ok (.getfield 106, 3) := by decide +kernel
theorem dX6_readField_95 : decode cX6_readField 95 = .ok (.getfield 191, 3) := by decide +kernel
theorem dX6_readField_98 : decode cX6_readField 98 = .ok (.iconst (-1), 1) := by decide +kernel
theorem dX6_readField_99 : decode cX6_readField 99 = .ok (.if_icmp .eq 19, 3) := by decide +kernel
theorem dX6_readField_102 : decode cX6_readField 102 = .ok (.aload_n 0, 1) := by decide +kernel
theorem dX6_readField_103 : decode cX6_readField 103 = .ok (.bipush 58, 2) := by decide +kernel
theorem dX6_readField_105 : decode cX6_readField 105 = .ok (.invokevirtual 116, 3) := by decide +kernel
theorem dX6_readField_108 : decode cX6_readField 108 = .ok (.ifCond .eq 10, 3) := by decide +kernel
theorem dX6_readField_111 : decode cX6_readField 111 = .ok (.aload_n 0, 1) := by decide +kernel
theorem dX6_readField_112 : decode cX6_readField 112 = .ok (.invokevirtual 183, 3) := by decide +kernel
theorem dX6_readField_115 : decode cX6_readField 115 = .ok (.ifCond .ne 5, 3) := by decide +kernel
theorem dX6_readField_118 : decode cX6_readField 118 = .ok (.iconst 0, 1) := by decide +kernel
theorem dX6_readField_119 : decode cX6_readField 119 = .ok (.ireturn, 1) := by decide +kernel
theorem dX6_readField_120 : decode cX6_readField 120 = .ok (.aload_n 0, 1) := by decide +kernel
theorem dX6_readField_121 : decode cX6_readField 121 = .ok (.getfield 24, 3) := by decide +kernel
theorem dX6_readField_124 : decode cX6_readField 124 = .ok (.lookupswitch 170 #[(2, 99), (4, 76), (204, 122), (205, 130), (207, 138), (210, 146), (214, 154), (215, 162)], 76) := by decide +kernel
theorem dX6_readField_200 : decode cX6_readField 200 = .ok (.aload_n 0, 1) := by decide +kernel
theorem dX6_readField_201 : decode cX6_readField 201 = .ok (.invokevirtual 194, 3) := by decide +kernel
theorem dX6_readField_204 : decode cX6_readField 204 = .ok (.ifCond .eq 14, 3) := by decide +kernel
theorem dX6_readField_207 : decode cX6_readField 207 = .ok (.aload_n 0, 1) := by decide +kernel
theorem dX6_readField_208 : decode cX6_readField 208 = .ok (.invokevirtual 197, 3) := by decide +kernel
theorem dX6_readField_211 : decode cX6_readField 211 = .ok (.ifCond .eq 7, 3) := by decide +kernel
theorem dX6_readField_214 : decode cX6_readField 214 = .ok (.iconst 1, 1) := by decide +kernel
theorem dX6_readField_215 : decode cX6_readField 215 = .ok (.goto 4, 3) := by decide +kernel
theorem dX6_readField_218 : decode cX6_readField 218 = .ok (.iconst 0, 1) := by decide +kernel
theorem dX6_readField_219 : decode cX6_readField 219 = .ok (.istore_n 1, 1) := by decide +kernel
theorem dX6_readField_220 : decode cX6_readField 220 = .ok (.goto 79, 3) := by decide +kernel
theorem dX6_readField_223 : decode cX6_readField 223 = .ok (.aload_n 0, 1) := by decide +kernel
theorem dX6_readField_224 : decode cX6_readField 224 = .ok (.invokevirtual 200, 3) := by decide +kernel
theorem dX6_readField_227 : decode cX6_readField 227 = .ok (.ifCond .eq 14, 3) := by decide +kernel
theorem dX6_readField_230 : decode cX6_readField 230 = .ok (.aload_n 0, 1) := by decide +kernel
theorem dX6_readField_231 : decode cX6_readField 231 = .ok (.invokevirtual 197, 3) := by decide +kernel
theorem dX6_readField_234 : decode cX6_readField 234 = .ok (.ifCond .eq 7, 3) := by decide +kernel
theorem dX6_readField_237 : decode cX6_readField 237 = .ok (.iconst 1, 1) := by decide +kernel
theorem dX6_readField_238 : decode cX6_readField 238 = .ok (.goto 4, 3) := by decide +kernel
theorem dX6_readField_241 : decode cX6_readField 241 = .ok (.iconst 0, 1) := by decide +kernel
theorem dX6_readField_242 : decode cX6_readField 242 = .ok (.istore_n 1, 1) := by decide +kernel
theorem dX6_readField_243 : decode cX6_readField 243 = .ok (.goto 56, 3) := by decide +kernel
theorem dX6_readField_246 : decode cX6_readField 246 = .ok (.aload_n 0, 1) := by decide +kernel
theorem dX6_readField_247 : decode cX6_readField 247 = .ok (.invokevirtual 203, 3) := by decide +kernel
theorem dX6_readField_250 : decode cX6_readField 250 = .ok (.istore_n 1, 1) := by decide +kernel
theorem dX6_readField_251 : decode cX6_readField 251 = .ok (.goto 48, 3) := by decide +kernel
theorem dX6_readField_254 : decode cX6_readField 254 = .ok (.aload_n 0, 1) := by decide +kernel
theorem dX6_readField_255 : decode cX6_readField 255 = .ok (.invokevirtual 206, 3) := by decide +kernel
theorem dX6_readField_258 : decode cX6_readField 258 = .ok (.istore_n 1, 1) := by decide +kernel
theorem dX6_readField_259 : decode cX6_readField 259 = .ok (.goto 40, 3) := by decide +kernel
theorem dX6_readField_262 : decode cX6_readField 262 = .ok (.aload_n 0, 1) := by decide +kernel
theorem dX6_readField_263 : decode cX6_readField 263 = .ok (.invokevirtual 209, 3) := by decide +kernel
theorem dX6_readField_266 : decode cX6_readField 266 = .ok (.istore_n 1, 1) := by decide +kernel
theorem dX6_readField_267 : decode cX6_readField 267 = .ok (.goto 32, 3) := by decide +kernel
theorem dX6_readField_270 : decode cX6_readField 270 = .ok (.aload_n 0, 1) := by decide +kernel
theorem dX6_readField_271 : decode cX6_readField 271 = .ok (.invokevirtual 212, 3) := by decide +kernel
theorem dX6_readField_274 : decode cX6_readField 274 = .ok (.istore_n 1, 1) := by decide +kernel
theorem dX6_readField_275 : decode cX6_readField 275 = .ok (.goto 24, 3) := by decide +kernel
theorem dX6_readField_278 : decode cX6_readField 278 = .ok (.aload_n 0, 1) := by decide +kernel
theorem dX6_readField_279 : decode cX6_readField 279 = .ok (.invokevirtual 215, 3) := by decide +kernel
theorem dX6_readField_282 : decode cX6_readField 282 = .ok (.istore_n 1, 1) := by decide +kernel
theorem dX6_readField_283 : decode cX6_readField 283 = .ok (.goto 16, 3) := by decide +kernel
theorem dX6_readField_286 : decode cX6_readField 286 = .ok (.aload_n 0, 1) := by decide +kernel
theorem dX6_readField_287 : decode cX6_readField 287 = .ok (.invokevirtual 218, 3) := by decide +kernel
theorem dX6_readField_290 : decode cX6_readField 290 = .ok (.istore_n 1, 1) := by decide +kernel
theorem dX6_readField_291 : decode cX6_readField 291 = .ok (.goto 8, 3) := by decide +kernel
theorem dX6_readField_294 : decode cX6_readField 294 = .ok (.aload_n 0, 1) := by decide +kernel
theorem dX6_readField_295 : decode cX6_readField 295 = .ok (.invokevirtual 221, 3) := by decide +kernel
theorem dX6_readField_298 : decode cX6_readField 298 = .ok (.istore_n 1, 1) := by decide +kernel
theorem dX6_readField_299 : decode cX6_readField 299 = .ok (.iload_n 1, 1) := by decide +kernel
theorem dX6_readField_300 : decode cX6_readField 300 = .ok (.ifCond .eq 12, 3) := by decide +kernel
theorem dX6_readField_303 : decode cX6_readField 303 = .ok (.aload_n 0, 1) := by decide +kernel
theorem dX6_readField_304 : decode cX6_readField 304 = .ok (.bipush 59, 2) := by decide +kernel
theorem dX6_readField_306 : decode cX6_readField 306 = .ok (.invokevirtual 116, 3) := by decide +kernel
theorem dX6_readField_309 : decode cX6_readField 309 = .ok (.ifCond .ne 5, 3) := by decide +kernel
theorem dX6_readField_312 : decode cX6_readField 312 = .ok (.iconst 0, 1) := by decide +kernel
theorem dX6_readField_313 : decode cX6_readField 313 = .ok (.ireturn, 1) := by decide +kernel
theorem dX6_readField_314 : decode cX6_readField 314 = .ok (.aload_n 0, 1) := by decide +kernel
theorem dX6_readField_315 : decode cX6_readField 315 = .ok (.getfield 54, 3) := by decide +kernel
theorem dX6_readField_318 : decode cX6_readField 318 = .ok (.dup, 1) := by decide +kernel
theorem dX6_readField_319 : decode cX6_readField 319 = .ok (.getfield 170, 3) := by decide +kernel
theorem dX6_readField_322 : decode cX6_readField 322 = .ok (.iconst 1, 1) := by decide +kernel
theorem dX6_readField_323 : decode cX6_readField 323 = .ok (.iadd, 1) := by decide +kernel
theorem dX6_readField_324 : decode cX6_readField 324 = .ok (.putfield 170, 3) := by decide +kernel
theorem dX6_readField_327 : decode cX6_readField 327 = .ok (.iconst 1, 1) := by decide +kernel
theorem dX6_readField_328 : decode cX6_readField 328 = .ok (.ireturn, 1) := by decide +kernel
theorem dX6_readLevel_0 : decode cX6_readLevel 0 = .ok (.iload_n 1, 1) := by decide +kernel
theorem dX6_readLevel_1 : decode cX6_readLevel 1 = .ok (.iconst 5, 1) := by decide +kernel
theorem dX6_readLevel_2 : decode cX6_readLevel 2 = .ok (.if_icmp .lt 9, 3) := by decide +kernel
theorem dX6_readLevel_5 : decode cX6_readLevel 5 = .ok (.aload_n 0, 1) := by decide +kernel
theorem dX6_readLevel_6 : decode cX6_readLevel 6 = .ok (.iload_n 2, 1) := by decide +kernel
theorem dX6_readLevel_7 : decode cX6_readLevel 7 = .ok (.invokevirtual 313, 3) := by decide +kernel
theorem dX6_readLevel_10 : decode cX6_readLevel 10 = .ok (.ireturn, 1) := by decide +kernel
theorem dX6_readLevel_11 : decode cX6_readLevel 11 = .ok (.aload_n 0, 1) := by decide +kernel
theorem dX6_readLevel_12 : decode cX6_readLevel 12 = .ok (.iload_n 1, 1) := by decide +kernel
theorem dX6_readLevel_13 : decode cX6_readLevel 13 = .ok (.iconst 1, 1) := by decide +kernel
theorem dX6_readLevel_14 : decode cX6_readLevel 14 = .ok (.iadd, 1) := by decide +kernel
theorem dX6_readLevel_15 : decode cX6_readLevel 15 = .ok (.iload_n 2, 1) := by decide +kernel
theorem dX6_readLevel_16 : decode cX6_readLevel 16 = .ok (.invokevirtual 305, 3) := by decide +kernel
theorem dX6_readLevel_19 : decode cX6_readLevel 19 = .ok (.ifCond .ne 5, 3) := by decide +kernel
theorem dX6_readLevel_22 : decode cX6_readLevel 22 = .ok (.iconst 0, 1) := by decide +kernel
theorem dX6_readLevel_23 : decode cX6_readLevel 23 = .ok (.ireturn, 1) := by decide +kernel
theorem dX6_readLevel_24 : decode cX6_readLevel 24 = .ok (.iload_n 1, 1) := by decide +kernel
theorem dX6_readLevel_25 : decode cX6_readLevel 25 = .ok (.iconst 2, 1) := by decide +kernel
theorem dX6_readLevel_26 : decode cX6_readLevel 26 = .ok (.if_icmp .ne 7, 3) := by decide +kernel
theorem dX6_readLevel_29 : decode cX6_readLevel 29 = .ok (.iconst 1, 1) := by decide +kernel
theorem dX6_readLevel_30 : decode cX6_readLevel 30 = .ok (.goto 6, 3) := by decide +kernel
theorem dX6_readLevel_33 : decode cX6_readLevel 33 = .ok (.sipush 3000, 3) := by decide +kernel
theorem dX6_readLevel_36 : decode cX6_readLevel 36 = .ok (.istore_n 3, 1) := by decide +kernel
theorem dX6_readLevel_37 : decode cX6_readLevel 37 = .ok (.iconst 0, 1) := by decide +kernel
theorem dX6_readLevel_38 : decode cX6_readLevel 38 = .ok (.istore 4, 2) := by decide +kernel
theorem dX6_readLevel_40 : decode cX6_readLevel 40 = .ok (.iload 4, 2) := by decide +kernel
theorem dX6_readLevel_42 : decode cX6_readLevel 42 = .ok (.iload_n 3, 1) := by decide +kernel
theorem dX6_readLevel_43 : decode cX6_readLevel 43 = .ok (.if_icmp .ge 53, 3) := by decide +kernel
theorem dX6_readLevel_46 : decode cX6_readLevel 46 = .ok (.aload_n 0, 1) := by decide +kernel
theorem dX6_readLevel_47 : decode cX6_readLevel 47 = .ok (.getfield 24, 3) := by decide +kernel
theorem dX6_readLevel_50 : decode cX6_readLevel 50 = .ok (.invokestatic 316, 3) := by decide +kernel
theorem dX6_readLevel_53 : decode cX6_readLevel 53 = .ok (.iload_n 1, 1) := by decide +kernel
theorem dX6_readLevel_54 : decode cX6_readLevel 54 = .ok (.if_icmp .ne 42, 3) := by decide +kernel
theorem dX6_readLevel_57 : decode cX6_readLevel 57 = .ok (.aload_n 0, 1) := by decide +kernel
theorem dX6_readLevel_58 : decode cX6_readLevel 58 = .ok (.getfield 24, 3) := by decide +kernel
theorem dX6_readLevel_61 : decode cX6_readLevel 61 = .ok (.istore 5, 2) := by decide +kernel
theorem dX6_readLevel_63 : decode cX6_readLevel 63 = .ok (.aload_n 0, 1) := by decide +kernel
theorem dX6_readLevel_64 : decode cX6_readLevel 64 = .ok (.invokevirtual 100, 3) := by decide +kernel
theorem dX6_readLevel_67 : decode cX6_readLevel 67 = .ok (.aload_n 0, 1) := by decide +kernel
theorem dX6_readLevel_68 : decode cX6_readLevel 68 = .ok (.iload_n 1, 1) := by decide +kernel
theorem dX6_readLevel_69 : decode cX6_readLevel 69 = .ok (.iconst 1, 1) := by decide +kernel
theorem dX6_readLevel_70 : decode cX6_readLevel 70 = .ok (.iadd, 1) := by decide +kernel
theorem dX6_readLevel_71 : decode cX6_readLevel 71 = .ok (.iload_n 2, 1) := by decide +kernel
theorem dX6_readLevel_72 : decode cX6_readLevel 72 = .ok (.invokevirtual 305, 3) := by decide +kernel
theorem dX6_readLevel_75 : decode cX6_readLevel 75 = .ok (.ifCond .ne 5, 3) := by decide +kernel
theorem dX6_readLevel_78 : decode cX6_readLevel 78 = .ok (.iconst 0, 1) := by decide +kernel
theorem dX6_readLevel_79 : decode cX6_readLevel 79 = .ok (.ireturn, 1) := by decide +kernel
theorem dX6_readLevel_80 : decode cX6_readLevel 80 = .ok (.aload_n 0, 1) := by decide +kernel
theorem dX6_readLevel_81 : decode cX6_readLevel 81 = .ok (.getfield 70, 3) := by decide +kernel
theorem dX6_readLevel_84 : decode cX6_readLevel 84 = .ok (.iload 5, 2) := by decide +kernel
theorem dX6_readLevel_86 : decode cX6_readLevel 86 = .ok (.lconst 0, 1) := by decide +kernel
theorem dX6_readLevel_87 : decode cX6_readLevel 87 = .ok (.invokevirtual 309, 3) := by decide +kernel
theorem dX6_readLevel_90 : decode cX6_readLevel 90 = .ok (.iinc 4 1, 3) := by decide +kernel
theorem dX6_readLevel_93 : decode cX6_readLevel 93 = .ok (.goto (-53), 3) := by decide +kernel
theorem dX6_readLevel_96 : decode cX6_readLevel 96 = .ok (.iconst 1, 1) := by decide +kernel
theorem dX6_readLevel_97 : decode cX6_readLevel 97 = .ok (.ireturn, 1) := by decide +kernel
theorem dX6_readMagic_0 : decode cX6_readMagic 0 = .ok (.aload_n 0, 1) := by decide +kernel
theorem dX6_readMagic_1 : decode cX6_readMagic 1 = .ok (.getfield 106, 3) := by decide +kernel
theorem dX6_readMagic_4 : decode cX6_readMagic 4 = .ok (.bipush 9, 2) := by decide +kernel
theorem dX6_readMagic_6 : decode cX6_readMagic 6 = .ok (.putfield 229, 3) := by decide +kernel
theorem dX6_readMagic_9 : decode cX6_readMagic 9 = .ok (.aload_n 0, 1) := by decide +kernel
theorem dX6_readMagic_10 : decode cX6_readMagic 10 = .ok (.getfield 106, 3) := by decide +kernel
theorem dX6_readMagic_13 : decode cX6_readMagic 13 = .ok (.aload_n 0, 1) := by decide +kernel
theorem dX6_readMagic_14 : decode cX6_readMagic 14 = .ok (.getfield 66, 3) := by decide +kernel
theorem dX6_readMagic_17 : decode cX6_readMagic 17 = .ok (.getfield 139, 3) := by decide +kernel
theorem dX6_readMagic_20 : decode cX6_readMagic 20 = .ok (.putfield 230, 3) := by decide +kernel
theorem dX6_readMagic_23 : decode cX6_readMagic 23 = .ok (.aload_n 0, 1) := by decide +kernel
theorem dX6_readMagic_24 : decode cX6_readMagic 24 = .ok (.invokevirtual 100, 3) := by decide +kernel
theorem dX6_readMagic_27 : decode cX6_readMagic 27 = .ok (.aload_n 0, 1) := by decide +kernel
theorem dX6_readMagic_28 : decode cX6_readMagic 28 = .ok (.invokevirtual 237, 3) := by decide +kernel
theorem dX6_readMagic_31 : decode cX6_readMagic 31 = .ok (.ifCond .eq 12, 3) := by decide +kernel
theorem dX6_readMagic_34 : decode cX6_readMagic 34 = .ok (.aload_n 0, 1) := by decide +kernel
theorem dX6_readMagic_35 : decode cX6_readMagic 35 = .ok (.bipush 61, 2) := by decide +kernel
theorem dX6_readMagic_37 : decode cX6_readMagic 37 = .ok (.invokevirtual 116, 3) := by decide +kernel
theorem dX6_readMagic_40 : decode cX6_readMagic 40 = .ok (.ifCond .ne 5, 3) := by decide +kernel
theorem dX6_readMagic_43 : decode cX6_readMagic 43 = .ok (.iconst 0, 1) := by decide +kernel
theorem dX6_readMagic_44 : decode cX6_readMagic 44 = .ok (.ireturn, 1) := by decide +kernel
theorem dX6_readMagic_45 : decode cX6_readMagic 45 = .ok (.iconst 1, 1) := by decide +kernel
theorem dX6_readMagic_46 : decode cX6_readMagic 46 = .ok (.istore_n 1, 1) := by decide +kernel
theorem dX6_readMagic_47 : decode cX6_readMagic 47 = .ok (.iconst 0, 1) := by decide +kernel
theorem dX6_readMagic_48 : decode cX6_readMagic 48 = .ok (.istore_n 2, 1) := by decide +kernel
theorem dX6_readMagic_49 : decode cX6_readMagic 49 = .ok (.iload_n 2, 1) := by decide +kernel
theorem dX6_readMagic_50 : decode cX6_readMagic 50 = .ok (.bipush 16, 2) := by decide +kernel
theorem dX6_readMagic_52 : decode cX6_readMagic 52 = .ok (.if_icmp .gt 45, 3) := by decide +kernel
theorem dX6_readMagic_55 : decode cX6_readMagic 55 = .ok (.iload_n 1, 1) := by decide +kernel
theorem dX6_readMagic_56 : decode cX6_readMagic 56 = .ok (.ifCond .eq 41, 3) := by decide +kernel
theorem dX6_readMagic_59 : decode cX6_readMagic 59 = .ok (.aload_n 0, 1) := by decide +kernel
theorem dX6_readMagic_60 : decode cX6_readMagic 60 = .ok (.invokevirtual 293, 3) := by decide +kernel
theorem dX6_readMagic_63 : decode cX6_readMagic 63 = .ok (.ifCond .ne 5, 3) := by decide +kernel
theorem dX6_readMagic_66 : decode cX6_readMagic 66 = .ok (.iconst 0, 1) := by decide +kernel
theorem dX6_readMagic_67 : decode cX6_readMagic 67 = .ok (.ireturn, 1) := by decide +kernel
theorem dX6_readMagic_68 : decode cX6_readMagic 68 = .ok (.aload_n 0, 1) := by decide +kernel
theorem dX6_readMagic_69 : decode cX6_readMagic 69 = .ok (.getfield 24, 3) := by decide +kernel
theorem dX6_readMagic_72 : decode cX6_readMagic 72 = .ok (.iconst 3, 1) := by decide +kernel
theorem dX6_readMagic_73 : decode cX6_readMagic 73 = .ok (.if_icmp .eq 12, 3) := by decide +kernel
theorem dX6_readMagic_76 : decode cX6_readMagic 76 = .ok (.aload_n 0, 1) := by decide +kernel
theorem dX6_readMagic_77 : decode cX6_readMagic 77 = .ok (.getfield 24, 3) := by decide +kernel
theorem dX6_readMagic_80 : decode cX6_readMagic 80 = .ok (.bipush 42, 2) := by decide +kernel
theorem dX6_readMagic_82 : decode cX6_readMagic 82 = .ok (.if_icmp .ne 7, 3) := by decide +kernel
theorem dX6_readMagic_85 : decode cX6_readMagic 85 = .ok (.iconst 1, 1) := by decide +kernel
theorem dX6_readMagic_86 : decode cX6_readMagic 86 = .ok (.goto 4, 3) := by decide +kernel
theorem dX6_readMagic_89 : decode cX6_readMagic 89 = .ok (.iconst 0, 1) := by decide +kernel
theorem dX6_readMagic_90 : decode cX6_readMagic 90 = .ok (.istore_n 1, 1) := by decide +kernel
theorem dX6_readMagic_91 : decode cX6_readMagic 91 = .ok (.iinc 2 1, 3) := by decide +kernel
theorem dX6_readMagic_94 : decode cX6_readMagic 94 = .ok (.goto (-45), 3) := by decide +kernel
theorem dX6_readMagic_97 : decode cX6_readMagic 97 = .ok (.iconst 1, 1) := by decide +kernel
theorem dX6_readMagic_98 : decode cX6_readMagic 98 = .ok (.ireturn, 1) := by decide +kernel
theorem dX6_readPad_0 : decode cX6_readPad 0 = .ok (.aload_n 0, 1) := by decide +kernel
theorem dX6_readPad_1 : decode cX6_readPad 1 = .ok (.getfield 106, 3) := by decide +kernel
theorem dX6_readPad_4 : decode cX6_readPad 4 = .ok (.bipush 8, 2) := by decide +kernel
theorem dX6_readPad_6 : decode cX6_readPad 6 = .ok (.putfield 229, 3) := by decide +kernel
theorem dX6_readPad_9 : decode cX6_readPad 9 = .ok (.aload_n 0, 1) := by decide +kernel
theorem dX6_readPad_10 : decode cX6_readPad 10 = .ok (.invokevirtual 100, 3) := by decide +kernel
theorem dX6_readPad_13 : decode cX6_readPad 13 = .ok (.aload_n 0, 1) := by decide +kernel
theorem dX6_readPad_14 : decode cX6_readPad 14 = .ok (.getfield 106, 3) := by decide +kernel
theorem dX6_readPad_17 : decode cX6_readPad 17 = .ok (.aload_n 0, 1) := by decide +kernel
theorem dX6_readPad_18 : decode cX6_readPad 18 = .ok (.getfield 90, 3) := by decide +kernel
theorem dX6_readPad_21 : decode cX6_readPad 21 = .ok (.putfield 276, 3) := by decide +kernel
theorem dX6_readPad_24 : decode cX6_readPad 24 = .ok (.aload_n 0, 1) := by decide +kernel
theorem dX6_readPad_25 : decode cX6_readPad 25 = .ok (.lconst 1, 1) := by decide +kernel
theorem dX6_readPad_26 : decode cX6_readPad 26 = .ok (.ldc2_w 291, 3) := by decide +kernel
theorem dX6_readPad_29 : decode cX6_readPad 29 = .ok (.invokevirtual 270, 3) := by decide +kernel
theorem dX6_readPad_32 : decode cX6_readPad 32 = .ok (.ireturn, 1) := by decide +kernel
theorem dX6_readPair_0 : decode cX6_readPair 0 = .ok (.aload_n 0, 1) := by decide +kernel
theorem dX6_readPair_1 : decode cX6_readPair 1 = .ok (.getfield 90, 3) := by decide +kernel
theorem dX6_readPair_4 : decode cX6_readPair 4 = .ok (.lstore_n 2, 1) := by decide +kernel
theorem dX6_readPair_5 : decode cX6_readPair 5 = .ok (.aload_n 0, 1) := by decide +kernel
theorem dX6_readPair_6 : decode cX6_readPair 6 = .ok (.getfield 66, 3) := by decide +kernel
theorem dX6_readPair_9 : decode cX6_readPair 9 = .ok (.aload_n 0, 1) := by decide +kernel
theorem dX6_readPair_10 : decode cX6_readPair 10 = .ok (.getfield 66, 3) := by decide +kernel
theorem dX6_readPair_13 : decode cX6_readPair 13 = .ok (.getfield 136, 3) := by decide +kernel
theorem dX6_readPair_16 : decode cX6_readPair 16 = .ok (.iload_n 1, 1) := by decide +kernel
theorem dX6_readPair_17 : decode cX6_readPair 17 = .ok (.iaload, 1) := by decide +kernel
theorem dX6_readPair_18 : decode cX6_readPair 18 = .ok (.aload_n 0, 1) := by decide +kernel
theorem dX6_readPair_19 : decode cX6_readPair 19 = .ok (.getfield 66, 3) := by decide +kernel
theorem dX6_readPair_22 : decode cX6_readPair 22 = .ok (.getfield 142, 3) := by decide +kernel
theorem dX6_readPair_25 : decode cX6_readPair 25 = .ok (.iload_n 1, 1) := by decide +kernel
theorem dX6_readPair_26 : decode cX6_readPair 26 = .ok (.iaload, 1) := by decide +kernel
theorem dX6_readPair_27 : decode cX6_readPair 27 = .ok (.lload_n 2, 1) := by decide +kernel
theorem dX6_readPair_28 : decode cX6_readPair 28 = .ok (.invokevirtual 151, 3) := by decide +kernel
theorem dX6_readPair_31 : decode cX6_readPair 31 = .ok (.istore 4, 2) := by decide +kernel
theorem dX6_readPair_33 : decode cX6_readPair 33 = .ok (.aload_n 0, 1) := by decide +kernel
theorem dX6_readPair_34 : decode cX6_readPair 34 = .ok (.aload_n 0, 1) := by decide +kernel
theorem dX6_readPair_35 : decode cX6_readPair 35 = .ok (.getfield 24, 3) := by decide +kernel
theorem dX6_readPair_38 : decode cX6_readPair 38 = .ok (.iconst 2, 1) := by decide +kernel
theorem dX6_readPair_39 : decode cX6_readPair 39 = .ok (.if_icmp .ne 7, 3) := by decide +kernel
theorem dX6_readPair_42 : decode cX6_readPair 42 = .ok (.iconst 1, 1) := by decide +kernel
theorem dX6_readPair_43 : decode cX6_readPair 43 = .ok (.goto 4, 3) := by decide +kernel
theorem dX6_readPair_46 : decode cX6_readPair 46 = .ok (.iconst 0, 1) := by decide +kernel
theorem dX6_readPair_47 : decode cX6_readPair 47 = .ok (.iconst 2, 1) := by decide +kernel
theorem dX6_readPair_48 : decode cX6_readPair 48 = .ok (.invokevirtual 28, 3) := by decide +kernel
theorem dX6_readPair_51 : decode cX6_readPair 51 = .ok (.ifCond .eq 49, 3) := by decide +kernel
theorem dX6_readPair_54 : decode cX6_readPair 54 = .ok (.aload_n 0, 1) := by decide +kernel
theorem dX6_readPair_55 : decode cX6_readPair 55 = .ok (.iload 4, 2) := by decide +kernel
theorem dX6_readPair_57 : decode cX6_readPair 57 = .ok (.iconst (-1), 1) := by decide +kernel
theorem dX6_readPair_58 : decode cX6_readPair 58 = .ok (.if_icmp .ne 7, 3) := by decide +kernel
theorem dX6_readPair_61 : decode cX6_readPair 61 = .ok (.iconst 1, 1) := by decide +kernel
theorem dX6_readPair_62 : decode cX6_readPair 62 = .ok (.goto 4, 3) := by decide +kernel
theorem dX6_readPair_65 : decode cX6_readPair 65 = .ok (.iconst 0, 1) := by decide +kernel
theorem dX6_readPair_66 : decode cX6_readPair 66 = .ok (.iconst 3, 1) := by decide +kernel
theorem dX6_readPair_67 : decode cX6_readPair 67 = .ok (.invokevirtual 28, 3) := by decide +kernel
theorem dX6_readPair_70 : decode cX6_readPair 70 = .ok (.ifCond .eq 30, 3) := by decide +kernel
theorem dX6_readPair_73 : decode cX6_readPair 73 = .ok (.aload_n 0, 1) := by decide +kernel
theorem dX6_readPair_74 : decode cX6_readPair 74 = .ok (.aload_n 0, 1) := by decide +kernel
theorem dX6_readPair_75 : decode cX6_readPair 75 = .ok (.getfield 66, 3) := by decide +kernel
theorem dX6_readPair_78 : decode cX6_readPair 78 = .ok (.getfield 142, 3) := by decide +kernel
theorem dX6_readPair_81 : decode cX6_readPair 81 = .ok (.iload_n 1, 1) := by decide +kernel
theorem dX6_readPair_82 : decode cX6_readPair 82 = .ok (.iaload, 1) := by decide +kernel
theorem dX6_readPair_83 : decode cX6_readPair 83 = .ok (.bipush 10, 2) := by decide +kernel
theorem dX6_readPair_85 : decode cX6_readPair 85 = .ok (.if_icmp .ge 7, 3) := by decide +kernel
theorem dX6_readPair_88 : decode cX6_readPair 88 = .ok (.iconst 1, 1) := by decide +kernel
theorem dX6_readPair_89 : decode cX6_readPair 89 = .ok (.goto 4, 3) := by decide +kernel
theorem dX6_readPair_92 : decode cX6_readPair 92 = .ok (.iconst 0, 1) := by decide +kernel
theorem dX6_readPair_93 : decode cX6_readPair 93 = .ok (.iconst 5, 1) := by decide +kernel
theorem dX6_readPair_94 : decode cX6_readPair 94 = .ok (.invokevirtual 28, 3) := by decide +kernel
theorem dX6_readPair_97 : decode cX6_readPair 97 = .ok (.ifCond .ne 5, 3) := by decide +kernel
theorem dX6_readPair_100 : decode cX6_readPair 100 = .ok (.iconst 0, 1) := by decide +kernel
theorem dX6_readPair_101 : decode cX6_readPair 101 = .ok (.ireturn, 1) := by decide +kernel
theorem dX6_readPair_102 : decode cX6_readPair 102 = .ok (.aload_n 0, 1) := by decide +kernel
theorem dX6_readPair_103 : decode cX6_readPair 103 = .ok (.invokevirtual 100, 3) := by decide +kernel
theorem dX6_readPair_106 : decode cX6_readPair 106 = .ok (.aload_n 0, 1) := by decide +kernel
theorem dX6_readPair_107 : decode cX6_readPair 107 = .ok (.bipush 61, 2) := by decide +kernel
theorem dX6_readPair_109 : decode cX6_readPair 109 = .ok (.invokevirtual 116, 3) := by decide +kernel
theorem dX6_readPair_112 : decode cX6_readPair 112 = .ok (.ifCond .eq 10, 3) := by decide +kernel
theorem dX6_readPair_115 : decode cX6_readPair 115 = .ok (.aload_n 0, 1) := by decide +kernel
theorem dX6_readPair_116 : decode cX6_readPair 116 = .ok (.invokevirtual 155, 3) := by decide +kernel
theorem dX6_readPair_119 : decode cX6_readPair 119 = .ok (.ifCond .ne 5, 3) := by decide +kernel
theorem dX6_readPair_122 : decode cX6_readPair 122 = .ok (.iconst 0, 1) := by decide +kernel
theorem dX6_readPair_123 : decode cX6_readPair 123 = .ok (.ireturn, 1) := by decide +kernel
theorem dX6_readPair_124 : decode cX6_readPair 124 = .ok (.aload_n 0, 1) := by decide +kernel
theorem dX6_readPair_125 : decode cX6_readPair 125 = .ok (.getfield 66, 3) := by decide +kernel
theorem dX6_readPair_128 : decode cX6_readPair 128 = .ok (.lload_n 2, 1) := by decide +kernel
theorem dX6_readPair_129 : decode cX6_readPair 129 = .ok (.aload_n 0, 1) := by decide +kernel
theorem dX6_readPair_130 : decode cX6_readPair 130 = .ok (.getfield 103, 3) := by decide +kernel
theorem dX6_readPair_133 : decode cX6_readPair 133 = .ok (.iconst 0, 1) := by decide +kernel
theorem dX6_readPair_134 : decode cX6_readPair 134 = .ok (.invokevirtual 158, 3) := by decide +kernel
theorem dX6_readPair_137 : decode cX6_readPair 137 = .ok (.aload_n 0, 1) := by decide +kernel
theorem dX6_readPair_138 : decode cX6_readPair 138 = .ok (.getfield 66, 3) := by decide +kernel
theorem dX6_readPair_141 : decode cX6_readPair 141 = .ok (.getfield 142, 3) := by decide +kernel
theorem dX6_readPair_144 : decode cX6_readPair 144 = .ok (.iload_n 1, 1) := by decide +kernel
theorem dX6_readPair_145 : decode cX6_readPair 145 = .ok (.dup2, 1) := by decide +kernel
theorem dX6_readPair_146 : decode cX6_readPair 146 = .ok (.iaload, 1) := by decide +kernel
theorem dX6_readPair_147 : decode cX6_readPair 147 = .ok (.iconst 1, 1) := by decide +kernel
theorem dX6_readPair_148 : decode cX6_readPair 148 = .ok (.iadd, 1) := by decide +kernel
theorem dX6_readPair_149 : decode cX6_readPair 149 = .ok (.iastore, 1) := by decide +kernel
theorem dX6_readPair_150 : decode cX6_readPair 150 = .ok (.iconst 1, 1) := by decide +kernel
theorem dX6_readPair_151 : decode cX6_readPair 151 = .ok (.ireturn, 1) := by decide +kernel
theorem dX6_readPart_0 : decode cX6_readPart 0 = .ok (.aload_n 0, 1) := by decide +kernel
theorem dX6_readPart_1 : decode cX6_readPart 1 = .ok (.getfield 90, 3) := by decide +kernel
theorem dX6_readPart_4 : decode cX6_readPart 4 = .ok (.lstore_n 2, 1) := by decide +kernel
theorem dX6_readPart_5 : decode cX6_readPart 5 = .ok (.aload_n 0, 1) := by decide +kernel
theorem dX6_readPart_6 : decode cX6_readPart 6 = .ok (.aload_n 0, 1) := by decide +kernel
theorem dX6_readPart_7 : decode cX6_readPart 7 = .ok (.getfield 24, 3) := by decide +kernel
theorem dX6_readPart_10 : decode cX6_readPart 10 = .ok (.iconst 2, 1) := by decide +kernel
theorem dX6_readPart_11 : decode cX6_readPart 11 = .ok (.if_icmp .ne 7, 3) := by decide +kernel
theorem dX6_readPart_14 : decode cX6_readPart 14 = .ok (.iconst 1, 1) := by decide +kernel
theorem dX6_readPart_15 : decode cX6_readPart 15 = .ok (.goto 4, 3) := by decide +kernel
theorem dX6_readPart_18 : decode cX6_readPart 18 = .ok (.iconst 0, 1) := by decide +kernel
theorem dX6_readPart_19 : decode cX6_readPart 19 = .ok (.iconst 2, 1) := by decide +kernel
theorem dX6_readPart_20 : decode cX6_readPart 20 = .ok (.invokevirtual 28, 3) := by decide +kernel
theorem dX6_readPart_23 : decode cX6_readPart 23 = .ok (.ifCond .eq 49, 3) := by decide +kernel
theorem dX6_readPart_26 : decode cX6_readPart 26 = .ok (.aload_n 0, 1) := by decide +kernel
theorem dX6_readPart_27 : decode cX6_readPart 27 = .ok (.aload_n 0, 1) := by decide +kernel
theorem dX6_readPart_28 : decode cX6_readPart 28 = .ok (.lload_n 2, 1) := by decide +kernel
theorem dX6_readPart_29 : decode cX6_readPart 29 = .ok (.invokevirtual 224, 3) := by decide +kernel
theorem dX6_readPart_32 : decode cX6_readPart 32 = .ok (.ifCond .ne 7, 3) := by decide +kernel
theorem dX6_readPart_35 : decode cX6_readPart 35 = .ok (.iconst 1, 1) := by decide +kernel
theorem dX6_readPart_36 : decode cX6_readPart 36 = .ok (.goto 4, 3) := by decide +kernel
theorem dX6_readPart_39 : decode cX6_readPart 39 = .ok (.iconst 0, 1) := by decide +kernel
theorem dX6_readPart_40 : decode cX6_readPart 40 = .ok (.iconst 3, 1) := by decide +kernel
theorem dX6_readPart_41 : decode cX6_readPart 41 = .ok (.invokevirtual 28, 3) := by decide +kernel
theorem dX6_readPart_44 : decode cX6_readPart 44 = .ok (.ifCond .eq 28, 3) := by decide +kernel
theorem dX6_readPart_47 : decode cX6_readPart 47 = .ok (.aload_n 0, 1) := by decide +kernel
theorem dX6_readPart_48 : decode cX6_readPart 48 = .ok (.aload_n 0, 1) := by decide +kernel
theorem dX6_readPart_49 : decode cX6_readPart 49 = .ok (.getfield 106, 3) := by decide +kernel
theorem dX6_readPart_52 : decode cX6_readPart 52 = .ok (.getfield 233, 3) := by decide +kernel
theorem dX6_readPart_55 : decode cX6_readPart 55 = .ok (.bipush 12, 2) := by decide +kernel
theorem dX6_readPart_57 : decode cX6_readPart 57 = .ok (.if_icmp .ge 7, 3) := by decide +kernel
theorem dX6_readPart_60 : decode cX6_readPart 60 = .ok (.iconst 1, 1) := by decide +kernel
theorem dX6_readPart_61 : decode cX6_readPart 61 = .ok (.goto 4, 3) := by decide +kernel
theorem dX6_readPart_64 : decode cX6_readPart 64 = .ok (.iconst 0, 1) := by decide +kernel
theorem dX6_readPart_65 : decode cX6_readPart 65 = .ok (.iconst 5, 1) := by decide +kernel
theorem dX6_readPart_66 : decode cX6_readPart 66 = .ok (.invokevirtual 28, 3) := by decide +kernel
theorem dX6_readPart_69 : decode cX6_readPart 69 = .ok (.ifCond .ne 5, 3) := by decide +kernel
theorem dX6_readPart_72 : decode cX6_readPart 72 = .ok (.iconst 0, 1) := by decide +kernel
theorem dX6_readPart_73 : decode cX6_readPart 73 = .ok (.ireturn, 1) := by decide +kernel
theorem dX6_readPart_74 : decode cX6_readPart 74 = .ok (.aload_n 0, 1) := by decide +kernel
theorem dX6_readPart_75 : decode cX6_readPart 75 = .ok (.invokevirtual 100, 3) := by decide +kernel
theorem dX6_readPart_78 : decode cX6_readPart 78 = .ok (.aload_n 0, 1) := by decide +kernel
theorem dX6_readPart_79 : decode cX6_readPart 79 = .ok (.bipush 58, 2) := by decide +kernel
theorem dX6_readPart_81 : decode cX6_readPart 81 = .ok (.invokevirtual 116, 3) := by decide +kernel
theorem dX6_readPart_84 : decode cX6_readPart 84 = .ok (.ifCond .eq 29, 3) := by decide +kernel
theorem dX6_readPart_87 : decode cX6_readPart 87 = .ok (.aload_n 0, 1) := by decide +kernel
theorem dX6_readPart_88 : decode cX6_readPart 88 = .ok (.lconst 1, 1) := by decide +kernel
theorem dX6_readPart_89 : decode cX6_readPart 89 = .ok (.bipush 64, 2) := by decide +kernel
theorem dX6_readPart_91 : decode cX6_readPart 91 = .ok (.bipush 8, 2) := by decide +kernel
theorem dX6_readPart_93 : decode cX6_readPart 93 = .ok (.aload_n 0, 1) := by decide +kernel
theorem dX6_readPart_94 : decode cX6_readPart 94 = .ok (.getfield 106, 3) := by decide +kernel
theorem dX6_readPart_97 : decode cX6_readPart 97 = .ok (.getfield 261, 3) := by decide +kernel
theorem dX6_readPart_100 : decode cX6_readPart 100 = .ok (.imul, 1) := by decide +kernel
theorem dX6_readPart_101 : decode cX6_readPart 101 = .ok (.iload_n 1, 1) := by decide +kernel
theorem dX6_readPart_102 : decode cX6_readPart 102 = .ok (.isub, 1) := by decide +kernel
theorem dX6_readPart_103 : decode cX6_readPart 103 = .ok (.invokestatic 264, 3) := by decide +kernel
theorem dX6_readPart_106 : decode cX6_readPart 106 = .ok (.i2l, 1) := by decide +kernel
theorem dX6_readPart_107 : decode cX6_readPart 107 = .ok (.invokevirtual 270, 3) := by decide +kernel
theorem dX6_readPart_110 : decode cX6_readPart 110 = .ok (.ifCond .ne 5, 3) := by decide +kernel
theorem dX6_readPart_113 : decode cX6_readPart 113 = .ok (.iconst 0, 1) := by decide +kernel
theorem dX6_readPart_114 : decode cX6_readPart 114 = .ok (.ireturn, 1) := by decide +kernel
theorem dX6_readPart_115 : decode cX6_readPart 115 = .ok (.aload_n 0, 1) := by decide +kernel
theorem dX6_readPart_116 : decode cX6_readPart 116 = .ok (.getfield 66, 3) := by decide +kernel
theorem dX6_readPart_119 : decode cX6_readPart 119 = .ok (.lload_n 2, 1) := by decide +kernel
theorem dX6_readPart_120 : decode cX6_readPart 120 = .ok (.aload_n 0, 1) := by decide +kernel
theorem dX6_readPart_121 : decode cX6_readPart 121 = .ok (.getfield 103, 3) := by decide +kernel
theorem dX6_readPart_124 : decode cX6_readPart 124 = .ok (.iload_n 1, 1) := by decide +kernel
theorem dX6_readPart_125 : decode cX6_readPart 125 = .ok (.invokevirtual 158, 3) := by decide +kernel
theorem dX6_readPart_128 : decode cX6_readPart 128 = .ok (.aload_n 0, 1) := by decide +kernel
theorem dX6_readPart_129 : decode cX6_readPart 129 = .ok (.getfield 106, 3) := by decide +kernel
theorem dX6_readPart_132 : decode cX6_readPart 132 = .ok (.dup, 1) := by decide +kernel
theorem dX6_readPart_133 : decode cX6_readPart 133 = .ok (.getfield 233, 3) := by decide +kernel
theorem dX6_readPart_136 : decode cX6_readPart 136 = .ok (.iconst 1, 1) := by decide +kernel
theorem dX6_readPart_137 : decode cX6_readPart 137 = .ok (.iadd, 1) := by decide +kernel
theorem dX6_readPart_138 : decode cX6_readPart 138 = .ok (.putfield 233, 3) := by decide +kernel
theorem dX6_readPart_141 : decode cX6_readPart 141 = .ok (.iconst 1, 1) := by decide +kernel
theorem dX6_readPart_142 : decode cX6_readPart 142 = .ok (.ireturn, 1) := by decide +kernel
theorem dX6_readPointer_0 : decode cX6_readPointer 0 = .ok (.aload_n 0, 1) := by decide +kernel
theorem dX6_readPointer_1 : decode cX6_readPointer 1 = .ok (.getfield 106, 3) := by decide +kernel
theorem dX6_readPointer_4 : decode cX6_readPointer 4 = .ok (.bipush 7, 2) := by decide +kernel
theorem dX6_readPointer_6 : decode cX6_readPointer 6 = .ok (.putfield 229, 3) := by decide +kernel
theorem dX6_readPointer_9 : decode cX6_readPointer 9 = .ok (.aload_n 0, 1) := by decide +kernel
theorem dX6_readPointer_10 : decode cX6_readPointer 10 = .ok (.getfield 106, 3) := by decide +kernel
theorem dX6_readPointer_13 : decode cX6_readPointer 13 = .ok (.lconst 1, 1) := by decide +kernel
theorem dX6_readPointer_14 : decode cX6_readPointer 14 = .ok (.putfield 276, 3) := by decide +kernel
theorem dX6_readPointer_17 : decode cX6_readPointer 17 = .ok (.aload_n 0, 1) := by decide +kernel
theorem dX6_readPointer_18 : decode cX6_readPointer 18 = .ok (.invokevirtual 100, 3) := by decide +kernel
theorem dX6_readPointer_21 : decode cX6_readPointer 21 = .ok (.aload_n 0, 1) := by decide +kernel
theorem dX6_readPointer_22 : decode cX6_readPointer 22 = .ok (.getfield 106, 3) := by decide +kernel
theorem dX6_readPointer_25 : decode cX6_readPointer 25 = .ok (.aload_n 0, 1) := by decide +kernel
theorem dX6_readPointer_26 : decode cX6_readPointer 26 = .ok (.getfield 90, 3) := by decide +kernel
theorem dX6_readPointer_29 : decode cX6_readPointer 29 = .ok (.putfield 283, 3) := by decide +kernel
theorem dX6_readPointer_32 : decode cX6_readPointer 32 = .ok (.aload_n 0, 1) := by decide +kernel
theorem dX6_readPointer_33 : decode cX6_readPointer 33 = .ok (.getfield 106, 3) := by decide +kernel
theorem dX6_readPointer_36 : decode cX6_readPointer 36 = .ok (.aload_n 0, 1) := by decide +kernel
theorem dX6_readPointer_37 : decode cX6_readPointer 37 = .ok (.getfield 62, 3) := by decide +kernel
theorem dX6_readPointer_40 : decode cX6_readPointer 40 = .ok (.getfield 94, 3) := by decide +kernel
theorem dX6_readPointer_43 : decode cX6_readPointer 43 = .ok (.aload_n 0, 1) := by decide +kernel
theorem dX6_readPointer_44 : decode cX6_readPointer 44 = .ok (.getfield 77, 3) := by decide +kernel
theorem dX6_readPointer_47 : decode cX6_readPointer 47 = .ok (.iaload, 1) := by decide +kernel
theorem dX6_readPointer_48 : decode cX6_readPointer 48 = .ok (.putfield 286, 3) := by decide +kernel
theorem dX6_readPointer_51 : decode cX6_readPointer 51 = .ok (.aload_n 0, 1) := by decide +kernel
theorem dX6_readPointer_52 : decode cX6_readPointer 52 = .ok (.iconst 2, 1) := by decide +kernel
theorem dX6_readPointer_53 : decode cX6_readPointer 53 = .ok (.invokevirtual 116, 3) := by decide +kernel
theorem dX6_readPointer_56 : decode cX6_readPointer 56 = .ok (.ifCond .eq 27, 3) := by decide +kernel
theorem dX6_readPointer_59 : decode cX6_readPointer 59 = .ok (.aload_n 0, 1) := by decide +kernel
theorem dX6_readPointer_60 : decode cX6_readPointer 60 = .ok (.invokevirtual 237, 3) := by decide +kernel
theorem dX6_readPointer_63 : decode cX6_readPointer 63 = .ok (.ifCond .eq 20, 3) := by decide +kernel
theorem dX6_readPointer_66 : decode cX6_readPointer 66 = .ok (.aload_n 0, 1) := by decide +kernel
theorem dX6_readPointer_67 : decode cX6_readPointer 67 = .ok (.sipush 208, 3) := by decide +kernel
theorem dX6_readPointer_70 : decode cX6_readPointer 70 = .ok (.invokevirtual 116, 3) := by decide +kernel
theorem dX6_readPointer_73 : decode cX6_readPointer 73 = .ok (.ifCond .eq 10, 3) := by decide +kernel
theorem dX6_readPointer_76 : decode cX6_readPointer 76 = .ok (.aload_n 0, 1) := by decide +kernel
theorem dX6_readPointer_77 : decode cX6_readPointer 77 = .ok (.invokevirtual 234, 3) := by decide +kernel
theorem dX6_readPointer_80 : decode cX6_readPointer 80 = .ok (.ifCond .ne 5, 3) := by decide +kernel
theorem dX6_readPointer_83 : decode cX6_readPointer 83 = .ok (.iconst 0, 1) := by decide +kernel
theorem dX6_readPointer_84 : decode cX6_readPointer 84 = .ok (.ireturn, 1) := by decide +kernel
theorem dX6_readPointer_85 : decode cX6_readPointer 85 = .ok (.aload_n 0, 1) := by decide +kernel
theorem dX6_readPointer_86 : decode cX6_readPointer 86 = .ok (.sipush 211, 3) := by decide +kernel
theorem dX6_readPointer_89 : decode cX6_readPointer 89 = .ok (.invokevirtual 148, 3) := by decide +kernel
theorem dX6_readPointer_92 : decode cX6_readPointer 92 = .ok (.ifCond .eq 27, 3) := by decide +kernel
theorem dX6_readPointer_95 : decode cX6_readPointer 95 = .ok (.aload_n 0, 1) := by decide +kernel
theorem dX6_readPointer_96 : decode cX6_readPointer 96 = .ok (.getfield 106, 3) := by decide +kernel
theorem dX6_readPointer_99 : decode cX6_readPointer 99 = .ok (.aload_n 0, 1) := by decide +kernel
theorem dX6_readPointer_100 : decode cX6_readPointer 100 = .ok (.invokevirtual 58, 3) := by decide +kernel
theorem dX6_readPointer_103 : decode cX6_readPointer 103 = .ok (.putfield 251, 3) := by decide +kernel
theorem dX6_readPointer_106 : decode cX6_readPointer 106 = .ok (.aload_n 0, 1) := by decide +kernel
theorem dX6_readPointer_107 : decode cX6_readPointer 107 = .ok (.getfield 106, 3) := by decide +kernel
theorem dX6_readPointer_110 : decode cX6_readPointer 110 = .ok (.getfield 251, 3) := by decide +kernel
theorem dX6_readPointer_113 : decode cX6_readPointer 113 = .ok (.iconst (-1), 1) := by decide +kernel
theorem dX6_readPointer_114 : decode cX6_readPointer 114 = .ok (.if_icmp .ne 5, 3) := by decide +kernel
theorem dX6_readPointer_117 : decode cX6_readPointer 117 = .ok (.iconst 0, 1) := by decide +kernel
theorem dX6_readPointer_118 : decode cX6_readPointer 118 = .ok (.ireturn, 1) := by decide +kernel
theorem dX6_readPointer_119 : decode cX6_readPointer 119 = .ok (.aload_n 0, 1) := by decide +kernel
theorem dX6_readPointer_120 : decode cX6_readPointer 120 = .ok (.sipush 213, 3) := by decide +kernel
theorem dX6_readPointer_123 : decode cX6_readPointer 123 = .ok (.invokevirtual 148, 3) := by decide +kernel
theorem dX6_readPointer_126 : decode cX6_readPointer 126 = .ok (.ifCond .eq 23, 3) := by decide +kernel
theorem dX6_readPointer_129 : decode cX6_readPointer 129 = .ok (.aload_n 0, 1) := by decide +kernel
theorem dX6_readPointer_130 : decode cX6_readPointer 130 = .ok (.getfield 106, 3) := by decide +kernel
theorem dX6_readPointer_133 : decode cX6_readPointer 133 = .ok (.aload_n 0, 1) := by decide +kernel
theorem dX6_readPointer_134 : decode cX6_readPointer 134 = .ok (.getfield 90, 3) := by decide +kernel
theorem dX6_readPointer_137 : decode cX6_readPointer 137 = .ok (.putfield 276, 3) := by decide +kernel
theorem dX6_readPointer_140 : decode cX6_readPointer 140 = .ok (.aload_n 0, 1) := by decide +kernel
theorem dX6_readPointer_141 : decode cX6_readPointer 141 = .ok (.lconst 1, 1) := by decide +kernel
theorem dX6_readPointer_142 : decode cX6_readPointer 142 = .ok (.ldc2_w 289, 3) := by decide +kernel
theorem dX6_readPointer_145 : decode cX6_readPointer 145 = .ok (.invokevirtual 270, 3) := by decide +kernel
theorem dX6_readPointer_148 : decode cX6_readPointer 148 = .ok (.ireturn, 1) := by decide +kernel
theorem dX6_readPointer_149 : decode cX6_readPointer 149 = .ok (.iconst 1, 1) := by decide +kernel
theorem dX6_readPointer_150 : decode cX6_readPointer 150 = .ok (.ireturn, 1) := by decide +kernel
theorem dX6_readQuestion_0 : decode cX6_readQuestion 0 = .ok (.aload_n 0, 1) := by decide +kernel
theorem dX6_readQuestion_1 : decode cX6_readQuestion 1 = .ok (.aload_n 1, 1) := by decide +kernel
theorem dX6_readQuestion_2 : decode cX6_readQuestion 2 = .ok (.aload_n 2, 1) := by decide +kernel
theorem dX6_readQuestion_3 : decode cX6_readQuestion 3 = .ok (.aload 4, 2) := by decide +kernel
theorem dX6_readQuestion_5 : decode cX6_readQuestion 5 = .ok (.invokevirtual 15, 3) := by decide +kernel
theorem dX6_readQuestion_8 : decode cX6_readQuestion 8 = .ok (.aload 4, 2) := by decide +kernel
theorem dX6_readQuestion_10 : decode cX6_readQuestion 10 = .ok (.iconst 0, 1) := by decide +kernel
theorem dX6_readQuestion_11 : decode cX6_readQuestion 11 = .ok (.putfield 45, 3) := by decide +kernel
theorem dX6_readQuestion_14 : decode cX6_readQuestion 14 = .ok (.aload_n 0, 1) := by decide +kernel
theorem dX6_readQuestion_15 : decode cX6_readQuestion 15 = .ok (.aload_n 2, 1) := by decide +kernel
theorem dX6_readQuestion_16 : decode cX6_readQuestion 16 = .ok (.getfield 50, 3) := by decide +kernel
theorem dX6_readQuestion_19 : decode cX6_readQuestion 19 = .ok (.iload_n 3, 1) := by decide +kernel
theorem dX6_readQuestion_20 : decode cX6_readQuestion 20 = .ok (.aaload, 1) := by decide +kernel
theorem dX6_readQuestion_21 : decode cX6_readQuestion 21 = .ok (.putfield 54, 3) := by decide +kernel
theorem dX6_readQuestion_24 : decode cX6_readQuestion 24 = .ok (.aload_n 0, 1) := by decide +kernel
theorem dX6_readQuestion_25 : decode cX6_readQuestion 25 = .ok (.invokevirtual 58, 3) := by decide +kernel
theorem dX6_readQuestion_28 : decode cX6_readQuestion 28 = .ok (.iconst (-1), 1) := by decide +kernel
theorem dX6_readQuestion_29 : decode cX6_readQuestion 29 = .ok (.if_icmp .eq 27, 3) := by decide +kernel
theorem dX6_readQuestion_32 : decode cX6_readQuestion 32 = .ok (.aload_n 0, 1) := by decide +kernel
theorem dX6_readQuestion_33 : decode cX6_readQuestion 33 = .ok (.aload_n 0, 1) := by decide +kernel
theorem dX6_readQuestion_34 : decode cX6_readQuestion 34 = .ok (.getfield 24, 3) := by decide +kernel
theorem dX6_readQuestion_37 : decode cX6_readQuestion 37 = .ok (.ifCond .ne 7, 3) := by decide +kernel
theorem dX6_readQuestion_40 : decode cX6_readQuestion 40 = .ok (.iconst 1, 1) := by decide +kernel
theorem dX6_readQuestion_41 : decode cX6_readQuestion 41 = .ok (.goto 4, 3) := by decide +kernel
theorem dX6_readQuestion_44 : decode cX6_readQuestion 44 = .ok (.iconst 0, 1) := by decide +kernel
theorem dX6_readQuestion_45 : decode cX6_readQuestion 45 = .ok (.iconst 2, 1) := by decide +kernel
theorem dX6_readQuestion_46 : decode cX6_readQuestion 46 = .ok (.invokevirtual 28, 3) := by decide +kernel
theorem dX6_readQuestion_49 : decode cX6_readQuestion 49 = .ok (.ifCond .eq 7, 3) := by decide +kernel
theorem dX6_readQuestion_52 : decode cX6_readQuestion 52 = .ok (.iconst 1, 1) := by decide +kernel
theorem dX6_readQuestion_53 : decode cX6_readQuestion 53 = .ok (.goto 4, 3) := by decide +kernel
theorem dX6_readQuestion_56 : decode cX6_readQuestion 56 = .ok (.iconst 0, 1) := by decide +kernel
theorem dX6_readQuestion_57 : decode cX6_readQuestion 57 = .ok (.ireturn, 1) := by decide +kernel
theorem dX6_readStruct_0 : decode cX6_readStruct 0 = .ok (.aload_n 0, 1) := by decide +kernel
theorem dX6_readStruct_1 : decode cX6_readStruct 1 = .ok (.getfield 106, 3) := by decide +kernel
theorem dX6_readStruct_4 : decode cX6_readStruct 4 = .ok (.iconst 0, 1) := by decide +kernel
theorem dX6_readStruct_5 : decode cX6_readStruct 5 = .ok (.putfield 229, 3) := by decide +kernel
theorem dX6_readStruct_8 : decode cX6_readStruct 8 = .ok (.aload_n 0, 1) := by decide +kernel
theorem dX6_readStruct_9 : decode cX6_readStruct 9 = .ok (.getfield 106, 3) := by decide +kernel
theorem dX6_readStruct_12 : decode cX6_readStruct 12 = .ok (.aload_n 0, 1) := by decide +kernel
theorem dX6_readStruct_13 : decode cX6_readStruct 13 = .ok (.invokevirtual 240, 3) := by decide +kernel
theorem dX6_readStruct_16 : decode cX6_readStruct 16 = .ok (.putfield 243, 3) := by decide +kernel
theorem dX6_readStruct_19 : decode cX6_readStruct 19 = .ok (.aload_n 0, 1) := by decide +kernel
theorem dX6_readStruct_20 : decode cX6_readStruct 20 = .ok (.getfield 106, 3) := by decide +kernel
theorem dX6_readStruct_23 : decode cX6_readStruct 23 = .ok (.getfield 243, 3) := by decide +kernel
theorem dX6_readStruct_26 : decode cX6_readStruct 26 = .ok (.iconst (-1), 1) := by decide +kernel
theorem dX6_readStruct_27 : decode cX6_readStruct 27 = .ok (.if_icmp .eq 14, 3) := by decide +kernel
theorem dX6_readStruct_30 : decode cX6_readStruct 30 = .ok (.aload_n 0, 1) := by decide +kernel
theorem dX6_readStruct_31 : decode cX6_readStruct 31 = .ok (.invokevirtual 237, 3) := by decide +kernel
theorem dX6_readStruct_34 : decode cX6_readStruct 34 = .ok (.ifCond .eq 7, 3) := by decide +kernel
theorem dX6_readStruct_37 : decode cX6_readStruct 37 = .ok (.iconst 1, 1) := by decide +kernel
theorem dX6_readStruct_38 : decode cX6_readStruct 38 = .ok (.goto 4, 3) := by decide +kernel
theorem dX6_readStruct_41 : decode cX6_readStruct 41 = .ok (.iconst 0, 1) := by decide +kernel
theorem dX6_readStruct_42 : decode cX6_readStruct 42 = .ok (.ireturn, 1) := by decide +kernel
theorem dX6_readStructure_0 : decode cX6_readStructure 0 = .ok (.aload_n 0, 1) := by decide +kernel
theorem dX6_readStructure_1 : decode cX6_readStructure 1 = .ok (.getfield 66, 3) := by decide +kernel
theorem dX6_readStructure_4 : decode cX6_readStructure 4 = .ok (.getfield 162, 3) := by decide +kernel
theorem dX6_readStructure_7 : decode cX6_readStructure 7 = .ok (.istore_n 1, 1) := by decide +kernel
theorem dX6_readStructure_8 : decode cX6_readStructure 8 = .ok (.aload_n 0, 1) := by decide +kernel
theorem dX6_readStructure_9 : decode cX6_readStructure 9 = .ok (.iload_n 1, 1) := by decide +kernel
theorem dX6_readStructure_10 : decode cX6_readStructure 10 = .ok (.bipush 20, 2) := by decide +kernel
theorem dX6_readStructure_12 : decode cX6_readStructure 12 = .ok (.if_icmp .ge 7, 3) := by decide +kernel
theorem dX6_readStructure_15 : decode cX6_readStructure 15 = .ok (.iconst 1, 1) := by decide +kernel
theorem dX6_readStructure_16 : decode cX6_readStructure 16 = .ok (.goto 4, 3) := by decide +kernel
theorem dX6_readStructure_19 : decode cX6_readStructure 19 = .ok (.iconst 0, 1) := by decide +kernel
theorem dX6_readStructure_20 : decode cX6_readStructure 20 = .ok (.iconst 5, 1) := by decide +kernel
theorem dX6_readStructure_21 : decode cX6_readStructure 21 = .ok (.invokevirtual 28, 3) := by decide +kernel
theorem dX6_readStructure_24 : decode cX6_readStructure 24 = .ok (.ifCond .ne 5, 3) := by decide +kernel
theorem dX6_readStructure_27 : decode cX6_readStructure 27 = .ok (.iconst 0, 1) := by decide +kernel
theorem dX6_readStructure_28 : decode cX6_readStructure 28 = .ok (.ireturn, 1) := by decide +kernel
theorem dX6_readStructure_29 : decode cX6_readStructure 29 = .ok (.aload_n 0, 1) := by decide +kernel
theorem dX6_readStructure_30 : decode cX6_readStructure 30 = .ok (.invokevirtual 100, 3) := by decide +kernel
theorem dX6_readStructure_33 : decode cX6_readStructure 33 = .ok (.aload_n 0, 1) := by decide +kernel
theorem dX6_readStructure_34 : decode cX6_readStructure 34 = .ok (.invokevirtual 130, 3) := by decide +kernel
theorem dX6_readStructure_37 : decode cX6_readStructure 37 = .ok (.ifCond .ne 5, 3) := by decide +kernel
theorem dX6_readStructure_40 : decode cX6_readStructure 40 = .ok (.iconst 0, 1) := by decide +kernel
theorem dX6_readStructure_41 : decode cX6_readStructure 41 = .ok (.ireturn, 1) := by decide +kernel
theorem dX6_readStructure_42 : decode cX6_readStructure 42 = .ok (.aload_n 0, 1) := by decide +kernel
theorem dX6_readStructure_43 : decode cX6_readStructure 43 = .ok (.aload_n 0, 1) := by decide +kernel
theorem dX6_readStructure_44 : decode cX6_readStructure 44 = .ok (.getfield 66, 3) := by decide +kernel
theorem dX6_readStructure_47 : decode cX6_readStructure 47 = .ok (.getfield 50, 3) := by decide +kernel
theorem dX6_readStructure_50 : decode cX6_readStructure 50 = .ok (.iload_n 1, 1) := by decide +kernel
theorem dX6_readStructure_51 : decode cX6_readStructure 51 = .ok (.aaload, 1) := by decide +kernel
theorem dX6_readStructure_52 : decode cX6_readStructure 52 = .ok (.putfield 54, 3) := by decide +kernel
theorem dX6_readStructure_55 : decode cX6_readStructure 55 = .ok (.aload_n 0, 1) := by decide +kernel
theorem dX6_readStructure_56 : decode cX6_readStructure 56 = .ok (.getfield 54, 3) := by decide +kernel
theorem dX6_readStructure_59 : decode cX6_readStructure 59 = .ok (.aload_n 0, 1) := by decide +kernel
theorem dX6_readStructure_60 : decode cX6_readStructure 60 = .ok (.getfield 90, 3) := by decide +kernel
theorem dX6_readStructure_63 : decode cX6_readStructure 63 = .ok (.putfield 165, 3) := by decide +kernel
theorem dX6_readStructure_66 : decode cX6_readStructure 66 = .ok (.aload_n 0, 1) := by decide +kernel
theorem dX6_readStructure_67 : decode cX6_readStructure 67 = .ok (.getfield 54, 3) := by decide +kernel
theorem dX6_readStructure_70 : decode cX6_readStructure 70 = .ok (.iconst 0, 1) := by decide +kernel
theorem dX6_readStructure_71 : decode cX6_readStructure 71 = .ok (.putfield 170, 3) := by decide +kernel
theorem dX6_readStructure_74 : decode cX6_readStructure 74 = .ok (.aload_n 0, 1) := by decide +kernel
theorem dX6_readStructure_75 : decode cX6_readStructure 75 = .ok (.invokevirtual 100, 3) := by decide +kernel
theorem dX6_readStructure_78 : decode cX6_readStructure 78 = .ok (.aload_n 0, 1) := by decide +kernel
theorem dX6_readStructure_79 : decode cX6_readStructure 79 = .ok (.bipush 123, 2) := by decide +kernel
theorem dX6_readStructure_81 : decode cX6_readStructure 81 = .ok (.invokevirtual 116, 3) := by decide +kernel
theorem dX6_readStructure_84 : decode cX6_readStructure 84 = .ok (.ifCond .ne 5, 3) := by decide +kernel
theorem dX6_readStructure_87 : decode cX6_readStructure 87 = .ok (.iconst 0, 1) := by decide +kernel
theorem dX6_readStructure_88 : decode cX6_readStructure 88 = .ok (.ireturn, 1) := by decide +kernel
theorem dX6_readStructure_89 : decode cX6_readStructure 89 = .ok (.iconst 0, 1) := by decide +kernel
theorem dX6_readStructure_90 : decode cX6_readStructure 90 = .ok (.istore_n 2, 1) := by decide +kernel
theorem dX6_readStructure_91 : decode cX6_readStructure 91 = .ok (.iload_n 2, 1) := by decide +kernel
theorem dX6_readStructure_92 : decode cX6_readStructure 92 = .ok (.bipush 14, 2) := by decide +kernel
theorem dX6_readStructure_94 : decode cX6_readStructure 94 = .ok (.if_icmp .gt 27, 3) := by decide +kernel
theorem dX6_readStructure_97 : decode cX6_readStructure 97 = .ok (.aload_n 0, 1) := by decide +kernel
theorem dX6_readStructure_98 : decode cX6_readStructure 98 = .ok (.getfield 24, 3) := by decide +kernel
theorem dX6_readStructure_101 : decode cX6_readStructure 101 = .ok (.bipush 125, 2) := by decide +kernel
theorem dX6_readStructure_103 : decode cX6_readStructure 103 = .ok (.if_icmp .eq 18, 3) := by decide +kernel
theorem dX6_readStructure_106 : decode cX6_readStructure 106 = .ok (.aload_n 0, 1) := by decide +kernel
theorem dX6_readStructure_107 : decode cX6_readStructure 107 = .ok (.invokevirtual 173, 3) := by decide +kernel
theorem dX6_readStructure_110 : decode cX6_readStructure 110 = .ok (.ifCond .ne 5, 3) := by decide +kernel
theorem dX6_readStructure_113 : decode cX6_readStructure 113 = .ok (.iconst 0, 1) := by decide +kernel
theorem dX6_readStructure_114 : decode cX6_readStructure 114 = .ok (.ireturn, 1) := by decide +kernel
theorem dX6_readStructure_115 : decode cX6_readStructure 115 = .ok (.iinc 2 1, 3) := by decide +kernel
theorem dX6_readStructure_118 : decode cX6_readStructure 118 = .ok (.goto (-27), 3) := by decide +kernel
theorem dX6_readStructure_121 : decode cX6_readStructure 121 = .ok (.aload_n 0, 1) := by decide +kernel
theorem dX6_readStructure_122 : decode cX6_readStructure 122 = .ok (.getfield 54, 3) := by decide +kernel
theorem dX6_readStructure_125 : decode cX6_readStructure 125 = .ok (.aload_n 0, 1) := by decide +kernel
theorem dX6_readStructure_126 : decode cX6_readStructure 126 = .ok (.getfield 66, 3) := by decide +kernel
theorem dX6_readStructure_129 : decode cX6_readStructure 129 = .ok (.aload_n 0, 1) := by decide +kernel
theorem dX6_readStructure_130 : decode cX6_readStructure 130 = .ok (.getfield 54, 3) := by decide +kernel
theorem dX6_readStructure_133 : decode cX6_readStructure 133 = .ok (.invokevirtual 176, 3) := by decide +kernel
theorem dX6_readStructure_136 : decode cX6_readStructure 136 = .ok (.putfield 180, 3) := by decide +kernel
theorem dX6_readStructure_139 : decode cX6_readStructure 139 = .ok (.aload_n 0, 1) := by decide +kernel
theorem dX6_readStructure_140 : decode cX6_readStructure 140 = .ok (.getfield 66, 3) := by decide +kernel
theorem dX6_readStructure_143 : decode cX6_readStructure 143 = .ok (.dup, 1) := by decide +kernel
theorem dX6_readStructure_144 : decode cX6_readStructure 144 = .ok (.getfield 162, 3) := by decide +kernel
theorem dX6_readStructure_147 : decode cX6_readStructure 147 = .ok (.iconst 1, 1) := by decide +kernel
theorem dX6_readStructure_148 : decode cX6_readStructure 148 = .ok (.iadd, 1) := by decide +kernel
theorem dX6_readStructure_149 : decode cX6_readStructure 149 = .ok (.putfield 162, 3) := by decide +kernel
theorem dX6_readStructure_152 : decode cX6_readStructure 152 = .ok (.aload_n 0, 1) := by decide +kernel
theorem dX6_readStructure_153 : decode cX6_readStructure 153 = .ok (.bipush 125, 2) := by decide +kernel
theorem dX6_readStructure_155 : decode cX6_readStructure 155 = .ok (.invokevirtual 116, 3) := by decide +kernel
theorem dX6_readStructure_158 : decode cX6_readStructure 158 = .ok (.ireturn, 1) := by decide +kernel
theorem dX6_readSum_0 : decode cX6_readSum 0 = .ok (.aload_n 0, 1) := by decide +kernel
theorem dX6_readSum_1 : decode cX6_readSum 1 = .ok (.getfield 106, 3) := by decide +kernel
theorem dX6_readSum_4 : decode cX6_readSum 4 = .ok (.bipush 10, 2) := by decide +kernel
theorem dX6_readSum_6 : decode cX6_readSum 6 = .ok (.putfield 229, 3) := by decide +kernel
theorem dX6_readSum_9 : decode cX6_readSum 9 = .ok (.aload_n 0, 1) := by decide +kernel
theorem dX6_readSum_10 : decode cX6_readSum 10 = .ok (.invokevirtual 100, 3) := by decide +kernel
theorem dX6_readSum_13 : decode cX6_readSum 13 = .ok (.aload_n 0, 1) := by decide +kernel
theorem dX6_readSum_14 : decode cX6_readSum 14 = .ok (.getfield 106, 3) := by decide +kernel
theorem dX6_readSum_17 : decode cX6_readSum 17 = .ok (.aload_n 0, 1) := by decide +kernel
theorem dX6_readSum_18 : decode cX6_readSum 18 = .ok (.getfield 24, 3) := by decide +kernel
theorem dX6_readSum_21 : decode cX6_readSum 21 = .ok (.i2l, 1) := by decide +kernel
theorem dX6_readSum_22 : decode cX6_readSum 22 = .ok (.putfield 276, 3) := by decide +kernel
theorem dX6_readSum_25 : decode cX6_readSum 25 = .ok (.aload_n 0, 1) := by decide +kernel
theorem dX6_readSum_26 : decode cX6_readSum 26 = .ok (.aload_n 0, 1) := by decide +kernel
theorem dX6_readSum_27 : decode cX6_readSum 27 = .ok (.getfield 24, 3) := by decide +kernel
theorem dX6_readSum_30 : decode cX6_readSum 30 = .ok (.sipush 217, 3) := by decide +kernel
theorem dX6_readSum_33 : decode cX6_readSum 33 = .ok (.if_icmp .lt 17, 3) := by decide +kernel
theorem dX6_readSum_36 : decode cX6_readSum 36 = .ok (.aload_n 0, 1) := by decide +kernel
theorem dX6_readSum_37 : decode cX6_readSum 37 = .ok (.getfield 24, 3) := by decide +kernel
theorem dX6_readSum_40 : decode cX6_readSum 40 = .ok (.sipush 220, 3) := by decide +kernel
theorem dX6_readSum_43 : decode cX6_readSum 43 = .ok (.if_icmp .gt 7, 3) := by decide +kernel
theorem dX6_readSum_46 : decode cX6_readSum 46 = .ok (.iconst 1, 1) := by decide +kernel
theorem dX6_readSum_47 : decode cX6_readSum 47 = .ok (.goto 4, 3) := by decide +kernel
theorem dX6_readSum_50 : decode cX6_readSum 50 = .ok (.iconst 0, 1) := by decide +kernel
theorem dX6_readSum_51 : decode cX6_readSum 51 = .ok (.iconst 2, 1) := by decide +kernel
theorem dX6_readSum_52 : decode cX6_readSum 52 = .ok (.invokevirtual 28, 3) := by decide +kernel
theorem dX6_readSum_55 : decode cX6_readSum 55 = .ok (.ifCond .ne 5, 3) := by decide +kernel
theorem dX6_readSum_58 : decode cX6_readSum 58 = .ok (.iconst 0, 1) := by decide +kernel
theorem dX6_readSum_59 : decode cX6_readSum 59 = .ok (.ireturn, 1) := by decide +kernel
theorem dX6_readSum_60 : decode cX6_readSum 60 = .ok (.aload_n 0, 1) := by decide +kernel
theorem dX6_readSum_61 : decode cX6_readSum 61 = .ok (.invokevirtual 100, 3) := by decide +kernel
theorem dX6_readSum_64 : decode cX6_readSum 64 = .ok (.aload_n 0, 1) := by decide +kernel
theorem dX6_readSum_65 : decode cX6_readSum 65 = .ok (.invokevirtual 234, 3) := by decide +kernel
theorem dX6_readSum_68 : decode cX6_readSum 68 = .ok (.ifCond .eq 20, 3) := by decide +kernel
theorem dX6_readSum_71 : decode cX6_readSum 71 = .ok (.aload_n 0, 1) := by decide +kernel
theorem dX6_readSum_72 : decode cX6_readSum 72 = .ok (.invokevirtual 237, 3) := by decide +kernel
theorem dX6_readSum_75 : decode cX6_readSum 75 = .ok (.ifCond .eq 13, 3) := by decide +kernel
theorem dX6_readSum_78 : decode cX6_readSum 78 = .ok (.aload_n 0, 1) := by decide +kernel
theorem dX6_readSum_79 : decode cX6_readSum 79 = .ok (.sipush 221, 3) := by decide +kernel
theorem dX6_readSum_82 : decode cX6_readSum 82 = .ok (.invokevirtual 116, 3) := by decide +kernel
theorem dX6_readSum_85 : decode cX6_readSum 85 = .ok (.ifCond .ne 5, 3) := by decide +kernel
theorem dX6_readSum_88 : decode cX6_readSum 88 = .ok (.iconst 0, 1) := by decide +kernel
theorem dX6_readSum_89 : decode cX6_readSum 89 = .ok (.ireturn, 1) := by decide +kernel
theorem dX6_readSum_90 : decode cX6_readSum 90 = .ok (.aload_n 0, 1) := by decide +kernel
theorem dX6_readSum_91 : decode cX6_readSum 91 = .ok (.getfield 106, 3) := by decide +kernel
theorem dX6_readSum_94 : decode cX6_readSum 94 = .ok (.aload_n 0, 1) := by decide +kernel
theorem dX6_readSum_95 : decode cX6_readSum 95 = .ok (.invokevirtual 58, 3) := by decide +kernel
theorem dX6_readSum_98 : decode cX6_readSum 98 = .ok (.putfield 251, 3) := by decide +kernel
theorem dX6_readSum_101 : decode cX6_readSum 101 = .ok (.aload_n 0, 1) := by decide +kernel
theorem dX6_readSum_102 : decode cX6_readSum 102 = .ok (.getfield 106, 3) := by decide +kernel
theorem dX6_readSum_105 : decode cX6_readSum 105 = .ok (.getfield 251, 3) := by decide +kernel
theorem dX6_readSum_108 : decode cX6_readSum 108 = .ok (.iconst (-1), 1) := by decide +kernel
theorem dX6_readSum_109 : decode cX6_readSum 109 = .ok (.if_icmp .eq 12, 3) := by decide +kernel
theorem dX6_readSum_112 : decode cX6_readSum 112 = .ok (.aload_n 0, 1) := by decide +kernel
theorem dX6_readSum_113 : decode cX6_readSum 113 = .ok (.bipush 44, 2) := by decide +kernel
theorem dX6_readSum_115 : decode cX6_readSum 115 = .ok (.invokevirtual 116, 3) := by decide +kernel
theorem dX6_readSum_118 : decode cX6_readSum 118 = .ok (.ifCond .ne 5, 3) := by decide +kernel
theorem dX6_readSum_121 : decode cX6_readSum 121 = .ok (.iconst 0, 1) := by decide +kernel
theorem dX6_readSum_122 : decode cX6_readSum 122 = .ok (.ireturn, 1) := by decide +kernel
theorem dX6_readSum_123 : decode cX6_readSum 123 = .ok (.aload_n 0, 1) := by decide +kernel
theorem dX6_readSum_124 : decode cX6_readSum 124 = .ok (.getfield 106, 3) := by decide +kernel
theorem dX6_readSum_127 : decode cX6_readSum 127 = .ok (.aload_n 0, 1) := by decide +kernel
theorem dX6_readSum_128 : decode cX6_readSum 128 = .ok (.invokevirtual 58, 3) := by decide +kernel
theorem dX6_readSum_131 : decode cX6_readSum 131 = .ok (.putfield 298, 3) := by decide +kernel
theorem dX6_readSum_134 : decode cX6_readSum 134 = .ok (.aload_n 0, 1) := by decide +kernel
theorem dX6_readSum_135 : decode cX6_readSum 135 = .ok (.getfield 106, 3) := by decide +kernel
theorem dX6_readSum_138 : decode cX6_readSum 138 = .ok (.getfield 298, 3) := by decide +kernel
theorem dX6_readSum_141 : decode cX6_readSum 141 = .ok (.iconst (-1), 1) := by decide +kernel
theorem dX6_readSum_142 : decode cX6_readSum 142 = .ok (.if_icmp .eq 7, 3) := by decide +kernel
theorem dX6_readSum_145 : decode cX6_readSum 145 = .ok (.iconst 1, 1) := by decide +kernel
theorem dX6_readSum_146 : decode cX6_readSum 146 = .ok (.goto 4, 3) := by decide +kernel
theorem dX6_readSum_149 : decode cX6_readSum 149 = .ok (.iconst 0, 1) := by decide +kernel
theorem dX6_readSum_150 : decode cX6_readSum 150 = .ok (.ireturn, 1) := by decide +kernel
theorem dX6_readTail_0 : decode cX6_readTail 0 = .ok (.aload_n 0, 1) := by decide +kernel
theorem dX6_readTail_1 : decode cX6_readTail 1 = .ok (.getfield 106, 3) := by decide +kernel
theorem dX6_readTail_4 : decode cX6_readTail 4 = .ok (.getfield 229, 3) := by decide +kernel
theorem dX6_readTail_7 : decode cX6_readTail 7 = .ok (.iconst 1, 1) := by decide +kernel
theorem dX6_readTail_8 : decode cX6_readTail 8 = .ok (.if_icmp .ne 41, 3) := by decide +kernel
theorem dX6_readTail_11 : decode cX6_readTail 11 = .ok (.aload_n 0, 1) := by decide +kernel
theorem dX6_readTail_12 : decode cX6_readTail 12 = .ok (.sipush 203, 3) := by decide +kernel
theorem dX6_readTail_15 : decode cX6_readTail 15 = .ok (.invokevirtual 148, 3) := by decide +kernel
theorem dX6_readTail_18 : decode cX6_readTail 18 = .ok (.ifCond .eq 31, 3) := by decide +kernel
theorem dX6_readTail_21 : decode cX6_readTail 21 = .ok (.aload_n 0, 1) := by decide +kernel
theorem dX6_readTail_22 : decode cX6_readTail 22 = .ok (.getfield 106, 3) := by decide +kernel
theorem dX6_readTail_25 : decode cX6_readTail 25 = .ok (.aload_n 0, 1) := by decide +kernel
theorem dX6_readTail_26 : decode cX6_readTail 26 = .ok (.invokevirtual 245, 3) := by decide +kernel
theorem dX6_readTail_29 : decode cX6_readTail 29 = .ok (.putfield 248, 3) := by decide +kernel
theorem dX6_readTail_32 : decode cX6_readTail 32 = .ok (.aload_n 0, 1) := by decide +kernel
theorem dX6_readTail_33 : decode cX6_readTail 33 = .ok (.getfield 106, 3) := by decide +kernel
theorem dX6_readTail_36 : decode cX6_readTail 36 = .ok (.getfield 248, 3) := by decide +kernel
theorem dX6_readTail_39 : decode cX6_readTail 39 = .ok (.iconst (-1), 1) := by decide +kernel
theorem dX6_readTail_40 : decode cX6_readTail 40 = .ok (.if_icmp .eq 7, 3) := by decide +kernel
theorem dX6_readTail_43 : decode cX6_readTail 43 = .ok (.iconst 1, 1) := by decide +kernel
theorem dX6_readTail_44 : decode cX6_readTail 44 = .ok (.goto 4, 3) := by decide +kernel
theorem dX6_readTail_47 : decode cX6_readTail 47 = .ok (.iconst 0, 1) := by decide +kernel
theorem dX6_readTail_48 : decode cX6_readTail 48 = .ok (.ireturn, 1) := by decide +kernel
theorem dX6_readTail_49 : decode cX6_readTail 49 = .ok (.aload_n 0, 1) := by decide +kernel
theorem dX6_readTail_50 : decode cX6_readTail 50 = .ok (.bipush 91, 2) := by decide +kernel
theorem dX6_readTail_52 : decode cX6_readTail 52 = .ok (.invokevirtual 148, 3) := by decide +kernel
theorem dX6_readTail_55 : decode cX6_readTail 55 = .ok (.ifCond .ne 5, 3) := by decide +kernel
theorem dX6_readTail_58 : decode cX6_readTail 58 = .ok (.iconst 1, 1) := by decide +kernel
theorem dX6_readTail_59 : decode cX6_readTail 59 = .ok (.ireturn, 1) := by decide +kernel
theorem dX6_readTail_60 : decode cX6_readTail 60 = .ok (.aload_n 0, 1) := by decide +kernel
theorem dX6_readTail_61 : decode cX6_readTail 61 = .ok (.getfield 106, 3) := by decide +kernel
theorem dX6_readTail_64 : decode cX6_readTail 64 = .ok (.iconst 2, 1) := by decide +kernel
theorem dX6_readTail_65 : decode cX6_readTail 65 = .ok (.putfield 229, 3) := by decide +kernel
theorem dX6_readTail_68 : decode cX6_readTail 68 = .ok (.aload_n 0, 1) := by decide +kernel
theorem dX6_readTail_69 : decode cX6_readTail 69 = .ok (.getfield 24, 3) := by decide +kernel
theorem dX6_readTail_72 : decode cX6_readTail 72 = .ok (.bipush 93, 2) := by decide +kernel
theorem dX6_readTail_74 : decode cX6_readTail 74 = .ok (.if_icmp .eq 40, 3) := by decide +kernel
theorem dX6_readTail_77 : decode cX6_readTail 77 = .ok (.aload_n 0, 1) := by decide +kernel
theorem dX6_readTail_78 : decode cX6_readTail 78 = .ok (.getfield 106, 3) := by decide +kernel
theorem dX6_readTail_81 : decode cX6_readTail 81 = .ok (.aload_n 0, 1) := by decide +kernel
theorem dX6_readTail_82 : decode cX6_readTail 82 = .ok (.invokevirtual 58, 3) := by decide +kernel
theorem dX6_readTail_85 : decode cX6_readTail 85 = .ok (.putfield 251, 3) := by decide +kernel
theorem dX6_readTail_88 : decode cX6_readTail 88 = .ok (.aload_n 0, 1) := by decide +kernel
theorem dX6_readTail_89 : decode cX6_readTail 89 = .ok (.getfield 106, 3) := by decide +kernel
theorem dX6_readTail_92 : decode cX6_readTail 92 = .ok (.getfield 251, 3) := by decide +kernel
theorem dX6_readTail_95 : decode cX6_readTail 95 = .ok (.iconst (-1), 1) := by decide +kernel
theorem dX6_readTail_96 : decode cX6_readTail 96 = .ok (.if_icmp .eq 16, 3) := by decide +kernel
theorem dX6_readTail_99 : decode cX6_readTail 99 = .ok (.aload_n 0, 1) := by decide +kernel
theorem dX6_readTail_100 : decode cX6_readTail 100 = .ok (.bipush 93, 2) := by decide +kernel
theorem dX6_readTail_102 : decode cX6_readTail 102 = .ok (.invokevirtual 116, 3) := by decide +kernel
theorem dX6_readTail_105 : decode cX6_readTail 105 = .ok (.ifCond .eq 7, 3) := by decide +kernel
theorem dX6_readTail_108 : decode cX6_readTail 108 = .ok (.iconst 1, 1) := by decide +kernel
theorem dX6_readTail_109 : decode cX6_readTail 109 = .ok (.goto 4, 3) := by decide +kernel
theorem dX6_readTail_112 : decode cX6_readTail 112 = .ok (.iconst 0, 1) := by decide +kernel
theorem dX6_readTail_113 : decode cX6_readTail 113 = .ok (.ireturn, 1) := by decide +kernel
theorem dX6_readTail_114 : decode cX6_readTail 114 = .ok (.aload_n 0, 1) := by decide +kernel
theorem dX6_readTail_115 : decode cX6_readTail 115 = .ok (.getfield 106, 3) := by decide +kernel
theorem dX6_readTail_118 : decode cX6_readTail 118 = .ok (.getfield 243, 3) := by decide +kernel
theorem dX6_readTail_121 : decode cX6_readTail 121 = .ok (.iconst (-1), 1) := by decide +kernel
theorem dX6_readTail_122 : decode cX6_readTail 122 = .ok (.if_icmp .eq 20, 3) := by decide +kernel
theorem dX6_readTail_125 : decode cX6_readTail 125 = .ok (.aload_n 0, 1) := by decide +kernel
theorem dX6_readTail_126 : decode cX6_readTail 126 = .ok (.getfield 66, 3) := by decide +kernel
theorem dX6_readTail_129 : decode cX6_readTail 129 = .ok (.aload_n 0, 1) := by decide +kernel
theorem dX6_readTail_130 : decode cX6_readTail 130 = .ok (.getfield 106, 3) := by decide +kernel
theorem dX6_readTail_133 : decode cX6_readTail 133 = .ok (.getfield 243, 3) := by decide +kernel
theorem dX6_readTail_136 : decode cX6_readTail 136 = .ok (.invokevirtual 254, 3) := by decide +kernel
theorem dX6_readTail_139 : decode cX6_readTail 139 = .ok (.ifCond .le 7, 3) := by decide +kernel
theorem dX6_readTail_142 : decode cX6_readTail 142 = .ok (.iconst 1, 1) := by decide +kernel
theorem dX6_readTail_143 : decode cX6_readTail 143 = .ok (.goto 4, 3) := by decide +kernel
theorem dX6_readTail_146 : decode cX6_readTail 146 = .ok (.iconst 0, 1) := by decide +kernel
theorem dX6_readTail_147 : decode cX6_readTail 147 = .ok (.istore_n 1, 1) := by decide +kernel
theorem dX6_readTail_148 : decode cX6_readTail 148 = .ok (.aload_n 0, 1) := by decide +kernel
theorem dX6_readTail_149 : decode cX6_readTail 149 = .ok (.iload_n 1, 1) := by decide +kernel
theorem dX6_readTail_150 : decode cX6_readTail 150 = .ok (.bipush 6, 2) := by decide +kernel
theorem dX6_readTail_152 : decode cX6_readTail 152 = .ok (.invokevirtual 28, 3) := by decide +kernel
theorem dX6_readTail_155 : decode cX6_readTail 155 = .ok (.ifCond .eq 16, 3) := by decide +kernel
theorem dX6_readTail_158 : decode cX6_readTail 158 = .ok (.aload_n 0, 1) := by decide +kernel
theorem dX6_readTail_159 : decode cX6_readTail 159 = .ok (.bipush 93, 2) := by decide +kernel
theorem dX6_readTail_161 : decode cX6_readTail 161 = .ok (.invokevirtual 116, 3) := by decide +kernel
theorem dX6_readTail_164 : decode cX6_readTail 164 = .ok (.ifCond .eq 7, 3) := by decide +kernel
theorem dX6_readTail_167 : decode cX6_readTail 167 = .ok (.iconst 1, 1) := by decide +kernel
theorem dX6_readTail_168 : decode cX6_readTail 168 = .ok (.goto 4, 3) := by decide +kernel
theorem dX6_readTail_171 : decode cX6_readTail 171 = .ok (.iconst 0, 1) := by decide +kernel
theorem dX6_readTail_172 : decode cX6_readTail 172 = .ok (.ireturn, 1) := by decide +kernel
theorem dX6_readText_0 : decode cX6_readText 0 = .ok (.aload_n 0, 1) := by decide +kernel
theorem dX6_readText_1 : decode cX6_readText 1 = .ok (.getfield 106, 3) := by decide +kernel
theorem dX6_readText_4 : decode cX6_readText 4 = .ok (.iconst 5, 1) := by decide +kernel
theorem dX6_readText_5 : decode cX6_readText 5 = .ok (.putfield 229, 3) := by decide +kernel
theorem dX6_readText_8 : decode cX6_readText 8 = .ok (.aload_n 0, 1) := by decide +kernel
theorem dX6_readText_9 : decode cX6_readText 9 = .ok (.invokevirtual 100, 3) := by decide +kernel
theorem dX6_readText_12 : decode cX6_readText 12 = .ok (.aload_n 0, 1) := by decide +kernel
theorem dX6_readText_13 : decode cX6_readText 13 = .ok (.invokevirtual 237, 3) := by decide +kernel
theorem dX6_readText_16 : decode cX6_readText 16 = .ok (.ifCond .ne 5, 3) := by decide +kernel
theorem dX6_readText_19 : decode cX6_readText 19 = .ok (.iconst 0, 1) := by decide +kernel
theorem dX6_readText_20 : decode cX6_readText 20 = .ok (.ireturn, 1) := by decide +kernel
theorem dX6_readText_21 : decode cX6_readText 21 = .ok (.aload_n 0, 1) := by decide +kernel
theorem dX6_readText_22 : decode cX6_readText 22 = .ok (.bipush 91, 2) := by decide +kernel
theorem dX6_readText_24 : decode cX6_readText 24 = .ok (.invokevirtual 148, 3) := by decide +kernel
theorem dX6_readText_27 : decode cX6_readText 27 = .ok (.ifCond .eq 40, 3) := by decide +kernel
theorem dX6_readText_30 : decode cX6_readText 30 = .ok (.aload_n 0, 1) := by decide +kernel
theorem dX6_readText_31 : decode cX6_readText 31 = .ok (.getfield 106, 3) := by decide +kernel
theorem dX6_readText_34 : decode cX6_readText 34 = .ok (.aload_n 0, 1) := by decide +kernel
theorem dX6_readText_35 : decode cX6_readText 35 = .ok (.invokevirtual 58, 3) := by decide +kernel
theorem dX6_readText_38 : decode cX6_readText 38 = .ok (.putfield 251, 3) := by decide +kernel
theorem dX6_readText_41 : decode cX6_readText 41 = .ok (.aload_n 0, 1) := by decide +kernel
theorem dX6_readText_42 : decode cX6_readText 42 = .ok (.getfield 106, 3) := by decide +kernel
theorem dX6_readText_45 : decode cX6_readText 45 = .ok (.getfield 251, 3) := by decide +kernel
theorem dX6_readText_48 : decode cX6_readText 48 = .ok (.iconst (-1), 1) := by decide +kernel
theorem dX6_readText_49 : decode cX6_readText 49 = .ok (.if_icmp .eq 16, 3) := by decide +kernel
theorem dX6_readText_52 : decode cX6_readText 52 = .ok (.aload_n 0, 1) := by decide +kernel
theorem dX6_readText_53 : decode cX6_readText 53 = .ok (.bipush 93, 2) := by decide +kernel
theorem dX6_readText_55 : decode cX6_readText 55 = .ok (.invokevirtual 116, 3) := by decide +kernel
theorem dX6_readText_58 : decode cX6_readText 58 = .ok (.ifCond .eq 7, 3) := by decide +kernel
theorem dX6_readText_61 : decode cX6_readText 61 = .ok (.iconst 1, 1) := by decide +kernel
theorem dX6_readText_62 : decode cX6_readText 62 = .ok (.goto 4, 3) := by decide +kernel
theorem dX6_readText_65 : decode cX6_readText 65 = .ok (.iconst 0, 1) := by decide +kernel
theorem dX6_readText_66 : decode cX6_readText 66 = .ok (.ireturn, 1) := by decide +kernel
theorem dX6_readText_67 : decode cX6_readText 67 = .ok (.aload_n 0, 1) := by decide +kernel
theorem dX6_readText_68 : decode cX6_readText 68 = .ok (.sipush 206, 3) := by decide +kernel
theorem dX6_readText_71 : decode cX6_readText 71 = .ok (.invokevirtual 116, 3) := by decide +kernel
theorem dX6_readText_74 : decode cX6_readText 74 = .ok (.ifCond .eq 14, 3) := by decide +kernel
theorem dX6_readText_77 : decode cX6_readText 77 = .ok (.aload_n 0, 1) := by decide +kernel
theorem dX6_readText_78 : decode cX6_readText 78 = .ok (.lconst 0, 1) := by decide +kernel
theorem dX6_readText_79 : decode cX6_readText 79 = .ok (.ldc2_w 274, 3) := by decide +kernel
theorem dX6_readText_82 : decode cX6_readText 82 = .ok (.invokevirtual 270, 3) := by decide +kernel
theorem dX6_readText_85 : decode cX6_readText 85 = .ok (.ifCond .ne 5, 3) := by decide +kernel
theorem dX6_readText_88 : decode cX6_readText 88 = .ok (.iconst 0, 1) := by decide +kernel
theorem dX6_readText_89 : decode cX6_readText 89 = .ok (.ireturn, 1) := by decide +kernel
theorem dX6_readText_90 : decode cX6_readText 90 = .ok (.aload_n 0, 1) := by decide +kernel
theorem dX6_readText_91 : decode cX6_readText 91 = .ok (.getfield 106, 3) := by decide +kernel
theorem dX6_readText_94 : decode cX6_readText 94 = .ok (.aload_n 0, 1) := by decide +kernel
theorem dX6_readText_95 : decode cX6_readText 95 = .ok (.getfield 103, 3) := by decide +kernel
theorem dX6_readText_98 : decode cX6_readText 98 = .ok (.putfield 276, 3) := by decide +kernel
theorem dX6_readText_101 : decode cX6_readText 101 = .ok (.iconst 1, 1) := by decide +kernel
theorem dX6_readText_102 : decode cX6_readText 102 = .ok (.ireturn, 1) := by decide +kernel
theorem dX6_readUnion_0 : decode cX6_readUnion 0 = .ok (.aload_n 0, 1) := by decide +kernel
theorem dX6_readUnion_1 : decode cX6_readUnion 1 = .ok (.getfield 106, 3) := by decide +kernel
theorem dX6_readUnion_4 : decode cX6_readUnion 4 = .ok (.bipush 6, 2) := by decide +kernel
theorem dX6_readUnion_6 : decode cX6_readUnion 6 = .ok (.putfield 229, 3) := by decide +kernel
theorem dX6_readUnion_9 : decode cX6_readUnion 9 = .ok (.aload_n 0, 1) := by decide +kernel
theorem dX6_readUnion_10 : decode cX6_readUnion 10 = .ok (.getfield 106, 3) := by decide +kernel
theorem dX6_readUnion_13 : decode cX6_readUnion 13 = .ok (.aload_n 0, 1) := by decide +kernel
theorem dX6_readUnion_14 : decode cX6_readUnion 14 = .ok (.getfield 66, 3) := by decide +kernel
theorem dX6_readUnion_17 : decode cX6_readUnion 17 = .ok (.getfield 139, 3) := by decide +kernel
theorem dX6_readUnion_20 : decode cX6_readUnion 20 = .ok (.putfield 230, 3) := by decide +kernel
theorem dX6_readUnion_23 : decode cX6_readUnion 23 = .ok (.aload_n 0, 1) := by decide +kernel
theorem dX6_readUnion_24 : decode cX6_readUnion 24 = .ok (.invokevirtual 100, 3) := by decide +kernel
theorem dX6_readUnion_27 : decode cX6_readUnion 27 = .ok (.aload_n 0, 1) := by decide +kernel
theorem dX6_readUnion_28 : decode cX6_readUnion 28 = .ok (.invokevirtual 237, 3) := by decide +kernel
theorem dX6_readUnion_31 : decode cX6_readUnion 31 = .ok (.ifCond .eq 13, 3) := by decide +kernel
theorem dX6_readUnion_34 : decode cX6_readUnion 34 = .ok (.aload_n 0, 1) := by decide +kernel
theorem dX6_readUnion_35 : decode cX6_readUnion 35 = .ok (.sipush 208, 3) := by decide +kernel
theorem dX6_readUnion_38 : decode cX6_readUnion 38 = .ok (.invokevirtual 116, 3) := by decide +kernel
theorem dX6_readUnion_41 : decode cX6_readUnion 41 = .ok (.ifCond .ne 5, 3) := by decide +kernel
theorem dX6_readUnion_44 : decode cX6_readUnion 44 = .ok (.iconst 0, 1) := by decide +kernel
theorem dX6_readUnion_45 : decode cX6_readUnion 45 = .ok (.ireturn, 1) := by decide +kernel
theorem dX6_readUnion_46 : decode cX6_readUnion 46 = .ok (.aload_n 0, 1) := by decide +kernel
theorem dX6_readUnion_47 : decode cX6_readUnion 47 = .ok (.getfield 106, 3) := by decide +kernel
theorem dX6_readUnion_50 : decode cX6_readUnion 50 = .ok (.aload_n 0, 1) := by decide +kernel
theorem dX6_readUnion_51 : decode cX6_readUnion 51 = .ok (.invokevirtual 58, 3) := by decide +kernel
theorem dX6_readUnion_54 : decode cX6_readUnion 54 = .ok (.putfield 251, 3) := by decide +kernel
theorem dX6_readUnion_57 : decode cX6_readUnion 57 = .ok (.aload_n 0, 1) := by decide +kernel
theorem dX6_readUnion_58 : decode cX6_readUnion 58 = .ok (.getfield 106, 3) := by decide +kernel
theorem dX6_readUnion_61 : decode cX6_readUnion 61 = .ok (.getfield 251, 3) := by decide +kernel
theorem dX6_readUnion_64 : decode cX6_readUnion 64 = .ok (.iconst (-1), 1) := by decide +kernel
theorem dX6_readUnion_65 : decode cX6_readUnion 65 = .ok (.if_icmp .eq 12, 3) := by decide +kernel
theorem dX6_readUnion_68 : decode cX6_readUnion 68 = .ok (.aload_n 0, 1) := by decide +kernel
theorem dX6_readUnion_69 : decode cX6_readUnion 69 = .ok (.bipush 123, 2) := by decide +kernel
theorem dX6_readUnion_71 : decode cX6_readUnion 71 = .ok (.invokevirtual 116, 3) := by decide +kernel
theorem dX6_readUnion_74 : decode cX6_readUnion 74 = .ok (.ifCond .ne 5, 3) := by decide +kernel
theorem dX6_readUnion_77 : decode cX6_readUnion 77 = .ok (.iconst 0, 1) := by decide +kernel
theorem dX6_readUnion_78 : decode cX6_readUnion 78 = .ok (.ireturn, 1) := by decide +kernel
theorem dX6_readUnion_79 : decode cX6_readUnion 79 = .ok (.iconst 1, 1) := by decide +kernel
theorem dX6_readUnion_80 : decode cX6_readUnion 80 = .ok (.istore_n 1, 1) := by decide +kernel
theorem dX6_readUnion_81 : decode cX6_readUnion 81 = .ok (.iconst 0, 1) := by decide +kernel
theorem dX6_readUnion_82 : decode cX6_readUnion 82 = .ok (.istore_n 2, 1) := by decide +kernel
theorem dX6_readUnion_83 : decode cX6_readUnion 83 = .ok (.iload_n 2, 1) := by decide +kernel
theorem dX6_readUnion_84 : decode cX6_readUnion 84 = .ok (.bipush 8, 2) := by decide +kernel
theorem dX6_readUnion_86 : decode cX6_readUnion 86 = .ok (.if_icmp .gt 45, 3) := by decide +kernel
theorem dX6_readUnion_89 : decode cX6_readUnion 89 = .ok (.iload_n 1, 1) := by decide +kernel
theorem dX6_readUnion_90 : decode cX6_readUnion 90 = .ok (.ifCond .eq 41, 3) := by decide +kernel
theorem dX6_readUnion_93 : decode cX6_readUnion 93 = .ok (.aload_n 0, 1) := by decide +kernel
theorem dX6_readUnion_94 : decode cX6_readUnion 94 = .ok (.invokevirtual 277, 3) := by decide +kernel
theorem dX6_readUnion_97 : decode cX6_readUnion 97 = .ok (.ifCond .ne 5, 3) := by decide +kernel
theorem dX6_readUnion_100 : decode cX6_readUnion 100 = .ok (.iconst 0, 1) := by decide +kernel
theorem dX6_readUnion_101 : decode cX6_readUnion 101 = .ok (.ireturn, 1) := by decide +kernel
theorem dX6_readUnion_102 : decode cX6_readUnion 102 = .ok (.aload_n 0, 1) := by decide +kernel
theorem dX6_readUnion_103 : decode cX6_readUnion 103 = .ok (.getfield 24, 3) := by decide +kernel
theorem dX6_readUnion_106 : decode cX6_readUnion 106 = .ok (.iconst 3, 1) := by decide +kernel
theorem dX6_readUnion_107 : decode cX6_readUnion 107 = .ok (.if_icmp .eq 12, 3) := by decide +kernel
theorem dX6_readUnion_110 : decode cX6_readUnion 110 = .ok (.aload_n 0, 1) := by decide +kernel
theorem dX6_readUnion_111 : decode cX6_readUnion 111 = .ok (.getfield 24, 3) := by decide +kernel
theorem dX6_readUnion_114 : decode cX6_readUnion 114 = .ok (.bipush 45, 2) := by decide +kernel
theorem dX6_readUnion_116 : decode cX6_readUnion 116 = .ok (.if_icmp .ne 7, 3) := by decide +kernel
theorem dX6_readUnion_119 : decode cX6_readUnion 119 = .ok (.iconst 1, 1) := by decide +kernel
theorem dX6_readUnion_120 : decode cX6_readUnion 120 = .ok (.goto 4, 3) := by decide +kernel
theorem dX6_readUnion_123 : decode cX6_readUnion 123 = .ok (.iconst 0, 1) := by decide +kernel
theorem dX6_readUnion_124 : decode cX6_readUnion 124 = .ok (.istore_n 1, 1) := by decide +kernel
theorem dX6_readUnion_125 : decode cX6_readUnion 125 = .ok (.iinc 2 1, 3) := by decide +kernel
theorem dX6_readUnion_128 : decode cX6_readUnion 128 = .ok (.goto (-45), 3) := by decide +kernel
theorem dX6_readUnion_131 : decode cX6_readUnion 131 = .ok (.aload_n 0, 1) := by decide +kernel
theorem dX6_readUnion_132 : decode cX6_readUnion 132 = .ok (.sipush 209, 3) := by decide +kernel
theorem dX6_readUnion_135 : decode cX6_readUnion 135 = .ok (.invokevirtual 148, 3) := by decide +kernel
theorem dX6_readUnion_138 : decode cX6_readUnion 138 = .ok (.ifCond .eq 36, 3) := by decide +kernel
theorem dX6_readUnion_141 : decode cX6_readUnion 141 = .ok (.aload_n 0, 1) := by decide +kernel
theorem dX6_readUnion_142 : decode cX6_readUnion 142 = .ok (.getfield 106, 3) := by decide +kernel
theorem dX6_readUnion_145 : decode cX6_readUnion 145 = .ok (.aload_n 0, 1) := by decide +kernel
theorem dX6_readUnion_146 : decode cX6_readUnion 146 = .ok (.invokevirtual 240, 3) := by decide +kernel
theorem dX6_readUnion_149 : decode cX6_readUnion 149 = .ok (.putfield 280, 3) := by decide +kernel
theorem dX6_readUnion_152 : decode cX6_readUnion 152 = .ok (.aload_n 0, 1) := by decide +kernel
theorem dX6_readUnion_153 : decode cX6_readUnion 153 = .ok (.getfield 106, 3) := by decide +kernel
theorem dX6_readUnion_156 : decode cX6_readUnion 156 = .ok (.getfield 280, 3) := by decide +kernel
theorem dX6_readUnion_159 : decode cX6_readUnion 159 = .ok (.iconst (-1), 1) := by decide +kernel
theorem dX6_readUnion_160 : decode cX6_readUnion 160 = .ok (.if_icmp .eq 12, 3) := by decide +kernel
theorem dX6_readUnion_163 : decode cX6_readUnion 163 = .ok (.aload_n 0, 1) := by decide +kernel
theorem dX6_readUnion_164 : decode cX6_readUnion 164 = .ok (.bipush 59, 2) := by decide +kernel
theorem dX6_readUnion_166 : decode cX6_readUnion 166 = .ok (.invokevirtual 116, 3) := by decide +kernel
theorem dX6_readUnion_169 : decode cX6_readUnion 169 = .ok (.ifCond .ne 5, 3) := by decide +kernel
theorem dX6_readUnion_172 : decode cX6_readUnion 172 = .ok (.iconst 0, 1) := by decide +kernel
theorem dX6_readUnion_173 : decode cX6_readUnion 173 = .ok (.ireturn, 1) := by decide +kernel
theorem dX6_readUnion_174 : decode cX6_readUnion 174 = .ok (.aload_n 0, 1) := by decide +kernel
theorem dX6_readUnion_175 : decode cX6_readUnion 175 = .ok (.bipush 125, 2) := by decide +kernel
theorem dX6_readUnion_177 : decode cX6_readUnion 177 = .ok (.invokevirtual 116, 3) := by decide +kernel
theorem dX6_readUnion_180 : decode cX6_readUnion 180 = .ok (.ireturn, 1) := by decide +kernel
theorem dX6_readWhole_0 : decode cX6_readWhole 0 = .ok (.aload_n 0, 1) := by decide +kernel
theorem dX6_readWhole_1 : decode cX6_readWhole 1 = .ok (.getfield 106, 3) := by decide +kernel
theorem dX6_readWhole_4 : decode cX6_readWhole 4 = .ok (.iconst 1, 1) := by decide +kernel
theorem dX6_readWhole_5 : decode cX6_readWhole 5 = .ok (.putfield 229, 3) := by decide +kernel
theorem dX6_readWhole_8 : decode cX6_readWhole 8 = .ok (.aload_n 0, 1) := by decide +kernel
theorem dX6_readWhole_9 : decode cX6_readWhole 9 = .ok (.invokevirtual 234, 3) := by decide +kernel
theorem dX6_readWhole_12 : decode cX6_readWhole 12 = .ok (.ifCond .eq 14, 3) := by decide +kernel
theorem dX6_readWhole_15 : decode cX6_readWhole 15 = .ok (.aload_n 0, 1) := by decide +kernel
theorem dX6_readWhole_16 : decode cX6_readWhole 16 = .ok (.invokevirtual 237, 3) := by decide +kernel
theorem dX6_readWhole_19 : decode cX6_readWhole 19 = .ok (.ifCond .eq 7, 3) := by decide +kernel
theorem dX6_readWhole_22 : decode cX6_readWhole 22 = .ok (.iconst 1, 1) := by decide +kernel
theorem dX6_readWhole_23 : decode cX6_readWhole 23 = .ok (.goto 4, 3) := by decide +kernel
theorem dX6_readWhole_26 : decode cX6_readWhole 26 = .ok (.iconst 0, 1) := by decide +kernel
theorem dX6_readWhole_27 : decode cX6_readWhole 27 = .ok (.ireturn, 1) := by decide +kernel
theorem dX6_start_0 : decode cX6_start 0 = .ok (.aload_n 0, 1) := by decide +kernel
theorem dX6_start_1 : decode cX6_start 1 = .ok (.aload_n 1, 1) := by decide +kernel
theorem dX6_start_2 : decode cX6_start 2 = .ok (.putfield 62, 3) := by decide +kernel
theorem dX6_start_5 : decode cX6_start 5 = .ok (.aload_n 0, 1) := by decide +kernel
theorem dX6_start_6 : decode cX6_start 6 = .ok (.aload_n 2, 1) := by decide +kernel
theorem dX6_start_7 : decode cX6_start 7 = .ok (.putfield 66, 3) := by decide +kernel
theorem dX6_start_10 : decode cX6_start 10 = .ok (.aload_n 0, 1) := by decide +kernel
theorem dX6_start_11 : decode cX6_start 11 = .ok (.aload_n 3, 1) := by decide +kernel
theorem dX6_start_12 : decode cX6_start 12 = .ok (.putfield 70, 3) := by decide +kernel
theorem dX6_start_15 : decode cX6_start 15 = .ok (.aload_n 0, 1) := by decide +kernel
theorem dX6_start_16 : decode cX6_start 16 = .ok (.iconst 0, 1) := by decide +kernel
theorem dX6_start_17 : decode cX6_start 17 = .ok (.putfield 71, 3) := by decide +kernel
theorem dX6_start_20 : decode cX6_start 20 = .ok (.aload_n 0, 1) := by decide +kernel
theorem dX6_start_21 : decode cX6_start 21 = .ok (.iconst 0, 1) := by decide +kernel
theorem dX6_start_22 : decode cX6_start 22 = .ok (.putfield 74, 3) := by decide +kernel
theorem dX6_start_25 : decode cX6_start 25 = .ok (.aload_n 0, 1) := by decide +kernel
theorem dX6_start_26 : decode cX6_start 26 = .ok (.iconst 0, 1) := by decide +kernel
theorem dX6_start_27 : decode cX6_start 27 = .ok (.putfield 77, 3) := by decide +kernel
theorem dX6_start_30 : decode cX6_start 30 = .ok (.aload_n 0, 1) := by decide +kernel
theorem dX6_start_31 : decode cX6_start 31 = .ok (.aload_n 1, 1) := by decide +kernel
theorem dX6_start_32 : decode cX6_start 32 = .ok (.getfield 80, 3) := by decide +kernel
theorem dX6_start_35 : decode cX6_start 35 = .ok (.iconst 0, 1) := by decide +kernel
theorem dX6_start_36 : decode cX6_start 36 = .ok (.iaload, 1) := by decide +kernel
theorem dX6_start_37 : decode cX6_start 37 = .ok (.putfield 24, 3) := by decide +kernel
theorem dX6_start_40 : decode cX6_start 40 = .ok (.aload_n 0, 1) := by decide +kernel
theorem dX6_start_41 : decode cX6_start 41 = .ok (.aload_n 1, 1) := by decide +kernel
theorem dX6_start_42 : decode cX6_start 42 = .ok (.getfield 86, 3) := by decide +kernel
theorem dX6_start_45 : decode cX6_start 45 = .ok (.iconst 0, 1) := by decide +kernel
theorem dX6_start_46 : decode cX6_start 46 = .ok (.laload, 1) := by decide +kernel
theorem dX6_start_47 : decode cX6_start 47 = .ok (.putfield 90, 3) := by decide +kernel
theorem dX6_start_50 : decode cX6_start 50 = .ok (.return_, 1) := by decide +kernel
theorem dX6_startsCore_0 : decode cX6_startsCore 0 = .ok (.aload_n 0, 1) := by decide +kernel
theorem dX6_startsCore_1 : decode cX6_startsCore 1 = .ok (.getfield 24, 3) := by decide +kernel
theorem dX6_startsCore_4 : decode cX6_startsCore 4 = .ok (.lookupswitch 112 #[(2, 86), (4, 84), (204, 84), (205, 84), (207, 84), (210, 84), (214, 84), (215, 84), (216, 84)], 84) := by decide +kernel
theorem dX6_startsCore_88 : decode cX6_startsCore 88 = .ok (.iconst 1, 1) := by decide +kernel
theorem dX6_startsCore_89 : decode cX6_startsCore 89 = .ok (.ireturn, 1) := by decide +kernel
theorem dX6_startsCore_90 : decode cX6_startsCore 90 = .ok (.aload_n 0, 1) := by decide +kernel
theorem dX6_startsCore_91 : decode cX6_startsCore 91 = .ok (.aload_n 0, 1) := by decide +kernel
theorem dX6_startsCore_92 : decode cX6_startsCore 92 = .ok (.getfield 66, 3) := by decide +kernel
theorem dX6_startsCore_95 : decode cX6_startsCore 95 = .ok (.aload_n 0, 1) := by decide +kernel
theorem dX6_startsCore_96 : decode cX6_startsCore 96 = .ok (.getfield 90, 3) := by decide +kernel
theorem dX6_startsCore_99 : decode cX6_startsCore 99 = .ok (.invokevirtual 120, 3) := by decide +kernel
theorem dX6_startsCore_102 : decode cX6_startsCore 102 = .ok (.iconst (-1), 1) := by decide +kernel
theorem dX6_startsCore_103 : decode cX6_startsCore 103 = .ok (.if_icmp .eq 7, 3) := by decide +kernel
theorem dX6_startsCore_106 : decode cX6_startsCore 106 = .ok (.iconst 1, 1) := by decide +kernel
theorem dX6_startsCore_107 : decode cX6_startsCore 107 = .ok (.goto 4, 3) := by decide +kernel
theorem dX6_startsCore_110 : decode cX6_startsCore 110 = .ok (.iconst 0, 1) := by decide +kernel
theorem dX6_startsCore_111 : decode cX6_startsCore 111 = .ok (.iconst 4, 1) := by decide +kernel
theorem dX6_startsCore_112 : decode cX6_startsCore 112 = .ok (.invokevirtual 28, 3) := by decide +kernel
theorem dX6_startsCore_115 : decode cX6_startsCore 115 = .ok (.ireturn, 1) := by decide +kernel
theorem dX6_startsCore_116 : decode cX6_startsCore 116 = .ok (.aload_n 0, 1) := by decide +kernel
theorem dX6_startsCore_117 : decode cX6_startsCore 117 = .ok (.iconst 0, 1) := by decide +kernel
theorem dX6_startsCore_118 : decode cX6_startsCore 118 = .ok (.iconst 2, 1) := by decide +kernel
theorem dX6_startsCore_119 : decode cX6_startsCore 119 = .ok (.invokevirtual 28, 3) := by decide +kernel
theorem dX6_startsCore_122 : decode cX6_startsCore 122 = .ok (.ireturn, 1) := by decide +kernel
theorem dX6_take_0 : decode cX6_take 0 = .ok (.aload_n 0, 1) := by decide +kernel
theorem dX6_take_1 : decode cX6_take 1 = .ok (.aload_n 0, 1) := by decide +kernel
theorem dX6_take_2 : decode cX6_take 2 = .ok (.getfield 24, 3) := by decide +kernel
theorem dX6_take_5 : decode cX6_take 5 = .ok (.iload_n 1, 1) := by decide +kernel
theorem dX6_take_6 : decode cX6_take 6 = .ok (.if_icmp .ne 7, 3) := by decide +kernel
theorem dX6_take_9 : decode cX6_take 9 = .ok (.iconst 1, 1) := by decide +kernel
theorem dX6_take_10 : decode cX6_take 10 = .ok (.goto 4, 3) := by decide +kernel
theorem dX6_take_13 : decode cX6_take 13 = .ok (.iconst 0, 1) := by decide +kernel
theorem dX6_take_14 : decode cX6_take 14 = .ok (.iconst 2, 1) := by decide +kernel
theorem dX6_take_15 : decode cX6_take 15 = .ok (.invokevirtual 28, 3) := by decide +kernel
theorem dX6_take_18 : decode cX6_take 18 = .ok (.ifCond .ne 5, 3) := by decide +kernel
theorem dX6_take_21 : decode cX6_take 21 = .ok (.iconst 0, 1) := by decide +kernel
theorem dX6_take_22 : decode cX6_take 22 = .ok (.ireturn, 1) := by decide +kernel
theorem dX6_take_23 : decode cX6_take 23 = .ok (.aload_n 0, 1) := by decide +kernel
theorem dX6_take_24 : decode cX6_take 24 = .ok (.invokevirtual 100, 3) := by decide +kernel
theorem dX6_take_27 : decode cX6_take 27 = .ok (.iconst 1, 1) := by decide +kernel
theorem dX6_take_28 : decode cX6_take 28 = .ok (.ireturn, 1) := by decide +kernel
theorem dX6_takeEnum_0 : decode cX6_takeEnum 0 = .ok (.aload_n 0, 1) := by decide +kernel
theorem dX6_takeEnum_1 : decode cX6_takeEnum 1 = .ok (.getfield 66, 3) := by decide +kernel
theorem dX6_takeEnum_4 : decode cX6_takeEnum 4 = .ok (.aload_n 0, 1) := by decide +kernel
theorem dX6_takeEnum_5 : decode cX6_takeEnum 5 = .ok (.getfield 90, 3) := by decide +kernel
theorem dX6_takeEnum_8 : decode cX6_takeEnum 8 = .ok (.invokevirtual 124, 3) := by decide +kernel
theorem dX6_takeEnum_11 : decode cX6_takeEnum 11 = .ok (.istore_n 1, 1) := by decide +kernel
theorem dX6_takeEnum_12 : decode cX6_takeEnum 12 = .ok (.aload_n 0, 1) := by decide +kernel
theorem dX6_takeEnum_13 : decode cX6_takeEnum 13 = .ok (.aload_n 0, 1) := by decide +kernel
theorem dX6_takeEnum_14 : decode cX6_takeEnum 14 = .ok (.getfield 24, 3) := by decide +kernel
theorem dX6_takeEnum_17 : decode cX6_takeEnum 17 = .ok (.iconst 2, 1) := by decide +kernel
theorem dX6_takeEnum_18 : decode cX6_takeEnum 18 = .ok (.if_icmp .ne 7, 3) := by decide +kernel
theorem dX6_takeEnum_21 : decode cX6_takeEnum 21 = .ok (.iconst 1, 1) := by decide +kernel
theorem dX6_takeEnum_22 : decode cX6_takeEnum 22 = .ok (.goto 4, 3) := by decide +kernel
theorem dX6_takeEnum_25 : decode cX6_takeEnum 25 = .ok (.iconst 0, 1) := by decide +kernel
theorem dX6_takeEnum_26 : decode cX6_takeEnum 26 = .ok (.iconst 2, 1) := by decide +kernel
theorem dX6_takeEnum_27 : decode cX6_takeEnum 27 = .ok (.invokevirtual 28, 3) := by decide +kernel
theorem dX6_takeEnum_30 : decode cX6_takeEnum 30 = .ok (.ifCond .eq 21, 3) := by decide +kernel
theorem dX6_takeEnum_33 : decode cX6_takeEnum 33 = .ok (.aload_n 0, 1) := by decide +kernel
theorem dX6_takeEnum_34 : decode cX6_takeEnum 34 = .ok (.iload_n 1, 1) := by decide +kernel
theorem dX6_takeEnum_35 : decode cX6_takeEnum 35 = .ok (.iconst (-1), 1) := by decide +kernel
theorem dX6_takeEnum_36 : decode cX6_takeEnum 36 = .ok (.if_icmp .eq 7, 3) := by decide +kernel
theorem dX6_takeEnum_39 : decode cX6_takeEnum 39 = .ok (.iconst 1, 1) := by decide +kernel
theorem dX6_takeEnum_40 : decode cX6_takeEnum 40 = .ok (.goto 4, 3) := by decide +kernel
theorem dX6_takeEnum_43 : decode cX6_takeEnum 43 = .ok (.iconst 0, 1) := by decide +kernel
theorem dX6_takeEnum_44 : decode cX6_takeEnum 44 = .ok (.iconst 4, 1) := by decide +kernel
theorem dX6_takeEnum_45 : decode cX6_takeEnum 45 = .ok (.invokevirtual 28, 3) := by decide +kernel
theorem dX6_takeEnum_48 : decode cX6_takeEnum 48 = .ok (.ifCond .ne 5, 3) := by decide +kernel
theorem dX6_takeEnum_51 : decode cX6_takeEnum 51 = .ok (.iconst (-1), 1) := by decide +kernel
theorem dX6_takeEnum_52 : decode cX6_takeEnum 52 = .ok (.ireturn, 1) := by decide +kernel
theorem dX6_takeEnum_53 : decode cX6_takeEnum 53 = .ok (.aload_n 0, 1) := by decide +kernel
theorem dX6_takeEnum_54 : decode cX6_takeEnum 54 = .ok (.invokevirtual 100, 3) := by decide +kernel
theorem dX6_takeEnum_57 : decode cX6_takeEnum 57 = .ok (.iload_n 1, 1) := by decide +kernel
theorem dX6_takeEnum_58 : decode cX6_takeEnum 58 = .ok (.ireturn, 1) := by decide +kernel
theorem dX6_takeIf_0 : decode cX6_takeIf 0 = .ok (.aload_n 0, 1) := by decide +kernel
theorem dX6_takeIf_1 : decode cX6_takeIf 1 = .ok (.getfield 24, 3) := by decide +kernel
theorem dX6_takeIf_4 : decode cX6_takeIf 4 = .ok (.iload_n 1, 1) := by decide +kernel
theorem dX6_takeIf_5 : decode cX6_takeIf 5 = .ok (.if_icmp .ne 7, 3) := by decide +kernel
theorem dX6_takeIf_8 : decode cX6_takeIf 8 = .ok (.iconst 1, 1) := by decide +kernel
theorem dX6_takeIf_9 : decode cX6_takeIf 9 = .ok (.goto 4, 3) := by decide +kernel
theorem dX6_takeIf_12 : decode cX6_takeIf 12 = .ok (.iconst 0, 1) := by decide +kernel
theorem dX6_takeIf_13 : decode cX6_takeIf 13 = .ok (.istore_n 2, 1) := by decide +kernel
theorem dX6_takeIf_14 : decode cX6_takeIf 14 = .ok (.iload_n 2, 1) := by decide +kernel
theorem dX6_takeIf_15 : decode cX6_takeIf 15 = .ok (.ifCond .eq 7, 3) := by decide +kernel
theorem dX6_takeIf_18 : decode cX6_takeIf 18 = .ok (.aload_n 0, 1) := by decide +kernel
theorem dX6_takeIf_19 : decode cX6_takeIf 19 = .ok (.invokevirtual 100, 3) := by decide +kernel
theorem dX6_takeIf_22 : decode cX6_takeIf 22 = .ok (.iload_n 2, 1) := by decide +kernel
theorem dX6_takeIf_23 : decode cX6_takeIf 23 = .ok (.ireturn, 1) := by decide +kernel
theorem dX6_takeNumber_0 : decode cX6_takeNumber 0 = .ok (.aload_n 0, 1) := by decide +kernel
theorem dX6_takeNumber_1 : decode cX6_takeNumber 1 = .ok (.aload_n 0, 1) := by decide +kernel
theorem dX6_takeNumber_2 : decode cX6_takeNumber 2 = .ok (.getfield 90, 3) := by decide +kernel
theorem dX6_takeNumber_5 : decode cX6_takeNumber 5 = .ok (.putfield 103, 3) := by decide +kernel
theorem dX6_takeNumber_8 : decode cX6_takeNumber 8 = .ok (.aload_n 0, 1) := by decide +kernel
theorem dX6_takeNumber_9 : decode cX6_takeNumber 9 = .ok (.aload_n 0, 1) := by decide +kernel
theorem dX6_takeNumber_10 : decode cX6_takeNumber 10 = .ok (.getfield 24, 3) := by decide +kernel
theorem dX6_takeNumber_13 : decode cX6_takeNumber 13 = .ok (.iconst 3, 1) := by decide +kernel
theorem dX6_takeNumber_14 : decode cX6_takeNumber 14 = .ok (.if_icmp .ne 7, 3) := by decide +kernel
theorem dX6_takeNumber_17 : decode cX6_takeNumber 17 = .ok (.iconst 1, 1) := by decide +kernel
theorem dX6_takeNumber_18 : decode cX6_takeNumber 18 = .ok (.goto 4, 3) := by decide +kernel
theorem dX6_takeNumber_21 : decode cX6_takeNumber 21 = .ok (.iconst 0, 1) := by decide +kernel
theorem dX6_takeNumber_22 : decode cX6_takeNumber 22 = .ok (.iconst 2, 1) := by decide +kernel
theorem dX6_takeNumber_23 : decode cX6_takeNumber 23 = .ok (.invokevirtual 28, 3) := by decide +kernel
theorem dX6_takeNumber_26 : decode cX6_takeNumber 26 = .ok (.ifCond .eq 34, 3) := by decide +kernel
theorem dX6_takeNumber_29 : decode cX6_takeNumber 29 = .ok (.aload_n 0, 1) := by decide +kernel
theorem dX6_takeNumber_30 : decode cX6_takeNumber 30 = .ok (.aload_n 0, 1) := by decide +kernel
theorem dX6_takeNumber_31 : decode cX6_takeNumber 31 = .ok (.getfield 103, 3) := by decide +kernel
theorem dX6_takeNumber_34 : decode cX6_takeNumber 34 = .ok (.lload_n 1, 1) := by decide +kernel
theorem dX6_takeNumber_35 : decode cX6_takeNumber 35 = .ok (.lcmp, 1) := by decide +kernel
theorem dX6_takeNumber_36 : decode cX6_takeNumber 36 = .ok (.ifCond .lt 16, 3) := by decide +kernel
theorem dX6_takeNumber_39 : decode cX6_takeNumber 39 = .ok (.aload_n 0, 1) := by decide +kernel
theorem dX6_takeNumber_40 : decode cX6_takeNumber 40 = .ok (.getfield 103, 3) := by decide +kernel
theorem dX6_takeNumber_43 : decode cX6_takeNumber 43 = .ok (.lload_n 3, 1) := by decide +kernel
theorem dX6_takeNumber_44 : decode cX6_takeNumber 44 = .ok (.lcmp, 1) := by decide +kernel
theorem dX6_takeNumber_45 : decode cX6_takeNumber 45 = .ok (.ifCond .gt 7, 3) := by decide +kernel
theorem dX6_takeNumber_48 : decode cX6_takeNumber 48 = .ok (.iconst 1, 1) := by decide +kernel
theorem dX6_takeNumber_49 : decode cX6_takeNumber 49 = .ok (.goto 4, 3) := by decide +kernel
theorem dX6_takeNumber_52 : decode cX6_takeNumber 52 = .ok (.iconst 0, 1) := by decide +kernel
theorem dX6_takeNumber_53 : decode cX6_takeNumber 53 = .ok (.iconst 5, 1) := by decide +kernel
theorem dX6_takeNumber_54 : decode cX6_takeNumber 54 = .ok (.invokevirtual 28, 3) := by decide +kernel
theorem dX6_takeNumber_57 : decode cX6_takeNumber 57 = .ok (.ifCond .ne 5, 3) := by decide +kernel
theorem dX6_takeNumber_60 : decode cX6_takeNumber 60 = .ok (.iconst 0, 1) := by decide +kernel
theorem dX6_takeNumber_61 : decode cX6_takeNumber 61 = .ok (.ireturn, 1) := by decide +kernel
theorem dX6_takeNumber_62 : decode cX6_takeNumber 62 = .ok (.aload_n 0, 1) := by decide +kernel
theorem dX6_takeNumber_63 : decode cX6_takeNumber 63 = .ok (.invokevirtual 100, 3) := by decide +kernel
theorem dX6_takeNumber_66 : decode cX6_takeNumber 66 = .ok (.iconst 1, 1) := by decide +kernel
theorem dX6_takeNumber_67 : decode cX6_takeNumber 67 = .ok (.ireturn, 1) := by decide +kernel
theorem dX6_takeOwnName_0 : decode cX6_takeOwnName 0 = .ok (.aload_n 0, 1) := by decide +kernel
theorem dX6_takeOwnName_1 : decode cX6_takeOwnName 1 = .ok (.aload_n 0, 1) := by decide +kernel
theorem dX6_takeOwnName_2 : decode cX6_takeOwnName 2 = .ok (.getfield 24, 3) := by decide +kernel
theorem dX6_takeOwnName_5 : decode cX6_takeOwnName 5 = .ok (.iconst 2, 1) := by decide +kernel
theorem dX6_takeOwnName_6 : decode cX6_takeOwnName 6 = .ok (.if_icmp .ne 7, 3) := by decide +kernel
theorem dX6_takeOwnName_9 : decode cX6_takeOwnName 9 = .ok (.iconst 1, 1) := by decide +kernel
theorem dX6_takeOwnName_10 : decode cX6_takeOwnName 10 = .ok (.goto 4, 3) := by decide +kernel
theorem dX6_takeOwnName_13 : decode cX6_takeOwnName 13 = .ok (.iconst 0, 1) := by decide +kernel
theorem dX6_takeOwnName_14 : decode cX6_takeOwnName 14 = .ok (.iconst 2, 1) := by decide +kernel
theorem dX6_takeOwnName_15 : decode cX6_takeOwnName 15 = .ok (.invokevirtual 28, 3) := by decide +kernel
theorem dX6_takeOwnName_18 : decode cX6_takeOwnName 18 = .ok (.ifCond .eq 27, 3) := by decide +kernel
theorem dX6_takeOwnName_21 : decode cX6_takeOwnName 21 = .ok (.aload_n 0, 1) := by decide +kernel
theorem dX6_takeOwnName_22 : decode cX6_takeOwnName 22 = .ok (.aload_n 0, 1) := by decide +kernel
theorem dX6_takeOwnName_23 : decode cX6_takeOwnName 23 = .ok (.aload_n 0, 1) := by decide +kernel
theorem dX6_takeOwnName_24 : decode cX6_takeOwnName 24 = .ok (.getfield 90, 3) := by decide +kernel
theorem dX6_takeOwnName_27 : decode cX6_takeOwnName 27 = .ok (.invokevirtual 224, 3) := by decide +kernel
theorem dX6_takeOwnName_30 : decode cX6_takeOwnName 30 = .ok (.ifCond .ne 7, 3) := by decide +kernel
theorem dX6_takeOwnName_33 : decode cX6_takeOwnName 33 = .ok (.iconst 1, 1) := by decide +kernel
theorem dX6_takeOwnName_34 : decode cX6_takeOwnName 34 = .ok (.goto 4, 3) := by decide +kernel
theorem dX6_takeOwnName_37 : decode cX6_takeOwnName 37 = .ok (.iconst 0, 1) := by decide +kernel
theorem dX6_takeOwnName_38 : decode cX6_takeOwnName 38 = .ok (.iconst 3, 1) := by decide +kernel
theorem dX6_takeOwnName_39 : decode cX6_takeOwnName 39 = .ok (.invokevirtual 28, 3) := by decide +kernel
theorem dX6_takeOwnName_42 : decode cX6_takeOwnName 42 = .ok (.ifCond .ne 5, 3) := by decide +kernel
theorem dX6_takeOwnName_45 : decode cX6_takeOwnName 45 = .ok (.iconst 0, 1) := by decide +kernel
theorem dX6_takeOwnName_46 : decode cX6_takeOwnName 46 = .ok (.ireturn, 1) := by decide +kernel
theorem dX6_takeOwnName_47 : decode cX6_takeOwnName 47 = .ok (.aload_n 0, 1) := by decide +kernel
theorem dX6_takeOwnName_48 : decode cX6_takeOwnName 48 = .ok (.getfield 106, 3) := by decide +kernel
theorem dX6_takeOwnName_51 : decode cX6_takeOwnName 51 = .ok (.aload_n 0, 1) := by decide +kernel
theorem dX6_takeOwnName_52 : decode cX6_takeOwnName 52 = .ok (.getfield 90, 3) := by decide +kernel
theorem dX6_takeOwnName_55 : decode cX6_takeOwnName 55 = .ok (.putfield 228, 3) := by decide +kernel
theorem dX6_takeOwnName_58 : decode cX6_takeOwnName 58 = .ok (.aload_n 0, 1) := by decide +kernel
theorem dX6_takeOwnName_59 : decode cX6_takeOwnName 59 = .ok (.invokevirtual 100, 3) := by decide +kernel
theorem dX6_takeOwnName_62 : decode cX6_takeOwnName 62 = .ok (.iconst 1, 1) := by decide +kernel
theorem dX6_takeOwnName_63 : decode cX6_takeOwnName 63 = .ok (.ireturn, 1) := by decide +kernel
theorem dX6_takeSigned_0 : decode cX6_takeSigned 0 = .ok (.aload_n 0, 1) := by decide +kernel
theorem dX6_takeSigned_1 : decode cX6_takeSigned 1 = .ok (.getfield 24, 3) := by decide +kernel
theorem dX6_takeSigned_4 : decode cX6_takeSigned 4 = .ok (.bipush 45, 2) := by decide +kernel
theorem dX6_takeSigned_6 : decode cX6_takeSigned 6 = .ok (.if_icmp .ne 7, 3) := by decide +kernel
theorem dX6_takeSigned_9 : decode cX6_takeSigned 9 = .ok (.iconst 1, 1) := by decide +kernel
theorem dX6_takeSigned_10 : decode cX6_takeSigned 10 = .ok (.goto 4, 3) := by decide +kernel
theorem dX6_takeSigned_13 : decode cX6_takeSigned 13 = .ok (.iconst 0, 1) := by decide +kernel
theorem dX6_takeSigned_14 : decode cX6_takeSigned 14 = .ok (.istore_n 1, 1) := by decide +kernel
theorem dX6_takeSigned_15 : decode cX6_takeSigned 15 = .ok (.iload_n 1, 1) := by decide +kernel
theorem dX6_takeSigned_16 : decode cX6_takeSigned 16 = .ok (.ifCond .eq 7, 3) := by decide +kernel
theorem dX6_takeSigned_19 : decode cX6_takeSigned 19 = .ok (.aload_n 0, 1) := by decide +kernel
theorem dX6_takeSigned_20 : decode cX6_takeSigned 20 = .ok (.invokevirtual 100, 3) := by decide +kernel
theorem dX6_takeSigned_23 : decode cX6_takeSigned 23 = .ok (.aload_n 0, 1) := by decide +kernel
theorem dX6_takeSigned_24 : decode cX6_takeSigned 24 = .ok (.iload_n 1, 1) := by decide +kernel
theorem dX6_takeSigned_25 : decode cX6_takeSigned 25 = .ok (.ifCond .eq 11, 3) := by decide +kernel
theorem dX6_takeSigned_28 : decode cX6_takeSigned 28 = .ok (.aload_n 0, 1) := by decide +kernel
theorem dX6_takeSigned_29 : decode cX6_takeSigned 29 = .ok (.getfield 90, 3) := by decide +kernel
theorem dX6_takeSigned_32 : decode cX6_takeSigned 32 = .ok (.lneg, 1) := by decide +kernel
theorem dX6_takeSigned_33 : decode cX6_takeSigned 33 = .ok (.goto 7, 3) := by decide +kernel
theorem dX6_takeSigned_36 : decode cX6_takeSigned 36 = .ok (.aload_n 0, 1) := by decide +kernel
theorem dX6_takeSigned_37 : decode cX6_takeSigned 37 = .ok (.getfield 90, 3) := by decide +kernel
theorem dX6_takeSigned_40 : decode cX6_takeSigned 40 = .ok (.putfield 103, 3) := by decide +kernel
theorem dX6_takeSigned_43 : decode cX6_takeSigned 43 = .ok (.aload_n 0, 1) := by decide +kernel
theorem dX6_takeSigned_44 : decode cX6_takeSigned 44 = .ok (.aload_n 0, 1) := by decide +kernel
theorem dX6_takeSigned_45 : decode cX6_takeSigned 45 = .ok (.getfield 24, 3) := by decide +kernel
theorem dX6_takeSigned_48 : decode cX6_takeSigned 48 = .ok (.iconst 3, 1) := by decide +kernel
theorem dX6_takeSigned_49 : decode cX6_takeSigned 49 = .ok (.if_icmp .ne 7, 3) := by decide +kernel
theorem dX6_takeSigned_52 : decode cX6_takeSigned 52 = .ok (.iconst 1, 1) := by decide +kernel
theorem dX6_takeSigned_53 : decode cX6_takeSigned 53 = .ok (.goto 4, 3) := by decide +kernel
theorem dX6_takeSigned_56 : decode cX6_takeSigned 56 = .ok (.iconst 0, 1) := by decide +kernel
theorem dX6_takeSigned_57 : decode cX6_takeSigned 57 = .ok (.iconst 2, 1) := by decide +kernel
theorem dX6_takeSigned_58 : decode cX6_takeSigned 58 = .ok (.invokevirtual 28, 3) := by decide +kernel
theorem dX6_takeSigned_61 : decode cX6_takeSigned 61 = .ok (.ifCond .ne 5, 3) := by decide +kernel
theorem dX6_takeSigned_64 : decode cX6_takeSigned 64 = .ok (.iconst 0, 1) := by decide +kernel
theorem dX6_takeSigned_65 : decode cX6_takeSigned 65 = .ok (.ireturn, 1) := by decide +kernel
theorem dX6_takeSigned_66 : decode cX6_takeSigned 66 = .ok (.aload_n 0, 1) := by decide +kernel
theorem dX6_takeSigned_67 : decode cX6_takeSigned 67 = .ok (.invokevirtual 100, 3) := by decide +kernel
theorem dX6_takeSigned_70 : decode cX6_takeSigned 70 = .ok (.iconst 1, 1) := by decide +kernel
theorem dX6_takeSigned_71 : decode cX6_takeSigned 71 = .ok (.ireturn, 1) := by decide +kernel
theorem dX6_takeStructure_0 : decode cX6_takeStructure 0 = .ok (.aload_n 0, 1) := by decide +kernel
theorem dX6_takeStructure_1 : decode cX6_takeStructure 1 = .ok (.getfield 66, 3) := by decide +kernel
theorem dX6_takeStructure_4 : decode cX6_takeStructure 4 = .ok (.aload_n 0, 1) := by decide +kernel
theorem dX6_takeStructure_5 : decode cX6_takeStructure 5 = .ok (.getfield 90, 3) := by decide +kernel
theorem dX6_takeStructure_8 : decode cX6_takeStructure 8 = .ok (.invokevirtual 120, 3) := by decide +kernel
theorem dX6_takeStructure_11 : decode cX6_takeStructure 11 = .ok (.istore_n 1, 1) := by decide +kernel
theorem dX6_takeStructure_12 : decode cX6_takeStructure 12 = .ok (.aload_n 0, 1) := by decide +kernel
theorem dX6_takeStructure_13 : decode cX6_takeStructure 13 = .ok (.aload_n 0, 1) := by decide +kernel
theorem dX6_takeStructure_14 : decode cX6_takeStructure 14 = .ok (.getfield 24, 3) := by decide +kernel
theorem dX6_takeStructure_17 : decode cX6_takeStructure 17 = .ok (.iconst 2, 1) := by decide +kernel
theorem dX6_takeStructure_18 : decode cX6_takeStructure 18 = .ok (.if_icmp .ne 7, 3) := by decide +kernel
theorem dX6_takeStructure_21 : decode cX6_takeStructure 21 = .ok (.iconst 1, 1) := by decide +kernel
theorem dX6_takeStructure_22 : decode cX6_takeStructure 22 = .ok (.goto 4, 3) := by decide +kernel
theorem dX6_takeStructure_25 : decode cX6_takeStructure 25 = .ok (.iconst 0, 1) := by decide +kernel
theorem dX6_takeStructure_26 : decode cX6_takeStructure 26 = .ok (.iconst 2, 1) := by decide +kernel
theorem dX6_takeStructure_27 : decode cX6_takeStructure 27 = .ok (.invokevirtual 28, 3) := by decide +kernel
theorem dX6_takeStructure_30 : decode cX6_takeStructure 30 = .ok (.ifCond .eq 21, 3) := by decide +kernel
theorem dX6_takeStructure_33 : decode cX6_takeStructure 33 = .ok (.aload_n 0, 1) := by decide +kernel
theorem dX6_takeStructure_34 : decode cX6_takeStructure 34 = .ok (.iload_n 1, 1) := by decide +kernel
theorem dX6_takeStructure_35 : decode cX6_takeStructure 35 = .ok (.iconst (-1), 1) := by decide +kernel
theorem dX6_takeStructure_36 : decode cX6_takeStructure 36 = .ok (.if_icmp .eq 7, 3) := by decide +kernel
theorem dX6_takeStructure_39 : decode cX6_takeStructure 39 = .ok (.iconst 1, 1) := by decide +kernel
theorem dX6_takeStructure_40 : decode cX6_takeStructure 40 = .ok (.goto 4, 3) := by decide +kernel
theorem dX6_takeStructure_43 : decode cX6_takeStructure 43 = .ok (.iconst 0, 1) := by decide +kernel
theorem dX6_takeStructure_44 : decode cX6_takeStructure 44 = .ok (.iconst 4, 1) := by decide +kernel
theorem dX6_takeStructure_45 : decode cX6_takeStructure 45 = .ok (.invokevirtual 28, 3) := by decide +kernel
theorem dX6_takeStructure_48 : decode cX6_takeStructure 48 = .ok (.ifCond .ne 5, 3) := by decide +kernel
theorem dX6_takeStructure_51 : decode cX6_takeStructure 51 = .ok (.iconst (-1), 1) := by decide +kernel
theorem dX6_takeStructure_52 : decode cX6_takeStructure 52 = .ok (.ireturn, 1) := by decide +kernel
theorem dX6_takeStructure_53 : decode cX6_takeStructure 53 = .ok (.aload_n 0, 1) := by decide +kernel
theorem dX6_takeStructure_54 : decode cX6_takeStructure 54 = .ok (.invokevirtual 100, 3) := by decide +kernel
theorem dX6_takeStructure_57 : decode cX6_takeStructure 57 = .ok (.iload_n 1, 1) := by decide +kernel
theorem dX6_takeStructure_58 : decode cX6_takeStructure 58 = .ok (.ireturn, 1) := by decide +kernel
theorem dX6_takeType_0 : decode cX6_takeType 0 = .ok (.aload_n 0, 1) := by decide +kernel
theorem dX6_takeType_1 : decode cX6_takeType 1 = .ok (.getfield 106, 3) := by decide +kernel
theorem dX6_takeType_4 : decode cX6_takeType 4 = .ok (.aload_n 0, 1) := by decide +kernel
theorem dX6_takeType_5 : decode cX6_takeType 5 = .ok (.getfield 90, 3) := by decide +kernel
theorem dX6_takeType_8 : decode cX6_takeType 8 = .ok (.invokevirtual 110, 3) := by decide +kernel
theorem dX6_takeType_11 : decode cX6_takeType 11 = .ok (.aload_n 0, 1) := by decide +kernel
theorem dX6_takeType_12 : decode cX6_takeType 12 = .ok (.iconst 4, 1) := by decide +kernel
theorem dX6_takeType_13 : decode cX6_takeType 13 = .ok (.invokevirtual 116, 3) := by decide +kernel
theorem dX6_takeType_16 : decode cX6_takeType 16 = .ok (.ireturn, 1) := by decide +kernel
theorem dX7_init_0 : decode cX7_init 0 = .ok (.aload_n 0, 1) := by decide +kernel
theorem dX7_init_1 : decode cX7_init 1 = .ok (.invokespecial 3, 3) := by decide +kernel
theorem dX7_init_4 : decode cX7_init 4 = .ok (.aload_n 0, 1) := by decide +kernel
theorem dX7_init_5 : decode cX7_init 5 = .ok (.bipush 102, 2) := by decide +kernel
theorem dX7_init_7 : decode cX7_init 7 = .ok (.newarray .long, 2) := by decide +kernel
theorem dX7_init_9 : decode cX7_init 9 = .ok (.putfield 9, 3) := by decide +kernel
theorem dX7_init_12 : decode cX7_init 12 = .ok (.return_, 1) := by decide +kernel
theorem dX7_joined_0 : decode cX7_joined 0 = .ok (.iload_n 0, 1) := by decide +kernel
theorem dX7_joined_1 : decode cX7_joined 1 = .ok (.lookupswitch 183 #[(37, 179), (42, 171), (43, 163), (45, 167), (47, 175), (60, 139), (61, 127), (62, 151), (224, 109), (225, 91)], 91) := by decide +kernel
theorem dX7_joined_92 : decode cX7_joined 92 = .ok (.lload_n 1, 1) := by decide +kernel
theorem dX7_joined_93 : decode cX7_joined 93 = .ok (.lconst 0, 1) := by decide +kernel
theorem dX7_joined_94 : decode cX7_joined 94 = .ok (.lcmp, 1) := by decide +kernel
theorem dX7_joined_95 : decode cX7_joined 95 = .ok (.ifCond .ne 9, 3) := by decide +kernel
theorem dX7_joined_98 : decode cX7_joined 98 = .ok (.lload_n 3, 1) := by decide +kernel
theorem dX7_joined_99 : decode cX7_joined 99 = .ok (.lconst 0, 1) := by decide +kernel
theorem dX7_joined_100 : decode cX7_joined 100 = .ok (.lcmp, 1) := by decide +kernel
theorem dX7_joined_101 : decode cX7_joined 101 = .ok (.ifCond .eq 7, 3) := by decide +kernel
theorem dX7_joined_104 : decode cX7_joined 104 = .ok (.lconst 1, 1) := by decide +kernel
theorem dX7_joined_105 : decode cX7_joined 105 = .ok (.goto 4, 3) := by decide +kernel
theorem dX7_joined_108 : decode cX7_joined 108 = .ok (.lconst 0, 1) := by decide +kernel
theorem dX7_joined_109 : decode cX7_joined 109 = .ok (.lreturn, 1) := by decide +kernel
theorem dX7_joined_110 : decode cX7_joined 110 = .ok (.lload_n 1, 1) := by decide +kernel
theorem dX7_joined_111 : decode cX7_joined 111 = .ok (.lconst 0, 1) := by decide +kernel
theorem dX7_joined_112 : decode cX7_joined 112 = .ok (.lcmp, 1) := by decide +kernel
theorem dX7_joined_113 : decode cX7_joined 113 = .ok (.ifCond .eq 13, 3) := by decide +kernel
theorem dX7_joined_116 : decode cX7_joined 116 = .ok (.lload_n 3, 1) := by decide +kernel
theorem dX7_joined_117 : decode cX7_joined 117 = .ok (.lconst 0, 1) := by decide +kernel
theorem dX7_joined_118 : decode cX7_joined 118 = .ok (.lcmp, 1) := by decide +kernel
theorem dX7_joined_119 : decode cX7_joined 119 = .ok (.ifCond .eq 7, 3) := by decide +kernel
theorem dX7_joined_122 : decode cX7_joined 122 = .ok (.lconst 1, 1) := by decide +kernel
theorem dX7_joined_123 : decode cX7_joined 123 = .ok (.goto 4, 3) := by decide +kernel
theorem dX7_joined_126 : decode cX7_joined 126 = .ok (.lconst 0, 1) := by decide +kernel
theorem dX7_joined_127 : decode cX7_joined 127 = .ok (.lreturn, 1) := by decide +kernel
theorem dX7_joined_128 : decode cX7_joined 128 = .ok (.lload_n 1, 1) := by decide +kernel
theorem dX7_joined_129 : decode cX7_joined 129 = .ok (.lload_n 3, 1) := by decide +kernel
theorem dX7_joined_130 : decode cX7_joined 130 = .ok (.lcmp, 1) := by decide +kernel
theorem dX7_joined_131 : decode cX7_joined 131 = .ok (.ifCond .ne 7, 3) := by decide +kernel
theorem dX7_joined_134 : decode cX7_joined 134 = .ok (.lconst 1, 1) := by decide +kernel
theorem dX7_joined_135 : decode cX7_joined 135 = .ok (.goto 4, 3) := by decide +kernel
theorem dX7_joined_138 : decode cX7_joined 138 = .ok (.lconst 0, 1) := by decide +kernel
theorem dX7_joined_139 : decode cX7_joined 139 = .ok (.lreturn, 1) := by decide +kernel
theorem dX7_joined_140 : decode cX7_joined 140 = .ok (.lload_n 1, 1) := by decide +kernel
theorem dX7_joined_141 : decode cX7_joined 141 = .ok (.lload_n 3, 1) := by decide +kernel
theorem dX7_joined_142 : decode cX7_joined 142 = .ok (.lcmp, 1) := by decide +kernel
theorem dX7_joined_143 : decode cX7_joined 143 = .ok (.ifCond .ge 7, 3) := by decide +kernel
theorem dX7_joined_146 : decode cX7_joined 146 = .ok (.lconst 1, 1) := by decide +kernel
theorem dX7_joined_147 : decode cX7_joined 147 = .ok (.goto 4, 3) := by decide +kernel
theorem dX7_joined_150 : decode cX7_joined 150 = .ok (.lconst 0, 1) := by decide +kernel
theorem dX7_joined_151 : decode cX7_joined 151 = .ok (.lreturn, 1) := by decide +kernel
theorem dX7_joined_152 : decode cX7_joined 152 = .ok (.lload_n 1, 1) := by decide +kernel
theorem dX7_joined_153 : decode cX7_joined 153 = .ok (.lload_n 3, 1) := by decide +kernel
theorem dX7_joined_154 : decode cX7_joined 154 = .ok (.lcmp, 1) := by decide +kernel
theorem dX7_joined_155 : decode cX7_joined 155 = .ok (.ifCond .le 7, 3) := by decide +kernel
theorem dX7_joined_158 : decode cX7_joined 158 = .ok (.lconst 1, 1) := by decide +kernel
theorem dX7_joined_159 : decode cX7_joined 159 = .ok (.goto 4, 3) := by decide +kernel
theorem dX7_joined_162 : decode cX7_joined 162 = .ok (.lconst 0, 1) := by decide +kernel
theorem dX7_joined_163 : decode cX7_joined 163 = .ok (.lreturn, 1) := by decide +kernel
theorem dX7_joined_164 : decode cX7_joined 164 = .ok (.lload_n 1, 1) := by decide +kernel
theorem dX7_joined_165 : decode cX7_joined 165 = .ok (.lload_n 3, 1) := by decide +kernel
theorem dX7_joined_166 : decode cX7_joined 166 = .ok (.ladd, 1) := by decide +kernel
theorem dX7_joined_167 : decode cX7_joined 167 = .ok (.lreturn, 1) := by decide +kernel
theorem dX7_joined_168 : decode cX7_joined 168 = .ok (.lload_n 1, 1) := by decide +kernel
theorem dX7_joined_169 : decode cX7_joined 169 = .ok (.lload_n 3, 1) := by decide +kernel
theorem dX7_joined_170 : decode cX7_joined 170 = .ok (.lsub, 1) := by decide +kernel
theorem dX7_joined_171 : decode cX7_joined 171 = .ok (.lreturn, 1) := by decide +kernel
theorem dX7_joined_172 : decode cX7_joined 172 = .ok (.lload_n 1, 1) := by decide +kernel
theorem dX7_joined_173 : decode cX7_joined 173 = .ok (.lload_n 3, 1) := by decide +kernel
theorem dX7_joined_174 : decode cX7_joined 174 = .ok (.lmul, 1) := by decide +kernel
theorem dX7_joined_175 : decode cX7_joined 175 = .ok (.lreturn, 1) := by decide +kernel
theorem dX7_joined_176 : decode cX7_joined 176 = .ok (.lload_n 1, 1) := by decide +kernel
theorem dX7_joined_177 : decode cX7_joined 177 = .ok (.lload_n 3, 1) := by decide +kernel
theorem dX7_joined_178 : decode cX7_joined 178 = .ok (.ldiv, 1) := by decide +kernel
theorem dX7_joined_179 : decode cX7_joined 179 = .ok (.lreturn, 1) := by decide +kernel
theorem dX7_joined_180 : decode cX7_joined 180 = .ok (.lload_n 1, 1) := by decide +kernel
theorem dX7_joined_181 : decode cX7_joined 181 = .ok (.lload_n 3, 1) := by decide +kernel
theorem dX7_joined_182 : decode cX7_joined 182 = .ok (.lrem, 1) := by decide +kernel
theorem dX7_joined_183 : decode cX7_joined 183 = .ok (.lreturn, 1) := by decide +kernel
theorem dX7_joined_184 : decode cX7_joined 184 = .ok (.lload_n 1, 1) := by decide +kernel
theorem dX7_joined_185 : decode cX7_joined 185 = .ok (.lload_n 3, 1) := by decide +kernel
theorem dX7_joined_186 : decode cX7_joined 186 = .ok (.land, 1) := by decide +kernel
theorem dX7_joined_187 : decode cX7_joined 187 = .ok (.lreturn, 1) := by decide +kernel
theorem dX7_stackUp_0 : decode cX7_stackUp 0 = .ok (.aload_n 0, 1) := by decide +kernel
theorem dX7_stackUp_1 : decode cX7_stackUp 1 = .ok (.getfield 19, 3) := by decide +kernel
theorem dX7_stackUp_4 : decode cX7_stackUp 4 = .ok (.aload_n 0, 1) := by decide +kernel
theorem dX7_stackUp_5 : decode cX7_stackUp 5 = .ok (.getfield 9, 3) := by decide +kernel
theorem dX7_stackUp_8 : decode cX7_stackUp 8 = .ok (.arraylength, 1) := by decide +kernel
theorem dX7_stackUp_9 : decode cX7_stackUp 9 = .ok (.if_icmp .lt 9, 3) := by decide +kernel
theorem dX7_stackUp_12 : decode cX7_stackUp 12 = .ok (.aload_n 0, 1) := by decide +kernel
theorem dX7_stackUp_13 : decode cX7_stackUp 13 = .ok (.iconst 1, 1) := by decide +kernel
theorem dX7_stackUp_14 : decode cX7_stackUp 14 = .ok (.putfield 15, 3) := by decide +kernel
theorem dX7_stackUp_17 : decode cX7_stackUp 17 = .ok (.return_, 1) := by decide +kernel
theorem dX7_stackUp_18 : decode cX7_stackUp 18 = .ok (.aload_n 0, 1) := by decide +kernel
theorem dX7_stackUp_19 : decode cX7_stackUp 19 = .ok (.getfield 9, 3) := by decide +kernel
theorem dX7_stackUp_22 : decode cX7_stackUp 22 = .ok (.aload_n 0, 1) := by decide +kernel
theorem dX7_stackUp_23 : decode cX7_stackUp 23 = .ok (.getfield 19, 3) := by decide +kernel
theorem dX7_stackUp_26 : decode cX7_stackUp 26 = .ok (.lload_n 1, 1) := by decide +kernel
theorem dX7_stackUp_27 : decode cX7_stackUp 27 = .ok (.lastore, 1) := by decide +kernel
theorem dX7_stackUp_28 : decode cX7_stackUp 28 = .ok (.aload_n 0, 1) := by decide +kernel
theorem dX7_stackUp_29 : decode cX7_stackUp 29 = .ok (.dup, 1) := by decide +kernel
theorem dX7_stackUp_30 : decode cX7_stackUp 30 = .ok (.getfield 19, 3) := by decide +kernel
theorem dX7_stackUp_33 : decode cX7_stackUp 33 = .ok (.iconst 1, 1) := by decide +kernel
theorem dX7_stackUp_34 : decode cX7_stackUp 34 = .ok (.iadd, 1) := by decide +kernel
theorem dX7_stackUp_35 : decode cX7_stackUp 35 = .ok (.putfield 19, 3) := by decide +kernel
theorem dX7_stackUp_38 : decode cX7_stackUp 38 = .ok (.return_, 1) := by decide +kernel
theorem dX7_work_0 : decode cX7_work 0 = .ok (.aload_n 0, 1) := by decide +kernel
theorem dX7_work_1 : decode cX7_work 1 = .ok (.iload_n 2, 1) := by decide +kernel
theorem dX7_work_2 : decode cX7_work 2 = .ok (.ifCond .ge 7, 3) := by decide +kernel
theorem dX7_work_5 : decode cX7_work 5 = .ok (.iconst 1, 1) := by decide +kernel
theorem dX7_work_6 : decode cX7_work 6 = .ok (.goto 4, 3) := by decide +kernel
theorem dX7_work_9 : decode cX7_work 9 = .ok (.iconst 0, 1) := by decide +kernel
theorem dX7_work_10 : decode cX7_work 10 = .ok (.putfield 15, 3) := by decide +kernel
theorem dX7_work_13 : decode cX7_work 13 = .ok (.aload_n 0, 1) := by decide +kernel
theorem dX7_work_14 : decode cX7_work 14 = .ok (.iconst 0, 1) := by decide +kernel
theorem dX7_work_15 : decode cX7_work 15 = .ok (.putfield 19, 3) := by decide +kernel
theorem dX7_work_18 : decode cX7_work 18 = .ok (.iload_n 2, 1) := by decide +kernel
theorem dX7_work_19 : decode cX7_work 19 = .ok (.istore 6, 2) := by decide +kernel
theorem dX7_work_21 : decode cX7_work 21 = .ok (.aload_n 0, 1) := by decide +kernel
theorem dX7_work_22 : decode cX7_work 22 = .ok (.getfield 15, 3) := by decide +kernel
theorem dX7_work_25 : decode cX7_work 25 = .ok (.ifCond .ne 234, 3) := by decide +kernel
theorem dX7_work_28 : decode cX7_work 28 = .ok (.iload 6, 2) := by decide +kernel
theorem dX7_work_30 : decode cX7_work 30 = .ok (.aload_n 1, 1) := by decide +kernel
theorem dX7_work_31 : decode cX7_work 31 = .ok (.getfield 23, 3) := by decide +kernel
theorem dX7_work_34 : decode cX7_work 34 = .ok (.if_icmp .ge 225, 3) := by decide +kernel
theorem dX7_work_37 : decode cX7_work 37 = .ok (.aload_n 1, 1) := by decide +kernel
theorem dX7_work_38 : decode cX7_work 38 = .ok (.getfield 28, 3) := by decide +kernel
theorem dX7_work_41 : decode cX7_work 41 = .ok (.iload 6, 2) := by decide +kernel
theorem dX7_work_43 : decode cX7_work 43 = .ok (.iaload, 1) := by decide +kernel
theorem dX7_work_44 : decode cX7_work 44 = .ok (.ifCond .eq 215, 3) := by decide +kernel
theorem dX7_work_47 : decode cX7_work 47 = .ok (.aload_n 1, 1) := by decide +kernel
theorem dX7_work_48 : decode cX7_work 48 = .ok (.getfield 28, 3) := by decide +kernel
theorem dX7_work_51 : decode cX7_work 51 = .ok (.iload 6, 2) := by decide +kernel
theorem dX7_work_53 : decode cX7_work 53 = .ok (.iaload, 1) := by decide +kernel
theorem dX7_work_54 : decode cX7_work 54 = .ok (.istore 7, 2) := by decide +kernel
theorem dX7_work_56 : decode cX7_work 56 = .ok (.iload 7, 2) := by decide +kernel
theorem dX7_work_58 : decode cX7_work 58 = .ok (.lookupswitch 189 #[(2, 118), (3, 66), (5, 180), (212, 80), (222, 90), (223, 106), (226, 180)], 66) := by decide +kernel
theorem dX7_work_124 : decode cX7_work 124 = .ok (.aload_n 0, 1) := by decide +kernel
theorem dX7_work_125 : decode cX7_work 125 = .ok (.aload_n 1, 1) := by decide +kernel
theorem dX7_work_126 : decode cX7_work 126 = .ok (.getfield 32, 3) := by decide +kernel
theorem dX7_work_129 : decode cX7_work 129 = .ok (.iload 6, 2) := by decide +kernel
theorem dX7_work_131 : decode cX7_work 131 = .ok (.laload, 1) := by decide +kernel
theorem dX7_work_132 : decode cX7_work 132 = .ok (.invokevirtual 35, 3) := by decide +kernel
theorem dX7_work_135 : decode cX7_work 135 = .ok (.goto 118, 3) := by decide +kernel
theorem dX7_work_138 : decode cX7_work 138 = .ok (.aload_n 0, 1) := by decide +kernel
theorem dX7_work_139 : decode cX7_work 139 = .ok (.iload 4, 2) := by decide +kernel
theorem dX7_work_141 : decode cX7_work 141 = .ok (.i2l, 1) := by decide +kernel
theorem dX7_work_142 : decode cX7_work 142 = .ok (.invokevirtual 35, 3) := by decide +kernel
theorem dX7_work_145 : decode cX7_work 145 = .ok (.goto 108, 3) := by decide +kernel
theorem dX7_work_148 : decode cX7_work 148 = .ok (.aload_n 0, 1) := by decide +kernel
theorem dX7_work_149 : decode cX7_work 149 = .ok (.aload 5, 2) := by decide +kernel
theorem dX7_work_151 : decode cX7_work 151 = .ok (.getfield 39, 3) := by decide +kernel
theorem dX7_work_154 : decode cX7_work 154 = .ok (.iload 4, 2) := by decide +kernel
theorem dX7_work_156 : decode cX7_work 156 = .ok (.isub, 1) := by decide +kernel
theorem dX7_work_157 : decode cX7_work 157 = .ok (.i2l, 1) := by decide +kernel
theorem dX7_work_158 : decode cX7_work 158 = .ok (.invokevirtual 35, 3) := by decide +kernel
theorem dX7_work_161 : decode cX7_work 161 = .ok (.goto 92, 3) := by decide +kernel
theorem dX7_work_164 : decode cX7_work 164 = .ok (.aload_n 0, 1) := by decide +kernel
theorem dX7_work_165 : decode cX7_work 165 = .ok (.aload_n 3, 1) := by decide +kernel
theorem dX7_work_166 : decode cX7_work 166 = .ok (.getfield 44, 3) := by decide +kernel
theorem dX7_work_169 : decode cX7_work 169 = .ok (.i2l, 1) := by decide +kernel
theorem dX7_work_170 : decode cX7_work 170 = .ok (.invokevirtual 35, 3) := by decide +kernel
theorem dX7_work_173 : decode cX7_work 173 = .ok (.goto 80, 3) := by decide +kernel
theorem dX7_work_176 : decode cX7_work 176 = .ok (.aload_n 3, 1) := by decide +kernel
theorem dX7_work_177 : decode cX7_work 177 = .ok (.aload_n 1, 1) := by decide +kernel
theorem dX7_work_178 : decode cX7_work 178 = .ok (.getfield 32, 3) := by decide +kernel
theorem dX7_work_181 : decode cX7_work 181 = .ok (.iload 6, 2) := by decide +kernel
theorem dX7_work_183 : decode cX7_work 183 = .ok (.laload, 1) := by decide +kernel
theorem dX7_work_184 : decode cX7_work 184 = .ok (.l2i, 1) := by decide +kernel
theorem dX7_work_185 : decode cX7_work 185 = .ok (.invokevirtual 49, 3) := by decide +kernel
theorem dX7_work_188 : decode cX7_work 188 = .ok (.astore 8, 2) := by decide +kernel
theorem dX7_work_190 : decode cX7_work 190 = .ok (.aload_n 0, 1) := by decide +kernel
theorem dX7_work_191 : decode cX7_work 191 = .ok (.aload 8, 2) := by decide +kernel
theorem dX7_work_193 : decode cX7_work 193 = .ok (.ifnull 12, 3) := by decide +kernel
theorem dX7_work_196 : decode cX7_work 196 = .ok (.aload 8, 2) := by decide +kernel
theorem dX7_work_198 : decode cX7_work 198 = .ok (.getfield 53, 3) := by decide +kernel
theorem dX7_work_201 : decode cX7_work 201 = .ok (.iconst 1, 1) := by decide +kernel
theorem dX7_work_202 : decode cX7_work 202 = .ok (.if_icmp .ne 7, 3) := by decide +kernel
theorem dX7_work_205 : decode cX7_work 205 = .ok (.iconst 1, 1) := by decide +kernel
theorem dX7_work_206 : decode cX7_work 206 = .ok (.goto 4, 3) := by decide +kernel
theorem dX7_work_209 : decode cX7_work 209 = .ok (.iconst 0, 1) := by decide +kernel
theorem dX7_work_210 : decode cX7_work 210 = .ok (.putfield 15, 3) := by decide +kernel
theorem dX7_work_213 : decode cX7_work 213 = .ok (.aload_n 0, 1) := by decide +kernel
theorem dX7_work_214 : decode cX7_work 214 = .ok (.aload_n 0, 1) := by decide +kernel
theorem dX7_work_215 : decode cX7_work 215 = .ok (.getfield 15, 3) := by decide +kernel
theorem dX7_work_218 : decode cX7_work 218 = .ok (.ifCond .eq 7, 3) := by decide +kernel
theorem dX7_work_221 : decode cX7_work 221 = .ok (.lconst 0, 1) := by decide +kernel
theorem dX7_work_222 : decode cX7_work 222 = .ok (.goto 10, 3) := by decide +kernel
theorem dX7_work_225 : decode cX7_work 225 = .ok (.aload 8, 2) := by decide +kernel
theorem dX7_work_227 : decode cX7_work 227 = .ok (.aload 5, 2) := by decide +kernel
theorem dX7_work_229 : decode cX7_work 229 = .ok (.invokevirtual 56, 3) := by decide +kernel
theorem dX7_work_232 : decode cX7_work 232 = .ok (.invokevirtual 35, 3) := by decide +kernel
theorem dX7_work_235 : decode cX7_work 235 = .ok (.goto 18, 3) := by decide +kernel
theorem dX7_work_238 : decode cX7_work 238 = .ok (.aload_n 0, 1) := by decide +kernel
theorem dX7_work_239 : decode cX7_work 239 = .ok (.iload 7, 2) := by decide +kernel
theorem dX7_work_241 : decode cX7_work 241 = .ok (.invokevirtual 60, 3) := by decide +kernel
theorem dX7_work_244 : decode cX7_work 244 = .ok (.goto 9, 3) := by decide +kernel
theorem dX7_work_247 : decode cX7_work 247 = .ok (.aload_n 0, 1) := by decide +kernel
theorem dX7_work_248 : decode cX7_work 248 = .ok (.iload 7, 2) := by decide +kernel
theorem dX7_work_250 : decode cX7_work 250 = .ok (.invokevirtual 64, 3) := by decide +kernel
theorem dX7_work_253 : decode cX7_work 253 = .ok (.iinc 6 1, 3) := by decide +kernel
theorem dX7_work_256 : decode cX7_work 256 = .ok (.goto (-235), 3) := by decide +kernel
theorem dX7_work_259 : decode cX7_work 259 = .ok (.aload_n 0, 1) := by decide +kernel
theorem dX7_work_260 : decode cX7_work 260 = .ok (.dup, 1) := by decide +kernel
theorem dX7_work_261 : decode cX7_work 261 = .ok (.getfield 15, 3) := by decide +kernel
theorem dX7_work_264 : decode cX7_work 264 = .ok (.aload_n 0, 1) := by decide +kernel
theorem dX7_work_265 : decode cX7_work 265 = .ok (.getfield 19, 3) := by decide +kernel
theorem dX7_work_268 : decode cX7_work 268 = .ok (.iconst 1, 1) := by decide +kernel
theorem dX7_work_269 : decode cX7_work 269 = .ok (.if_icmp .eq 7, 3) := by decide +kernel
theorem dX7_work_272 : decode cX7_work 272 = .ok (.iconst 1, 1) := by decide +kernel
theorem dX7_work_273 : decode cX7_work 273 = .ok (.goto 4, 3) := by decide +kernel
theorem dX7_work_276 : decode cX7_work 276 = .ok (.iconst 0, 1) := by decide +kernel
theorem dX7_work_277 : decode cX7_work 277 = .ok (.ior, 1) := by decide +kernel
theorem dX7_work_278 : decode cX7_work 278 = .ok (.putfield 15, 3) := by decide +kernel
theorem dX7_work_281 : decode cX7_work 281 = .ok (.aload_n 0, 1) := by decide +kernel
theorem dX7_work_282 : decode cX7_work 282 = .ok (.getfield 15, 3) := by decide +kernel
theorem dX7_work_285 : decode cX7_work 285 = .ok (.ifCond .eq 7, 3) := by decide +kernel
theorem dX7_work_288 : decode cX7_work 288 = .ok (.lconst 0, 1) := by decide +kernel
theorem dX7_work_289 : decode cX7_work 289 = .ok (.goto 9, 3) := by decide +kernel
theorem dX7_work_292 : decode cX7_work 292 = .ok (.aload_n 0, 1) := by decide +kernel
theorem dX7_work_293 : decode cX7_work 293 = .ok (.getfield 9, 3) := by decide +kernel
theorem dX7_work_296 : decode cX7_work 296 = .ok (.iconst 0, 1) := by decide +kernel
theorem dX7_work_297 : decode cX7_work 297 = .ok (.laload, 1) := by decide +kernel
theorem dX7_work_298 : decode cX7_work 298 = .ok (.lreturn, 1) := by decide +kernel
theorem dX7_workOne_0 : decode cX7_workOne 0 = .ok (.aload_n 0, 1) := by decide +kernel
theorem dX7_workOne_1 : decode cX7_workOne 1 = .ok (.getfield 19, 3) := by decide +kernel
theorem dX7_workOne_4 : decode cX7_workOne 4 = .ok (.iconst 1, 1) := by decide +kernel
theorem dX7_workOne_5 : decode cX7_workOne 5 = .ok (.if_icmp .ge 9, 3) := by decide +kernel
theorem dX7_workOne_8 : decode cX7_workOne 8 = .ok (.aload_n 0, 1) := by decide +kernel
theorem dX7_workOne_9 : decode cX7_workOne 9 = .ok (.iconst 1, 1) := by decide +kernel
theorem dX7_workOne_10 : decode cX7_workOne 10 = .ok (.putfield 15, 3) := by decide +kernel
theorem dX7_workOne_13 : decode cX7_workOne 13 = .ok (.return_, 1) := by decide +kernel
theorem dX7_workOne_14 : decode cX7_workOne 14 = .ok (.aload_n 0, 1) := by decide +kernel
theorem dX7_workOne_15 : decode cX7_workOne 15 = .ok (.getfield 9, 3) := by decide +kernel
theorem dX7_workOne_18 : decode cX7_workOne 18 = .ok (.aload_n 0, 1) := by decide +kernel
theorem dX7_workOne_19 : decode cX7_workOne 19 = .ok (.getfield 19, 3) := by decide +kernel
theorem dX7_workOne_22 : decode cX7_workOne 22 = .ok (.iconst 1, 1) := by decide +kernel
theorem dX7_workOne_23 : decode cX7_workOne 23 = .ok (.isub, 1) := by decide +kernel
theorem dX7_workOne_24 : decode cX7_workOne 24 = .ok (.laload, 1) := by decide +kernel
theorem dX7_workOne_25 : decode cX7_workOne 25 = .ok (.lstore_n 2, 1) := by decide +kernel
theorem dX7_workOne_26 : decode cX7_workOne 26 = .ok (.aload_n 0, 1) := by decide +kernel
theorem dX7_workOne_27 : decode cX7_workOne 27 = .ok (.getfield 9, 3) := by decide +kernel
theorem dX7_workOne_30 : decode cX7_workOne 30 = .ok (.aload_n 0, 1) := by decide +kernel
theorem dX7_workOne_31 : decode cX7_workOne 31 = .ok (.getfield 19, 3) := by decide +kernel
theorem dX7_workOne_34 : decode cX7_workOne 34 = .ok (.iconst 1, 1) := by decide +kernel
theorem dX7_workOne_35 : decode cX7_workOne 35 = .ok (.isub, 1) := by decide +kernel
theorem dX7_workOne_36 : decode cX7_workOne 36 = .ok (.iload_n 1, 1) := by decide +kernel
theorem dX7_workOne_37 : decode cX7_workOne 37 = .ok (.iconst 5, 1) := by decide +kernel
theorem dX7_workOne_38 : decode cX7_workOne 38 = .ok (.if_icmp .ne 8, 3) := by decide +kernel
theorem dX7_workOne_41 : decode cX7_workOne 41 = .ok (.lload_n 2, 1) := by decide +kernel
theorem dX7_workOne_42 : decode cX7_workOne 42 = .ok (.lneg, 1) := by decide +kernel
theorem dX7_workOne_43 : decode cX7_workOne 43 = .ok (.goto 14, 3) := by decide +kernel
theorem dX7_workOne_46 : decode cX7_workOne 46 = .ok (.lload_n 2, 1) := by decide +kernel
theorem dX7_workOne_47 : decode cX7_workOne 47 = .ok (.lconst 0, 1) := by decide +kernel
theorem dX7_workOne_48 : decode cX7_workOne 48 = .ok (.lcmp, 1) := by decide +kernel
theorem dX7_workOne_49 : decode cX7_workOne 49 = .ok (.ifCond .ne 7, 3) := by decide +kernel
theorem dX7_workOne_52 : decode cX7_workOne 52 = .ok (.lconst 1, 1) := by decide +kernel
theorem dX7_workOne_53 : decode cX7_workOne 53 = .ok (.goto 4, 3) := by decide +kernel
theorem dX7_workOne_56 : decode cX7_workOne 56 = .ok (.lconst 0, 1) := by decide +kernel
theorem dX7_workOne_57 : decode cX7_workOne 57 = .ok (.lastore, 1) := by decide +kernel
theorem dX7_workOne_58 : decode cX7_workOne 58 = .ok (.return_, 1) := by decide +kernel
theorem dX7_workTwo_0 : decode cX7_workTwo 0 = .ok (.aload_n 0, 1) := by decide +kernel
theorem dX7_workTwo_1 : decode cX7_workTwo 1 = .ok (.getfield 19, 3) := by decide +kernel
theorem dX7_workTwo_4 : decode cX7_workTwo 4 = .ok (.iconst 2, 1) := by decide +kernel
theorem dX7_workTwo_5 : decode cX7_workTwo 5 = .ok (.if_icmp .ge 9, 3) := by decide +kernel
theorem dX7_workTwo_8 : decode cX7_workTwo 8 = .ok (.aload_n 0, 1) := by decide +kernel
theorem dX7_workTwo_9 : decode cX7_workTwo 9 = .ok (.iconst 1, 1) := by decide +kernel
theorem dX7_workTwo_10 : decode cX7_workTwo 10 = .ok (.putfield 15, 3) := by decide +kernel
theorem dX7_workTwo_13 : decode cX7_workTwo 13 = .ok (.return_, 1) := by decide +kernel
theorem dX7_workTwo_14 : decode cX7_workTwo 14 = .ok (.aload_n 0, 1) := by decide +kernel
theorem dX7_workTwo_15 : decode cX7_workTwo 15 = .ok (.dup, 1) := by decide +kernel
theorem dX7_workTwo_16 : decode cX7_workTwo 16 = .ok (.getfield 19, 3) := by decide +kernel
theorem dX7_workTwo_19 : decode cX7_workTwo 19 = .ok (.iconst 1, 1) := by decide +kernel
theorem dX7_workTwo_20 : decode cX7_workTwo 20 = .ok (.isub, 1) := by decide +kernel
theorem dX7_workTwo_21 : decode cX7_workTwo 21 = .ok (.putfield 19, 3) := by decide +kernel
theorem dX7_workTwo_24 : decode cX7_workTwo 24 = .ok (.aload_n 0, 1) := by decide +kernel
theorem dX7_workTwo_25 : decode cX7_workTwo 25 = .ok (.getfield 9, 3) := by decide +kernel
theorem dX7_workTwo_28 : decode cX7_workTwo 28 = .ok (.aload_n 0, 1) := by decide +kernel
theorem dX7_workTwo_29 : decode cX7_workTwo 29 = .ok (.getfield 19, 3) := by decide +kernel
theorem dX7_workTwo_32 : decode cX7_workTwo 32 = .ok (.iconst 1, 1) := by decide +kernel
theorem dX7_workTwo_33 : decode cX7_workTwo 33 = .ok (.isub, 1) := by decide +kernel
theorem dX7_workTwo_34 : decode cX7_workTwo 34 = .ok (.laload, 1) := by decide +kernel
theorem dX7_workTwo_35 : decode cX7_workTwo 35 = .ok (.lstore_n 2, 1) := by decide +kernel
theorem dX7_workTwo_36 : decode cX7_workTwo 36 = .ok (.aload_n 0, 1) := by decide +kernel
theorem dX7_workTwo_37 : decode cX7_workTwo 37 = .ok (.getfield 9, 3) := by decide +kernel
theorem dX7_workTwo_40 : decode cX7_workTwo 40 = .ok (.aload_n 0, 1) := by decide +kernel
theorem dX7_workTwo_41 : decode cX7_workTwo 41 = .ok (.getfield 19, 3) := by decide +kernel
theorem dX7_workTwo_44 : decode cX7_workTwo 44 = .ok (.laload, 1) := by decide +kernel
theorem dX7_workTwo_45 : decode cX7_workTwo 45 = .ok (.lstore 4, 2) := by decide +kernel
theorem dX7_workTwo_47 : decode cX7_workTwo 47 = .ok (.iload_n 1, 1) := by decide +kernel
theorem dX7_workTwo_48 : decode cX7_workTwo 48 = .ok (.bipush 47, 2) := by decide +kernel
theorem dX7_workTwo_50 : decode cX7_workTwo 50 = .ok (.if_icmp .eq 9, 3) := by decide +kernel
theorem dX7_workTwo_53 : decode cX7_workTwo 53 = .ok (.iload_n 1, 1) := by decide +kernel
theorem dX7_workTwo_54 : decode cX7_workTwo 54 = .ok (.bipush 37, 2) := by decide +kernel
theorem dX7_workTwo_56 : decode cX7_workTwo 56 = .ok (.if_icmp .ne 16, 3) := by decide +kernel
theorem dX7_workTwo_59 : decode cX7_workTwo 59 = .ok (.lload 4, 2) := by decide +kernel
theorem dX7_workTwo_61 : decode cX7_workTwo 61 = .ok (.lconst 0, 1) := by decide +kernel
theorem dX7_workTwo_62 : decode cX7_workTwo 62 = .ok (.lcmp, 1) := by decide +kernel
theorem dX7_workTwo_63 : decode cX7_workTwo 63 = .ok (.ifCond .ne 9, 3) := by decide +kernel
theorem dX7_workTwo_66 : decode cX7_workTwo 66 = .ok (.aload_n 0, 1) := by decide +kernel
theorem dX7_workTwo_67 : decode cX7_workTwo 67 = .ok (.iconst 1, 1) := by decide +kernel
theorem dX7_workTwo_68 : decode cX7_workTwo 68 = .ok (.putfield 15, 3) := by decide +kernel
theorem dX7_workTwo_71 : decode cX7_workTwo 71 = .ok (.return_, 1) := by decide +kernel
theorem dX7_workTwo_72 : decode cX7_workTwo 72 = .ok (.aload_n 0, 1) := by decide +kernel
theorem dX7_workTwo_73 : decode cX7_workTwo 73 = .ok (.getfield 9, 3) := by decide +kernel
theorem dX7_workTwo_76 : decode cX7_workTwo 76 = .ok (.aload_n 0, 1) := by decide +kernel
theorem dX7_workTwo_77 : decode cX7_workTwo 77 = .ok (.getfield 19, 3) := by decide +kernel
theorem dX7_workTwo_80 : decode cX7_workTwo 80 = .ok (.iconst 1, 1) := by decide +kernel
theorem dX7_workTwo_81 : decode cX7_workTwo 81 = .ok (.isub, 1) := by decide +kernel
theorem dX7_workTwo_82 : decode cX7_workTwo 82 = .ok (.iload_n 1, 1) := by decide +kernel
theorem dX7_workTwo_83 : decode cX7_workTwo 83 = .ok (.lload_n 2, 1) := by decide +kernel
theorem dX7_workTwo_84 : decode cX7_workTwo 84 = .ok (.lload 4, 2) := by decide +kernel
theorem dX7_workTwo_86 : decode cX7_workTwo 86 = .ok (.invokestatic 67, 3) := by decide +kernel
theorem dX7_workTwo_89 : decode cX7_workTwo 89 = .ok (.lastore, 1) := by decide +kernel
theorem dX7_workTwo_90 : decode cX7_workTwo 90 = .ok (.return_, 1) := by decide +kernel
theorem dX8_init_0 : decode cX8_init 0 = .ok (.aload_n 0, 1) := by decide +kernel
theorem dX8_init_1 : decode cX8_init 1 = .ok (.invokespecial 3, 3) := by decide +kernel
theorem dX8_init_4 : decode cX8_init 4 = .ok (.aload_n 0, 1) := by decide +kernel
theorem dX8_init_5 : decode cX8_init 5 = .ok (.bipush 14, 2) := by decide +kernel
theorem dX8_init_7 : decode cX8_init 7 = .ok (.anewarray 9, 3) := by decide +kernel
theorem dX8_init_10 : decode cX8_init 10 = .ok (.putfield 11, 3) := by decide +kernel
theorem dX8_init_13 : decode cX8_init 13 = .ok (.iconst 0, 1) := by decide +kernel
theorem dX8_init_14 : decode cX8_init 14 = .ok (.istore_n 1, 1) := by decide +kernel
theorem dX8_init_15 : decode cX8_init 15 = .ok (.iload_n 1, 1) := by decide +kernel
theorem dX8_init_16 : decode cX8_init 16 = .ok (.bipush 14, 2) := by decide +kernel
theorem dX8_init_18 : decode cX8_init 18 = .ok (.if_icmp .ge 23, 3) := by decide +kernel
theorem dX8_init_21 : decode cX8_init 21 = .ok (.aload_n 0, 1) := by decide +kernel
theorem dX8_init_22 : decode cX8_init 22 = .ok (.getfield 11, 3) := by decide +kernel
theorem dX8_init_25 : decode cX8_init 25 = .ok (.iload_n 1, 1) := by decide +kernel
theorem dX8_init_26 : decode cX8_init 26 = .ok (.new 9, 3) := by decide +kernel
theorem dX8_init_29 : decode cX8_init 29 = .ok (.dup, 1) := by decide +kernel
theorem dX8_init_30 : decode cX8_init 30 = .ok (.iload_n 1, 1) := by decide +kernel
theorem dX8_init_31 : decode cX8_init 31 = .ok (.invokespecial 17, 3) := by decide +kernel
theorem dX8_init_34 : decode cX8_init 34 = .ok (.aastore, 1) := by decide +kernel
theorem dX8_init_35 : decode cX8_init 35 = .ok (.iinc 1 1, 3) := by decide +kernel
theorem dX8_init_38 : decode cX8_init 38 = .ok (.goto (-23), 3) := by decide +kernel
theorem dX8_init_41 : decode cX8_init 41 = .ok (.return_, 1) := by decide +kernel
theorem dX9_addToken_0 : decode cX9_addToken 0 = .ok (.aload_n 0, 1) := by decide +kernel
theorem dX9_addToken_1 : decode cX9_addToken 1 = .ok (.getfield 48, 3) := by decide +kernel
theorem dX9_addToken_4 : decode cX9_addToken 4 = .ok (.sipush 3000, 3) := by decide +kernel
theorem dX9_addToken_7 : decode cX9_addToken 7 = .ok (.if_icmp .gt 43, 3) := by decide +kernel
theorem dX9_addToken_10 : decode cX9_addToken 10 = .ok (.aload_n 0, 1) := by decide +kernel
theorem dX9_addToken_11 : decode cX9_addToken 11 = .ok (.getfield 15, 3) := by decide +kernel
theorem dX9_addToken_14 : decode cX9_addToken 14 = .ok (.aload_n 0, 1) := by decide +kernel
theorem dX9_addToken_15 : decode cX9_addToken 15 = .ok (.getfield 48, 3) := by decide +kernel
theorem dX9_addToken_18 : decode cX9_addToken 18 = .ok (.iload_n 1, 1) := by decide +kernel
theorem dX9_addToken_19 : decode cX9_addToken 19 = .ok (.iastore, 1) := by decide +kernel
theorem dX9_addToken_20 : decode cX9_addToken 20 = .ok (.aload_n 0, 1) := by decide +kernel
theorem dX9_addToken_21 : decode cX9_addToken 21 = .ok (.getfield 18, 3) := by decide +kernel
theorem dX9_addToken_24 : decode cX9_addToken 24 = .ok (.aload_n 0, 1) := by decide +kernel
theorem dX9_addToken_25 : decode cX9_addToken 25 = .ok (.getfield 48, 3) := by decide +kernel
theorem dX9_addToken_28 : decode cX9_addToken 28 = .ok (.iload_n 2, 1) := by decide +kernel
theorem dX9_addToken_29 : decode cX9_addToken 29 = .ok (.iastore, 1) := by decide +kernel
theorem dX9_addToken_30 : decode cX9_addToken 30 = .ok (.aload_n 0, 1) := by decide +kernel
theorem dX9_addToken_31 : decode cX9_addToken 31 = .ok (.getfield 21, 3) := by decide +kernel
theorem dX9_addToken_34 : decode cX9_addToken 34 = .ok (.aload_n 0, 1) := by decide +kernel
theorem dX9_addToken_35 : decode cX9_addToken 35 = .ok (.getfield 48, 3) := by decide +kernel
theorem dX9_addToken_38 : decode cX9_addToken 38 = .ok (.lload_n 3, 1) := by decide +kernel
theorem dX9_addToken_39 : decode cX9_addToken 39 = .ok (.lastore, 1) := by decide +kernel
theorem dX9_addToken_40 : decode cX9_addToken 40 = .ok (.aload_n 0, 1) := by decide +kernel
theorem dX9_addToken_41 : decode cX9_addToken 41 = .ok (.dup, 1) := by decide +kernel
theorem dX9_addToken_42 : decode cX9_addToken 42 = .ok (.getfield 48, 3) := by decide +kernel
theorem dX9_addToken_45 : decode cX9_addToken 45 = .ok (.iconst 1, 1) := by decide +kernel
theorem dX9_addToken_46 : decode cX9_addToken 46 = .ok (.iadd, 1) := by decide +kernel
theorem dX9_addToken_47 : decode cX9_addToken 47 = .ok (.putfield 48, 3) := by decide +kernel
theorem dX9_addToken_50 : decode cX9_addToken 50 = .ok (.return_, 1) := by decide +kernel
theorem dX9_addWord_0 : decode cX9_addWord 0 = .ok (.iload_n 2, 1) := by decide +kernel
theorem dX9_addWord_1 : decode cX9_addWord 1 = .ok (.iload_n 1, 1) := by decide +kernel
theorem dX9_addWord_2 : decode cX9_addWord 2 = .ok (.isub, 1) := by decide +kernel
theorem dX9_addWord_3 : decode cX9_addWord 3 = .ok (.bipush 8, 2) := by decide +kernel
theorem dX9_addWord_5 : decode cX9_addWord 5 = .ok (.if_icmp .le 11, 3) := by decide +kernel
theorem dX9_addWord_8 : decode cX9_addWord 8 = .ok (.aload_n 0, 1) := by decide +kernel
theorem dX9_addWord_9 : decode cX9_addWord 9 = .ok (.iconst 1, 1) := by decide +kernel
theorem dX9_addWord_10 : decode cX9_addWord 10 = .ok (.iload_n 1, 1) := by decide +kernel
theorem dX9_addWord_11 : decode cX9_addWord 11 = .ok (.lconst 0, 1) := by decide +kernel
theorem dX9_addWord_12 : decode cX9_addWord 12 = .ok (.invokevirtual 72, 3) := by decide +kernel
theorem dX9_addWord_15 : decode cX9_addWord 15 = .ok (.return_, 1) := by decide +kernel
theorem dX9_addWord_16 : decode cX9_addWord 16 = .ok (.lconst 0, 1) := by decide +kernel
theorem dX9_addWord_17 : decode cX9_addWord 17 = .ok (.lstore_n 3, 1) := by decide +kernel
theorem dX9_addWord_18 : decode cX9_addWord 18 = .ok (.iload_n 1, 1) := by decide +kernel
theorem dX9_addWord_19 : decode cX9_addWord 19 = .ok (.istore 5, 2) := by decide +kernel
theorem dX9_addWord_21 : decode cX9_addWord 21 = .ok (.iload 5, 2) := by decide +kernel
theorem dX9_addWord_23 : decode cX9_addWord 23 = .ok (.iload_n 2, 1) := by decide +kernel
theorem dX9_addWord_24 : decode cX9_addWord 24 = .ok (.if_icmp .ge 28, 3) := by decide +kernel
theorem dX9_addWord_27 : decode cX9_addWord 27 = .ok (.lload_n 3, 1) := by decide +kernel
theorem dX9_addWord_28 : decode cX9_addWord 28 = .ok (.aload_n 0, 1) := by decide +kernel
theorem dX9_addWord_29 : decode cX9_addWord 29 = .ok (.getfield 9, 3) := by decide +kernel
theorem dX9_addWord_32 : decode cX9_addWord 32 = .ok (.iload 5, 2) := by decide +kernel
theorem dX9_addWord_34 : decode cX9_addWord 34 = .ok (.iaload, 1) := by decide +kernel
theorem dX9_addWord_35 : decode cX9_addWord 35 = .ok (.i2l, 1) := by decide +kernel
theorem dX9_addWord_36 : decode cX9_addWord 36 = .ok (.bipush 8, 2) := by decide +kernel
theorem dX9_addWord_38 : decode cX9_addWord 38 = .ok (.iload 5, 2) := by decide +kernel
theorem dX9_addWord_40 : decode cX9_addWord 40 = .ok (.iload_n 1, 1) := by decide +kernel
theorem dX9_addWord_41 : decode cX9_addWord 41 = .ok (.isub, 1) := by decide +kernel
theorem dX9_addWord_42 : decode cX9_addWord 42 = .ok (.imul, 1) := by decide +kernel
theorem dX9_addWord_43 : decode cX9_addWord 43 = .ok (.lshl, 1) := by decide +kernel
theorem dX9_addWord_44 : decode cX9_addWord 44 = .ok (.lor, 1) := by decide +kernel
theorem dX9_addWord_45 : decode cX9_addWord 45 = .ok (.lstore_n 3, 1) := by decide +kernel
theorem dX9_addWord_46 : decode cX9_addWord 46 = .ok (.iinc 5 1, 3) := by decide +kernel
theorem dX9_addWord_49 : decode cX9_addWord 49 = .ok (.goto (-28), 3) := by decide +kernel
theorem dX9_addWord_52 : decode cX9_addWord 52 = .ok (.aload_n 0, 1) := by decide +kernel
theorem dX9_addWord_53 : decode cX9_addWord 53 = .ok (.iload_n 1, 1) := by decide +kernel
theorem dX9_addWord_54 : decode cX9_addWord 54 = .ok (.iload_n 2, 1) := by decide +kernel
theorem dX9_addWord_55 : decode cX9_addWord 55 = .ok (.invokevirtual 87, 3) := by decide +kernel
theorem dX9_addWord_58 : decode cX9_addWord 58 = .ok (.istore 5, 2) := by decide +kernel
theorem dX9_addWord_60 : decode cX9_addWord 60 = .ok (.iload 5, 2) := by decide +kernel
theorem dX9_addWord_62 : decode cX9_addWord 62 = .ok (.iconst (-1), 1) := by decide +kernel
theorem dX9_addWord_63 : decode cX9_addWord 63 = .ok (.if_icmp .eq 15, 3) := by decide +kernel
theorem dX9_addWord_66 : decode cX9_addWord 66 = .ok (.aload_n 0, 1) := by decide +kernel
theorem dX9_addWord_67 : decode cX9_addWord 67 = .ok (.iconst 4, 1) := by decide +kernel
theorem dX9_addWord_68 : decode cX9_addWord 68 = .ok (.iload_n 1, 1) := by decide +kernel
theorem dX9_addWord_69 : decode cX9_addWord 69 = .ok (.iload 5, 2) := by decide +kernel
theorem dX9_addWord_71 : decode cX9_addWord 71 = .ok (.i2l, 1) := by decide +kernel
theorem dX9_addWord_72 : decode cX9_addWord 72 = .ok (.invokevirtual 72, 3) := by decide +kernel
theorem dX9_addWord_75 : decode cX9_addWord 75 = .ok (.goto 14, 3) := by decide +kernel
theorem dX9_addWord_78 : decode cX9_addWord 78 = .ok (.aload_n 0, 1) := by decide +kernel
theorem dX9_addWord_79 : decode cX9_addWord 79 = .ok (.aload_n 0, 1) := by decide +kernel
theorem dX9_addWord_80 : decode cX9_addWord 80 = .ok (.lload_n 3, 1) := by decide +kernel
theorem dX9_addWord_81 : decode cX9_addWord 81 = .ok (.invokevirtual 90, 3) := by decide +kernel
theorem dX9_addWord_84 : decode cX9_addWord 84 = .ok (.iload_n 1, 1) := by decide +kernel
theorem dX9_addWord_85 : decode cX9_addWord 85 = .ok (.lload_n 3, 1) := by decide +kernel
theorem dX9_addWord_86 : decode cX9_addWord 86 = .ok (.invokevirtual 72, 3) := by decide +kernel
theorem dX9_addWord_89 : decode cX9_addWord 89 = .ok (.return_, 1) := by decide +kernel
theorem dX9_append_0 : decode cX9_append 0 = .ok (.iload_n 3, 1) := by decide +kernel
theorem dX9_append_1 : decode cX9_append 1 = .ok (.iconst 1, 1) := by decide +kernel
theorem dX9_append_2 : decode cX9_append 2 = .ok (.isub, 1) := by decide +kernel
theorem dX9_append_3 : decode cX9_append 3 = .ok (.istore 4, 2) := by decide +kernel
theorem dX9_append_5 : decode cX9_append 5 = .ok (.iload 4, 2) := by decide +kernel
theorem dX9_append_7 : decode cX9_append 7 = .ok (.ifCond .lt 44, 3) := by decide +kernel
theorem dX9_append_10 : decode cX9_append 10 = .ok (.aload_n 0, 1) := by decide +kernel
theorem dX9_append_11 : decode cX9_append 11 = .ok (.getfield 40, 3) := by decide +kernel
theorem dX9_append_14 : decode cX9_append 14 = .ok (.sipush 3000, 3) := by decide +kernel
theorem dX9_append_17 : decode cX9_append 17 = .ok (.if_icmp .ge 34, 3) := by decide +kernel
theorem dX9_append_20 : decode cX9_append 20 = .ok (.aload_n 0, 1) := by decide +kernel
theorem dX9_append_21 : decode cX9_append 21 = .ok (.getfield 9, 3) := by decide +kernel
theorem dX9_append_24 : decode cX9_append 24 = .ok (.aload_n 0, 1) := by decide +kernel
theorem dX9_append_25 : decode cX9_append 25 = .ok (.getfield 40, 3) := by decide +kernel
theorem dX9_append_28 : decode cX9_append 28 = .ok (.lload_n 1, 1) := by decide +kernel
theorem dX9_append_29 : decode cX9_append 29 = .ok (.iload 4, 2) := by decide +kernel
theorem dX9_append_31 : decode cX9_append 31 = .ok (.invokestatic 44, 3) := by decide +kernel
theorem dX9_append_34 : decode cX9_append 34 = .ok (.iastore, 1) := by decide +kernel
theorem dX9_append_35 : decode cX9_append 35 = .ok (.aload_n 0, 1) := by decide +kernel
theorem dX9_append_36 : decode cX9_append 36 = .ok (.dup, 1) := by decide +kernel
theorem dX9_append_37 : decode cX9_append 37 = .ok (.getfield 40, 3) := by decide +kernel
theorem dX9_append_40 : decode cX9_append 40 = .ok (.iconst 1, 1) := by decide +kernel
theorem dX9_append_41 : decode cX9_append 41 = .ok (.iadd, 1) := by decide +kernel
theorem dX9_append_42 : decode cX9_append 42 = .ok (.putfield 40, 3) := by decide +kernel
theorem dX9_append_45 : decode cX9_append 45 = .ok (.iinc 4 (-1), 3) := by decide +kernel
theorem dX9_append_48 : decode cX9_append 48 = .ok (.goto (-43), 3) := by decide +kernel
theorem dX9_append_51 : decode cX9_append 51 = .ok (.return_, 1) := by decide +kernel
theorem dX9_init_0 : decode cX9_init 0 = .ok (.aload_n 0, 1) := by decide +kernel
theorem dX9_init_1 : decode cX9_init 1 = .ok (.invokespecial 3, 3) := by decide +kernel
theorem dX9_init_4 : decode cX9_init 4 = .ok (.aload_n 0, 1) := by decide +kernel
theorem dX9_init_5 : decode cX9_init 5 = .ok (.sipush 3000, 3) := by decide +kernel
theorem dX9_init_8 : decode cX9_init 8 = .ok (.newarray .int, 2) := by decide +kernel
theorem dX9_init_10 : decode cX9_init 10 = .ok (.putfield 9, 3) := by decide +kernel
theorem dX9_init_13 : decode cX9_init 13 = .ok (.aload_n 0, 1) := by decide +kernel
theorem dX9_init_14 : decode cX9_init 14 = .ok (.sipush 3001, 3) := by decide +kernel
theorem dX9_init_17 : decode cX9_init 17 = .ok (.newarray .int, 2) := by decide +kernel
theorem dX9_init_19 : decode cX9_init 19 = .ok (.putfield 15, 3) := by decide +kernel
theorem dX9_init_22 : decode cX9_init 22 = .ok (.aload_n 0, 1) := by decide +kernel
theorem dX9_init_23 : decode cX9_init 23 = .ok (.sipush 3001, 3) := by decide +kernel
theorem dX9_init_26 : decode cX9_init 26 = .ok (.newarray .int, 2) := by decide +kernel
theorem dX9_init_28 : decode cX9_init 28 = .ok (.putfield 18, 3) := by decide +kernel
theorem dX9_init_31 : decode cX9_init 31 = .ok (.aload_n 0, 1) := by decide +kernel
theorem dX9_init_32 : decode cX9_init 32 = .ok (.sipush 3001, 3) := by decide +kernel
theorem dX9_init_35 : decode cX9_init 35 = .ok (.newarray .long, 2) := by decide +kernel
theorem dX9_init_37 : decode cX9_init 37 = .ok (.putfield 21, 3) := by decide +kernel
theorem dX9_init_40 : decode cX9_init 40 = .ok (.aload_n 0, 1) := by decide +kernel
theorem dX9_init_41 : decode cX9_init 41 = .ok (.bipush 27, 2) := by decide +kernel
theorem dX9_init_43 : decode cX9_init 43 = .ok (.newarray .long, 2) := by decide +kernel
theorem dX9_init_45 : decode cX9_init 45 = .ok (.putfield 25, 3) := by decide +kernel
theorem dX9_init_48 : decode cX9_init 48 = .ok (.iconst 0, 1) := by decide +kernel
theorem dX9_init_49 : decode cX9_init 49 = .ok (.istore_n 1, 1) := by decide +kernel
theorem dX9_init_50 : decode cX9_init 50 = .ok (.iconst 0, 1) := by decide +kernel
theorem dX9_init_51 : decode cX9_init 51 = .ok (.istore_n 2, 1) := by decide +kernel
theorem dX9_init_52 : decode cX9_init 52 = .ok (.iconst 0, 1) := by decide +kernel
theorem dX9_init_53 : decode cX9_init 53 = .ok (.istore_n 3, 1) := by decide +kernel
theorem dX9_init_54 : decode cX9_init 54 = .ok (.iload_n 3, 1) := by decide +kernel
theorem dX9_init_55 : decode cX9_init 55 = .ok (.ldc 28, 2) := by decide +kernel
theorem dX9_init_57 : decode cX9_init 57 = .ok (.invokevirtual 30, 3) := by decide +kernel
theorem dX9_init_60 : decode cX9_init 60 = .ok (.if_icmp .ge 58, 3) := by decide +kernel
theorem dX9_init_63 : decode cX9_init 63 = .ok (.iload_n 1, 1) := by decide +kernel
theorem dX9_init_64 : decode cX9_init 64 = .ok (.bipush 27, 2) := by decide +kernel
theorem dX9_init_66 : decode cX9_init 66 = .ok (.if_icmp .ge 52, 3) := by decide +kernel
theorem dX9_init_69 : decode cX9_init 69 = .ok (.ldc 28, 2) := by decide +kernel
theorem dX9_init_71 : decode cX9_init 71 = .ok (.iload_n 3, 1) := by decide +kernel
theorem dX9_init_72 : decode cX9_init 72 = .ok (.invokevirtual 36, 3) := by decide +kernel
theorem dX9_init_75 : decode cX9_init 75 = .ok (.bipush 32, 2) := by decide +kernel
theorem dX9_init_77 : decode cX9_init 77 = .ok (.if_icmp .ne 11, 3) := by decide +kernel
theorem dX9_init_80 : decode cX9_init 80 = .ok (.iinc 1 1, 3) := by decide +kernel
theorem dX9_init_83 : decode cX9_init 83 = .ok (.iconst 0, 1) := by decide +kernel
theorem dX9_init_84 : decode cX9_init 84 = .ok (.istore_n 2, 1) := by decide +kernel
theorem dX9_init_85 : decode cX9_init 85 = .ok (.goto 27, 3) := by decide +kernel
theorem dX9_init_88 : decode cX9_init 88 = .ok (.aload_n 0, 1) := by decide +kernel
theorem dX9_init_89 : decode cX9_init 89 = .ok (.getfield 25, 3) := by decide +kernel
theorem dX9_init_92 : decode cX9_init 92 = .ok (.iload_n 1, 1) := by decide +kernel
theorem dX9_init_93 : decode cX9_init 93 = .ok (.dup2, 1) := by decide +kernel
theorem dX9_init_94 : decode cX9_init 94 = .ok (.laload, 1) := by decide +kernel
theorem dX9_init_95 : decode cX9_init 95 = .ok (.ldc 28, 2) := by decide +kernel
theorem dX9_init_97 : decode cX9_init 97 = .ok (.iload_n 3, 1) := by decide +kernel
theorem dX9_init_98 : decode cX9_init 98 = .ok (.invokevirtual 36, 3) := by decide +kernel
theorem dX9_init_101 : decode cX9_init 101 = .ok (.i2l, 1) := by decide +kernel
theorem dX9_init_102 : decode cX9_init 102 = .ok (.bipush 8, 2) := by decide +kernel
theorem dX9_init_104 : decode cX9_init 104 = .ok (.iload_n 2, 1) := by decide +kernel
theorem dX9_init_105 : decode cX9_init 105 = .ok (.imul, 1) := by decide +kernel
theorem dX9_init_106 : decode cX9_init 106 = .ok (.lshl, 1) := by decide +kernel
theorem dX9_init_107 : decode cX9_init 107 = .ok (.lor, 1) := by decide +kernel
theorem dX9_init_108 : decode cX9_init 108 = .ok (.lastore, 1) := by decide +kernel
theorem dX9_init_109 : decode cX9_init 109 = .ok (.iinc 2 1, 3) := by decide +kernel
theorem dX9_init_112 : decode cX9_init 112 = .ok (.iinc 3 1, 3) := by decide +kernel
theorem dX9_init_115 : decode cX9_init 115 = .ok (.goto (-61), 3) := by decide +kernel
theorem dX9_init_118 : decode cX9_init 118 = .ok (.return_, 1) := by decide +kernel
theorem dX9_isDigit_0 : decode cX9_isDigit 0 = .ok (.iload_n 0, 1) := by decide +kernel
theorem dX9_isDigit_1 : decode cX9_isDigit 1 = .ok (.bipush 48, 2) := by decide +kernel
theorem dX9_isDigit_3 : decode cX9_isDigit 3 = .ok (.if_icmp .lt 13, 3) := by decide +kernel
theorem dX9_isDigit_6 : decode cX9_isDigit 6 = .ok (.iload_n 0, 1) := by decide +kernel
theorem dX9_isDigit_7 : decode cX9_isDigit 7 = .ok (.bipush 57, 2) := by decide +kernel
theorem dX9_isDigit_9 : decode cX9_isDigit 9 = .ok (.if_icmp .gt 7, 3) := by decide +kernel
theorem dX9_isDigit_12 : decode cX9_isDigit 12 = .ok (.iconst 1, 1) := by decide +kernel
theorem dX9_isDigit_13 : decode cX9_isDigit 13 = .ok (.goto 4, 3) := by decide +kernel
theorem dX9_isDigit_16 : decode cX9_isDigit 16 = .ok (.iconst 0, 1) := by decide +kernel
theorem dX9_isDigit_17 : decode cX9_isDigit 17 = .ok (.ireturn, 1) := by decide +kernel
theorem dX9_isSmall_0 : decode cX9_isSmall 0 = .ok (.iload_n 0, 1) := by decide +kernel
theorem dX9_isSmall_1 : decode cX9_isSmall 1 = .ok (.bipush 97, 2) := by decide +kernel
theorem dX9_isSmall_3 : decode cX9_isSmall 3 = .ok (.if_icmp .lt 13, 3) := by decide +kernel
theorem dX9_isSmall_6 : decode cX9_isSmall 6 = .ok (.iload_n 0, 1) := by decide +kernel
theorem dX9_isSmall_7 : decode cX9_isSmall 7 = .ok (.bipush 122, 2) := by decide +kernel
theorem dX9_isSmall_9 : decode cX9_isSmall 9 = .ok (.if_icmp .gt 7, 3) := by decide +kernel
theorem dX9_isSmall_12 : decode cX9_isSmall 12 = .ok (.iconst 1, 1) := by decide +kernel
theorem dX9_isSmall_13 : decode cX9_isSmall 13 = .ok (.goto 4, 3) := by decide +kernel
theorem dX9_isSmall_16 : decode cX9_isSmall 16 = .ok (.iconst 0, 1) := by decide +kernel
theorem dX9_isSmall_17 : decode cX9_isSmall 17 = .ok (.ireturn, 1) := by decide +kernel
theorem dX9_keywordOf_0 : decode cX9_keywordOf 0 = .ok (.iconst 0, 1) := by decide +kernel
theorem dX9_keywordOf_1 : decode cX9_keywordOf 1 = .ok (.istore_n 3, 1) := by decide +kernel
theorem dX9_keywordOf_2 : decode cX9_keywordOf 2 = .ok (.iload_n 3, 1) := by decide +kernel
theorem dX9_keywordOf_3 : decode cX9_keywordOf 3 = .ok (.bipush 27, 2) := by decide +kernel
theorem dX9_keywordOf_5 : decode cX9_keywordOf 5 = .ok (.if_icmp .ge 26, 3) := by decide +kernel
theorem dX9_keywordOf_8 : decode cX9_keywordOf 8 = .ok (.aload_n 0, 1) := by decide +kernel
theorem dX9_keywordOf_9 : decode cX9_keywordOf 9 = .ok (.getfield 25, 3) := by decide +kernel
theorem dX9_keywordOf_12 : decode cX9_keywordOf 12 = .ok (.iload_n 3, 1) := by decide +kernel
theorem dX9_keywordOf_13 : decode cX9_keywordOf 13 = .ok (.laload, 1) := by decide +kernel
theorem dX9_keywordOf_14 : decode cX9_keywordOf 14 = .ok (.lload_n 1, 1) := by decide +kernel
theorem dX9_keywordOf_15 : decode cX9_keywordOf 15 = .ok (.lcmp, 1) := by decide +kernel
theorem dX9_keywordOf_16 : decode cX9_keywordOf 16 = .ok (.ifCond .ne 9, 3) := by decide +kernel
theorem dX9_keywordOf_19 : decode cX9_keywordOf 19 = .ok (.sipush 200, 3) := by decide +kernel
theorem dX9_keywordOf_22 : decode cX9_keywordOf 22 = .ok (.iload_n 3, 1) := by decide +kernel
theorem dX9_keywordOf_23 : decode cX9_keywordOf 23 = .ok (.iadd, 1) := by decide +kernel
theorem dX9_keywordOf_24 : decode cX9_keywordOf 24 = .ok (.ireturn, 1) := by decide +kernel
theorem dX9_keywordOf_25 : decode cX9_keywordOf 25 = .ok (.iinc 3 1, 3) := by decide +kernel
theorem dX9_keywordOf_28 : decode cX9_keywordOf 28 = .ok (.goto (-26), 3) := by decide +kernel
theorem dX9_keywordOf_31 : decode cX9_keywordOf 31 = .ok (.iconst 2, 1) := by decide +kernel
theorem dX9_keywordOf_32 : decode cX9_keywordOf 32 = .ok (.ireturn, 1) := by decide +kernel
theorem dX9_numberIn_0 : decode cX9_numberIn 0 = .ok (.iload_n 2, 1) := by decide +kernel
theorem dX9_numberIn_1 : decode cX9_numberIn 1 = .ok (.iload_n 1, 1) := by decide +kernel
theorem dX9_numberIn_2 : decode cX9_numberIn 2 = .ok (.isub, 1) := by decide +kernel
theorem dX9_numberIn_3 : decode cX9_numberIn 3 = .ok (.iconst 2, 1) := by decide +kernel
theorem dX9_numberIn_4 : decode cX9_numberIn 4 = .ok (.if_icmp .le 31, 3) := by decide +kernel
theorem dX9_numberIn_7 : decode cX9_numberIn 7 = .ok (.aload_n 0, 1) := by decide +kernel
theorem dX9_numberIn_8 : decode cX9_numberIn 8 = .ok (.getfield 9, 3) := by decide +kernel
theorem dX9_numberIn_11 : decode cX9_numberIn 11 = .ok (.iload_n 1, 1) := by decide +kernel
theorem dX9_numberIn_12 : decode cX9_numberIn 12 = .ok (.iaload, 1) := by decide +kernel
theorem dX9_numberIn_13 : decode cX9_numberIn 13 = .ok (.bipush 48, 2) := by decide +kernel
theorem dX9_numberIn_15 : decode cX9_numberIn 15 = .ok (.if_icmp .ne 20, 3) := by decide +kernel
theorem dX9_numberIn_18 : decode cX9_numberIn 18 = .ok (.aload_n 0, 1) := by decide +kernel
theorem dX9_numberIn_19 : decode cX9_numberIn 19 = .ok (.getfield 9, 3) := by decide +kernel
theorem dX9_numberIn_22 : decode cX9_numberIn 22 = .ok (.iload_n 1, 1) := by decide +kernel
theorem dX9_numberIn_23 : decode cX9_numberIn 23 = .ok (.iconst 1, 1) := by decide +kernel
theorem dX9_numberIn_24 : decode cX9_numberIn 24 = .ok (.iadd, 1) := by decide +kernel
theorem dX9_numberIn_25 : decode cX9_numberIn 25 = .ok (.iaload, 1) := by decide +kernel
theorem dX9_numberIn_26 : decode cX9_numberIn 26 = .ok (.bipush 120, 2) := by decide +kernel
theorem dX9_numberIn_28 : decode cX9_numberIn 28 = .ok (.if_icmp .ne 7, 3) := by decide +kernel
theorem dX9_numberIn_31 : decode cX9_numberIn 31 = .ok (.iconst 1, 1) := by decide +kernel
theorem dX9_numberIn_32 : decode cX9_numberIn 32 = .ok (.goto 4, 3) := by decide +kernel
theorem dX9_numberIn_35 : decode cX9_numberIn 35 = .ok (.iconst 0, 1) := by decide +kernel
theorem dX9_numberIn_36 : decode cX9_numberIn 36 = .ok (.istore_n 3, 1) := by decide +kernel
theorem dX9_numberIn_37 : decode cX9_numberIn 37 = .ok (.iload_n 3, 1) := by decide +kernel
theorem dX9_numberIn_38 : decode cX9_numberIn 38 = .ok (.ifCond .eq 9, 3) := by decide +kernel
theorem dX9_numberIn_41 : decode cX9_numberIn 41 = .ok (.iload_n 1, 1) := by decide +kernel
theorem dX9_numberIn_42 : decode cX9_numberIn 42 = .ok (.iconst 2, 1) := by decide +kernel
theorem dX9_numberIn_43 : decode cX9_numberIn 43 = .ok (.iadd, 1) := by decide +kernel
theorem dX9_numberIn_44 : decode cX9_numberIn 44 = .ok (.goto 4, 3) := by decide +kernel
theorem dX9_numberIn_47 : decode cX9_numberIn 47 = .ok (.iload_n 1, 1) := by decide +kernel
theorem dX9_numberIn_48 : decode cX9_numberIn 48 = .ok (.istore 4, 2) := by decide +kernel
theorem dX9_numberIn_50 : decode cX9_numberIn 50 = .ok (.iload_n 3, 1) := by decide +kernel
theorem dX9_numberIn_51 : decode cX9_numberIn 51 = .ok (.ifCond .eq 8, 3) := by decide +kernel
theorem dX9_numberIn_54 : decode cX9_numberIn 54 = .ok (.bipush 16, 2) := by decide +kernel
theorem dX9_numberIn_56 : decode cX9_numberIn 56 = .ok (.goto 5, 3) := by decide +kernel
theorem dX9_numberIn_59 : decode cX9_numberIn 59 = .ok (.bipush 10, 2) := by decide +kernel
theorem dX9_numberIn_61 : decode cX9_numberIn 61 = .ok (.istore 5, 2) := by decide +kernel
theorem dX9_numberIn_63 : decode cX9_numberIn 63 = .ok (.iload_n 2, 1) := by decide +kernel
theorem dX9_numberIn_64 : decode cX9_numberIn 64 = .ok (.iload 4, 2) := by decide +kernel
theorem dX9_numberIn_66 : decode cX9_numberIn 66 = .ok (.isub, 1) := by decide +kernel
theorem dX9_numberIn_67 : decode cX9_numberIn 67 = .ok (.iload_n 3, 1) := by decide +kernel
theorem dX9_numberIn_68 : decode cX9_numberIn 68 = .ok (.ifCond .eq 8, 3) := by decide +kernel
theorem dX9_numberIn_71 : decode cX9_numberIn 71 = .ok (.bipush 8, 2) := by decide +kernel
theorem dX9_numberIn_73 : decode cX9_numberIn 73 = .ok (.goto 5, 3) := by decide +kernel
theorem dX9_numberIn_76 : decode cX9_numberIn 76 = .ok (.bipush 9, 2) := by decide +kernel
theorem dX9_numberIn_78 : decode cX9_numberIn 78 = .ok (.if_icmp .le 7, 3) := by decide +kernel
theorem dX9_numberIn_81 : decode cX9_numberIn 81 = .ok (.ldc2_w 70, 3) := by decide +kernel
theorem dX9_numberIn_84 : decode cX9_numberIn 84 = .ok (.lreturn, 1) := by decide +kernel
theorem dX9_numberIn_85 : decode cX9_numberIn 85 = .ok (.lconst 0, 1) := by decide +kernel
theorem dX9_numberIn_86 : decode cX9_numberIn 86 = .ok (.lstore 6, 2) := by decide +kernel
theorem dX9_numberIn_88 : decode cX9_numberIn 88 = .ok (.iload 4, 2) := by decide +kernel
theorem dX9_numberIn_90 : decode cX9_numberIn 90 = .ok (.istore 8, 2) := by decide +kernel
theorem dX9_numberIn_92 : decode cX9_numberIn 92 = .ok (.iload 8, 2) := by decide +kernel
theorem dX9_numberIn_94 : decode cX9_numberIn 94 = .ok (.iload_n 2, 1) := by decide +kernel
theorem dX9_numberIn_95 : decode cX9_numberIn 95 = .ok (.if_icmp .ge 73, 3) := by decide +kernel
theorem dX9_numberIn_98 : decode cX9_numberIn 98 = .ok (.aload_n 0, 1) := by decide +kernel
theorem dX9_numberIn_99 : decode cX9_numberIn 99 = .ok (.getfield 9, 3) := by decide +kernel
theorem dX9_numberIn_102 : decode cX9_numberIn 102 = .ok (.iload 8, 2) := by decide +kernel
theorem dX9_numberIn_104 : decode cX9_numberIn 104 = .ok (.iaload, 1) := by decide +kernel
theorem dX9_numberIn_105 : decode cX9_numberIn 105 = .ok (.invokestatic 63, 3) := by decide +kernel
theorem dX9_numberIn_108 : decode cX9_numberIn 108 = .ok (.ifCond .eq 16, 3) := by decide +kernel
theorem dX9_numberIn_111 : decode cX9_numberIn 111 = .ok (.aload_n 0, 1) := by decide +kernel
theorem dX9_numberIn_112 : decode cX9_numberIn 112 = .ok (.getfield 9, 3) := by decide +kernel
theorem dX9_numberIn_115 : decode cX9_numberIn 115 = .ok (.iload 8, 2) := by decide +kernel
theorem dX9_numberIn_117 : decode cX9_numberIn 117 = .ok (.iaload, 1) := by decide +kernel
theorem dX9_numberIn_118 : decode cX9_numberIn 118 = .ok (.bipush 48, 2) := by decide +kernel
theorem dX9_numberIn_120 : decode cX9_numberIn 120 = .ok (.isub, 1) := by decide +kernel
theorem dX9_numberIn_121 : decode cX9_numberIn 121 = .ok (.goto 16, 3) := by decide +kernel
theorem dX9_numberIn_124 : decode cX9_numberIn 124 = .ok (.aload_n 0, 1) := by decide +kernel
theorem dX9_numberIn_125 : decode cX9_numberIn 125 = .ok (.getfield 9, 3) := by decide +kernel
theorem dX9_numberIn_128 : decode cX9_numberIn 128 = .ok (.iload 8, 2) := by decide +kernel
theorem dX9_numberIn_130 : decode cX9_numberIn 130 = .ok (.iaload, 1) := by decide +kernel
theorem dX9_numberIn_131 : decode cX9_numberIn 131 = .ok (.bipush 97, 2) := by decide +kernel
theorem dX9_numberIn_133 : decode cX9_numberIn 133 = .ok (.isub, 1) := by decide +kernel
theorem dX9_numberIn_134 : decode cX9_numberIn 134 = .ok (.bipush 10, 2) := by decide +kernel
theorem dX9_numberIn_136 : decode cX9_numberIn 136 = .ok (.iadd, 1) := by decide +kernel
theorem dX9_numberIn_137 : decode cX9_numberIn 137 = .ok (.istore 9, 2) := by decide +kernel
theorem dX9_numberIn_139 : decode cX9_numberIn 139 = .ok (.iload 9, 2) := by decide +kernel
theorem dX9_numberIn_141 : decode cX9_numberIn 141 = .ok (.iload 5, 2) := by decide +kernel
theorem dX9_numberIn_143 : decode cX9_numberIn 143 = .ok (.if_icmp .lt 7, 3) := by decide +kernel
theorem dX9_numberIn_146 : decode cX9_numberIn 146 = .ok (.ldc2_w 70, 3) := by decide +kernel
theorem dX9_numberIn_149 : decode cX9_numberIn 149 = .ok (.lreturn, 1) := by decide +kernel
theorem dX9_numberIn_150 : decode cX9_numberIn 150 = .ok (.lload 6, 2) := by decide +kernel
theorem dX9_numberIn_152 : decode cX9_numberIn 152 = .ok (.iload 5, 2) := by decide +kernel
theorem dX9_numberIn_154 : decode cX9_numberIn 154 = .ok (.i2l, 1) := by decide +kernel
theorem dX9_numberIn_155 : decode cX9_numberIn 155 = .ok (.lmul, 1) := by decide +kernel
theorem dX9_numberIn_156 : decode cX9_numberIn 156 = .ok (.iload 9, 2) := by decide +kernel
theorem dX9_numberIn_158 : decode cX9_numberIn 158 = .ok (.i2l, 1) := by decide +kernel
theorem dX9_numberIn_159 : decode cX9_numberIn 159 = .ok (.ladd, 1) := by decide +kernel
theorem dX9_numberIn_160 : decode cX9_numberIn 160 = .ok (.lstore 6, 2) := by decide +kernel
theorem dX9_numberIn_162 : decode cX9_numberIn 162 = .ok (.iinc 8 1, 3) := by decide +kernel
theorem dX9_numberIn_165 : decode cX9_numberIn 165 = .ok (.goto (-73), 3) := by decide +kernel
theorem dX9_numberIn_168 : decode cX9_numberIn 168 = .ok (.lload 6, 2) := by decide +kernel
theorem dX9_numberIn_170 : decode cX9_numberIn 170 = .ok (.lreturn, 1) := by decide +kernel
theorem dX9_rowEnd_0 : decode cX9_rowEnd 0 = .ok (.iload_n 1, 1) := by decide +kernel
theorem dX9_rowEnd_1 : decode cX9_rowEnd 1 = .ok (.istore_n 2, 1) := by decide +kernel
theorem dX9_rowEnd_2 : decode cX9_rowEnd 2 = .ok (.iload_n 2, 1) := by decide +kernel
theorem dX9_rowEnd_3 : decode cX9_rowEnd 3 = .ok (.aload_n 0, 1) := by decide +kernel
theorem dX9_rowEnd_4 : decode cX9_rowEnd 4 = .ok (.getfield 40, 3) := by decide +kernel
theorem dX9_rowEnd_7 : decode cX9_rowEnd 7 = .ok (.if_icmp .ge 33, 3) := by decide +kernel
theorem dX9_rowEnd_10 : decode cX9_rowEnd 10 = .ok (.aload_n 0, 1) := by decide +kernel
theorem dX9_rowEnd_11 : decode cX9_rowEnd 11 = .ok (.getfield 9, 3) := by decide +kernel
theorem dX9_rowEnd_14 : decode cX9_rowEnd 14 = .ok (.iload_n 2, 1) := by decide +kernel
theorem dX9_rowEnd_15 : decode cX9_rowEnd 15 = .ok (.iaload, 1) := by decide +kernel
theorem dX9_rowEnd_16 : decode cX9_rowEnd 16 = .ok (.invokestatic 51, 3) := by decide +kernel
theorem dX9_rowEnd_19 : decode cX9_rowEnd 19 = .ok (.ifCond .ne 15, 3) := by decide +kernel
theorem dX9_rowEnd_22 : decode cX9_rowEnd 22 = .ok (.aload_n 0, 1) := by decide +kernel
theorem dX9_rowEnd_23 : decode cX9_rowEnd 23 = .ok (.getfield 9, 3) := by decide +kernel
theorem dX9_rowEnd_26 : decode cX9_rowEnd 26 = .ok (.iload_n 2, 1) := by decide +kernel
theorem dX9_rowEnd_27 : decode cX9_rowEnd 27 = .ok (.iaload, 1) := by decide +kernel
theorem dX9_rowEnd_28 : decode cX9_rowEnd 28 = .ok (.invokestatic 63, 3) := by decide +kernel
theorem dX9_rowEnd_31 : decode cX9_rowEnd 31 = .ok (.ifCond .eq 9, 3) := by decide +kernel
theorem dX9_rowEnd_34 : decode cX9_rowEnd 34 = .ok (.iinc 2 1, 3) := by decide +kernel
theorem dX9_rowEnd_37 : decode cX9_rowEnd 37 = .ok (.goto (-35), 3) := by decide +kernel
theorem dX9_rowEnd_40 : decode cX9_rowEnd 40 = .ok (.iload_n 2, 1) := by decide +kernel
theorem dX9_rowEnd_41 : decode cX9_rowEnd 41 = .ok (.ireturn, 1) := by decide +kernel
