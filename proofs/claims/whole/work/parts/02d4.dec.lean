theorem dX12_put__0 : decode cX12_put_ 0 = .ok (.aload_n 0, 1) := by decide +kernel
theorem dX12_put__1 : decode cX12_put_ 1 = .ok (.iload_n 1, 1) := by decide +kernel
theorem dX12_put__2 : decode cX12_put_ 2 = .ok (.iload_n 2, 1) := by decide +kernel
theorem dX12_put__3 : decode cX12_put_ 3 = .ok (.invokevirtual 688, 3) := by decide +kernel
theorem dX12_put__6 : decode cX12_put_ 6 = .ok (.ifCond .ne 5, 3) := by decide +kernel
theorem dX12_put__9 : decode cX12_put_ 9 = .ok (.iconst (-1), 1) := by decide +kernel
theorem dX12_put__10 : decode cX12_put_ 10 = .ok (.ireturn, 1) := by decide +kernel
theorem dX12_put__11 : decode cX12_put_ 11 = .ok (.sipush 400, 3) := by decide +kernel
theorem dX12_put__14 : decode cX12_put_ 14 = .ok (.iload_n 1, 1) := by decide +kernel
theorem dX12_put__15 : decode cX12_put_ 15 = .ok (.imul, 1) := by decide +kernel
theorem dX12_put__16 : decode cX12_put_ 16 = .ok (.iload_n 2, 1) := by decide +kernel
theorem dX12_put__17 : decode cX12_put_ 17 = .ok (.iadd, 1) := by decide +kernel
theorem dX12_put__18 : decode cX12_put_ 18 = .ok (.istore 5, 2) := by decide +kernel
theorem dX12_put__20 : decode cX12_put_ 20 = .ok (.aload_n 0, 1) := by decide +kernel
theorem dX12_put__21 : decode cX12_put_ 21 = .ok (.getfield 217, 3) := by decide +kernel
theorem dX12_put__24 : decode cX12_put_ 24 = .ok (.iload 5, 2) := by decide +kernel
theorem dX12_put__26 : decode cX12_put_ 26 = .ok (.iaload, 1) := by decide +kernel
theorem dX12_put__27 : decode cX12_put_ 27 = .ok (.iconst 5, 1) := by decide +kernel
theorem dX12_put__28 : decode cX12_put_ 28 = .ok (.if_icmp .eq 6, 3) := by decide +kernel
theorem dX12_put__31 : decode cX12_put_ 31 = .ok (.bipush (-4), 2) := by decide +kernel
theorem dX12_put__33 : decode cX12_put_ 33 = .ok (.ireturn, 1) := by decide +kernel
theorem dX12_put__34 : decode cX12_put_ 34 = .ok (.aload_n 0, 1) := by decide +kernel
theorem dX12_put__35 : decode cX12_put_ 35 = .ok (.getfield 232, 3) := by decide +kernel
theorem dX12_put__38 : decode cX12_put_ 38 = .ok (.iload 5, 2) := by decide +kernel
theorem dX12_put__40 : decode cX12_put_ 40 = .ok (.iaload, 1) := by decide +kernel
theorem dX12_put__41 : decode cX12_put_ 41 = .ok (.iconst 1, 1) := by decide +kernel
theorem dX12_put__42 : decode cX12_put_ 42 = .ok (.if_icmp .ne 6, 3) := by decide +kernel
theorem dX12_put__45 : decode cX12_put_ 45 = .ok (.bipush (-5), 2) := by decide +kernel
theorem dX12_put__47 : decode cX12_put_ 47 = .ok (.ireturn, 1) := by decide +kernel
theorem dX12_put__48 : decode cX12_put_ 48 = .ok (.aload_n 0, 1) := by decide +kernel
theorem dX12_put__49 : decode cX12_put_ 49 = .ok (.getfield 238, 3) := by decide +kernel
theorem dX12_put__52 : decode cX12_put_ 52 = .ok (.iload 5, 2) := by decide +kernel
theorem dX12_put__54 : decode cX12_put_ 54 = .ok (.iaload, 1) := by decide +kernel
theorem dX12_put__55 : decode cX12_put_ 55 = .ok (.istore 6, 2) := by decide +kernel
theorem dX12_put__57 : decode cX12_put_ 57 = .ok (.iload_n 3, 1) := by decide +kernel
theorem dX12_put__58 : decode cX12_put_ 58 = .ok (.ifCond .lt 52, 3) := by decide +kernel
theorem dX12_put__61 : decode cX12_put_ 61 = .ok (.iload_n 3, 1) := by decide +kernel
theorem dX12_put__62 : decode cX12_put_ 62 = .ok (.i2l, 1) := by decide +kernel
theorem dX12_put__63 : decode cX12_put_ 63 = .ok (.aload_n 0, 1) := by decide +kernel
theorem dX12_put__64 : decode cX12_put_ 64 = .ok (.iload 5, 2) := by decide +kernel
theorem dX12_put__66 : decode cX12_put_ 66 = .ok (.invokevirtual 643, 3) := by decide +kernel
theorem dX12_put__69 : decode cX12_put_ 69 = .ok (.lcmp, 1) := by decide +kernel
theorem dX12_put__70 : decode cX12_put_ 70 = .ok (.ifCond .ge 40, 3) := by decide +kernel
theorem dX12_put__73 : decode cX12_put_ 73 = .ok (.iload 4, 2) := by decide +kernel
theorem dX12_put__75 : decode cX12_put_ 75 = .ok (.ifCond .lt 35, 3) := by decide +kernel
theorem dX12_put__78 : decode cX12_put_ 78 = .ok (.iload 4, 2) := by decide +kernel
theorem dX12_put__80 : decode cX12_put_ 80 = .ok (.sipush 255, 3) := by decide +kernel
theorem dX12_put__83 : decode cX12_put_ 83 = .ok (.if_icmp .gt 27, 3) := by decide +kernel
theorem dX12_put__86 : decode cX12_put_ 86 = .ok (.aload_n 0, 1) := by decide +kernel
theorem dX12_put__87 : decode cX12_put_ 87 = .ok (.getfield 98, 3) := by decide +kernel
theorem dX12_put__90 : decode cX12_put_ 90 = .ok (.iload 6, 2) := by decide +kernel
theorem dX12_put__92 : decode cX12_put_ 92 = .ok (.iaload, 1) := by decide +kernel
theorem dX12_put__93 : decode cX12_put_ 93 = .ok (.bipush 6, 2) := by decide +kernel
theorem dX12_put__95 : decode cX12_put_ 95 = .ok (.if_icmp .ne 18, 3) := by decide +kernel
theorem dX12_put__98 : decode cX12_put_ 98 = .ok (.iload 4, 2) := by decide +kernel
theorem dX12_put__100 : decode cX12_put_ 100 = .ok (.aload_n 0, 1) := by decide +kernel
theorem dX12_put__101 : decode cX12_put_ 101 = .ok (.getfield 119, 3) := by decide +kernel
theorem dX12_put__104 : decode cX12_put_ 104 = .ok (.iload 6, 2) := by decide +kernel
theorem dX12_put__106 : decode cX12_put_ 106 = .ok (.iaload, 1) := by decide +kernel
theorem dX12_put__107 : decode cX12_put_ 107 = .ok (.if_icmp .ne 6, 3) := by decide +kernel
theorem dX12_put__110 : decode cX12_put_ 110 = .ok (.bipush (-3), 2) := by decide +kernel
theorem dX12_put__112 : decode cX12_put_ 112 = .ok (.ireturn, 1) := by decide +kernel
theorem dX12_put__113 : decode cX12_put_ 113 = .ok (.aload_n 0, 1) := by decide +kernel
theorem dX12_put__114 : decode cX12_put_ 114 = .ok (.getfield 39, 3) := by decide +kernel
theorem dX12_put__117 : decode cX12_put_ 117 = .ok (.iconst 0, 1) := by decide +kernel
theorem dX12_put__118 : decode cX12_put_ 118 = .ok (.iload 4, 2) := by decide +kernel
theorem dX12_put__120 : decode cX12_put_ 120 = .ok (.iastore, 1) := by decide +kernel
theorem dX12_put__121 : decode cX12_put_ 121 = .ok (.aload_n 0, 1) := by decide +kernel
theorem dX12_put__122 : decode cX12_put_ 122 = .ok (.aload_n 0, 1) := by decide +kernel
theorem dX12_put__123 : decode cX12_put_ 123 = .ok (.getfield 259, 3) := by decide +kernel
theorem dX12_put__126 : decode cX12_put_ 126 = .ok (.aload_n 0, 1) := by decide +kernel
theorem dX12_put__127 : decode cX12_put_ 127 = .ok (.getfield 220, 3) := by decide +kernel
theorem dX12_put__130 : decode cX12_put_ 130 = .ok (.iload 5, 2) := by decide +kernel
theorem dX12_put__132 : decode cX12_put_ 132 = .ok (.iaload, 1) := by decide +kernel
theorem dX12_put__133 : decode cX12_put_ 133 = .ok (.iload_n 3, 1) := by decide +kernel
theorem dX12_put__134 : decode cX12_put_ 134 = .ok (.iadd, 1) := by decide +kernel
theorem dX12_put__135 : decode cX12_put_ 135 = .ok (.iconst 1, 1) := by decide +kernel
theorem dX12_put__136 : decode cX12_put_ 136 = .ok (.invokevirtual 307, 3) := by decide +kernel
theorem dX12_put__139 : decode cX12_put_ 139 = .ok (.iconst 0, 1) := by decide +kernel
theorem dX12_put__140 : decode cX12_put_ 140 = .ok (.ireturn, 1) := by decide +kernel
theorem dX12_raw_0 : decode cX12_raw 0 = .ok (.iload_n 2, 1) := by decide +kernel
theorem dX12_raw_1 : decode cX12_raw 1 = .ok (.bipush 15, 2) := by decide +kernel
theorem dX12_raw_3 : decode cX12_raw 3 = .ok (.iand, 1) := by decide +kernel
theorem dX12_raw_4 : decode cX12_raw 4 = .ok (.istore_n 3, 1) := by decide +kernel
theorem dX12_raw_5 : decode cX12_raw 5 = .ok (.lconst 0, 1) := by decide +kernel
theorem dX12_raw_6 : decode cX12_raw 6 = .ok (.lstore 4, 2) := by decide +kernel
theorem dX12_raw_8 : decode cX12_raw 8 = .ok (.iconst 0, 1) := by decide +kernel
theorem dX12_raw_9 : decode cX12_raw 9 = .ok (.istore 6, 2) := by decide +kernel
theorem dX12_raw_11 : decode cX12_raw 11 = .ok (.iload 6, 2) := by decide +kernel
theorem dX12_raw_13 : decode cX12_raw 13 = .ok (.iload_n 3, 1) := by decide +kernel
theorem dX12_raw_14 : decode cX12_raw 14 = .ok (.if_icmp .ge 48, 3) := by decide +kernel
theorem dX12_raw_17 : decode cX12_raw 17 = .ok (.lload 4, 2) := by decide +kernel
theorem dX12_raw_19 : decode cX12_raw 19 = .ok (.bipush 8, 2) := by decide +kernel
theorem dX12_raw_21 : decode cX12_raw 21 = .ok (.lshl, 1) := by decide +kernel
theorem dX12_raw_22 : decode cX12_raw 22 = .ok (.aload_n 0, 1) := by decide +kernel
theorem dX12_raw_23 : decode cX12_raw 23 = .ok (.aload_n 0, 1) := by decide +kernel
theorem dX12_raw_24 : decode cX12_raw 24 = .ok (.getfield 259, 3) := by decide +kernel
theorem dX12_raw_27 : decode cX12_raw 27 = .ok (.iload_n 2, 1) := by decide +kernel
theorem dX12_raw_28 : decode cX12_raw 28 = .ok (.bipush 32, 2) := by decide +kernel
theorem dX12_raw_30 : decode cX12_raw 30 = .ok (.iand, 1) := by decide +kernel
theorem dX12_raw_31 : decode cX12_raw 31 = .ok (.ifCond .le 10, 3) := by decide +kernel
theorem dX12_raw_34 : decode cX12_raw 34 = .ok (.iload_n 1, 1) := by decide +kernel
theorem dX12_raw_35 : decode cX12_raw 35 = .ok (.iload 6, 2) := by decide +kernel
theorem dX12_raw_37 : decode cX12_raw 37 = .ok (.iadd, 1) := by decide +kernel
theorem dX12_raw_38 : decode cX12_raw 38 = .ok (.goto 11, 3) := by decide +kernel
theorem dX12_raw_41 : decode cX12_raw 41 = .ok (.iload_n 1, 1) := by decide +kernel
theorem dX12_raw_42 : decode cX12_raw 42 = .ok (.iload_n 3, 1) := by decide +kernel
theorem dX12_raw_43 : decode cX12_raw 43 = .ok (.iadd, 1) := by decide +kernel
theorem dX12_raw_44 : decode cX12_raw 44 = .ok (.iconst 1, 1) := by decide +kernel
theorem dX12_raw_45 : decode cX12_raw 45 = .ok (.isub, 1) := by decide +kernel
theorem dX12_raw_46 : decode cX12_raw 46 = .ok (.iload 6, 2) := by decide +kernel
theorem dX12_raw_48 : decode cX12_raw 48 = .ok (.isub, 1) := by decide +kernel
theorem dX12_raw_49 : decode cX12_raw 49 = .ok (.invokevirtual 299, 3) := by decide +kernel
theorem dX12_raw_52 : decode cX12_raw 52 = .ok (.i2l, 1) := by decide +kernel
theorem dX12_raw_53 : decode cX12_raw 53 = .ok (.lor, 1) := by decide +kernel
theorem dX12_raw_54 : decode cX12_raw 54 = .ok (.lstore 4, 2) := by decide +kernel
theorem dX12_raw_56 : decode cX12_raw 56 = .ok (.iinc 6 1, 3) := by decide +kernel
theorem dX12_raw_59 : decode cX12_raw 59 = .ok (.goto (-48), 3) := by decide +kernel
theorem dX12_raw_62 : decode cX12_raw 62 = .ok (.lload 4, 2) := by decide +kernel
theorem dX12_raw_64 : decode cX12_raw 64 = .ok (.lreturn, 1) := by decide +kernel
theorem dX12_reaches_0 : decode cX12_reaches 0 = .ok (.aload_n 0, 1) := by decide +kernel
theorem dX12_reaches_1 : decode cX12_reaches 1 = .ok (.getfield 220, 3) := by decide +kernel
theorem dX12_reaches_4 : decode cX12_reaches 4 = .ok (.iload_n 1, 1) := by decide +kernel
theorem dX12_reaches_5 : decode cX12_reaches 5 = .ok (.iaload, 1) := by decide +kernel
theorem dX12_reaches_6 : decode cX12_reaches 6 = .ok (.i2l, 1) := by decide +kernel
theorem dX12_reaches_7 : decode cX12_reaches 7 = .ok (.lload_n 2, 1) := by decide +kernel
theorem dX12_reaches_8 : decode cX12_reaches 8 = .ok (.ladd, 1) := by decide +kernel
theorem dX12_reaches_9 : decode cX12_reaches 9 = .ok (.aload_n 0, 1) := by decide +kernel
theorem dX12_reaches_10 : decode cX12_reaches 10 = .ok (.getfield 13, 3) := by decide +kernel
theorem dX12_reaches_13 : decode cX12_reaches 13 = .ok (.aload_n 0, 1) := by decide +kernel
theorem dX12_reaches_14 : decode cX12_reaches 14 = .ok (.getfield 259, 3) := by decide +kernel
theorem dX12_reaches_17 : decode cX12_reaches 17 = .ok (.iaload, 1) := by decide +kernel
theorem dX12_reaches_18 : decode cX12_reaches 18 = .ok (.i2l, 1) := by decide +kernel
theorem dX12_reaches_19 : decode cX12_reaches 19 = .ok (.lcmp, 1) := by decide +kernel
theorem dX12_reaches_20 : decode cX12_reaches 20 = .ok (.ifCond .le 11, 3) := by decide +kernel
theorem dX12_reaches_23 : decode cX12_reaches 23 = .ok (.aload_n 0, 1) := by decide +kernel
theorem dX12_reaches_24 : decode cX12_reaches 24 = .ok (.iload_n 1, 1) := by decide +kernel
theorem dX12_reaches_25 : decode cX12_reaches 25 = .ok (.iconst 1, 1) := by decide +kernel
theorem dX12_reaches_26 : decode cX12_reaches 26 = .ok (.invokevirtual 577, 3) := by decide +kernel
theorem dX12_reaches_29 : decode cX12_reaches 29 = .ok (.iconst 0, 1) := by decide +kernel
theorem dX12_reaches_30 : decode cX12_reaches 30 = .ok (.ireturn, 1) := by decide +kernel
theorem dX12_reaches_31 : decode cX12_reaches 31 = .ok (.aload_n 0, 1) := by decide +kernel
theorem dX12_reaches_32 : decode cX12_reaches 32 = .ok (.getfield 223, 3) := by decide +kernel
theorem dX12_reaches_35 : decode cX12_reaches 35 = .ok (.iload_n 1, 1) := by decide +kernel
theorem dX12_reaches_36 : decode cX12_reaches 36 = .ok (.aload_n 0, 1) := by decide +kernel
theorem dX12_reaches_37 : decode cX12_reaches 37 = .ok (.getfield 220, 3) := by decide +kernel
theorem dX12_reaches_40 : decode cX12_reaches 40 = .ok (.iload_n 1, 1) := by decide +kernel
theorem dX12_reaches_41 : decode cX12_reaches 41 = .ok (.iaload, 1) := by decide +kernel
theorem dX12_reaches_42 : decode cX12_reaches 42 = .ok (.lload_n 2, 1) := by decide +kernel
theorem dX12_reaches_43 : decode cX12_reaches 43 = .ok (.l2i, 1) := by decide +kernel
theorem dX12_reaches_44 : decode cX12_reaches 44 = .ok (.iadd, 1) := by decide +kernel
theorem dX12_reaches_45 : decode cX12_reaches 45 = .ok (.iastore, 1) := by decide +kernel
theorem dX12_reaches_46 : decode cX12_reaches 46 = .ok (.iconst 1, 1) := by decide +kernel
theorem dX12_reaches_47 : decode cX12_reaches 47 = .ok (.ireturn, 1) := by decide +kernel
theorem dX12_readBits_0 : decode cX12_readBits 0 = .ok (.aload_n 0, 1) := by decide +kernel
theorem dX12_readBits_1 : decode cX12_readBits 1 = .ok (.invokevirtual 408, 3) := by decide +kernel
theorem dX12_readBits_4 : decode cX12_readBits 4 = .ok (.aload_n 0, 1) := by decide +kernel
theorem dX12_readBits_5 : decode cX12_readBits 5 = .ok (.iload_n 1, 1) := by decide +kernel
theorem dX12_readBits_6 : decode cX12_readBits 6 = .ok (.invokevirtual 499, 3) := by decide +kernel
theorem dX12_readBits_9 : decode cX12_readBits 9 = .ok (.aload_n 0, 1) := by decide +kernel
theorem dX12_readBits_10 : decode cX12_readBits 10 = .ok (.iload_n 1, 1) := by decide +kernel
theorem dX12_readBits_11 : decode cX12_readBits 11 = .ok (.invokevirtual 466, 3) := by decide +kernel
theorem dX12_readBits_14 : decode cX12_readBits 14 = .ok (.aload_n 0, 1) := by decide +kernel
theorem dX12_readBits_15 : decode cX12_readBits 15 = .ok (.bipush 123, 2) := by decide +kernel
theorem dX12_readBits_17 : decode cX12_readBits 17 = .ok (.invokevirtual 431, 3) := by decide +kernel
theorem dX12_readBits_20 : decode cX12_readBits 20 = .ok (.aload_n 0, 1) := by decide +kernel
theorem dX12_readBits_21 : decode cX12_readBits 21 = .ok (.getfield 167, 3) := by decide +kernel
theorem dX12_readBits_24 : decode cX12_readBits 24 = .ok (.ifCond .le 4, 3) := by decide +kernel
theorem dX12_readBits_27 : decode cX12_readBits 27 = .ok (.return_, 1) := by decide +kernel
theorem dX12_readBits_28 : decode cX12_readBits 28 = .ok (.aload_n 0, 1) := by decide +kernel
theorem dX12_readBits_29 : decode cX12_readBits 29 = .ok (.getfield 98, 3) := by decide +kernel
theorem dX12_readBits_32 : decode cX12_readBits 32 = .ok (.iload_n 1, 1) := by decide +kernel
theorem dX12_readBits_33 : decode cX12_readBits 33 = .ok (.iconst 4, 1) := by decide +kernel
theorem dX12_readBits_34 : decode cX12_readBits 34 = .ok (.iastore, 1) := by decide +kernel
theorem dX12_readBits_35 : decode cX12_readBits 35 = .ok (.aload_n 0, 1) := by decide +kernel
theorem dX12_readBits_36 : decode cX12_readBits 36 = .ok (.iconst 1, 1) := by decide +kernel
theorem dX12_readBits_37 : decode cX12_readBits 37 = .ok (.putfield 182, 3) := by decide +kernel
theorem dX12_readBits_40 : decode cX12_readBits 40 = .ok (.iconst 0, 1) := by decide +kernel
theorem dX12_readBits_41 : decode cX12_readBits 41 = .ok (.istore_n 2, 1) := by decide +kernel
theorem dX12_readBits_42 : decode cX12_readBits 42 = .ok (.aload_n 0, 1) := by decide +kernel
theorem dX12_readBits_43 : decode cX12_readBits 43 = .ok (.iload_n 1, 1) := by decide +kernel
theorem dX12_readBits_44 : decode cX12_readBits 44 = .ok (.iload_n 2, 1) := by decide +kernel
theorem dX12_readBits_45 : decode cX12_readBits 45 = .ok (.invokevirtual 502, 3) := by decide +kernel
theorem dX12_readBits_48 : decode cX12_readBits 48 = .ok (.aload_n 0, 1) := by decide +kernel
theorem dX12_readBits_49 : decode cX12_readBits 49 = .ok (.getfield 167, 3) := by decide +kernel
theorem dX12_readBits_52 : decode cX12_readBits 52 = .ok (.ifCond .ne 60, 3) := by decide +kernel
theorem dX12_readBits_55 : decode cX12_readBits 55 = .ok (.aload_n 0, 1) := by decide +kernel
theorem dX12_readBits_56 : decode cX12_readBits 56 = .ok (.bipush 44, 2) := by decide +kernel
theorem dX12_readBits_58 : decode cX12_readBits 58 = .ok (.invokevirtual 401, 3) := by decide +kernel
theorem dX12_readBits_61 : decode cX12_readBits 61 = .ok (.ifCond .eq 51, 3) := by decide +kernel
theorem dX12_readBits_64 : decode cX12_readBits 64 = .ok (.aload_n 0, 1) := by decide +kernel
theorem dX12_readBits_65 : decode cX12_readBits 65 = .ok (.invokevirtual 408, 3) := by decide +kernel
theorem dX12_readBits_68 : decode cX12_readBits 68 = .ok (.iconst 0, 1) := by decide +kernel
theorem dX12_readBits_69 : decode cX12_readBits 69 = .ok (.istore_n 2, 1) := by decide +kernel
theorem dX12_readBits_70 : decode cX12_readBits 70 = .ok (.iconst 0, 1) := by decide +kernel
theorem dX12_readBits_71 : decode cX12_readBits 71 = .ok (.istore_n 3, 1) := by decide +kernel
theorem dX12_readBits_72 : decode cX12_readBits 72 = .ok (.iload_n 3, 1) := by decide +kernel
theorem dX12_readBits_73 : decode cX12_readBits 73 = .ok (.aload_n 0, 1) := by decide +kernel
theorem dX12_readBits_74 : decode cX12_readBits 74 = .ok (.getfield 125, 3) := by decide +kernel
theorem dX12_readBits_77 : decode cX12_readBits 77 = .ok (.iload_n 1, 1) := by decide +kernel
theorem dX12_readBits_78 : decode cX12_readBits 78 = .ok (.iaload, 1) := by decide +kernel
theorem dX12_readBits_79 : decode cX12_readBits 79 = .ok (.if_icmp .ge 24, 3) := by decide +kernel
theorem dX12_readBits_82 : decode cX12_readBits 82 = .ok (.iload_n 2, 1) := by decide +kernel
theorem dX12_readBits_83 : decode cX12_readBits 83 = .ok (.aload_n 0, 1) := by decide +kernel
theorem dX12_readBits_84 : decode cX12_readBits 84 = .ok (.getfield 134, 3) := by decide +kernel
theorem dX12_readBits_87 : decode cX12_readBits 87 = .ok (.bipush 16, 2) := by decide +kernel
theorem dX12_readBits_89 : decode cX12_readBits 89 = .ok (.iload_n 1, 1) := by decide +kernel
theorem dX12_readBits_90 : decode cX12_readBits 90 = .ok (.imul, 1) := by decide +kernel
theorem dX12_readBits_91 : decode cX12_readBits 91 = .ok (.iload_n 3, 1) := by decide +kernel
theorem dX12_readBits_92 : decode cX12_readBits 92 = .ok (.iadd, 1) := by decide +kernel
theorem dX12_readBits_93 : decode cX12_readBits 93 = .ok (.laload, 1) := by decide +kernel
theorem dX12_readBits_94 : decode cX12_readBits 94 = .ok (.l2i, 1) := by decide +kernel
theorem dX12_readBits_95 : decode cX12_readBits 95 = .ok (.iadd, 1) := by decide +kernel
theorem dX12_readBits_96 : decode cX12_readBits 96 = .ok (.istore_n 2, 1) := by decide +kernel
theorem dX12_readBits_97 : decode cX12_readBits 97 = .ok (.iinc 3 1, 3) := by decide +kernel
theorem dX12_readBits_100 : decode cX12_readBits 100 = .ok (.goto (-28), 3) := by decide +kernel
theorem dX12_readBits_103 : decode cX12_readBits 103 = .ok (.aload_n 0, 1) := by decide +kernel
theorem dX12_readBits_104 : decode cX12_readBits 104 = .ok (.iload_n 1, 1) := by decide +kernel
theorem dX12_readBits_105 : decode cX12_readBits 105 = .ok (.iload_n 2, 1) := by decide +kernel
theorem dX12_readBits_106 : decode cX12_readBits 106 = .ok (.invokevirtual 502, 3) := by decide +kernel
theorem dX12_readBits_109 : decode cX12_readBits 109 = .ok (.goto (-61), 3) := by decide +kernel
theorem dX12_readBits_112 : decode cX12_readBits 112 = .ok (.aload_n 0, 1) := by decide +kernel
theorem dX12_readBits_113 : decode cX12_readBits 113 = .ok (.iconst 0, 1) := by decide +kernel
theorem dX12_readBits_114 : decode cX12_readBits 114 = .ok (.putfield 182, 3) := by decide +kernel
theorem dX12_readBits_117 : decode cX12_readBits 117 = .ok (.aload_n 0, 1) := by decide +kernel
theorem dX12_readBits_118 : decode cX12_readBits 118 = .ok (.bipush 125, 2) := by decide +kernel
theorem dX12_readBits_120 : decode cX12_readBits 120 = .ok (.invokevirtual 431, 3) := by decide +kernel
theorem dX12_readBits_123 : decode cX12_readBits 123 = .ok (.return_, 1) := by decide +kernel
theorem dX12_readByte_0 : decode cX12_readByte 0 = .ok (.aload_n 0, 1) := by decide +kernel
theorem dX12_readByte_1 : decode cX12_readByte 1 = .ok (.bipush 42, 2) := by decide +kernel
theorem dX12_readByte_3 : decode cX12_readByte 3 = .ok (.invokevirtual 401, 3) := by decide +kernel
theorem dX12_readByte_6 : decode cX12_readByte 6 = .ok (.istore_n 2, 1) := by decide +kernel
theorem dX12_readByte_7 : decode cX12_readByte 7 = .ok (.aload_n 0, 1) := by decide +kernel
theorem dX12_readByte_8 : decode cX12_readByte 8 = .ok (.iload_n 2, 1) := by decide +kernel
theorem dX12_readByte_9 : decode cX12_readByte 9 = .ok (.ifCond .ne 11, 3) := by decide +kernel
theorem dX12_readByte_12 : decode cX12_readByte 12 = .ok (.aload_n 0, 1) := by decide +kernel
theorem dX12_readByte_13 : decode cX12_readByte 13 = .ok (.getfield 51, 3) := by decide +kernel
theorem dX12_readByte_16 : decode cX12_readByte 16 = .ok (.iconst 2, 1) := by decide +kernel
theorem dX12_readByte_17 : decode cX12_readByte 17 = .ok (.if_icmp .ne 7, 3) := by decide +kernel
theorem dX12_readByte_20 : decode cX12_readByte 20 = .ok (.iconst 1, 1) := by decide +kernel
theorem dX12_readByte_21 : decode cX12_readByte 21 = .ok (.goto 4, 3) := by decide +kernel
theorem dX12_readByte_24 : decode cX12_readByte 24 = .ok (.iconst 0, 1) := by decide +kernel
theorem dX12_readByte_25 : decode cX12_readByte 25 = .ok (.iconst 2, 1) := by decide +kernel
theorem dX12_readByte_26 : decode cX12_readByte 26 = .ok (.invokevirtual 404, 3) := by decide +kernel
theorem dX12_readByte_29 : decode cX12_readByte 29 = .ok (.ifCond .eq 42, 3) := by decide +kernel
theorem dX12_readByte_32 : decode cX12_readByte 32 = .ok (.aload_n 0, 1) := by decide +kernel
theorem dX12_readByte_33 : decode cX12_readByte 33 = .ok (.aload_n 0, 1) := by decide +kernel
theorem dX12_readByte_34 : decode cX12_readByte 34 = .ok (.getfield 125, 3) := by decide +kernel
theorem dX12_readByte_37 : decode cX12_readByte 37 = .ok (.iload_n 1, 1) := by decide +kernel
theorem dX12_readByte_38 : decode cX12_readByte 38 = .ok (.iaload, 1) := by decide +kernel
theorem dX12_readByte_39 : decode cX12_readByte 39 = .ok (.bipush 16, 2) := by decide +kernel
theorem dX12_readByte_41 : decode cX12_readByte 41 = .ok (.if_icmp .ge 22, 3) := by decide +kernel
theorem dX12_readByte_44 : decode cX12_readByte 44 = .ok (.iload_n 2, 1) := by decide +kernel
theorem dX12_readByte_45 : decode cX12_readByte 45 = .ok (.ifCond .ne 14, 3) := by decide +kernel
theorem dX12_readByte_48 : decode cX12_readByte 48 = .ok (.aload_n 0, 1) := by decide +kernel
theorem dX12_readByte_49 : decode cX12_readByte 49 = .ok (.getfield 64, 3) := by decide +kernel
theorem dX12_readByte_52 : decode cX12_readByte 52 = .ok (.ldc2_w 297, 3) := by decide +kernel
theorem dX12_readByte_55 : decode cX12_readByte 55 = .ok (.lcmp, 1) := by decide +kernel
theorem dX12_readByte_56 : decode cX12_readByte 56 = .ok (.ifCond .gt 7, 3) := by decide +kernel
theorem dX12_readByte_59 : decode cX12_readByte 59 = .ok (.iconst 1, 1) := by decide +kernel
theorem dX12_readByte_60 : decode cX12_readByte 60 = .ok (.goto 4, 3) := by decide +kernel
theorem dX12_readByte_63 : decode cX12_readByte 63 = .ok (.iconst 0, 1) := by decide +kernel
theorem dX12_readByte_64 : decode cX12_readByte 64 = .ok (.iconst 5, 1) := by decide +kernel
theorem dX12_readByte_65 : decode cX12_readByte 65 = .ok (.invokevirtual 404, 3) := by decide +kernel
theorem dX12_readByte_68 : decode cX12_readByte 68 = .ok (.ifCond .ne 4, 3) := by decide +kernel
theorem dX12_readByte_71 : decode cX12_readByte 71 = .ok (.return_, 1) := by decide +kernel
theorem dX12_readByte_72 : decode cX12_readByte 72 = .ok (.aload_n 0, 1) := by decide +kernel
theorem dX12_readByte_73 : decode cX12_readByte 73 = .ok (.getfield 134, 3) := by decide +kernel
theorem dX12_readByte_76 : decode cX12_readByte 76 = .ok (.bipush 16, 2) := by decide +kernel
theorem dX12_readByte_78 : decode cX12_readByte 78 = .ok (.iload_n 1, 1) := by decide +kernel
theorem dX12_readByte_79 : decode cX12_readByte 79 = .ok (.imul, 1) := by decide +kernel
theorem dX12_readByte_80 : decode cX12_readByte 80 = .ok (.aload_n 0, 1) := by decide +kernel
theorem dX12_readByte_81 : decode cX12_readByte 81 = .ok (.getfield 125, 3) := by decide +kernel
theorem dX12_readByte_84 : decode cX12_readByte 84 = .ok (.iload_n 1, 1) := by decide +kernel
theorem dX12_readByte_85 : decode cX12_readByte 85 = .ok (.iaload, 1) := by decide +kernel
theorem dX12_readByte_86 : decode cX12_readByte 86 = .ok (.iadd, 1) := by decide +kernel
theorem dX12_readByte_87 : decode cX12_readByte 87 = .ok (.iload_n 2, 1) := by decide +kernel
theorem dX12_readByte_88 : decode cX12_readByte 88 = .ok (.ifCond .eq 9, 3) := by decide +kernel
theorem dX12_readByte_91 : decode cX12_readByte 91 = .ok (.ldc2_w 521, 3) := by decide +kernel
theorem dX12_readByte_94 : decode cX12_readByte 94 = .ok (.goto 7, 3) := by decide +kernel
theorem dX12_readByte_97 : decode cX12_readByte 97 = .ok (.aload_n 0, 1) := by decide +kernel
theorem dX12_readByte_98 : decode cX12_readByte 98 = .ok (.getfield 64, 3) := by decide +kernel
theorem dX12_readByte_101 : decode cX12_readByte 101 = .ok (.lastore, 1) := by decide +kernel
theorem dX12_readByte_102 : decode cX12_readByte 102 = .ok (.aload_n 0, 1) := by decide +kernel
theorem dX12_readByte_103 : decode cX12_readByte 103 = .ok (.getfield 125, 3) := by decide +kernel
theorem dX12_readByte_106 : decode cX12_readByte 106 = .ok (.iload_n 1, 1) := by decide +kernel
theorem dX12_readByte_107 : decode cX12_readByte 107 = .ok (.dup2, 1) := by decide +kernel
theorem dX12_readByte_108 : decode cX12_readByte 108 = .ok (.iaload, 1) := by decide +kernel
theorem dX12_readByte_109 : decode cX12_readByte 109 = .ok (.iconst 1, 1) := by decide +kernel
theorem dX12_readByte_110 : decode cX12_readByte 110 = .ok (.iadd, 1) := by decide +kernel
theorem dX12_readByte_111 : decode cX12_readByte 111 = .ok (.iastore, 1) := by decide +kernel
theorem dX12_readByte_112 : decode cX12_readByte 112 = .ok (.aload_n 0, 1) := by decide +kernel
theorem dX12_readByte_113 : decode cX12_readByte 113 = .ok (.invokevirtual 408, 3) := by decide +kernel
theorem dX12_readByte_116 : decode cX12_readByte 116 = .ok (.return_, 1) := by decide +kernel
theorem dX12_readCase_0 : decode cX12_readCase 0 = .ok (.aload_n 0, 1) := by decide +kernel
theorem dX12_readCase_1 : decode cX12_readCase 1 = .ok (.aload_n 0, 1) := by decide +kernel
theorem dX12_readCase_2 : decode cX12_readCase 2 = .ok (.bipush 45, 2) := by decide +kernel
theorem dX12_readCase_4 : decode cX12_readCase 4 = .ok (.invokevirtual 401, 3) := by decide +kernel
theorem dX12_readCase_7 : decode cX12_readCase 7 = .ok (.ifCond .ne 11, 3) := by decide +kernel
theorem dX12_readCase_10 : decode cX12_readCase 10 = .ok (.aload_n 0, 1) := by decide +kernel
theorem dX12_readCase_11 : decode cX12_readCase 11 = .ok (.getfield 51, 3) := by decide +kernel
theorem dX12_readCase_14 : decode cX12_readCase 14 = .ok (.iconst 2, 1) := by decide +kernel
theorem dX12_readCase_15 : decode cX12_readCase 15 = .ok (.if_icmp .ne 7, 3) := by decide +kernel
theorem dX12_readCase_18 : decode cX12_readCase 18 = .ok (.iconst 1, 1) := by decide +kernel
theorem dX12_readCase_19 : decode cX12_readCase 19 = .ok (.goto 4, 3) := by decide +kernel
theorem dX12_readCase_22 : decode cX12_readCase 22 = .ok (.iconst 0, 1) := by decide +kernel
theorem dX12_readCase_23 : decode cX12_readCase 23 = .ok (.iconst 2, 1) := by decide +kernel
theorem dX12_readCase_24 : decode cX12_readCase 24 = .ok (.invokevirtual 404, 3) := by decide +kernel
theorem dX12_readCase_27 : decode cX12_readCase 27 = .ok (.ifCond .eq 27, 3) := by decide +kernel
theorem dX12_readCase_30 : decode cX12_readCase 30 = .ok (.aload_n 0, 1) := by decide +kernel
theorem dX12_readCase_31 : decode cX12_readCase 31 = .ok (.aload_n 0, 1) := by decide +kernel
theorem dX12_readCase_32 : decode cX12_readCase 32 = .ok (.getfield 125, 3) := by decide +kernel
theorem dX12_readCase_35 : decode cX12_readCase 35 = .ok (.iload_n 1, 1) := by decide +kernel
theorem dX12_readCase_36 : decode cX12_readCase 36 = .ok (.iaload, 1) := by decide +kernel
theorem dX12_readCase_37 : decode cX12_readCase 37 = .ok (.bipush 8, 2) := by decide +kernel
theorem dX12_readCase_39 : decode cX12_readCase 39 = .ok (.if_icmp .ge 7, 3) := by decide +kernel
theorem dX12_readCase_42 : decode cX12_readCase 42 = .ok (.iconst 1, 1) := by decide +kernel
theorem dX12_readCase_43 : decode cX12_readCase 43 = .ok (.goto 4, 3) := by decide +kernel
theorem dX12_readCase_46 : decode cX12_readCase 46 = .ok (.iconst 0, 1) := by decide +kernel
theorem dX12_readCase_47 : decode cX12_readCase 47 = .ok (.iconst 5, 1) := by decide +kernel
theorem dX12_readCase_48 : decode cX12_readCase 48 = .ok (.invokevirtual 404, 3) := by decide +kernel
theorem dX12_readCase_51 : decode cX12_readCase 51 = .ok (.ifCond .ne 4, 3) := by decide +kernel
theorem dX12_readCase_54 : decode cX12_readCase 54 = .ok (.return_, 1) := by decide +kernel
theorem dX12_readCase_55 : decode cX12_readCase 55 = .ok (.bipush 16, 2) := by decide +kernel
theorem dX12_readCase_57 : decode cX12_readCase 57 = .ok (.iload_n 1, 1) := by decide +kernel
theorem dX12_readCase_58 : decode cX12_readCase 58 = .ok (.imul, 1) := by decide +kernel
theorem dX12_readCase_59 : decode cX12_readCase 59 = .ok (.aload_n 0, 1) := by decide +kernel
theorem dX12_readCase_60 : decode cX12_readCase 60 = .ok (.getfield 125, 3) := by decide +kernel
theorem dX12_readCase_63 : decode cX12_readCase 63 = .ok (.iload_n 1, 1) := by decide +kernel
theorem dX12_readCase_64 : decode cX12_readCase 64 = .ok (.iaload, 1) := by decide +kernel
theorem dX12_readCase_65 : decode cX12_readCase 65 = .ok (.iadd, 1) := by decide +kernel
theorem dX12_readCase_66 : decode cX12_readCase 66 = .ok (.istore_n 2, 1) := by decide +kernel
theorem dX12_readCase_67 : decode cX12_readCase 67 = .ok (.aload_n 0, 1) := by decide +kernel
theorem dX12_readCase_68 : decode cX12_readCase 68 = .ok (.getfield 134, 3) := by decide +kernel
theorem dX12_readCase_71 : decode cX12_readCase 71 = .ok (.iload_n 2, 1) := by decide +kernel
theorem dX12_readCase_72 : decode cX12_readCase 72 = .ok (.aload_n 0, 1) := by decide +kernel
theorem dX12_readCase_73 : decode cX12_readCase 73 = .ok (.invokevirtual 437, 3) := by decide +kernel
theorem dX12_readCase_76 : decode cX12_readCase 76 = .ok (.lastore, 1) := by decide +kernel
theorem dX12_readCase_77 : decode cX12_readCase 77 = .ok (.aload_n 0, 1) := by decide +kernel
theorem dX12_readCase_78 : decode cX12_readCase 78 = .ok (.bipush 58, 2) := by decide +kernel
theorem dX12_readCase_80 : decode cX12_readCase 80 = .ok (.invokevirtual 431, 3) := by decide +kernel
theorem dX12_readCase_83 : decode cX12_readCase 83 = .ok (.aload_n 0, 1) := by decide +kernel
theorem dX12_readCase_84 : decode cX12_readCase 84 = .ok (.getfield 167, 3) := by decide +kernel
theorem dX12_readCase_87 : decode cX12_readCase 87 = .ok (.ifCond .le 4, 3) := by decide +kernel
theorem dX12_readCase_90 : decode cX12_readCase 90 = .ok (.return_, 1) := by decide +kernel
theorem dX12_readCase_91 : decode cX12_readCase 91 = .ok (.aload_n 0, 1) := by decide +kernel
theorem dX12_readCase_92 : decode cX12_readCase 92 = .ok (.getfield 137, 3) := by decide +kernel
theorem dX12_readCase_95 : decode cX12_readCase 95 = .ok (.iload_n 2, 1) := by decide +kernel
theorem dX12_readCase_96 : decode cX12_readCase 96 = .ok (.aload_n 0, 1) := by decide +kernel
theorem dX12_readCase_97 : decode cX12_readCase 97 = .ok (.invokevirtual 513, 3) := by decide +kernel
theorem dX12_readCase_100 : decode cX12_readCase 100 = .ok (.iastore, 1) := by decide +kernel
theorem dX12_readCase_101 : decode cX12_readCase 101 = .ok (.aload_n 0, 1) := by decide +kernel
theorem dX12_readCase_102 : decode cX12_readCase 102 = .ok (.bipush 59, 2) := by decide +kernel
theorem dX12_readCase_104 : decode cX12_readCase 104 = .ok (.invokevirtual 431, 3) := by decide +kernel
theorem dX12_readCase_107 : decode cX12_readCase 107 = .ok (.aload_n 0, 1) := by decide +kernel
theorem dX12_readCase_108 : decode cX12_readCase 108 = .ok (.getfield 125, 3) := by decide +kernel
theorem dX12_readCase_111 : decode cX12_readCase 111 = .ok (.iload_n 1, 1) := by decide +kernel
theorem dX12_readCase_112 : decode cX12_readCase 112 = .ok (.dup2, 1) := by decide +kernel
theorem dX12_readCase_113 : decode cX12_readCase 113 = .ok (.iaload, 1) := by decide +kernel
theorem dX12_readCase_114 : decode cX12_readCase 114 = .ok (.iconst 1, 1) := by decide +kernel
theorem dX12_readCase_115 : decode cX12_readCase 115 = .ok (.iadd, 1) := by decide +kernel
theorem dX12_readCase_116 : decode cX12_readCase 116 = .ok (.iastore, 1) := by decide +kernel
theorem dX12_readCase_117 : decode cX12_readCase 117 = .ok (.return_, 1) := by decide +kernel
theorem dX12_readEnum_0 : decode cX12_readEnum 0 = .ok (.bipush 8, 2) := by decide +kernel
theorem dX12_readEnum_2 : decode cX12_readEnum 2 = .ok (.aload_n 0, 1) := by decide +kernel
theorem dX12_readEnum_3 : decode cX12_readEnum 3 = .ok (.getfield 173, 3) := by decide +kernel
theorem dX12_readEnum_6 : decode cX12_readEnum 6 = .ok (.imul, 1) := by decide +kernel
theorem dX12_readEnum_7 : decode cX12_readEnum 7 = .ok (.aload_n 0, 1) := by decide +kernel
theorem dX12_readEnum_8 : decode cX12_readEnum 8 = .ok (.getfield 73, 3) := by decide +kernel
theorem dX12_readEnum_11 : decode cX12_readEnum 11 = .ok (.aload_n 0, 1) := by decide +kernel
theorem dX12_readEnum_12 : decode cX12_readEnum 12 = .ok (.getfield 173, 3) := by decide +kernel
theorem dX12_readEnum_15 : decode cX12_readEnum 15 = .ok (.iaload, 1) := by decide +kernel
theorem dX12_readEnum_16 : decode cX12_readEnum 16 = .ok (.iadd, 1) := by decide +kernel
theorem dX12_readEnum_17 : decode cX12_readEnum 17 = .ok (.istore_n 1, 1) := by decide +kernel
theorem dX12_readEnum_18 : decode cX12_readEnum 18 = .ok (.aload_n 0, 1) := by decide +kernel
theorem dX12_readEnum_19 : decode cX12_readEnum 19 = .ok (.getfield 86, 3) := by decide +kernel
theorem dX12_readEnum_22 : decode cX12_readEnum 22 = .ok (.iload_n 1, 1) := by decide +kernel
theorem dX12_readEnum_23 : decode cX12_readEnum 23 = .ok (.aload_n 0, 1) := by decide +kernel
theorem dX12_readEnum_24 : decode cX12_readEnum 24 = .ok (.getfield 60, 3) := by decide +kernel
theorem dX12_readEnum_27 : decode cX12_readEnum 27 = .ok (.lastore, 1) := by decide +kernel
theorem dX12_readEnum_28 : decode cX12_readEnum 28 = .ok (.aload_n 0, 1) := by decide +kernel
theorem dX12_readEnum_29 : decode cX12_readEnum 29 = .ok (.getfield 89, 3) := by decide +kernel
theorem dX12_readEnum_32 : decode cX12_readEnum 32 = .ok (.iload_n 1, 1) := by decide +kernel
theorem dX12_readEnum_33 : decode cX12_readEnum 33 = .ok (.iconst 0, 1) := by decide +kernel
theorem dX12_readEnum_34 : decode cX12_readEnum 34 = .ok (.iastore, 1) := by decide +kernel
theorem dX12_readEnum_35 : decode cX12_readEnum 35 = .ok (.aload_n 0, 1) := by decide +kernel
theorem dX12_readEnum_36 : decode cX12_readEnum 36 = .ok (.invokevirtual 408, 3) := by decide +kernel
theorem dX12_readEnum_39 : decode cX12_readEnum 39 = .ok (.aload_n 0, 1) := by decide +kernel
theorem dX12_readEnum_40 : decode cX12_readEnum 40 = .ok (.bipush 123, 2) := by decide +kernel
theorem dX12_readEnum_42 : decode cX12_readEnum 42 = .ok (.invokevirtual 431, 3) := by decide +kernel
theorem dX12_readEnum_45 : decode cX12_readEnum 45 = .ok (.aload_n 0, 1) := by decide +kernel
theorem dX12_readEnum_46 : decode cX12_readEnum 46 = .ok (.iload_n 1, 1) := by decide +kernel
theorem dX12_readEnum_47 : decode cX12_readEnum 47 = .ok (.invokevirtual 434, 3) := by decide +kernel
theorem dX12_readEnum_50 : decode cX12_readEnum 50 = .ok (.aload_n 0, 1) := by decide +kernel
theorem dX12_readEnum_51 : decode cX12_readEnum 51 = .ok (.getfield 167, 3) := by decide +kernel
theorem dX12_readEnum_54 : decode cX12_readEnum 54 = .ok (.ifCond .ne 24, 3) := by decide +kernel
theorem dX12_readEnum_57 : decode cX12_readEnum 57 = .ok (.aload_n 0, 1) := by decide +kernel
theorem dX12_readEnum_58 : decode cX12_readEnum 58 = .ok (.bipush 44, 2) := by decide +kernel
theorem dX12_readEnum_60 : decode cX12_readEnum 60 = .ok (.invokevirtual 401, 3) := by decide +kernel
theorem dX12_readEnum_63 : decode cX12_readEnum 63 = .ok (.ifCond .eq 15, 3) := by decide +kernel
theorem dX12_readEnum_66 : decode cX12_readEnum 66 = .ok (.aload_n 0, 1) := by decide +kernel
theorem dX12_readEnum_67 : decode cX12_readEnum 67 = .ok (.invokevirtual 408, 3) := by decide +kernel
theorem dX12_readEnum_70 : decode cX12_readEnum 70 = .ok (.aload_n 0, 1) := by decide +kernel
theorem dX12_readEnum_71 : decode cX12_readEnum 71 = .ok (.iload_n 1, 1) := by decide +kernel
theorem dX12_readEnum_72 : decode cX12_readEnum 72 = .ok (.invokevirtual 434, 3) := by decide +kernel
theorem dX12_readEnum_75 : decode cX12_readEnum 75 = .ok (.goto (-25), 3) := by decide +kernel
theorem dX12_readEnum_78 : decode cX12_readEnum 78 = .ok (.aload_n 0, 1) := by decide +kernel
theorem dX12_readEnum_79 : decode cX12_readEnum 79 = .ok (.bipush 125, 2) := by decide +kernel
theorem dX12_readEnum_81 : decode cX12_readEnum 81 = .ok (.invokevirtual 431, 3) := by decide +kernel
theorem dX12_readEnum_84 : decode cX12_readEnum 84 = .ok (.aload_n 0, 1) := by decide +kernel
theorem dX12_readEnum_85 : decode cX12_readEnum 85 = .ok (.getfield 73, 3) := by decide +kernel
theorem dX12_readEnum_88 : decode cX12_readEnum 88 = .ok (.aload_n 0, 1) := by decide +kernel
theorem dX12_readEnum_89 : decode cX12_readEnum 89 = .ok (.getfield 173, 3) := by decide +kernel
theorem dX12_readEnum_92 : decode cX12_readEnum 92 = .ok (.dup2, 1) := by decide +kernel
theorem dX12_readEnum_93 : decode cX12_readEnum 93 = .ok (.iaload, 1) := by decide +kernel
theorem dX12_readEnum_94 : decode cX12_readEnum 94 = .ok (.iconst 1, 1) := by decide +kernel
theorem dX12_readEnum_95 : decode cX12_readEnum 95 = .ok (.iadd, 1) := by decide +kernel
theorem dX12_readEnum_96 : decode cX12_readEnum 96 = .ok (.iastore, 1) := by decide +kernel
theorem dX12_readEnum_97 : decode cX12_readEnum 97 = .ok (.return_, 1) := by decide +kernel
theorem dX12_readField_0 : decode cX12_readField 0 = .ok (.aload_n 0, 1) := by decide +kernel
theorem dX12_readField_1 : decode cX12_readField 1 = .ok (.aload_n 0, 1) := by decide +kernel
theorem dX12_readField_2 : decode cX12_readField 2 = .ok (.ldc2_w 340, 3) := by decide +kernel
theorem dX12_readField_5 : decode cX12_readField 5 = .ok (.invokevirtual 334, 3) := by decide +kernel
theorem dX12_readField_8 : decode cX12_readField 8 = .ok (.ifCond .ne 10, 3) := by decide +kernel
theorem dX12_readField_11 : decode cX12_readField 11 = .ok (.aload_n 0, 1) := by decide +kernel
theorem dX12_readField_12 : decode cX12_readField 12 = .ok (.invokevirtual 457, 3) := by decide +kernel
theorem dX12_readField_15 : decode cX12_readField 15 = .ok (.ifCond .eq 7, 3) := by decide +kernel
theorem dX12_readField_18 : decode cX12_readField 18 = .ok (.iconst 1, 1) := by decide +kernel
theorem dX12_readField_19 : decode cX12_readField 19 = .ok (.goto 4, 3) := by decide +kernel
theorem dX12_readField_22 : decode cX12_readField 22 = .ok (.iconst 0, 1) := by decide +kernel
theorem dX12_readField_23 : decode cX12_readField 23 = .ok (.iconst 2, 1) := by decide +kernel
theorem dX12_readField_24 : decode cX12_readField 24 = .ok (.invokevirtual 404, 3) := by decide +kernel
theorem dX12_readField_27 : decode cX12_readField 27 = .ok (.ifCond .ne 4, 3) := by decide +kernel
theorem dX12_readField_30 : decode cX12_readField 30 = .ok (.return_, 1) := by decide +kernel
theorem dX12_readField_31 : decode cX12_readField 31 = .ok (.aload_n 0, 1) := by decide +kernel
theorem dX12_readField_32 : decode cX12_readField 32 = .ok (.invokevirtual 418, 3) := by decide +kernel
theorem dX12_readField_35 : decode cX12_readField 35 = .ok (.ifCond .eq 37, 3) := by decide +kernel
theorem dX12_readField_38 : decode cX12_readField 38 = .ok (.aload_n 0, 1) := by decide +kernel
theorem dX12_readField_39 : decode cX12_readField 39 = .ok (.aload_n 0, 1) := by decide +kernel
theorem dX12_readField_40 : decode cX12_readField 40 = .ok (.aload_n 0, 1) := by decide +kernel
theorem dX12_readField_41 : decode cX12_readField 41 = .ok (.getfield 60, 3) := by decide +kernel
theorem dX12_readField_44 : decode cX12_readField 44 = .ok (.aload_n 0, 1) := by decide +kernel
theorem dX12_readField_45 : decode cX12_readField 45 = .ok (.getfield 70, 3) := by decide +kernel
theorem dX12_readField_48 : decode cX12_readField 48 = .ok (.aload_n 0, 1) := by decide +kernel
theorem dX12_readField_49 : decode cX12_readField 49 = .ok (.getfield 173, 3) := by decide +kernel
theorem dX12_readField_52 : decode cX12_readField 52 = .ok (.iaload, 1) := by decide +kernel
theorem dX12_readField_53 : decode cX12_readField 53 = .ok (.invokevirtual 414, 3) := by decide +kernel
theorem dX12_readField_56 : decode cX12_readField 56 = .ok (.ifCond .lt 7, 3) := by decide +kernel
theorem dX12_readField_59 : decode cX12_readField 59 = .ok (.iconst 1, 1) := by decide +kernel
theorem dX12_readField_60 : decode cX12_readField 60 = .ok (.goto 4, 3) := by decide +kernel
theorem dX12_readField_63 : decode cX12_readField 63 = .ok (.iconst 0, 1) := by decide +kernel
theorem dX12_readField_64 : decode cX12_readField 64 = .ok (.iconst 4, 1) := by decide +kernel
theorem dX12_readField_65 : decode cX12_readField 65 = .ok (.invokevirtual 404, 3) := by decide +kernel
theorem dX12_readField_68 : decode cX12_readField 68 = .ok (.ifCond .ne 4, 3) := by decide +kernel
theorem dX12_readField_71 : decode cX12_readField 71 = .ok (.return_, 1) := by decide +kernel
theorem dX12_readField_72 : decode cX12_readField 72 = .ok (.aload_n 0, 1) := by decide +kernel
theorem dX12_readField_73 : decode cX12_readField 73 = .ok (.aload_n 0, 1) := by decide +kernel
theorem dX12_readField_74 : decode cX12_readField 74 = .ok (.getfield 80, 3) := by decide +kernel
theorem dX12_readField_77 : decode cX12_readField 77 = .ok (.bipush 20, 2) := by decide +kernel
theorem dX12_readField_79 : decode cX12_readField 79 = .ok (.aload_n 0, 1) := by decide +kernel
theorem dX12_readField_80 : decode cX12_readField 80 = .ok (.getfield 173, 3) := by decide +kernel
theorem dX12_readField_83 : decode cX12_readField 83 = .ok (.imul, 1) := by decide +kernel
theorem dX12_readField_84 : decode cX12_readField 84 = .ok (.aload_n 0, 1) := by decide +kernel
theorem dX12_readField_85 : decode cX12_readField 85 = .ok (.getfield 176, 3) := by decide +kernel
theorem dX12_readField_88 : decode cX12_readField 88 = .ok (.iadd, 1) := by decide +kernel
theorem dX12_readField_89 : decode cX12_readField 89 = .ok (.iaload, 1) := by decide +kernel
theorem dX12_readField_90 : decode cX12_readField 90 = .ok (.bipush 14, 2) := by decide +kernel
theorem dX12_readField_92 : decode cX12_readField 92 = .ok (.if_icmp .ge 7, 3) := by decide +kernel
theorem dX12_readField_95 : decode cX12_readField 95 = .ok (.iconst 1, 1) := by decide +kernel
theorem dX12_readField_96 : decode cX12_readField 96 = .ok (.goto 4, 3) := by decide +kernel
theorem dX12_readField_99 : decode cX12_readField 99 = .ok (.iconst 0, 1) := by decide +kernel
theorem dX12_readField_100 : decode cX12_readField 100 = .ok (.iconst 5, 1) := by decide +kernel
theorem dX12_readField_101 : decode cX12_readField 101 = .ok (.invokevirtual 404, 3) := by decide +kernel
theorem dX12_readField_104 : decode cX12_readField 104 = .ok (.ifCond .ne 4, 3) := by decide +kernel
theorem dX12_readField_107 : decode cX12_readField 107 = .ok (.return_, 1) := by decide +kernel
theorem dX12_readField_108 : decode cX12_readField 108 = .ok (.aload_n 0, 1) := by decide +kernel
theorem dX12_readField_109 : decode cX12_readField 109 = .ok (.aload_n 0, 1) := by decide +kernel
theorem dX12_readField_110 : decode cX12_readField 110 = .ok (.getfield 176, 3) := by decide +kernel
theorem dX12_readField_113 : decode cX12_readField 113 = .ok (.aload_n 0, 1) := by decide +kernel
theorem dX12_readField_114 : decode cX12_readField 114 = .ok (.getfield 80, 3) := by decide +kernel
theorem dX12_readField_117 : decode cX12_readField 117 = .ok (.bipush 20, 2) := by decide +kernel
theorem dX12_readField_119 : decode cX12_readField 119 = .ok (.aload_n 0, 1) := by decide +kernel
theorem dX12_readField_120 : decode cX12_readField 120 = .ok (.getfield 173, 3) := by decide +kernel
theorem dX12_readField_123 : decode cX12_readField 123 = .ok (.imul, 1) := by decide +kernel
theorem dX12_readField_124 : decode cX12_readField 124 = .ok (.aload_n 0, 1) := by decide +kernel
theorem dX12_readField_125 : decode cX12_readField 125 = .ok (.getfield 176, 3) := by decide +kernel
theorem dX12_readField_128 : decode cX12_readField 128 = .ok (.iadd, 1) := by decide +kernel
theorem dX12_readField_129 : decode cX12_readField 129 = .ok (.iaload, 1) := by decide +kernel
theorem dX12_readField_130 : decode cX12_readField 130 = .ok (.invokevirtual 447, 3) := by decide +kernel
theorem dX12_readField_133 : decode cX12_readField 133 = .ok (.istore_n 1, 1) := by decide +kernel
theorem dX12_readField_134 : decode cX12_readField 134 = .ok (.aload_n 0, 1) := by decide +kernel
theorem dX12_readField_135 : decode cX12_readField 135 = .ok (.getfield 110, 3) := by decide +kernel
theorem dX12_readField_138 : decode cX12_readField 138 = .ok (.iload_n 1, 1) := by decide +kernel
theorem dX12_readField_139 : decode cX12_readField 139 = .ok (.iconst (-1), 1) := by decide +kernel
theorem dX12_readField_140 : decode cX12_readField 140 = .ok (.iastore, 1) := by decide +kernel
theorem dX12_readField_141 : decode cX12_readField 141 = .ok (.aload_n 0, 1) := by decide +kernel
theorem dX12_readField_142 : decode cX12_readField 142 = .ok (.getfield 113, 3) := by decide +kernel
theorem dX12_readField_145 : decode cX12_readField 145 = .ok (.iload_n 1, 1) := by decide +kernel
theorem dX12_readField_146 : decode cX12_readField 146 = .ok (.iconst (-1), 1) := by decide +kernel
theorem dX12_readField_147 : decode cX12_readField 147 = .ok (.iastore, 1) := by decide +kernel
theorem dX12_readField_148 : decode cX12_readField 148 = .ok (.aload_n 0, 1) := by decide +kernel
theorem dX12_readField_149 : decode cX12_readField 149 = .ok (.getfield 116, 3) := by decide +kernel
theorem dX12_readField_152 : decode cX12_readField 152 = .ok (.iload_n 1, 1) := by decide +kernel
theorem dX12_readField_153 : decode cX12_readField 153 = .ok (.iconst (-1), 1) := by decide +kernel
theorem dX12_readField_154 : decode cX12_readField 154 = .ok (.iastore, 1) := by decide +kernel
theorem dX12_readField_155 : decode cX12_readField 155 = .ok (.aload_n 0, 1) := by decide +kernel
theorem dX12_readField_156 : decode cX12_readField 156 = .ok (.getfield 104, 3) := by decide +kernel
theorem dX12_readField_159 : decode cX12_readField 159 = .ok (.iload_n 1, 1) := by decide +kernel
theorem dX12_readField_160 : decode cX12_readField 160 = .ok (.iconst (-1), 1) := by decide +kernel
theorem dX12_readField_161 : decode cX12_readField 161 = .ok (.iastore, 1) := by decide +kernel
theorem dX12_readField_162 : decode cX12_readField 162 = .ok (.aload_n 0, 1) := by decide +kernel
theorem dX12_readField_163 : decode cX12_readField 163 = .ok (.getfield 122, 3) := by decide +kernel
theorem dX12_readField_166 : decode cX12_readField 166 = .ok (.iload_n 1, 1) := by decide +kernel
theorem dX12_readField_167 : decode cX12_readField 167 = .ok (.iconst (-1), 1) := by decide +kernel
theorem dX12_readField_168 : decode cX12_readField 168 = .ok (.iastore, 1) := by decide +kernel
theorem dX12_readField_169 : decode cX12_readField 169 = .ok (.aload_n 0, 1) := by decide +kernel
theorem dX12_readField_170 : decode cX12_readField 170 = .ok (.getfield 107, 3) := by decide +kernel
theorem dX12_readField_173 : decode cX12_readField 173 = .ok (.iload_n 1, 1) := by decide +kernel
theorem dX12_readField_174 : decode cX12_readField 174 = .ok (.iconst (-1), 1) := by decide +kernel
theorem dX12_readField_175 : decode cX12_readField 175 = .ok (.iastore, 1) := by decide +kernel
theorem dX12_readField_176 : decode cX12_readField 176 = .ok (.aload_n 0, 1) := by decide +kernel
theorem dX12_readField_177 : decode cX12_readField 177 = .ok (.getfield 125, 3) := by decide +kernel
theorem dX12_readField_180 : decode cX12_readField 180 = .ok (.iload_n 1, 1) := by decide +kernel
theorem dX12_readField_181 : decode cX12_readField 181 = .ok (.iconst 0, 1) := by decide +kernel
theorem dX12_readField_182 : decode cX12_readField 182 = .ok (.iastore, 1) := by decide +kernel
theorem dX12_readField_183 : decode cX12_readField 183 = .ok (.aload_n 0, 1) := by decide +kernel
theorem dX12_readField_184 : decode cX12_readField 184 = .ok (.getfield 98, 3) := by decide +kernel
theorem dX12_readField_187 : decode cX12_readField 187 = .ok (.iload_n 1, 1) := by decide +kernel
theorem dX12_readField_188 : decode cX12_readField 188 = .ok (.iconst 0, 1) := by decide +kernel
theorem dX12_readField_189 : decode cX12_readField 189 = .ok (.iastore, 1) := by decide +kernel
theorem dX12_readField_190 : decode cX12_readField 190 = .ok (.aload_n 0, 1) := by decide +kernel
theorem dX12_readField_191 : decode cX12_readField 191 = .ok (.iconst 0, 1) := by decide +kernel
theorem dX12_readField_192 : decode cX12_readField 192 = .ok (.putfield 182, 3) := by decide +kernel
theorem dX12_readField_195 : decode cX12_readField 195 = .ok (.aload_n 0, 1) := by decide +kernel
theorem dX12_readField_196 : decode cX12_readField 196 = .ok (.ldc2_w 340, 3) := by decide +kernel
theorem dX12_readField_199 : decode cX12_readField 199 = .ok (.invokevirtual 334, 3) := by decide +kernel
theorem dX12_readField_202 : decode cX12_readField 202 = .ok (.ifCond .eq 84, 3) := by decide +kernel
theorem dX12_readField_205 : decode cX12_readField 205 = .ok (.aload_n 0, 1) := by decide +kernel
theorem dX12_readField_206 : decode cX12_readField 206 = .ok (.invokevirtual 408, 3) := by decide +kernel
theorem dX12_readField_209 : decode cX12_readField 209 = .ok (.aload_n 0, 1) := by decide +kernel
theorem dX12_readField_210 : decode cX12_readField 210 = .ok (.getfield 110, 3) := by decide +kernel
theorem dX12_readField_213 : decode cX12_readField 213 = .ok (.iload_n 1, 1) := by decide +kernel
theorem dX12_readField_214 : decode cX12_readField 214 = .ok (.aload_n 0, 1) := by decide +kernel
theorem dX12_readField_215 : decode cX12_readField 215 = .ok (.invokevirtual 460, 3) := by decide +kernel
theorem dX12_readField_218 : decode cX12_readField 218 = .ok (.iastore, 1) := by decide +kernel
theorem dX12_readField_219 : decode cX12_readField 219 = .ok (.aload_n 0, 1) := by decide +kernel
theorem dX12_readField_220 : decode cX12_readField 220 = .ok (.bipush 58, 2) := by decide +kernel
theorem dX12_readField_222 : decode cX12_readField 222 = .ok (.invokevirtual 431, 3) := by decide +kernel
theorem dX12_readField_225 : decode cX12_readField 225 = .ok (.aload_n 0, 1) := by decide +kernel
theorem dX12_readField_226 : decode cX12_readField 226 = .ok (.getfield 167, 3) := by decide +kernel
theorem dX12_readField_229 : decode cX12_readField 229 = .ok (.ifCond .gt 15, 3) := by decide +kernel
theorem dX12_readField_232 : decode cX12_readField 232 = .ok (.aload_n 0, 1) := by decide +kernel
theorem dX12_readField_233 : decode cX12_readField 233 = .ok (.aload_n 0, 1) := by decide +kernel
theorem dX12_readField_234 : decode cX12_readField 234 = .ok (.invokevirtual 457, 3) := by decide +kernel
theorem dX12_readField_237 : decode cX12_readField 237 = .ok (.iconst 2, 1) := by decide +kernel
theorem dX12_readField_238 : decode cX12_readField 238 = .ok (.invokevirtual 404, 3) := by decide +kernel
theorem dX12_readField_241 : decode cX12_readField 241 = .ok (.ifCond .ne 4, 3) := by decide +kernel
theorem dX12_readField_244 : decode cX12_readField 244 = .ok (.return_, 1) := by decide +kernel
theorem dX12_readField_245 : decode cX12_readField 245 = .ok (.aload_n 0, 1) := by decide +kernel
theorem dX12_readField_246 : decode cX12_readField 246 = .ok (.invokevirtual 418, 3) := by decide +kernel
theorem dX12_readField_249 : decode cX12_readField 249 = .ok (.ifCond .eq 37, 3) := by decide +kernel
theorem dX12_readField_252 : decode cX12_readField 252 = .ok (.aload_n 0, 1) := by decide +kernel
theorem dX12_readField_253 : decode cX12_readField 253 = .ok (.aload_n 0, 1) := by decide +kernel
theorem dX12_readField_254 : decode cX12_readField 254 = .ok (.aload_n 0, 1) := by decide +kernel
theorem dX12_readField_255 : decode cX12_readField 255 = .ok (.getfield 60, 3) := by decide +kernel
theorem dX12_readField_258 : decode cX12_readField 258 = .ok (.aload_n 0, 1) := by decide +kernel
theorem dX12_readField_259 : decode cX12_readField 259 = .ok (.getfield 70, 3) := by decide +kernel
theorem dX12_readField_262 : decode cX12_readField 262 = .ok (.aload_n 0, 1) := by decide +kernel
theorem dX12_readField_263 : decode cX12_readField 263 = .ok (.getfield 173, 3) := by decide +kernel
theorem dX12_readField_266 : decode cX12_readField 266 = .ok (.iaload, 1) := by decide +kernel
theorem dX12_readField_267 : decode cX12_readField 267 = .ok (.invokevirtual 414, 3) := by decide +kernel
theorem dX12_readField_270 : decode cX12_readField 270 = .ok (.ifCond .lt 7, 3) := by decide +kernel
theorem dX12_readField_273 : decode cX12_readField 273 = .ok (.iconst 1, 1) := by decide +kernel
theorem dX12_readField_274 : decode cX12_readField 274 = .ok (.goto 4, 3) := by decide +kernel
theorem dX12_readField_277 : decode cX12_readField 277 = .ok (.iconst 0, 1) := by decide +kernel
theorem dX12_readField_278 : decode cX12_readField 278 = .ok (.iconst 4, 1) := by decide +kernel
theorem dX12_readField_279 : decode cX12_readField 279 = .ok (.invokevirtual 404, 3) := by decide +kernel
theorem dX12_readField_282 : decode cX12_readField 282 = .ok (.ifCond .ne 4, 3) := by decide +kernel
theorem dX12_readField_285 : decode cX12_readField 285 = .ok (.return_, 1) := by decide +kernel
theorem dX12_readField_286 : decode cX12_readField 286 = .ok (.aload_n 0, 1) := by decide +kernel
theorem dX12_readField_287 : decode cX12_readField 287 = .ok (.iload_n 1, 1) := by decide +kernel
theorem dX12_readField_288 : decode cX12_readField 288 = .ok (.invokevirtual 463, 3) := by decide +kernel
theorem dX12_readField_291 : decode cX12_readField 291 = .ok (.aload_n 0, 1) := by decide +kernel
theorem dX12_readField_292 : decode cX12_readField 292 = .ok (.bipush 59, 2) := by decide +kernel
theorem dX12_readField_294 : decode cX12_readField 294 = .ok (.invokevirtual 431, 3) := by decide +kernel
theorem dX12_readField_297 : decode cX12_readField 297 = .ok (.aload_n 0, 1) := by decide +kernel
theorem dX12_readField_298 : decode cX12_readField 298 = .ok (.getfield 80, 3) := by decide +kernel
theorem dX12_readField_301 : decode cX12_readField 301 = .ok (.bipush 20, 2) := by decide +kernel
theorem dX12_readField_303 : decode cX12_readField 303 = .ok (.aload_n 0, 1) := by decide +kernel
theorem dX12_readField_304 : decode cX12_readField 304 = .ok (.getfield 173, 3) := by decide +kernel
theorem dX12_readField_307 : decode cX12_readField 307 = .ok (.imul, 1) := by decide +kernel
theorem dX12_readField_308 : decode cX12_readField 308 = .ok (.aload_n 0, 1) := by decide +kernel
theorem dX12_readField_309 : decode cX12_readField 309 = .ok (.getfield 176, 3) := by decide +kernel
theorem dX12_readField_312 : decode cX12_readField 312 = .ok (.iadd, 1) := by decide +kernel
theorem dX12_readField_313 : decode cX12_readField 313 = .ok (.dup2, 1) := by decide +kernel
theorem dX12_readField_314 : decode cX12_readField 314 = .ok (.iaload, 1) := by decide +kernel
theorem dX12_readField_315 : decode cX12_readField 315 = .ok (.iconst 1, 1) := by decide +kernel
theorem dX12_readField_316 : decode cX12_readField 316 = .ok (.iadd, 1) := by decide +kernel
theorem dX12_readField_317 : decode cX12_readField 317 = .ok (.iastore, 1) := by decide +kernel
theorem dX12_readField_318 : decode cX12_readField 318 = .ok (.return_, 1) := by decide +kernel
theorem dX12_readMagic_0 : decode cX12_readMagic 0 = .ok (.aload_n 0, 1) := by decide +kernel
theorem dX12_readMagic_1 : decode cX12_readMagic 1 = .ok (.invokevirtual 408, 3) := by decide +kernel
theorem dX12_readMagic_4 : decode cX12_readMagic 4 = .ok (.aload_n 0, 1) := by decide +kernel
theorem dX12_readMagic_5 : decode cX12_readMagic 5 = .ok (.getfield 98, 3) := by decide +kernel
theorem dX12_readMagic_8 : decode cX12_readMagic 8 = .ok (.iload_n 1, 1) := by decide +kernel
theorem dX12_readMagic_9 : decode cX12_readMagic 9 = .ok (.bipush 10, 2) := by decide +kernel
theorem dX12_readMagic_11 : decode cX12_readMagic 11 = .ok (.iastore, 1) := by decide +kernel
theorem dX12_readMagic_12 : decode cX12_readMagic 12 = .ok (.aload_n 0, 1) := by decide +kernel
theorem dX12_readMagic_13 : decode cX12_readMagic 13 = .ok (.iload_n 1, 1) := by decide +kernel
theorem dX12_readMagic_14 : decode cX12_readMagic 14 = .ok (.invokevirtual 466, 3) := by decide +kernel
theorem dX12_readMagic_17 : decode cX12_readMagic 17 = .ok (.aload_n 0, 1) := by decide +kernel
theorem dX12_readMagic_18 : decode cX12_readMagic 18 = .ok (.bipush 61, 2) := by decide +kernel
theorem dX12_readMagic_20 : decode cX12_readMagic 20 = .ok (.invokevirtual 431, 3) := by decide +kernel
theorem dX12_readMagic_23 : decode cX12_readMagic 23 = .ok (.aload_n 0, 1) := by decide +kernel
theorem dX12_readMagic_24 : decode cX12_readMagic 24 = .ok (.getfield 167, 3) := by decide +kernel
theorem dX12_readMagic_27 : decode cX12_readMagic 27 = .ok (.ifCond .ne 8, 3) := by decide +kernel
theorem dX12_readMagic_30 : decode cX12_readMagic 30 = .ok (.aload_n 0, 1) := by decide +kernel
theorem dX12_readMagic_31 : decode cX12_readMagic 31 = .ok (.iload_n 1, 1) := by decide +kernel
theorem dX12_readMagic_32 : decode cX12_readMagic 32 = .ok (.invokevirtual 518, 3) := by decide +kernel
theorem dX12_readMagic_35 : decode cX12_readMagic 35 = .ok (.aload_n 0, 1) := by decide +kernel
theorem dX12_readMagic_36 : decode cX12_readMagic 36 = .ok (.getfield 167, 3) := by decide +kernel
theorem dX12_readMagic_39 : decode cX12_readMagic 39 = .ok (.ifCond .ne 28, 3) := by decide +kernel
theorem dX12_readMagic_42 : decode cX12_readMagic 42 = .ok (.aload_n 0, 1) := by decide +kernel
theorem dX12_readMagic_43 : decode cX12_readMagic 43 = .ok (.getfield 51, 3) := by decide +kernel
theorem dX12_readMagic_46 : decode cX12_readMagic 46 = .ok (.iconst 2, 1) := by decide +kernel
theorem dX12_readMagic_47 : decode cX12_readMagic 47 = .ok (.if_icmp .eq 12, 3) := by decide +kernel
theorem dX12_readMagic_50 : decode cX12_readMagic 50 = .ok (.aload_n 0, 1) := by decide +kernel
theorem dX12_readMagic_51 : decode cX12_readMagic 51 = .ok (.bipush 42, 2) := by decide +kernel
theorem dX12_readMagic_53 : decode cX12_readMagic 53 = .ok (.invokevirtual 401, 3) := by decide +kernel
theorem dX12_readMagic_56 : decode cX12_readMagic 56 = .ok (.ifCond .eq 11, 3) := by decide +kernel
theorem dX12_readMagic_59 : decode cX12_readMagic 59 = .ok (.aload_n 0, 1) := by decide +kernel
theorem dX12_readMagic_60 : decode cX12_readMagic 60 = .ok (.iload_n 1, 1) := by decide +kernel
theorem dX12_readMagic_61 : decode cX12_readMagic 61 = .ok (.invokevirtual 518, 3) := by decide +kernel
theorem dX12_readMagic_64 : decode cX12_readMagic 64 = .ok (.goto (-29), 3) := by decide +kernel
theorem dX12_readMagic_67 : decode cX12_readMagic 67 = .ok (.return_, 1) := by decide +kernel
theorem dX12_readPointer_0 : decode cX12_readPointer 0 = .ok (.aload_n 0, 1) := by decide +kernel
theorem dX12_readPointer_1 : decode cX12_readPointer 1 = .ok (.invokevirtual 408, 3) := by decide +kernel
theorem dX12_readPointer_4 : decode cX12_readPointer 4 = .ok (.aload_n 0, 1) := by decide +kernel
theorem dX12_readPointer_5 : decode cX12_readPointer 5 = .ok (.getfield 98, 3) := by decide +kernel
theorem dX12_readPointer_8 : decode cX12_readPointer 8 = .ok (.iload_n 1, 1) := by decide +kernel
theorem dX12_readPointer_9 : decode cX12_readPointer 9 = .ok (.bipush 8, 2) := by decide +kernel
theorem dX12_readPointer_11 : decode cX12_readPointer 11 = .ok (.iastore, 1) := by decide +kernel
theorem dX12_readPointer_12 : decode cX12_readPointer 12 = .ok (.aload_n 0, 1) := by decide +kernel
theorem dX12_readPointer_13 : decode cX12_readPointer 13 = .ok (.getfield 119, 3) := by decide +kernel
theorem dX12_readPointer_16 : decode cX12_readPointer 16 = .ok (.iload_n 1, 1) := by decide +kernel
theorem dX12_readPointer_17 : decode cX12_readPointer 17 = .ok (.iconst 1, 1) := by decide +kernel
theorem dX12_readPointer_18 : decode cX12_readPointer 18 = .ok (.iastore, 1) := by decide +kernel
theorem dX12_readPointer_19 : decode cX12_readPointer 19 = .ok (.aload_n 0, 1) := by decide +kernel
theorem dX12_readPointer_20 : decode cX12_readPointer 20 = .ok (.aload_n 0, 1) := by decide +kernel
theorem dX12_readPointer_21 : decode cX12_readPointer 21 = .ok (.invokevirtual 418, 3) := by decide +kernel
theorem dX12_readPointer_24 : decode cX12_readPointer 24 = .ok (.iconst 2, 1) := by decide +kernel
theorem dX12_readPointer_25 : decode cX12_readPointer 25 = .ok (.invokevirtual 404, 3) := by decide +kernel
theorem dX12_readPointer_28 : decode cX12_readPointer 28 = .ok (.ifCond .ne 4, 3) := by decide +kernel
theorem dX12_readPointer_31 : decode cX12_readPointer 31 = .ok (.return_, 1) := by decide +kernel
theorem dX12_readPointer_32 : decode cX12_readPointer 32 = .ok (.aload_n 0, 1) := by decide +kernel
theorem dX12_readPointer_33 : decode cX12_readPointer 33 = .ok (.getfield 155, 3) := by decide +kernel
theorem dX12_readPointer_36 : decode cX12_readPointer 36 = .ok (.aload_n 0, 1) := by decide +kernel
theorem dX12_readPointer_37 : decode cX12_readPointer 37 = .ok (.getfield 164, 3) := by decide +kernel
theorem dX12_readPointer_40 : decode cX12_readPointer 40 = .ok (.iload_n 1, 1) := by decide +kernel
theorem dX12_readPointer_41 : decode cX12_readPointer 41 = .ok (.iastore, 1) := by decide +kernel
theorem dX12_readPointer_42 : decode cX12_readPointer 42 = .ok (.aload_n 0, 1) := by decide +kernel
theorem dX12_readPointer_43 : decode cX12_readPointer 43 = .ok (.getfield 161, 3) := by decide +kernel
theorem dX12_readPointer_46 : decode cX12_readPointer 46 = .ok (.aload_n 0, 1) := by decide +kernel
theorem dX12_readPointer_47 : decode cX12_readPointer 47 = .ok (.getfield 164, 3) := by decide +kernel
theorem dX12_readPointer_50 : decode cX12_readPointer 50 = .ok (.aload_n 0, 1) := by decide +kernel
theorem dX12_readPointer_51 : decode cX12_readPointer 51 = .ok (.getfield 60, 3) := by decide +kernel
theorem dX12_readPointer_54 : decode cX12_readPointer 54 = .ok (.lastore, 1) := by decide +kernel
theorem dX12_readPointer_55 : decode cX12_readPointer 55 = .ok (.aload_n 0, 1) := by decide +kernel
theorem dX12_readPointer_56 : decode cX12_readPointer 56 = .ok (.getfield 158, 3) := by decide +kernel
theorem dX12_readPointer_59 : decode cX12_readPointer 59 = .ok (.aload_n 0, 1) := by decide +kernel
theorem dX12_readPointer_60 : decode cX12_readPointer 60 = .ok (.getfield 164, 3) := by decide +kernel
theorem dX12_readPointer_63 : decode cX12_readPointer 63 = .ok (.aload_n 0, 1) := by decide +kernel
theorem dX12_readPointer_64 : decode cX12_readPointer 64 = .ok (.getfield 54, 3) := by decide +kernel
theorem dX12_readPointer_67 : decode cX12_readPointer 67 = .ok (.iastore, 1) := by decide +kernel
theorem dX12_readPointer_68 : decode cX12_readPointer 68 = .ok (.aload_n 0, 1) := by decide +kernel
theorem dX12_readPointer_69 : decode cX12_readPointer 69 = .ok (.dup, 1) := by decide +kernel
theorem dX12_readPointer_70 : decode cX12_readPointer 70 = .ok (.getfield 164, 3) := by decide +kernel
theorem dX12_readPointer_73 : decode cX12_readPointer 73 = .ok (.iconst 1, 1) := by decide +kernel
theorem dX12_readPointer_74 : decode cX12_readPointer 74 = .ok (.iadd, 1) := by decide +kernel
theorem dX12_readPointer_75 : decode cX12_readPointer 75 = .ok (.putfield 164, 3) := by decide +kernel
theorem dX12_readPointer_78 : decode cX12_readPointer 78 = .ok (.aload_n 0, 1) := by decide +kernel
theorem dX12_readPointer_79 : decode cX12_readPointer 79 = .ok (.invokevirtual 408, 3) := by decide +kernel
theorem dX12_readPointer_82 : decode cX12_readPointer 82 = .ok (.aload_n 0, 1) := by decide +kernel
theorem dX12_readPointer_83 : decode cX12_readPointer 83 = .ok (.iload_n 1, 1) := by decide +kernel
theorem dX12_readPointer_84 : decode cX12_readPointer 84 = .ok (.invokevirtual 466, 3) := by decide +kernel
theorem dX12_readPointer_87 : decode cX12_readPointer 87 = .ok (.aload_n 0, 1) := by decide +kernel
theorem dX12_readPointer_88 : decode cX12_readPointer 88 = .ok (.getfield 167, 3) := by decide +kernel
theorem dX12_readPointer_91 : decode cX12_readPointer 91 = .ok (.ifCond .ne 10, 3) := by decide +kernel
theorem dX12_readPointer_94 : decode cX12_readPointer 94 = .ok (.aload_n 0, 1) := by decide +kernel
theorem dX12_readPointer_95 : decode cX12_readPointer 95 = .ok (.ldc2_w 352, 3) := by decide +kernel
theorem dX12_readPointer_98 : decode cX12_readPointer 98 = .ok (.invokevirtual 506, 3) := by decide +kernel
theorem dX12_readPointer_101 : decode cX12_readPointer 101 = .ok (.aload_n 0, 1) := by decide +kernel
theorem dX12_readPointer_102 : decode cX12_readPointer 102 = .ok (.iload_n 1, 1) := by decide +kernel
theorem dX12_readPointer_103 : decode cX12_readPointer 103 = .ok (.invokevirtual 499, 3) := by decide +kernel
theorem dX12_readPointer_106 : decode cX12_readPointer 106 = .ok (.aload_n 0, 1) := by decide +kernel
theorem dX12_readPointer_107 : decode cX12_readPointer 107 = .ok (.getfield 167, 3) := by decide +kernel
theorem dX12_readPointer_110 : decode cX12_readPointer 110 = .ok (.ifCond .ne 27, 3) := by decide +kernel
theorem dX12_readPointer_113 : decode cX12_readPointer 113 = .ok (.aload_n 0, 1) := by decide +kernel
theorem dX12_readPointer_114 : decode cX12_readPointer 114 = .ok (.ldc2_w 358, 3) := by decide +kernel
theorem dX12_readPointer_117 : decode cX12_readPointer 117 = .ok (.invokevirtual 334, 3) := by decide +kernel
theorem dX12_readPointer_120 : decode cX12_readPointer 120 = .ok (.ifCond .eq 17, 3) := by decide +kernel
theorem dX12_readPointer_123 : decode cX12_readPointer 123 = .ok (.aload_n 0, 1) := by decide +kernel
theorem dX12_readPointer_124 : decode cX12_readPointer 124 = .ok (.invokevirtual 408, 3) := by decide +kernel
theorem dX12_readPointer_127 : decode cX12_readPointer 127 = .ok (.aload_n 0, 1) := by decide +kernel
theorem dX12_readPointer_128 : decode cX12_readPointer 128 = .ok (.getfield 113, 3) := by decide +kernel
theorem dX12_readPointer_131 : decode cX12_readPointer 131 = .ok (.iload_n 1, 1) := by decide +kernel
theorem dX12_readPointer_132 : decode cX12_readPointer 132 = .ok (.aload_n 0, 1) := by decide +kernel
theorem dX12_readPointer_133 : decode cX12_readPointer 133 = .ok (.invokevirtual 460, 3) := by decide +kernel
theorem dX12_readPointer_136 : decode cX12_readPointer 136 = .ok (.iastore, 1) := by decide +kernel
theorem dX12_readPointer_137 : decode cX12_readPointer 137 = .ok (.aload_n 0, 1) := by decide +kernel
theorem dX12_readPointer_138 : decode cX12_readPointer 138 = .ok (.getfield 167, 3) := by decide +kernel
theorem dX12_readPointer_141 : decode cX12_readPointer 141 = .ok (.ifCond .ne 26, 3) := by decide +kernel
theorem dX12_readPointer_144 : decode cX12_readPointer 144 = .ok (.aload_n 0, 1) := by decide +kernel
theorem dX12_readPointer_145 : decode cX12_readPointer 145 = .ok (.ldc2_w 362, 3) := by decide +kernel
theorem dX12_readPointer_148 : decode cX12_readPointer 148 = .ok (.invokevirtual 334, 3) := by decide +kernel
theorem dX12_readPointer_151 : decode cX12_readPointer 151 = .ok (.ifCond .eq 16, 3) := by decide +kernel
theorem dX12_readPointer_154 : decode cX12_readPointer 154 = .ok (.aload_n 0, 1) := by decide +kernel
theorem dX12_readPointer_155 : decode cX12_readPointer 155 = .ok (.invokevirtual 408, 3) := by decide +kernel
theorem dX12_readPointer_158 : decode cX12_readPointer 158 = .ok (.aload_n 0, 1) := by decide +kernel
theorem dX12_readPointer_159 : decode cX12_readPointer 159 = .ok (.iload_n 1, 1) := by decide +kernel
theorem dX12_readPointer_160 : decode cX12_readPointer 160 = .ok (.lconst 1, 1) := by decide +kernel
theorem dX12_readPointer_161 : decode cX12_readPointer 161 = .ok (.ldc2_w 516, 3) := by decide +kernel
theorem dX12_readPointer_164 : decode cX12_readPointer 164 = .ok (.invokevirtual 489, 3) := by decide +kernel
theorem dX12_readPointer_167 : decode cX12_readPointer 167 = .ok (.return_, 1) := by decide +kernel
theorem dX12_readStruct_0 : decode cX12_readStruct 0 = .ok (.aload_n 0, 1) := by decide +kernel
theorem dX12_readStruct_1 : decode cX12_readStruct 1 = .ok (.aload_n 0, 1) := by decide +kernel
theorem dX12_readStruct_2 : decode cX12_readStruct 2 = .ok (.getfield 70, 3) := by decide +kernel
theorem dX12_readStruct_5 : decode cX12_readStruct 5 = .ok (.aload_n 0, 1) := by decide +kernel
theorem dX12_readStruct_6 : decode cX12_readStruct 6 = .ok (.getfield 173, 3) := by decide +kernel
theorem dX12_readStruct_9 : decode cX12_readStruct 9 = .ok (.iaload, 1) := by decide +kernel
theorem dX12_readStruct_10 : decode cX12_readStruct 10 = .ok (.putfield 176, 3) := by decide +kernel
theorem dX12_readStruct_13 : decode cX12_readStruct 13 = .ok (.aload_n 0, 1) := by decide +kernel
theorem dX12_readStruct_14 : decode cX12_readStruct 14 = .ok (.getfield 76, 3) := by decide +kernel
theorem dX12_readStruct_17 : decode cX12_readStruct 17 = .ok (.bipush 20, 2) := by decide +kernel
theorem dX12_readStruct_19 : decode cX12_readStruct 19 = .ok (.aload_n 0, 1) := by decide +kernel
theorem dX12_readStruct_20 : decode cX12_readStruct 20 = .ok (.getfield 173, 3) := by decide +kernel
theorem dX12_readStruct_23 : decode cX12_readStruct 23 = .ok (.imul, 1) := by decide +kernel
theorem dX12_readStruct_24 : decode cX12_readStruct 24 = .ok (.aload_n 0, 1) := by decide +kernel
theorem dX12_readStruct_25 : decode cX12_readStruct 25 = .ok (.getfield 176, 3) := by decide +kernel
theorem dX12_readStruct_28 : decode cX12_readStruct 28 = .ok (.iadd, 1) := by decide +kernel
theorem dX12_readStruct_29 : decode cX12_readStruct 29 = .ok (.aload_n 0, 1) := by decide +kernel
theorem dX12_readStruct_30 : decode cX12_readStruct 30 = .ok (.getfield 60, 3) := by decide +kernel
theorem dX12_readStruct_33 : decode cX12_readStruct 33 = .ok (.lastore, 1) := by decide +kernel
theorem dX12_readStruct_34 : decode cX12_readStruct 34 = .ok (.aload_n 0, 1) := by decide +kernel
theorem dX12_readStruct_35 : decode cX12_readStruct 35 = .ok (.getfield 80, 3) := by decide +kernel
theorem dX12_readStruct_38 : decode cX12_readStruct 38 = .ok (.bipush 20, 2) := by decide +kernel
theorem dX12_readStruct_40 : decode cX12_readStruct 40 = .ok (.aload_n 0, 1) := by decide +kernel
theorem dX12_readStruct_41 : decode cX12_readStruct 41 = .ok (.getfield 173, 3) := by decide +kernel
theorem dX12_readStruct_44 : decode cX12_readStruct 44 = .ok (.imul, 1) := by decide +kernel
theorem dX12_readStruct_45 : decode cX12_readStruct 45 = .ok (.aload_n 0, 1) := by decide +kernel
theorem dX12_readStruct_46 : decode cX12_readStruct 46 = .ok (.getfield 176, 3) := by decide +kernel
theorem dX12_readStruct_49 : decode cX12_readStruct 49 = .ok (.iadd, 1) := by decide +kernel
theorem dX12_readStruct_50 : decode cX12_readStruct 50 = .ok (.iconst 0, 1) := by decide +kernel
theorem dX12_readStruct_51 : decode cX12_readStruct 51 = .ok (.iastore, 1) := by decide +kernel
theorem dX12_readStruct_52 : decode cX12_readStruct 52 = .ok (.aload_n 0, 1) := by decide +kernel
theorem dX12_readStruct_53 : decode cX12_readStruct 53 = .ok (.invokevirtual 408, 3) := by decide +kernel
theorem dX12_readStruct_56 : decode cX12_readStruct 56 = .ok (.aload_n 0, 1) := by decide +kernel
theorem dX12_readStruct_57 : decode cX12_readStruct 57 = .ok (.bipush 123, 2) := by decide +kernel
theorem dX12_readStruct_59 : decode cX12_readStruct 59 = .ok (.invokevirtual 431, 3) := by decide +kernel
theorem dX12_readStruct_62 : decode cX12_readStruct 62 = .ok (.aload_n 0, 1) := by decide +kernel
theorem dX12_readStruct_63 : decode cX12_readStruct 63 = .ok (.getfield 167, 3) := by decide +kernel
theorem dX12_readStruct_66 : decode cX12_readStruct 66 = .ok (.ifCond .ne 19, 3) := by decide +kernel
theorem dX12_readStruct_69 : decode cX12_readStruct 69 = .ok (.aload_n 0, 1) := by decide +kernel
theorem dX12_readStruct_70 : decode cX12_readStruct 70 = .ok (.bipush 125, 2) := by decide +kernel
theorem dX12_readStruct_72 : decode cX12_readStruct 72 = .ok (.invokevirtual 401, 3) := by decide +kernel
theorem dX12_readStruct_75 : decode cX12_readStruct 75 = .ok (.ifCond .ne 10, 3) := by decide +kernel
theorem dX12_readStruct_78 : decode cX12_readStruct 78 = .ok (.aload_n 0, 1) := by decide +kernel
theorem dX12_readStruct_79 : decode cX12_readStruct 79 = .ok (.invokevirtual 441, 3) := by decide +kernel
theorem dX12_readStruct_82 : decode cX12_readStruct 82 = .ok (.goto (-20), 3) := by decide +kernel
theorem dX12_readStruct_85 : decode cX12_readStruct 85 = .ok (.aload_n 0, 1) := by decide +kernel
theorem dX12_readStruct_86 : decode cX12_readStruct 86 = .ok (.bipush 125, 2) := by decide +kernel
theorem dX12_readStruct_88 : decode cX12_readStruct 88 = .ok (.invokevirtual 431, 3) := by decide +kernel
theorem dX12_readStruct_91 : decode cX12_readStruct 91 = .ok (.aload_n 0, 1) := by decide +kernel
theorem dX12_readStruct_92 : decode cX12_readStruct 92 = .ok (.getfield 167, 3) := by decide +kernel
theorem dX12_readStruct_95 : decode cX12_readStruct 95 = .ok (.ifCond .le 4, 3) := by decide +kernel
theorem dX12_readStruct_98 : decode cX12_readStruct 98 = .ok (.return_, 1) := by decide +kernel
theorem dX12_readStruct_99 : decode cX12_readStruct 99 = .ok (.aload_n 0, 1) := by decide +kernel
theorem dX12_readStruct_100 : decode cX12_readStruct 100 = .ok (.getfield 83, 3) := by decide +kernel
theorem dX12_readStruct_103 : decode cX12_readStruct 103 = .ok (.bipush 20, 2) := by decide +kernel
theorem dX12_readStruct_105 : decode cX12_readStruct 105 = .ok (.aload_n 0, 1) := by decide +kernel
theorem dX12_readStruct_106 : decode cX12_readStruct 106 = .ok (.getfield 173, 3) := by decide +kernel
theorem dX12_readStruct_109 : decode cX12_readStruct 109 = .ok (.imul, 1) := by decide +kernel
theorem dX12_readStruct_110 : decode cX12_readStruct 110 = .ok (.aload_n 0, 1) := by decide +kernel
theorem dX12_readStruct_111 : decode cX12_readStruct 111 = .ok (.getfield 176, 3) := by decide +kernel
theorem dX12_readStruct_114 : decode cX12_readStruct 114 = .ok (.iadd, 1) := by decide +kernel
theorem dX12_readStruct_115 : decode cX12_readStruct 115 = .ok (.aload_n 0, 1) := by decide +kernel
theorem dX12_readStruct_116 : decode cX12_readStruct 116 = .ok (.aload_n 0, 1) := by decide +kernel
theorem dX12_readStruct_117 : decode cX12_readStruct 117 = .ok (.getfield 176, 3) := by decide +kernel
theorem dX12_readStruct_120 : decode cX12_readStruct 120 = .ok (.invokevirtual 444, 3) := by decide +kernel
theorem dX12_readStruct_123 : decode cX12_readStruct 123 = .ok (.iastore, 1) := by decide +kernel
theorem dX12_readStruct_124 : decode cX12_readStruct 124 = .ok (.aload_n 0, 1) := by decide +kernel
theorem dX12_readStruct_125 : decode cX12_readStruct 125 = .ok (.getfield 70, 3) := by decide +kernel
theorem dX12_readStruct_128 : decode cX12_readStruct 128 = .ok (.aload_n 0, 1) := by decide +kernel
theorem dX12_readStruct_129 : decode cX12_readStruct 129 = .ok (.getfield 173, 3) := by decide +kernel
theorem dX12_readStruct_132 : decode cX12_readStruct 132 = .ok (.dup2, 1) := by decide +kernel
theorem dX12_readStruct_133 : decode cX12_readStruct 133 = .ok (.iaload, 1) := by decide +kernel
theorem dX12_readStruct_134 : decode cX12_readStruct 134 = .ok (.iconst 1, 1) := by decide +kernel
theorem dX12_readStruct_135 : decode cX12_readStruct 135 = .ok (.iadd, 1) := by decide +kernel
theorem dX12_readStruct_136 : decode cX12_readStruct 136 = .ok (.iastore, 1) := by decide +kernel
theorem dX12_readStruct_137 : decode cX12_readStruct 137 = .ok (.return_, 1) := by decide +kernel
theorem dX12_readSum_0 : decode cX12_readSum 0 = .ok (.aload_n 0, 1) := by decide +kernel
theorem dX12_readSum_1 : decode cX12_readSum 1 = .ok (.invokevirtual 408, 3) := by decide +kernel
theorem dX12_readSum_4 : decode cX12_readSum 4 = .ok (.aload_n 0, 1) := by decide +kernel
theorem dX12_readSum_5 : decode cX12_readSum 5 = .ok (.getfield 98, 3) := by decide +kernel
theorem dX12_readSum_8 : decode cX12_readSum 8 = .ok (.iload_n 1, 1) := by decide +kernel
theorem dX12_readSum_9 : decode cX12_readSum 9 = .ok (.bipush 11, 2) := by decide +kernel
theorem dX12_readSum_11 : decode cX12_readSum 11 = .ok (.iastore, 1) := by decide +kernel
theorem dX12_readSum_12 : decode cX12_readSum 12 = .ok (.aload_n 0, 1) := by decide +kernel
theorem dX12_readSum_13 : decode cX12_readSum 13 = .ok (.ldc2_w 370, 3) := by decide +kernel
theorem dX12_readSum_16 : decode cX12_readSum 16 = .ok (.invokevirtual 334, 3) := by decide +kernel
theorem dX12_readSum_19 : decode cX12_readSum 19 = .ok (.ifCond .eq 7, 3) := by decide +kernel
theorem dX12_readSum_22 : decode cX12_readSum 22 = .ok (.iconst 0, 1) := by decide +kernel
theorem dX12_readSum_23 : decode cX12_readSum 23 = .ok (.goto 46, 3) := by decide +kernel
theorem dX12_readSum_26 : decode cX12_readSum 26 = .ok (.aload_n 0, 1) := by decide +kernel
theorem dX12_readSum_27 : decode cX12_readSum 27 = .ok (.ldc2_w 372, 3) := by decide +kernel
theorem dX12_readSum_30 : decode cX12_readSum 30 = .ok (.invokevirtual 334, 3) := by decide +kernel
theorem dX12_readSum_33 : decode cX12_readSum 33 = .ok (.ifCond .eq 7, 3) := by decide +kernel
theorem dX12_readSum_36 : decode cX12_readSum 36 = .ok (.iconst 1, 1) := by decide +kernel
theorem dX12_readSum_37 : decode cX12_readSum 37 = .ok (.goto 32, 3) := by decide +kernel
theorem dX12_readSum_40 : decode cX12_readSum 40 = .ok (.aload_n 0, 1) := by decide +kernel
theorem dX12_readSum_41 : decode cX12_readSum 41 = .ok (.ldc2_w 374, 3) := by decide +kernel
theorem dX12_readSum_44 : decode cX12_readSum 44 = .ok (.invokevirtual 334, 3) := by decide +kernel
theorem dX12_readSum_47 : decode cX12_readSum 47 = .ok (.ifCond .eq 7, 3) := by decide +kernel
theorem dX12_readSum_50 : decode cX12_readSum 50 = .ok (.iconst 2, 1) := by decide +kernel
theorem dX12_readSum_51 : decode cX12_readSum 51 = .ok (.goto 18, 3) := by decide +kernel
theorem dX12_readSum_54 : decode cX12_readSum 54 = .ok (.aload_n 0, 1) := by decide +kernel
theorem dX12_readSum_55 : decode cX12_readSum 55 = .ok (.ldc2_w 376, 3) := by decide +kernel
theorem dX12_readSum_58 : decode cX12_readSum 58 = .ok (.invokevirtual 334, 3) := by decide +kernel
theorem dX12_readSum_61 : decode cX12_readSum 61 = .ok (.ifCond .eq 7, 3) := by decide +kernel
theorem dX12_readSum_64 : decode cX12_readSum 64 = .ok (.iconst 3, 1) := by decide +kernel
theorem dX12_readSum_65 : decode cX12_readSum 65 = .ok (.goto 4, 3) := by decide +kernel
theorem dX12_readSum_68 : decode cX12_readSum 68 = .ok (.iconst (-1), 1) := by decide +kernel
theorem dX12_readSum_69 : decode cX12_readSum 69 = .ok (.istore_n 2, 1) := by decide +kernel
theorem dX12_readSum_70 : decode cX12_readSum 70 = .ok (.aload_n 0, 1) := by decide +kernel
theorem dX12_readSum_71 : decode cX12_readSum 71 = .ok (.iload_n 2, 1) := by decide +kernel
theorem dX12_readSum_72 : decode cX12_readSum 72 = .ok (.ifCond .lt 7, 3) := by decide +kernel
theorem dX12_readSum_75 : decode cX12_readSum 75 = .ok (.iconst 1, 1) := by decide +kernel
theorem dX12_readSum_76 : decode cX12_readSum 76 = .ok (.goto 4, 3) := by decide +kernel
theorem dX12_readSum_79 : decode cX12_readSum 79 = .ok (.iconst 0, 1) := by decide +kernel
theorem dX12_readSum_80 : decode cX12_readSum 80 = .ok (.iconst 2, 1) := by decide +kernel
theorem dX12_readSum_81 : decode cX12_readSum 81 = .ok (.invokevirtual 404, 3) := by decide +kernel
theorem dX12_readSum_84 : decode cX12_readSum 84 = .ok (.ifCond .ne 4, 3) := by decide +kernel
theorem dX12_readSum_87 : decode cX12_readSum 87 = .ok (.return_, 1) := by decide +kernel
theorem dX12_readSum_88 : decode cX12_readSum 88 = .ok (.aload_n 0, 1) := by decide +kernel
theorem dX12_readSum_89 : decode cX12_readSum 89 = .ok (.getfield 119, 3) := by decide +kernel
theorem dX12_readSum_92 : decode cX12_readSum 92 = .ok (.iload_n 1, 1) := by decide +kernel
theorem dX12_readSum_93 : decode cX12_readSum 93 = .ok (.iload_n 2, 1) := by decide +kernel
theorem dX12_readSum_94 : decode cX12_readSum 94 = .ok (.iastore, 1) := by decide +kernel
theorem dX12_readSum_95 : decode cX12_readSum 95 = .ok (.aload_n 0, 1) := by decide +kernel
theorem dX12_readSum_96 : decode cX12_readSum 96 = .ok (.invokevirtual 408, 3) := by decide +kernel
theorem dX12_readSum_99 : decode cX12_readSum 99 = .ok (.aload_n 0, 1) := by decide +kernel
theorem dX12_readSum_100 : decode cX12_readSum 100 = .ok (.iload_n 1, 1) := by decide +kernel
theorem dX12_readSum_101 : decode cX12_readSum 101 = .ok (.invokevirtual 499, 3) := by decide +kernel
theorem dX12_readSum_104 : decode cX12_readSum 104 = .ok (.aload_n 0, 1) := by decide +kernel
theorem dX12_readSum_105 : decode cX12_readSum 105 = .ok (.iload_n 1, 1) := by decide +kernel
theorem dX12_readSum_106 : decode cX12_readSum 106 = .ok (.invokevirtual 466, 3) := by decide +kernel
theorem dX12_readSum_109 : decode cX12_readSum 109 = .ok (.aload_n 0, 1) := by decide +kernel
theorem dX12_readSum_110 : decode cX12_readSum 110 = .ok (.getfield 167, 3) := by decide +kernel
theorem dX12_readSum_113 : decode cX12_readSum 113 = .ok (.ifCond .ne 10, 3) := by decide +kernel
theorem dX12_readSum_116 : decode cX12_readSum 116 = .ok (.aload_n 0, 1) := by decide +kernel
theorem dX12_readSum_117 : decode cX12_readSum 117 = .ok (.ldc2_w 378, 3) := by decide +kernel
theorem dX12_readSum_120 : decode cX12_readSum 120 = .ok (.invokevirtual 506, 3) := by decide +kernel
theorem dX12_readSum_123 : decode cX12_readSum 123 = .ok (.aload_n 0, 1) := by decide +kernel
theorem dX12_readSum_124 : decode cX12_readSum 124 = .ok (.getfield 167, 3) := by decide +kernel
theorem dX12_readSum_127 : decode cX12_readSum 127 = .ok (.ifCond .ne 13, 3) := by decide +kernel
theorem dX12_readSum_130 : decode cX12_readSum 130 = .ok (.aload_n 0, 1) := by decide +kernel
theorem dX12_readSum_131 : decode cX12_readSum 131 = .ok (.getfield 113, 3) := by decide +kernel
theorem dX12_readSum_134 : decode cX12_readSum 134 = .ok (.iload_n 1, 1) := by decide +kernel
theorem dX12_readSum_135 : decode cX12_readSum 135 = .ok (.aload_n 0, 1) := by decide +kernel
theorem dX12_readSum_136 : decode cX12_readSum 136 = .ok (.invokevirtual 460, 3) := by decide +kernel
theorem dX12_readSum_139 : decode cX12_readSum 139 = .ok (.iastore, 1) := by decide +kernel
theorem dX12_readSum_140 : decode cX12_readSum 140 = .ok (.aload_n 0, 1) := by decide +kernel
theorem dX12_readSum_141 : decode cX12_readSum 141 = .ok (.bipush 44, 2) := by decide +kernel
theorem dX12_readSum_143 : decode cX12_readSum 143 = .ok (.invokevirtual 431, 3) := by decide +kernel
theorem dX12_readSum_146 : decode cX12_readSum 146 = .ok (.aload_n 0, 1) := by decide +kernel
theorem dX12_readSum_147 : decode cX12_readSum 147 = .ok (.getfield 167, 3) := by decide +kernel
theorem dX12_readSum_150 : decode cX12_readSum 150 = .ok (.ifCond .ne 13, 3) := by decide +kernel
theorem dX12_readSum_153 : decode cX12_readSum 153 = .ok (.aload_n 0, 1) := by decide +kernel
theorem dX12_readSum_154 : decode cX12_readSum 154 = .ok (.getfield 116, 3) := by decide +kernel
theorem dX12_readSum_157 : decode cX12_readSum 157 = .ok (.iload_n 1, 1) := by decide +kernel
theorem dX12_readSum_158 : decode cX12_readSum 158 = .ok (.aload_n 0, 1) := by decide +kernel
theorem dX12_readSum_159 : decode cX12_readSum 159 = .ok (.invokevirtual 460, 3) := by decide +kernel
theorem dX12_readSum_162 : decode cX12_readSum 162 = .ok (.iastore, 1) := by decide +kernel
theorem dX12_readSum_163 : decode cX12_readSum 163 = .ok (.return_, 1) := by decide +kernel
theorem dX12_readText_0 : decode cX12_readText 0 = .ok (.aload_n 0, 1) := by decide +kernel
theorem dX12_readText_1 : decode cX12_readText 1 = .ok (.invokevirtual 408, 3) := by decide +kernel
theorem dX12_readText_4 : decode cX12_readText 4 = .ok (.aload_n 0, 1) := by decide +kernel
theorem dX12_readText_5 : decode cX12_readText 5 = .ok (.getfield 98, 3) := by decide +kernel
theorem dX12_readText_8 : decode cX12_readText 8 = .ok (.iload_n 1, 1) := by decide +kernel
theorem dX12_readText_9 : decode cX12_readText 9 = .ok (.iconst 5, 1) := by decide +kernel
theorem dX12_readText_10 : decode cX12_readText 10 = .ok (.iastore, 1) := by decide +kernel
theorem dX12_readText_11 : decode cX12_readText 11 = .ok (.aload_n 0, 1) := by decide +kernel
theorem dX12_readText_12 : decode cX12_readText 12 = .ok (.iload_n 1, 1) := by decide +kernel
theorem dX12_readText_13 : decode cX12_readText 13 = .ok (.invokevirtual 466, 3) := by decide +kernel
theorem dX12_readText_16 : decode cX12_readText 16 = .ok (.aload_n 0, 1) := by decide +kernel
theorem dX12_readText_17 : decode cX12_readText 17 = .ok (.getfield 167, 3) := by decide +kernel
theorem dX12_readText_20 : decode cX12_readText 20 = .ok (.ifCond .le 4, 3) := by decide +kernel
theorem dX12_readText_23 : decode cX12_readText 23 = .ok (.return_, 1) := by decide +kernel
theorem dX12_readText_24 : decode cX12_readText 24 = .ok (.aload_n 0, 1) := by decide +kernel
theorem dX12_readText_25 : decode cX12_readText 25 = .ok (.ldc2_w 348, 3) := by decide +kernel
theorem dX12_readText_28 : decode cX12_readText 28 = .ok (.invokevirtual 334, 3) := by decide +kernel
theorem dX12_readText_31 : decode cX12_readText 31 = .ok (.ifCond .eq 25, 3) := by decide +kernel
theorem dX12_readText_34 : decode cX12_readText 34 = .ok (.aload_n 0, 1) := by decide +kernel
theorem dX12_readText_35 : decode cX12_readText 35 = .ok (.getfield 98, 3) := by decide +kernel
theorem dX12_readText_38 : decode cX12_readText 38 = .ok (.iload_n 1, 1) := by decide +kernel
theorem dX12_readText_39 : decode cX12_readText 39 = .ok (.bipush 6, 2) := by decide +kernel
theorem dX12_readText_41 : decode cX12_readText 41 = .ok (.iastore, 1) := by decide +kernel
theorem dX12_readText_42 : decode cX12_readText 42 = .ok (.aload_n 0, 1) := by decide +kernel
theorem dX12_readText_43 : decode cX12_readText 43 = .ok (.invokevirtual 408, 3) := by decide +kernel
theorem dX12_readText_46 : decode cX12_readText 46 = .ok (.aload_n 0, 1) := by decide +kernel
theorem dX12_readText_47 : decode cX12_readText 47 = .ok (.iload_n 1, 1) := by decide +kernel
theorem dX12_readText_48 : decode cX12_readText 48 = .ok (.lconst 0, 1) := by decide +kernel
theorem dX12_readText_49 : decode cX12_readText 49 = .ok (.ldc2_w 297, 3) := by decide +kernel
theorem dX12_readText_52 : decode cX12_readText 52 = .ok (.invokevirtual 489, 3) := by decide +kernel
theorem dX12_readText_55 : decode cX12_readText 55 = .ok (.return_, 1) := by decide +kernel
theorem dX12_readText_56 : decode cX12_readText 56 = .ok (.aload_n 0, 1) := by decide +kernel
theorem dX12_readText_57 : decode cX12_readText 57 = .ok (.bipush 91, 2) := by decide +kernel
theorem dX12_readText_59 : decode cX12_readText 59 = .ok (.invokevirtual 431, 3) := by decide +kernel
theorem dX12_readText_62 : decode cX12_readText 62 = .ok (.aload_n 0, 1) := by decide +kernel
theorem dX12_readText_63 : decode cX12_readText 63 = .ok (.getfield 167, 3) := by decide +kernel
theorem dX12_readText_66 : decode cX12_readText 66 = .ok (.ifCond .ne 13, 3) := by decide +kernel
theorem dX12_readText_69 : decode cX12_readText 69 = .ok (.aload_n 0, 1) := by decide +kernel
theorem dX12_readText_70 : decode cX12_readText 70 = .ok (.getfield 113, 3) := by decide +kernel
theorem dX12_readText_73 : decode cX12_readText 73 = .ok (.iload_n 1, 1) := by decide +kernel
theorem dX12_readText_74 : decode cX12_readText 74 = .ok (.aload_n 0, 1) := by decide +kernel
theorem dX12_readText_75 : decode cX12_readText 75 = .ok (.invokevirtual 460, 3) := by decide +kernel
theorem dX12_readText_78 : decode cX12_readText 78 = .ok (.iastore, 1) := by decide +kernel
theorem dX12_readText_79 : decode cX12_readText 79 = .ok (.aload_n 0, 1) := by decide +kernel
theorem dX12_readText_80 : decode cX12_readText 80 = .ok (.bipush 93, 2) := by decide +kernel
theorem dX12_readText_82 : decode cX12_readText 82 = .ok (.invokevirtual 431, 3) := by decide +kernel
theorem dX12_readText_85 : decode cX12_readText 85 = .ok (.return_, 1) := by decide +kernel
theorem dX12_readUnion_0 : decode cX12_readUnion 0 = .ok (.aload_n 0, 1) := by decide +kernel
theorem dX12_readUnion_1 : decode cX12_readUnion 1 = .ok (.invokevirtual 408, 3) := by decide +kernel
theorem dX12_readUnion_4 : decode cX12_readUnion 4 = .ok (.aload_n 0, 1) := by decide +kernel
theorem dX12_readUnion_5 : decode cX12_readUnion 5 = .ok (.getfield 98, 3) := by decide +kernel
theorem dX12_readUnion_8 : decode cX12_readUnion 8 = .ok (.iload_n 1, 1) := by decide +kernel
theorem dX12_readUnion_9 : decode cX12_readUnion 9 = .ok (.bipush 7, 2) := by decide +kernel
theorem dX12_readUnion_11 : decode cX12_readUnion 11 = .ok (.iastore, 1) := by decide +kernel
theorem dX12_readUnion_12 : decode cX12_readUnion 12 = .ok (.aload_n 0, 1) := by decide +kernel
theorem dX12_readUnion_13 : decode cX12_readUnion 13 = .ok (.iload_n 1, 1) := by decide +kernel
theorem dX12_readUnion_14 : decode cX12_readUnion 14 = .ok (.invokevirtual 466, 3) := by decide +kernel
theorem dX12_readUnion_17 : decode cX12_readUnion 17 = .ok (.aload_n 0, 1) := by decide +kernel
theorem dX12_readUnion_18 : decode cX12_readUnion 18 = .ok (.getfield 167, 3) := by decide +kernel
theorem dX12_readUnion_21 : decode cX12_readUnion 21 = .ok (.ifCond .ne 10, 3) := by decide +kernel
theorem dX12_readUnion_24 : decode cX12_readUnion 24 = .ok (.aload_n 0, 1) := by decide +kernel
theorem dX12_readUnion_25 : decode cX12_readUnion 25 = .ok (.ldc2_w 352, 3) := by decide +kernel
theorem dX12_readUnion_28 : decode cX12_readUnion 28 = .ok (.invokevirtual 506, 3) := by decide +kernel
theorem dX12_readUnion_31 : decode cX12_readUnion 31 = .ok (.aload_n 0, 1) := by decide +kernel
theorem dX12_readUnion_32 : decode cX12_readUnion 32 = .ok (.getfield 167, 3) := by decide +kernel
theorem dX12_readUnion_35 : decode cX12_readUnion 35 = .ok (.ifCond .ne 13, 3) := by decide +kernel
theorem dX12_readUnion_38 : decode cX12_readUnion 38 = .ok (.aload_n 0, 1) := by decide +kernel
theorem dX12_readUnion_39 : decode cX12_readUnion 39 = .ok (.getfield 113, 3) := by decide +kernel
theorem dX12_readUnion_42 : decode cX12_readUnion 42 = .ok (.iload_n 1, 1) := by decide +kernel
theorem dX12_readUnion_43 : decode cX12_readUnion 43 = .ok (.aload_n 0, 1) := by decide +kernel
theorem dX12_readUnion_44 : decode cX12_readUnion 44 = .ok (.invokevirtual 460, 3) := by decide +kernel
theorem dX12_readUnion_47 : decode cX12_readUnion 47 = .ok (.iastore, 1) := by decide +kernel
theorem dX12_readUnion_48 : decode cX12_readUnion 48 = .ok (.aload_n 0, 1) := by decide +kernel
theorem dX12_readUnion_49 : decode cX12_readUnion 49 = .ok (.bipush 123, 2) := by decide +kernel
theorem dX12_readUnion_51 : decode cX12_readUnion 51 = .ok (.invokevirtual 431, 3) := by decide +kernel
theorem dX12_readUnion_54 : decode cX12_readUnion 54 = .ok (.aload_n 0, 1) := by decide +kernel
theorem dX12_readUnion_55 : decode cX12_readUnion 55 = .ok (.getfield 167, 3) := by decide +kernel
theorem dX12_readUnion_58 : decode cX12_readUnion 58 = .ok (.ifCond .ne 8, 3) := by decide +kernel
theorem dX12_readUnion_61 : decode cX12_readUnion 61 = .ok (.aload_n 0, 1) := by decide +kernel
theorem dX12_readUnion_62 : decode cX12_readUnion 62 = .ok (.iload_n 1, 1) := by decide +kernel
theorem dX12_readUnion_63 : decode cX12_readUnion 63 = .ok (.invokevirtual 510, 3) := by decide +kernel
theorem dX12_readUnion_66 : decode cX12_readUnion 66 = .ok (.aload_n 0, 1) := by decide +kernel
theorem dX12_readUnion_67 : decode cX12_readUnion 67 = .ok (.getfield 167, 3) := by decide +kernel
theorem dX12_readUnion_70 : decode cX12_readUnion 70 = .ok (.ifCond .ne 28, 3) := by decide +kernel
theorem dX12_readUnion_73 : decode cX12_readUnion 73 = .ok (.aload_n 0, 1) := by decide +kernel
theorem dX12_readUnion_74 : decode cX12_readUnion 74 = .ok (.bipush 45, 2) := by decide +kernel
theorem dX12_readUnion_76 : decode cX12_readUnion 76 = .ok (.invokevirtual 401, 3) := by decide +kernel
theorem dX12_readUnion_79 : decode cX12_readUnion 79 = .ok (.ifCond .ne 11, 3) := by decide +kernel
theorem dX12_readUnion_82 : decode cX12_readUnion 82 = .ok (.aload_n 0, 1) := by decide +kernel
theorem dX12_readUnion_83 : decode cX12_readUnion 83 = .ok (.getfield 51, 3) := by decide +kernel
theorem dX12_readUnion_86 : decode cX12_readUnion 86 = .ok (.iconst 2, 1) := by decide +kernel
theorem dX12_readUnion_87 : decode cX12_readUnion 87 = .ok (.if_icmp .ne 11, 3) := by decide +kernel
theorem dX12_readUnion_90 : decode cX12_readUnion 90 = .ok (.aload_n 0, 1) := by decide +kernel
theorem dX12_readUnion_91 : decode cX12_readUnion 91 = .ok (.iload_n 1, 1) := by decide +kernel
theorem dX12_readUnion_92 : decode cX12_readUnion 92 = .ok (.invokevirtual 510, 3) := by decide +kernel
theorem dX12_readUnion_95 : decode cX12_readUnion 95 = .ok (.goto (-29), 3) := by decide +kernel
theorem dX12_readUnion_98 : decode cX12_readUnion 98 = .ok (.aload_n 0, 1) := by decide +kernel
theorem dX12_readUnion_99 : decode cX12_readUnion 99 = .ok (.getfield 167, 3) := by decide +kernel
theorem dX12_readUnion_102 : decode cX12_readUnion 102 = .ok (.ifCond .ne 33, 3) := by decide +kernel
theorem dX12_readUnion_105 : decode cX12_readUnion 105 = .ok (.aload_n 0, 1) := by decide +kernel
theorem dX12_readUnion_106 : decode cX12_readUnion 106 = .ok (.ldc2_w 354, 3) := by decide +kernel
theorem dX12_readUnion_109 : decode cX12_readUnion 109 = .ok (.invokevirtual 334, 3) := by decide +kernel
theorem dX12_readUnion_112 : decode cX12_readUnion 112 = .ok (.ifCond .eq 23, 3) := by decide +kernel
theorem dX12_readUnion_115 : decode cX12_readUnion 115 = .ok (.aload_n 0, 1) := by decide +kernel
theorem dX12_readUnion_116 : decode cX12_readUnion 116 = .ok (.invokevirtual 408, 3) := by decide +kernel
theorem dX12_readUnion_119 : decode cX12_readUnion 119 = .ok (.aload_n 0, 1) := by decide +kernel
theorem dX12_readUnion_120 : decode cX12_readUnion 120 = .ok (.getfield 122, 3) := by decide +kernel
theorem dX12_readUnion_123 : decode cX12_readUnion 123 = .ok (.iload_n 1, 1) := by decide +kernel
theorem dX12_readUnion_124 : decode cX12_readUnion 124 = .ok (.aload_n 0, 1) := by decide +kernel
theorem dX12_readUnion_125 : decode cX12_readUnion 125 = .ok (.invokevirtual 513, 3) := by decide +kernel
theorem dX12_readUnion_128 : decode cX12_readUnion 128 = .ok (.iastore, 1) := by decide +kernel
theorem dX12_readUnion_129 : decode cX12_readUnion 129 = .ok (.aload_n 0, 1) := by decide +kernel
theorem dX12_readUnion_130 : decode cX12_readUnion 130 = .ok (.bipush 59, 2) := by decide +kernel
theorem dX12_readUnion_132 : decode cX12_readUnion 132 = .ok (.invokevirtual 431, 3) := by decide +kernel
theorem dX12_readUnion_135 : decode cX12_readUnion 135 = .ok (.aload_n 0, 1) := by decide +kernel
theorem dX12_readUnion_136 : decode cX12_readUnion 136 = .ok (.bipush 125, 2) := by decide +kernel
theorem dX12_readUnion_138 : decode cX12_readUnion 138 = .ok (.invokevirtual 431, 3) := by decide +kernel
theorem dX12_readUnion_141 : decode cX12_readUnion 141 = .ok (.return_, 1) := by decide +kernel
theorem dX12_readWhole_0 : decode cX12_readWhole 0 = .ok (.aload_n 0, 1) := by decide +kernel
theorem dX12_readWhole_1 : decode cX12_readWhole 1 = .ok (.getfield 167, 3) := by decide +kernel
theorem dX12_readWhole_4 : decode cX12_readWhole 4 = .ok (.ifCond .gt 23, 3) := by decide +kernel
theorem dX12_readWhole_7 : decode cX12_readWhole 7 = .ok (.aload_n 0, 1) := by decide +kernel
theorem dX12_readWhole_8 : decode cX12_readWhole 8 = .ok (.aload_n 0, 1) := by decide +kernel
theorem dX12_readWhole_9 : decode cX12_readWhole 9 = .ok (.invokevirtual 390, 3) := by decide +kernel
theorem dX12_readWhole_12 : decode cX12_readWhole 12 = .ok (.ifCond .le 7, 3) := by decide +kernel
theorem dX12_readWhole_15 : decode cX12_readWhole 15 = .ok (.iconst 1, 1) := by decide +kernel
theorem dX12_readWhole_16 : decode cX12_readWhole 16 = .ok (.goto 4, 3) := by decide +kernel
theorem dX12_readWhole_19 : decode cX12_readWhole 19 = .ok (.iconst 0, 1) := by decide +kernel
theorem dX12_readWhole_20 : decode cX12_readWhole 20 = .ok (.iconst 2, 1) := by decide +kernel
theorem dX12_readWhole_21 : decode cX12_readWhole 21 = .ok (.invokevirtual 404, 3) := by decide +kernel
theorem dX12_readWhole_24 : decode cX12_readWhole 24 = .ok (.ifCond .ne 4, 3) := by decide +kernel
theorem dX12_readWhole_27 : decode cX12_readWhole 27 = .ok (.return_, 1) := by decide +kernel
theorem dX12_readWhole_28 : decode cX12_readWhole 28 = .ok (.aload_n 0, 1) := by decide +kernel
theorem dX12_readWhole_29 : decode cX12_readWhole 29 = .ok (.getfield 101, 3) := by decide +kernel
theorem dX12_readWhole_32 : decode cX12_readWhole 32 = .ok (.iload_n 1, 1) := by decide +kernel
theorem dX12_readWhole_33 : decode cX12_readWhole 33 = .ok (.aload_n 0, 1) := by decide +kernel
theorem dX12_readWhole_34 : decode cX12_readWhole 34 = .ok (.invokevirtual 390, 3) := by decide +kernel
theorem dX12_readWhole_37 : decode cX12_readWhole 37 = .ok (.iastore, 1) := by decide +kernel
theorem dX12_readWhole_38 : decode cX12_readWhole 38 = .ok (.aload_n 0, 1) := by decide +kernel
theorem dX12_readWhole_39 : decode cX12_readWhole 39 = .ok (.invokevirtual 408, 3) := by decide +kernel
theorem dX12_readWhole_42 : decode cX12_readWhole 42 = .ok (.return_, 1) := by decide +kernel
theorem dX12_relay_0 : decode cX12_relay 0 = .ok (.iload_n 1, 1) := by decide +kernel
theorem dX12_relay_1 : decode cX12_relay 1 = .ok (.ifCond .lt 11, 3) := by decide +kernel
theorem dX12_relay_4 : decode cX12_relay 4 = .ok (.iload_n 1, 1) := by decide +kernel
theorem dX12_relay_5 : decode cX12_relay 5 = .ok (.aload_n 0, 1) := by decide +kernel
theorem dX12_relay_6 : decode cX12_relay 6 = .ok (.getfield 208, 3) := by decide +kernel
theorem dX12_relay_9 : decode cX12_relay 9 = .ok (.if_icmp .lt 5, 3) := by decide +kernel
theorem dX12_relay_12 : decode cX12_relay 12 = .ok (.iconst (-1), 1) := by decide +kernel
theorem dX12_relay_13 : decode cX12_relay 13 = .ok (.ireturn, 1) := by decide +kernel
theorem dX12_relay_14 : decode cX12_relay 14 = .ok (.aload_n 0, 1) := by decide +kernel
theorem dX12_relay_15 : decode cX12_relay 15 = .ok (.bipush 6, 2) := by decide +kernel
theorem dX12_relay_17 : decode cX12_relay 17 = .ok (.aload_n 0, 1) := by decide +kernel
theorem dX12_relay_18 : decode cX12_relay 18 = .ok (.getfield 211, 3) := by decide +kernel
theorem dX12_relay_21 : decode cX12_relay 21 = .ok (.iload_n 1, 1) := by decide +kernel
theorem dX12_relay_22 : decode cX12_relay 22 = .ok (.iaload, 1) := by decide +kernel
theorem dX12_relay_23 : decode cX12_relay 23 = .ok (.aload_n 0, 1) := by decide +kernel
theorem dX12_relay_24 : decode cX12_relay 24 = .ok (.getfield 235, 3) := by decide +kernel
theorem dX12_relay_27 : decode cX12_relay 27 = .ok (.sipush 400, 3) := by decide +kernel
theorem dX12_relay_30 : decode cX12_relay 30 = .ok (.iload_n 1, 1) := by decide +kernel
theorem dX12_relay_31 : decode cX12_relay 31 = .ok (.imul, 1) := by decide +kernel
theorem dX12_relay_32 : decode cX12_relay 32 = .ok (.iaload, 1) := by decide +kernel
theorem dX12_relay_33 : decode cX12_relay 33 = .ok (.aload_n 0, 1) := by decide +kernel
theorem dX12_relay_34 : decode cX12_relay 34 = .ok (.getfield 220, 3) := by decide +kernel
theorem dX12_relay_37 : decode cX12_relay 37 = .ok (.sipush 400, 3) := by decide +kernel
theorem dX12_relay_40 : decode cX12_relay 40 = .ok (.iload_n 1, 1) := by decide +kernel
theorem dX12_relay_41 : decode cX12_relay 41 = .ok (.imul, 1) := by decide +kernel
theorem dX12_relay_42 : decode cX12_relay 42 = .ok (.iaload, 1) := by decide +kernel
theorem dX12_relay_43 : decode cX12_relay 43 = .ok (.invokevirtual 678, 3) := by decide +kernel
theorem dX12_relay_46 : decode cX12_relay 46 = .ok (.ifCond .ne 6, 3) := by decide +kernel
theorem dX12_relay_49 : decode cX12_relay 49 = .ok (.bipush (-6), 2) := by decide +kernel
theorem dX12_relay_51 : decode cX12_relay 51 = .ok (.ireturn, 1) := by decide +kernel
theorem dX12_relay_52 : decode cX12_relay 52 = .ok (.aload_n 0, 1) := by decide +kernel
theorem dX12_relay_53 : decode cX12_relay 53 = .ok (.getfield 214, 3) := by decide +kernel
theorem dX12_relay_56 : decode cX12_relay 56 = .ok (.iload_n 1, 1) := by decide +kernel
theorem dX12_relay_57 : decode cX12_relay 57 = .ok (.aload_n 0, 1) := by decide +kernel
theorem dX12_relay_58 : decode cX12_relay 58 = .ok (.getfield 214, 3) := by decide +kernel
theorem dX12_relay_61 : decode cX12_relay 61 = .ok (.bipush 6, 2) := by decide +kernel
theorem dX12_relay_63 : decode cX12_relay 63 = .ok (.iaload, 1) := by decide +kernel
theorem dX12_relay_64 : decode cX12_relay 64 = .ok (.iastore, 1) := by decide +kernel
theorem dX12_relay_65 : decode cX12_relay 65 = .ok (.sipush 400, 3) := by decide +kernel
theorem dX12_relay_68 : decode cX12_relay 68 = .ok (.bipush 6, 2) := by decide +kernel
theorem dX12_relay_70 : decode cX12_relay 70 = .ok (.iload_n 1, 1) := by decide +kernel
theorem dX12_relay_71 : decode cX12_relay 71 = .ok (.isub, 1) := by decide +kernel
theorem dX12_relay_72 : decode cX12_relay 72 = .ok (.imul, 1) := by decide +kernel
theorem dX12_relay_73 : decode cX12_relay 73 = .ok (.istore_n 2, 1) := by decide +kernel
theorem dX12_relay_74 : decode cX12_relay 74 = .ok (.sipush 400, 3) := by decide +kernel
theorem dX12_relay_77 : decode cX12_relay 77 = .ok (.iload_n 1, 1) := by decide +kernel
theorem dX12_relay_78 : decode cX12_relay 78 = .ok (.imul, 1) := by decide +kernel
theorem dX12_relay_79 : decode cX12_relay 79 = .ok (.istore_n 3, 1) := by decide +kernel
theorem dX12_relay_80 : decode cX12_relay 80 = .ok (.iload_n 3, 1) := by decide +kernel
theorem dX12_relay_81 : decode cX12_relay 81 = .ok (.sipush 400, 3) := by decide +kernel
theorem dX12_relay_84 : decode cX12_relay 84 = .ok (.iload_n 1, 1) := by decide +kernel
theorem dX12_relay_85 : decode cX12_relay 85 = .ok (.imul, 1) := by decide +kernel
theorem dX12_relay_86 : decode cX12_relay 86 = .ok (.aload_n 0, 1) := by decide +kernel
theorem dX12_relay_87 : decode cX12_relay 87 = .ok (.getfield 214, 3) := by decide +kernel
theorem dX12_relay_90 : decode cX12_relay 90 = .ok (.iload_n 1, 1) := by decide +kernel
theorem dX12_relay_91 : decode cX12_relay 91 = .ok (.iaload, 1) := by decide +kernel
theorem dX12_relay_92 : decode cX12_relay 92 = .ok (.iadd, 1) := by decide +kernel
theorem dX12_relay_93 : decode cX12_relay 93 = .ok (.if_icmp .ge 203, 3) := by decide +kernel
theorem dX12_relay_96 : decode cX12_relay 96 = .ok (.iload_n 3, 1) := by decide +kernel
theorem dX12_relay_97 : decode cX12_relay 97 = .ok (.iload_n 2, 1) := by decide +kernel
theorem dX12_relay_98 : decode cX12_relay 98 = .ok (.iadd, 1) := by decide +kernel
theorem dX12_relay_99 : decode cX12_relay 99 = .ok (.istore 4, 2) := by decide +kernel
theorem dX12_relay_101 : decode cX12_relay 101 = .ok (.aload_n 0, 1) := by decide +kernel
theorem dX12_relay_102 : decode cX12_relay 102 = .ok (.getfield 217, 3) := by decide +kernel
theorem dX12_relay_105 : decode cX12_relay 105 = .ok (.iload_n 3, 1) := by decide +kernel
theorem dX12_relay_106 : decode cX12_relay 106 = .ok (.aload_n 0, 1) := by decide +kernel
theorem dX12_relay_107 : decode cX12_relay 107 = .ok (.getfield 217, 3) := by decide +kernel
theorem dX12_relay_110 : decode cX12_relay 110 = .ok (.iload 4, 2) := by decide +kernel
theorem dX12_relay_112 : decode cX12_relay 112 = .ok (.iaload, 1) := by decide +kernel
theorem dX12_relay_113 : decode cX12_relay 113 = .ok (.iastore, 1) := by decide +kernel
theorem dX12_relay_114 : decode cX12_relay 114 = .ok (.aload_n 0, 1) := by decide +kernel
theorem dX12_relay_115 : decode cX12_relay 115 = .ok (.getfield 220, 3) := by decide +kernel
theorem dX12_relay_118 : decode cX12_relay 118 = .ok (.iload_n 3, 1) := by decide +kernel
theorem dX12_relay_119 : decode cX12_relay 119 = .ok (.aload_n 0, 1) := by decide +kernel
theorem dX12_relay_120 : decode cX12_relay 120 = .ok (.getfield 220, 3) := by decide +kernel
theorem dX12_relay_123 : decode cX12_relay 123 = .ok (.iload 4, 2) := by decide +kernel
theorem dX12_relay_125 : decode cX12_relay 125 = .ok (.iaload, 1) := by decide +kernel
theorem dX12_relay_126 : decode cX12_relay 126 = .ok (.iastore, 1) := by decide +kernel
theorem dX12_relay_127 : decode cX12_relay 127 = .ok (.aload_n 0, 1) := by decide +kernel
theorem dX12_relay_128 : decode cX12_relay 128 = .ok (.getfield 223, 3) := by decide +kernel
theorem dX12_relay_131 : decode cX12_relay 131 = .ok (.iload_n 3, 1) := by decide +kernel
theorem dX12_relay_132 : decode cX12_relay 132 = .ok (.aload_n 0, 1) := by decide +kernel
theorem dX12_relay_133 : decode cX12_relay 133 = .ok (.getfield 223, 3) := by decide +kernel
theorem dX12_relay_136 : decode cX12_relay 136 = .ok (.iload 4, 2) := by decide +kernel
theorem dX12_relay_138 : decode cX12_relay 138 = .ok (.iaload, 1) := by decide +kernel
theorem dX12_relay_139 : decode cX12_relay 139 = .ok (.iastore, 1) := by decide +kernel
theorem dX12_relay_140 : decode cX12_relay 140 = .ok (.aload_n 0, 1) := by decide +kernel
theorem dX12_relay_141 : decode cX12_relay 141 = .ok (.getfield 226, 3) := by decide +kernel
theorem dX12_relay_144 : decode cX12_relay 144 = .ok (.iload_n 3, 1) := by decide +kernel
theorem dX12_relay_145 : decode cX12_relay 145 = .ok (.aload_n 0, 1) := by decide +kernel
theorem dX12_relay_146 : decode cX12_relay 146 = .ok (.aload_n 0, 1) := by decide +kernel
theorem dX12_relay_147 : decode cX12_relay 147 = .ok (.getfield 226, 3) := by decide +kernel
theorem dX12_relay_150 : decode cX12_relay 150 = .ok (.iload 4, 2) := by decide +kernel
theorem dX12_relay_152 : decode cX12_relay 152 = .ok (.iaload, 1) := by decide +kernel
theorem dX12_relay_153 : decode cX12_relay 153 = .ok (.iload_n 2, 1) := by decide +kernel
theorem dX12_relay_154 : decode cX12_relay 154 = .ok (.invokevirtual 685, 3) := by decide +kernel
theorem dX12_relay_157 : decode cX12_relay 157 = .ok (.iastore, 1) := by decide +kernel
theorem dX12_relay_158 : decode cX12_relay 158 = .ok (.aload_n 0, 1) := by decide +kernel
theorem dX12_relay_159 : decode cX12_relay 159 = .ok (.getfield 229, 3) := by decide +kernel
theorem dX12_relay_162 : decode cX12_relay 162 = .ok (.iload_n 3, 1) := by decide +kernel
theorem dX12_relay_163 : decode cX12_relay 163 = .ok (.aload_n 0, 1) := by decide +kernel
theorem dX12_relay_164 : decode cX12_relay 164 = .ok (.getfield 229, 3) := by decide +kernel
theorem dX12_relay_167 : decode cX12_relay 167 = .ok (.iload 4, 2) := by decide +kernel
theorem dX12_relay_169 : decode cX12_relay 169 = .ok (.iaload, 1) := by decide +kernel
theorem dX12_relay_170 : decode cX12_relay 170 = .ok (.iastore, 1) := by decide +kernel
theorem dX12_relay_171 : decode cX12_relay 171 = .ok (.aload_n 0, 1) := by decide +kernel
theorem dX12_relay_172 : decode cX12_relay 172 = .ok (.getfield 232, 3) := by decide +kernel
theorem dX12_relay_175 : decode cX12_relay 175 = .ok (.iload_n 3, 1) := by decide +kernel
theorem dX12_relay_176 : decode cX12_relay 176 = .ok (.aload_n 0, 1) := by decide +kernel
theorem dX12_relay_177 : decode cX12_relay 177 = .ok (.getfield 232, 3) := by decide +kernel
theorem dX12_relay_180 : decode cX12_relay 180 = .ok (.iload 4, 2) := by decide +kernel
theorem dX12_relay_182 : decode cX12_relay 182 = .ok (.iaload, 1) := by decide +kernel
theorem dX12_relay_183 : decode cX12_relay 183 = .ok (.iastore, 1) := by decide +kernel
theorem dX12_relay_184 : decode cX12_relay 184 = .ok (.aload_n 0, 1) := by decide +kernel
theorem dX12_relay_185 : decode cX12_relay 185 = .ok (.getfield 235, 3) := by decide +kernel
theorem dX12_relay_188 : decode cX12_relay 188 = .ok (.iload_n 3, 1) := by decide +kernel
theorem dX12_relay_189 : decode cX12_relay 189 = .ok (.aload_n 0, 1) := by decide +kernel
theorem dX12_relay_190 : decode cX12_relay 190 = .ok (.getfield 235, 3) := by decide +kernel
theorem dX12_relay_193 : decode cX12_relay 193 = .ok (.iload 4, 2) := by decide +kernel
theorem dX12_relay_195 : decode cX12_relay 195 = .ok (.iaload, 1) := by decide +kernel
theorem dX12_relay_196 : decode cX12_relay 196 = .ok (.iastore, 1) := by decide +kernel
theorem dX12_relay_197 : decode cX12_relay 197 = .ok (.aload_n 0, 1) := by decide +kernel
theorem dX12_relay_198 : decode cX12_relay 198 = .ok (.getfield 238, 3) := by decide +kernel
theorem dX12_relay_201 : decode cX12_relay 201 = .ok (.iload_n 3, 1) := by decide +kernel
theorem dX12_relay_202 : decode cX12_relay 202 = .ok (.aload_n 0, 1) := by decide +kernel
theorem dX12_relay_203 : decode cX12_relay 203 = .ok (.getfield 238, 3) := by decide +kernel
theorem dX12_relay_206 : decode cX12_relay 206 = .ok (.iload 4, 2) := by decide +kernel
theorem dX12_relay_208 : decode cX12_relay 208 = .ok (.iaload, 1) := by decide +kernel
theorem dX12_relay_209 : decode cX12_relay 209 = .ok (.iastore, 1) := by decide +kernel
theorem dX12_relay_210 : decode cX12_relay 210 = .ok (.aload_n 0, 1) := by decide +kernel
theorem dX12_relay_211 : decode cX12_relay 211 = .ok (.getfield 241, 3) := by decide +kernel
theorem dX12_relay_214 : decode cX12_relay 214 = .ok (.iload_n 3, 1) := by decide +kernel
theorem dX12_relay_215 : decode cX12_relay 215 = .ok (.aload_n 0, 1) := by decide +kernel
theorem dX12_relay_216 : decode cX12_relay 216 = .ok (.getfield 241, 3) := by decide +kernel
theorem dX12_relay_219 : decode cX12_relay 219 = .ok (.iload 4, 2) := by decide +kernel
theorem dX12_relay_221 : decode cX12_relay 221 = .ok (.iaload, 1) := by decide +kernel
theorem dX12_relay_222 : decode cX12_relay 222 = .ok (.iastore, 1) := by decide +kernel
theorem dX12_relay_223 : decode cX12_relay 223 = .ok (.aload_n 0, 1) := by decide +kernel
theorem dX12_relay_224 : decode cX12_relay 224 = .ok (.getfield 244, 3) := by decide +kernel
theorem dX12_relay_227 : decode cX12_relay 227 = .ok (.iload_n 3, 1) := by decide +kernel
theorem dX12_relay_228 : decode cX12_relay 228 = .ok (.aload_n 0, 1) := by decide +kernel
theorem dX12_relay_229 : decode cX12_relay 229 = .ok (.aload_n 0, 1) := by decide +kernel
theorem dX12_relay_230 : decode cX12_relay 230 = .ok (.getfield 244, 3) := by decide +kernel
theorem dX12_relay_233 : decode cX12_relay 233 = .ok (.iload 4, 2) := by decide +kernel
theorem dX12_relay_235 : decode cX12_relay 235 = .ok (.iaload, 1) := by decide +kernel
theorem dX12_relay_236 : decode cX12_relay 236 = .ok (.iload_n 2, 1) := by decide +kernel
theorem dX12_relay_237 : decode cX12_relay 237 = .ok (.invokevirtual 685, 3) := by decide +kernel
theorem dX12_relay_240 : decode cX12_relay 240 = .ok (.iastore, 1) := by decide +kernel
theorem dX12_relay_241 : decode cX12_relay 241 = .ok (.aload_n 0, 1) := by decide +kernel
theorem dX12_relay_242 : decode cX12_relay 242 = .ok (.getfield 247, 3) := by decide +kernel
theorem dX12_relay_245 : decode cX12_relay 245 = .ok (.iload_n 3, 1) := by decide +kernel
theorem dX12_relay_246 : decode cX12_relay 246 = .ok (.aload_n 0, 1) := by decide +kernel
theorem dX12_relay_247 : decode cX12_relay 247 = .ok (.aload_n 0, 1) := by decide +kernel
theorem dX12_relay_248 : decode cX12_relay 248 = .ok (.getfield 247, 3) := by decide +kernel
theorem dX12_relay_251 : decode cX12_relay 251 = .ok (.iload 4, 2) := by decide +kernel
theorem dX12_relay_253 : decode cX12_relay 253 = .ok (.iaload, 1) := by decide +kernel
theorem dX12_relay_254 : decode cX12_relay 254 = .ok (.iload_n 2, 1) := by decide +kernel
theorem dX12_relay_255 : decode cX12_relay 255 = .ok (.invokevirtual 685, 3) := by decide +kernel
theorem dX12_relay_258 : decode cX12_relay 258 = .ok (.iastore, 1) := by decide +kernel
theorem dX12_relay_259 : decode cX12_relay 259 = .ok (.aload_n 0, 1) := by decide +kernel
theorem dX12_relay_260 : decode cX12_relay 260 = .ok (.getfield 250, 3) := by decide +kernel
theorem dX12_relay_263 : decode cX12_relay 263 = .ok (.iload_n 3, 1) := by decide +kernel
theorem dX12_relay_264 : decode cX12_relay 264 = .ok (.aload_n 0, 1) := by decide +kernel
theorem dX12_relay_265 : decode cX12_relay 265 = .ok (.aload_n 0, 1) := by decide +kernel
theorem dX12_relay_266 : decode cX12_relay 266 = .ok (.getfield 250, 3) := by decide +kernel
theorem dX12_relay_269 : decode cX12_relay 269 = .ok (.iload 4, 2) := by decide +kernel
theorem dX12_relay_271 : decode cX12_relay 271 = .ok (.iaload, 1) := by decide +kernel
theorem dX12_relay_272 : decode cX12_relay 272 = .ok (.iload_n 2, 1) := by decide +kernel
theorem dX12_relay_273 : decode cX12_relay 273 = .ok (.invokevirtual 685, 3) := by decide +kernel
theorem dX12_relay_276 : decode cX12_relay 276 = .ok (.iastore, 1) := by decide +kernel
theorem dX12_relay_277 : decode cX12_relay 277 = .ok (.aload_n 0, 1) := by decide +kernel
theorem dX12_relay_278 : decode cX12_relay 278 = .ok (.getfield 253, 3) := by decide +kernel
theorem dX12_relay_281 : decode cX12_relay 281 = .ok (.iload_n 3, 1) := by decide +kernel
theorem dX12_relay_282 : decode cX12_relay 282 = .ok (.aload_n 0, 1) := by decide +kernel
theorem dX12_relay_283 : decode cX12_relay 283 = .ok (.getfield 253, 3) := by decide +kernel
theorem dX12_relay_286 : decode cX12_relay 286 = .ok (.iload 4, 2) := by decide +kernel
theorem dX12_relay_288 : decode cX12_relay 288 = .ok (.baload, 1) := by decide +kernel
theorem dX12_relay_289 : decode cX12_relay 289 = .ok (.bastore, 1) := by decide +kernel
theorem dX12_relay_290 : decode cX12_relay 290 = .ok (.iinc 3 1, 3) := by decide +kernel
theorem dX12_relay_293 : decode cX12_relay 293 = .ok (.goto (-213), 3) := by decide +kernel
theorem dX12_relay_296 : decode cX12_relay 296 = .ok (.aload_n 0, 1) := by decide +kernel
theorem dX12_relay_297 : decode cX12_relay 297 = .ok (.getfield 214, 3) := by decide +kernel
theorem dX12_relay_300 : decode cX12_relay 300 = .ok (.iload_n 1, 1) := by decide +kernel
theorem dX12_relay_301 : decode cX12_relay 301 = .ok (.iaload, 1) := by decide +kernel
theorem dX12_relay_302 : decode cX12_relay 302 = .ok (.ireturn, 1) := by decide +kernel
theorem dX12_search_0 : decode cX12_search 0 = .ok (.aload_n 0, 1) := by decide +kernel
theorem dX12_search_1 : decode cX12_search 1 = .ok (.iload_n 1, 1) := by decide +kernel
theorem dX12_search_2 : decode cX12_search 2 = .ok (.invokevirtual 293, 3) := by decide +kernel
theorem dX12_search_5 : decode cX12_search 5 = .ok (.ifCond .eq 21, 3) := by decide +kernel
theorem dX12_search_8 : decode cX12_search 8 = .ok (.iload 4, 2) := by decide +kernel
theorem dX12_search_10 : decode cX12_search 10 = .ok (.iconst 1, 1) := by decide +kernel
theorem dX12_search_11 : decode cX12_search 11 = .ok (.if_icmp .lt 15, 3) := by decide +kernel
theorem dX12_search_14 : decode cX12_search 14 = .ok (.iload 4, 2) := by decide +kernel
theorem dX12_search_16 : decode cX12_search 16 = .ok (.bipush 8, 2) := by decide +kernel
theorem dX12_search_18 : decode cX12_search 18 = .ok (.if_icmp .gt 8, 3) := by decide +kernel
theorem dX12_search_21 : decode cX12_search 21 = .ok (.iload 6, 2) := by decide +kernel
theorem dX12_search_23 : decode cX12_search 23 = .ok (.ifCond .ge 5, 3) := by decide +kernel
theorem dX12_search_26 : decode cX12_search 26 = .ok (.iconst (-1), 1) := by decide +kernel
theorem dX12_search_27 : decode cX12_search 27 = .ok (.ireturn, 1) := by decide +kernel
theorem dX12_search_28 : decode cX12_search 28 = .ok (.aload_n 0, 1) := by decide +kernel
theorem dX12_search_29 : decode cX12_search 29 = .ok (.iload_n 1, 1) := by decide +kernel
theorem dX12_search_30 : decode cX12_search 30 = .ok (.putfield 259, 3) := by decide +kernel
theorem dX12_search_33 : decode cX12_search 33 = .ok (.iload 6, 2) := by decide +kernel
theorem dX12_search_35 : decode cX12_search 35 = .ok (.istore 7, 2) := by decide +kernel
theorem dX12_search_37 : decode cX12_search 37 = .ok (.iconst 0, 1) := by decide +kernel
theorem dX12_search_38 : decode cX12_search 38 = .ok (.istore 8, 2) := by decide +kernel
theorem dX12_search_40 : decode cX12_search 40 = .ok (.iload 8, 2) := by decide +kernel
theorem dX12_search_42 : decode cX12_search 42 = .ok (.iload 4, 2) := by decide +kernel
theorem dX12_search_44 : decode cX12_search 44 = .ok (.iadd, 1) := by decide +kernel
theorem dX12_search_45 : decode cX12_search 45 = .ok (.aload_n 0, 1) := by decide +kernel
theorem dX12_search_46 : decode cX12_search 46 = .ok (.getfield 13, 3) := by decide +kernel
theorem dX12_search_49 : decode cX12_search 49 = .ok (.aload_n 0, 1) := by decide +kernel
theorem dX12_search_50 : decode cX12_search 50 = .ok (.getfield 259, 3) := by decide +kernel
theorem dX12_search_53 : decode cX12_search 53 = .ok (.iaload, 1) := by decide +kernel
theorem dX12_search_54 : decode cX12_search 54 = .ok (.if_icmp .gt 59, 3) := by decide +kernel
theorem dX12_search_57 : decode cX12_search 57 = .ok (.aload_n 0, 1) := by decide +kernel
theorem dX12_search_58 : decode cX12_search 58 = .ok (.iload 8, 2) := by decide +kernel
theorem dX12_search_60 : decode cX12_search 60 = .ok (.iload 4, 2) := by decide +kernel
theorem dX12_search_62 : decode cX12_search 62 = .ok (.iload 5, 2) := by decide +kernel
theorem dX12_search_64 : decode cX12_search 64 = .ok (.ifCond .eq 8, 3) := by decide +kernel
theorem dX12_search_67 : decode cX12_search 67 = .ok (.bipush 32, 2) := by decide +kernel
theorem dX12_search_69 : decode cX12_search 69 = .ok (.goto 4, 3) := by decide +kernel
theorem dX12_search_72 : decode cX12_search 72 = .ok (.iconst 0, 1) := by decide +kernel
theorem dX12_search_73 : decode cX12_search 73 = .ok (.iadd, 1) := by decide +kernel
theorem dX12_search_74 : decode cX12_search 74 = .ok (.invokevirtual 657, 3) := by decide +kernel
theorem dX12_search_77 : decode cX12_search 77 = .ok (.lload_n 2, 1) := by decide +kernel
theorem dX12_search_78 : decode cX12_search 78 = .ok (.aload_n 0, 1) := by decide +kernel
theorem dX12_search_79 : decode cX12_search 79 = .ok (.bipush 8, 2) := by decide +kernel
theorem dX12_search_81 : decode cX12_search 81 = .ok (.iload 4, 2) := by decide +kernel
theorem dX12_search_83 : decode cX12_search 83 = .ok (.imul, 1) := by decide +kernel
theorem dX12_search_84 : decode cX12_search 84 = .ok (.i2l, 1) := by decide +kernel
theorem dX12_search_85 : decode cX12_search 85 = .ok (.invokevirtual 663, 3) := by decide +kernel
theorem dX12_search_88 : decode cX12_search 88 = .ok (.land, 1) := by decide +kernel
theorem dX12_search_89 : decode cX12_search 89 = .ok (.lcmp, 1) := by decide +kernel
theorem dX12_search_90 : decode cX12_search 90 = .ok (.ifCond .eq 6, 3) := by decide +kernel
theorem dX12_search_93 : decode cX12_search 93 = .ok (.goto 14, 3) := by decide +kernel
theorem dX12_search_96 : decode cX12_search 96 = .ok (.iload 7, 2) := by decide +kernel
theorem dX12_search_98 : decode cX12_search 98 = .ok (.ifCond .ne 6, 3) := by decide +kernel
theorem dX12_search_101 : decode cX12_search 101 = .ok (.iload 8, 2) := by decide +kernel
theorem dX12_search_103 : decode cX12_search 103 = .ok (.ireturn, 1) := by decide +kernel
theorem dX12_search_104 : decode cX12_search 104 = .ok (.iinc 7 (-1), 3) := by decide +kernel
theorem dX12_search_107 : decode cX12_search 107 = .ok (.iinc 8 1, 3) := by decide +kernel
theorem dX12_search_110 : decode cX12_search 110 = .ok (.goto (-70), 3) := by decide +kernel
theorem dX12_search_113 : decode cX12_search 113 = .ok (.iconst (-1), 1) := by decide +kernel
theorem dX12_search_114 : decode cX12_search 114 = .ok (.ireturn, 1) := by decide +kernel
theorem dX12_set_0 : decode cX12_set 0 = .ok (.aload_n 0, 1) := by decide +kernel
theorem dX12_set_1 : decode cX12_set 1 = .ok (.iload_n 1, 1) := by decide +kernel
theorem dX12_set_2 : decode cX12_set 2 = .ok (.iload_n 2, 1) := by decide +kernel
theorem dX12_set_3 : decode cX12_set 3 = .ok (.invokevirtual 688, 3) := by decide +kernel
theorem dX12_set_6 : decode cX12_set 6 = .ok (.ifCond .ne 5, 3) := by decide +kernel
theorem dX12_set_9 : decode cX12_set 9 = .ok (.iconst (-1), 1) := by decide +kernel
theorem dX12_set_10 : decode cX12_set 10 = .ok (.ireturn, 1) := by decide +kernel
theorem dX12_set_11 : decode cX12_set 11 = .ok (.sipush 400, 3) := by decide +kernel
theorem dX12_set_14 : decode cX12_set 14 = .ok (.iload_n 1, 1) := by decide +kernel
theorem dX12_set_15 : decode cX12_set 15 = .ok (.imul, 1) := by decide +kernel
theorem dX12_set_16 : decode cX12_set 16 = .ok (.iload_n 2, 1) := by decide +kernel
theorem dX12_set_17 : decode cX12_set 17 = .ok (.iadd, 1) := by decide +kernel
theorem dX12_set_18 : decode cX12_set 18 = .ok (.istore 5, 2) := by decide +kernel
theorem dX12_set_20 : decode cX12_set 20 = .ok (.aload_n 0, 1) := by decide +kernel
theorem dX12_set_21 : decode cX12_set 21 = .ok (.getfield 217, 3) := by decide +kernel
theorem dX12_set_24 : decode cX12_set 24 = .ok (.iload 5, 2) := by decide +kernel
theorem dX12_set_26 : decode cX12_set 26 = .ok (.iaload, 1) := by decide +kernel
theorem dX12_set_27 : decode cX12_set 27 = .ok (.istore 6, 2) := by decide +kernel
theorem dX12_set_29 : decode cX12_set 29 = .ok (.iload 6, 2) := by decide +kernel
theorem dX12_set_31 : decode cX12_set 31 = .ok (.iconst 1, 1) := by decide +kernel
theorem dX12_set_32 : decode cX12_set 32 = .ok (.if_icmp .eq 32, 3) := by decide +kernel
theorem dX12_set_35 : decode cX12_set 35 = .ok (.iload 6, 2) := by decide +kernel
theorem dX12_set_37 : decode cX12_set 37 = .ok (.iconst 3, 1) := by decide +kernel
theorem dX12_set_38 : decode cX12_set 38 = .ok (.if_icmp .eq 26, 3) := by decide +kernel
theorem dX12_set_41 : decode cX12_set 41 = .ok (.iload 6, 2) := by decide +kernel
theorem dX12_set_43 : decode cX12_set 43 = .ok (.iconst 4, 1) := by decide +kernel
theorem dX12_set_44 : decode cX12_set 44 = .ok (.if_icmp .eq 20, 3) := by decide +kernel
theorem dX12_set_47 : decode cX12_set 47 = .ok (.iload 6, 2) := by decide +kernel
theorem dX12_set_49 : decode cX12_set 49 = .ok (.bipush 7, 2) := by decide +kernel
theorem dX12_set_51 : decode cX12_set 51 = .ok (.if_icmp .eq 13, 3) := by decide +kernel
theorem dX12_set_54 : decode cX12_set 54 = .ok (.iload 6, 2) := by decide +kernel
theorem dX12_set_56 : decode cX12_set 56 = .ok (.bipush 10, 2) := by decide +kernel
theorem dX12_set_58 : decode cX12_set 58 = .ok (.if_icmp .eq 6, 3) := by decide +kernel
theorem dX12_set_61 : decode cX12_set 61 = .ok (.bipush (-4), 2) := by decide +kernel
theorem dX12_set_63 : decode cX12_set 63 = .ok (.ireturn, 1) := by decide +kernel
theorem dX12_set_64 : decode cX12_set 64 = .ok (.aload_n 0, 1) := by decide +kernel
theorem dX12_set_65 : decode cX12_set 65 = .ok (.getfield 232, 3) := by decide +kernel
theorem dX12_set_68 : decode cX12_set 68 = .ok (.iload 5, 2) := by decide +kernel
theorem dX12_set_70 : decode cX12_set 70 = .ok (.iaload, 1) := by decide +kernel
theorem dX12_set_71 : decode cX12_set 71 = .ok (.iconst 1, 1) := by decide +kernel
theorem dX12_set_72 : decode cX12_set 72 = .ok (.if_icmp .ne 6, 3) := by decide +kernel
theorem dX12_set_75 : decode cX12_set 75 = .ok (.bipush (-5), 2) := by decide +kernel
theorem dX12_set_77 : decode cX12_set 77 = .ok (.ireturn, 1) := by decide +kernel
theorem dX12_set_78 : decode cX12_set 78 = .ok (.aload_n 0, 1) := by decide +kernel
theorem dX12_set_79 : decode cX12_set 79 = .ok (.getfield 238, 3) := by decide +kernel
theorem dX12_set_82 : decode cX12_set 82 = .ok (.iload 5, 2) := by decide +kernel
theorem dX12_set_84 : decode cX12_set 84 = .ok (.iaload, 1) := by decide +kernel
theorem dX12_set_85 : decode cX12_set 85 = .ok (.istore 7, 2) := by decide +kernel
theorem dX12_set_87 : decode cX12_set 87 = .ok (.aload_n 0, 1) := by decide +kernel
theorem dX12_set_88 : decode cX12_set 88 = .ok (.getfield 101, 3) := by decide +kernel
theorem dX12_set_91 : decode cX12_set 91 = .ok (.iload 7, 2) := by decide +kernel
theorem dX12_set_93 : decode cX12_set 93 = .ok (.iaload, 1) := by decide +kernel
theorem dX12_set_94 : decode cX12_set 94 = .ok (.istore 8, 2) := by decide +kernel
theorem dX12_set_96 : decode cX12_set 96 = .ok (.iload 6, 2) := by decide +kernel
theorem dX12_set_98 : decode cX12_set 98 = .ok (.i2l, 1) := by decide +kernel
theorem dX12_set_99 : decode cX12_set 99 = .ok (.lstore 9, 2) := by decide +kernel
theorem dX12_set_101 : decode cX12_set 101 = .ok (.iload 6, 2) := by decide +kernel
theorem dX12_set_103 : decode cX12_set 103 = .ok (.iconst 4, 1) := by decide +kernel
theorem dX12_set_104 : decode cX12_set 104 = .ok (.if_icmp .ne 86, 3) := by decide +kernel
theorem dX12_set_107 : decode cX12_set 107 = .ok (.aload_n 0, 1) := by decide +kernel
theorem dX12_set_108 : decode cX12_set 108 = .ok (.aload_n 0, 1) := by decide +kernel
theorem dX12_set_109 : decode cX12_set 109 = .ok (.getfield 134, 3) := by decide +kernel
theorem dX12_set_112 : decode cX12_set 112 = .ok (.bipush 16, 2) := by decide +kernel
theorem dX12_set_114 : decode cX12_set 114 = .ok (.iload 7, 2) := by decide +kernel
theorem dX12_set_116 : decode cX12_set 116 = .ok (.imul, 1) := by decide +kernel
theorem dX12_set_117 : decode cX12_set 117 = .ok (.aload_n 0, 1) := by decide +kernel
theorem dX12_set_118 : decode cX12_set 118 = .ok (.getfield 241, 3) := by decide +kernel
theorem dX12_set_121 : decode cX12_set 121 = .ok (.iload 5, 2) := by decide +kernel
theorem dX12_set_123 : decode cX12_set 123 = .ok (.iaload, 1) := by decide +kernel
theorem dX12_set_124 : decode cX12_set 124 = .ok (.iadd, 1) := by decide +kernel
theorem dX12_set_125 : decode cX12_set 125 = .ok (.iconst 1, 1) := by decide +kernel
theorem dX12_set_126 : decode cX12_set 126 = .ok (.isub, 1) := by decide +kernel
theorem dX12_set_127 : decode cX12_set 127 = .ok (.laload, 1) := by decide +kernel
theorem dX12_set_128 : decode cX12_set 128 = .ok (.invokevirtual 663, 3) := by decide +kernel
theorem dX12_set_131 : decode cX12_set 131 = .ok (.lstore 11, 2) := by decide +kernel
theorem dX12_set_133 : decode cX12_set 133 = .ok (.lload_n 3, 1) := by decide +kernel
theorem dX12_set_134 : decode cX12_set 134 = .ok (.lload 11, 2) := by decide +kernel
theorem dX12_set_136 : decode cX12_set 136 = .ok (.land, 1) := by decide +kernel
theorem dX12_set_137 : decode cX12_set 137 = .ok (.lload_n 3, 1) := by decide +kernel
theorem dX12_set_138 : decode cX12_set 138 = .ok (.lcmp, 1) := by decide +kernel
theorem dX12_set_139 : decode cX12_set 139 = .ok (.ifCond .eq 6, 3) := by decide +kernel
theorem dX12_set_142 : decode cX12_set 142 = .ok (.bipush (-3), 2) := by decide +kernel
theorem dX12_set_144 : decode cX12_set 144 = .ok (.ireturn, 1) := by decide +kernel
theorem dX12_set_145 : decode cX12_set 145 = .ok (.aload_n 0, 1) := by decide +kernel
theorem dX12_set_146 : decode cX12_set 146 = .ok (.aload_n 0, 1) := by decide +kernel
theorem dX12_set_147 : decode cX12_set 147 = .ok (.getfield 220, 3) := by decide +kernel
theorem dX12_set_150 : decode cX12_set 150 = .ok (.iload 5, 2) := by decide +kernel
theorem dX12_set_152 : decode cX12_set 152 = .ok (.iaload, 1) := by decide +kernel
theorem dX12_set_153 : decode cX12_set 153 = .ok (.iload 8, 2) := by decide +kernel
theorem dX12_set_155 : decode cX12_set 155 = .ok (.invokevirtual 657, 3) := by decide +kernel
theorem dX12_set_158 : decode cX12_set 158 = .ok (.lload 11, 2) := by decide +kernel
theorem dX12_set_160 : decode cX12_set 160 = .ok (.aload_n 0, 1) := by decide +kernel
theorem dX12_set_161 : decode cX12_set 161 = .ok (.iload 5, 2) := by decide +kernel
theorem dX12_set_163 : decode cX12_set 163 = .ok (.invokevirtual 660, 3) := by decide +kernel
theorem dX12_set_166 : decode cX12_set 166 = .ok (.lshl, 1) := by decide +kernel
theorem dX12_set_167 : decode cX12_set 167 = .ok (.ldc2_w 521, 3) := by decide +kernel
theorem dX12_set_170 : decode cX12_set 170 = .ok (.lxor, 1) := by decide +kernel
theorem dX12_set_171 : decode cX12_set 171 = .ok (.land, 1) := by decide +kernel
theorem dX12_set_172 : decode cX12_set 172 = .ok (.lstore 13, 2) := by decide +kernel
theorem dX12_set_174 : decode cX12_set 174 = .ok (.lload 13, 2) := by decide +kernel
theorem dX12_set_176 : decode cX12_set 176 = .ok (.lload_n 3, 1) := by decide +kernel
theorem dX12_set_177 : decode cX12_set 177 = .ok (.aload_n 0, 1) := by decide +kernel
theorem dX12_set_178 : decode cX12_set 178 = .ok (.iload 5, 2) := by decide +kernel
theorem dX12_set_180 : decode cX12_set 180 = .ok (.invokevirtual 660, 3) := by decide +kernel
theorem dX12_set_183 : decode cX12_set 183 = .ok (.lshl, 1) := by decide +kernel
theorem dX12_set_184 : decode cX12_set 184 = .ok (.lor, 1) := by decide +kernel
theorem dX12_set_185 : decode cX12_set 185 = .ok (.lstore 9, 2) := by decide +kernel
theorem dX12_set_187 : decode cX12_set 187 = .ok (.goto 41, 3) := by decide +kernel
theorem dX12_set_190 : decode cX12_set 190 = .ok (.aload_n 0, 1) := by decide +kernel
theorem dX12_set_191 : decode cX12_set 191 = .ok (.lload_n 3, 1) := by decide +kernel
theorem dX12_set_192 : decode cX12_set 192 = .ok (.iload 8, 2) := by decide +kernel
theorem dX12_set_194 : decode cX12_set 194 = .ok (.bipush 15, 2) := by decide +kernel
theorem dX12_set_196 : decode cX12_set 196 = .ok (.iand, 1) := by decide +kernel
theorem dX12_set_197 : decode cX12_set 197 = .ok (.iload 8, 2) := by decide +kernel
theorem dX12_set_199 : decode cX12_set 199 = .ok (.bipush 16, 2) := by decide +kernel
theorem dX12_set_201 : decode cX12_set 201 = .ok (.iand, 1) := by decide +kernel
theorem dX12_set_202 : decode cX12_set 202 = .ok (.ifCond .le 13, 3) := by decide +kernel
theorem dX12_set_205 : decode cX12_set 205 = .ok (.iload 6, 2) := by decide +kernel
theorem dX12_set_207 : decode cX12_set 207 = .ok (.iconst 3, 1) := by decide +kernel
theorem dX12_set_208 : decode cX12_set 208 = .ok (.if_icmp .eq 7, 3) := by decide +kernel
theorem dX12_set_211 : decode cX12_set 211 = .ok (.iconst 1, 1) := by decide +kernel
theorem dX12_set_212 : decode cX12_set 212 = .ok (.goto 4, 3) := by decide +kernel
theorem dX12_set_215 : decode cX12_set 215 = .ok (.iconst 0, 1) := by decide +kernel
theorem dX12_set_216 : decode cX12_set 216 = .ok (.invokevirtual 701, 3) := by decide +kernel
theorem dX12_set_219 : decode cX12_set 219 = .ok (.ifCond .ne 6, 3) := by decide +kernel
theorem dX12_set_222 : decode cX12_set 222 = .ok (.bipush (-3), 2) := by decide +kernel
theorem dX12_set_224 : decode cX12_set 224 = .ok (.ireturn, 1) := by decide +kernel
theorem dX12_set_225 : decode cX12_set 225 = .ok (.lload_n 3, 1) := by decide +kernel
theorem dX12_set_226 : decode cX12_set 226 = .ok (.lstore 9, 2) := by decide +kernel
theorem dX12_set_228 : decode cX12_set 228 = .ok (.aload_n 0, 1) := by decide +kernel
theorem dX12_set_229 : decode cX12_set 229 = .ok (.aload_n 0, 1) := by decide +kernel
theorem dX12_set_230 : decode cX12_set 230 = .ok (.getfield 220, 3) := by decide +kernel
theorem dX12_set_233 : decode cX12_set 233 = .ok (.iload 5, 2) := by decide +kernel
theorem dX12_set_235 : decode cX12_set 235 = .ok (.iaload, 1) := by decide +kernel
theorem dX12_set_236 : decode cX12_set 236 = .ok (.lload 9, 2) := by decide +kernel
theorem dX12_set_238 : decode cX12_set 238 = .ok (.iload 8, 2) := by decide +kernel
theorem dX12_set_240 : decode cX12_set 240 = .ok (.invokevirtual 704, 3) := by decide +kernel
theorem dX12_set_243 : decode cX12_set 243 = .ok (.iconst 0, 1) := by decide +kernel
theorem dX12_set_244 : decode cX12_set 244 = .ok (.ireturn, 1) := by decide +kernel
theorem dX12_shift_0 : decode cX12_shift 0 = .ok (.iconst 0, 1) := by decide +kernel
theorem dX12_shift_1 : decode cX12_shift 1 = .ok (.istore_n 2, 1) := by decide +kernel
theorem dX12_shift_2 : decode cX12_shift 2 = .ok (.iconst 0, 1) := by decide +kernel
theorem dX12_shift_3 : decode cX12_shift 3 = .ok (.istore_n 3, 1) := by decide +kernel
theorem dX12_shift_4 : decode cX12_shift 4 = .ok (.iload_n 3, 1) := by decide +kernel
theorem dX12_shift_5 : decode cX12_shift 5 = .ok (.aload_n 0, 1) := by decide +kernel
theorem dX12_shift_6 : decode cX12_shift 6 = .ok (.getfield 241, 3) := by decide +kernel
theorem dX12_shift_9 : decode cX12_shift 9 = .ok (.iload_n 1, 1) := by decide +kernel
theorem dX12_shift_10 : decode cX12_shift 10 = .ok (.iaload, 1) := by decide +kernel
theorem dX12_shift_11 : decode cX12_shift 11 = .ok (.iconst 1, 1) := by decide +kernel
theorem dX12_shift_12 : decode cX12_shift 12 = .ok (.isub, 1) := by decide +kernel
theorem dX12_shift_13 : decode cX12_shift 13 = .ok (.if_icmp .ge 29, 3) := by decide +kernel
theorem dX12_shift_16 : decode cX12_shift 16 = .ok (.iload_n 2, 1) := by decide +kernel
theorem dX12_shift_17 : decode cX12_shift 17 = .ok (.aload_n 0, 1) := by decide +kernel
theorem dX12_shift_18 : decode cX12_shift 18 = .ok (.getfield 134, 3) := by decide +kernel
theorem dX12_shift_21 : decode cX12_shift 21 = .ok (.bipush 16, 2) := by decide +kernel
theorem dX12_shift_23 : decode cX12_shift 23 = .ok (.aload_n 0, 1) := by decide +kernel
theorem dX12_shift_24 : decode cX12_shift 24 = .ok (.getfield 238, 3) := by decide +kernel
theorem dX12_shift_27 : decode cX12_shift 27 = .ok (.iload_n 1, 1) := by decide +kernel
theorem dX12_shift_28 : decode cX12_shift 28 = .ok (.iaload, 1) := by decide +kernel
theorem dX12_shift_29 : decode cX12_shift 29 = .ok (.imul, 1) := by decide +kernel
theorem dX12_shift_30 : decode cX12_shift 30 = .ok (.iload_n 3, 1) := by decide +kernel
theorem dX12_shift_31 : decode cX12_shift 31 = .ok (.iadd, 1) := by decide +kernel
theorem dX12_shift_32 : decode cX12_shift 32 = .ok (.laload, 1) := by decide +kernel
theorem dX12_shift_33 : decode cX12_shift 33 = .ok (.l2i, 1) := by decide +kernel
theorem dX12_shift_34 : decode cX12_shift 34 = .ok (.iadd, 1) := by decide +kernel
theorem dX12_shift_35 : decode cX12_shift 35 = .ok (.istore_n 2, 1) := by decide +kernel
theorem dX12_shift_36 : decode cX12_shift 36 = .ok (.iinc 3 1, 3) := by decide +kernel
theorem dX12_shift_39 : decode cX12_shift 39 = .ok (.goto (-35), 3) := by decide +kernel
theorem dX12_shift_42 : decode cX12_shift 42 = .ok (.iload_n 2, 1) := by decide +kernel
theorem dX12_shift_43 : decode cX12_shift 43 = .ok (.ireturn, 1) := by decide +kernel
theorem dX12_sign_0 : decode cX12_sign 0 = .ok (.iload_n 1, 1) := by decide +kernel
theorem dX12_sign_1 : decode cX12_sign 1 = .ok (.bipush 123, 2) := by decide +kernel
theorem dX12_sign_3 : decode cX12_sign 3 = .ok (.if_icmp .eq 105, 3) := by decide +kernel
theorem dX12_sign_6 : decode cX12_sign 6 = .ok (.iload_n 1, 1) := by decide +kernel
theorem dX12_sign_7 : decode cX12_sign 7 = .ok (.bipush 125, 2) := by decide +kernel
theorem dX12_sign_9 : decode cX12_sign 9 = .ok (.if_icmp .eq 99, 3) := by decide +kernel
theorem dX12_sign_12 : decode cX12_sign 12 = .ok (.iload_n 1, 1) := by decide +kernel
theorem dX12_sign_13 : decode cX12_sign 13 = .ok (.bipush 40, 2) := by decide +kernel
theorem dX12_sign_15 : decode cX12_sign 15 = .ok (.if_icmp .eq 93, 3) := by decide +kernel
theorem dX12_sign_18 : decode cX12_sign 18 = .ok (.iload_n 1, 1) := by decide +kernel
theorem dX12_sign_19 : decode cX12_sign 19 = .ok (.bipush 41, 2) := by decide +kernel
theorem dX12_sign_21 : decode cX12_sign 21 = .ok (.if_icmp .eq 87, 3) := by decide +kernel
theorem dX12_sign_24 : decode cX12_sign 24 = .ok (.iload_n 1, 1) := by decide +kernel
theorem dX12_sign_25 : decode cX12_sign 25 = .ok (.bipush 91, 2) := by decide +kernel
theorem dX12_sign_27 : decode cX12_sign 27 = .ok (.if_icmp .eq 81, 3) := by decide +kernel
theorem dX12_sign_30 : decode cX12_sign 30 = .ok (.iload_n 1, 1) := by decide +kernel
theorem dX12_sign_31 : decode cX12_sign 31 = .ok (.bipush 93, 2) := by decide +kernel
theorem dX12_sign_33 : decode cX12_sign 33 = .ok (.if_icmp .eq 75, 3) := by decide +kernel
theorem dX12_sign_36 : decode cX12_sign 36 = .ok (.iload_n 1, 1) := by decide +kernel
theorem dX12_sign_37 : decode cX12_sign 37 = .ok (.bipush 59, 2) := by decide +kernel
theorem dX12_sign_39 : decode cX12_sign 39 = .ok (.if_icmp .eq 69, 3) := by decide +kernel
theorem dX12_sign_42 : decode cX12_sign 42 = .ok (.iload_n 1, 1) := by decide +kernel
theorem dX12_sign_43 : decode cX12_sign 43 = .ok (.bipush 58, 2) := by decide +kernel
theorem dX12_sign_45 : decode cX12_sign 45 = .ok (.if_icmp .eq 63, 3) := by decide +kernel
theorem dX12_sign_48 : decode cX12_sign 48 = .ok (.iload_n 1, 1) := by decide +kernel
theorem dX12_sign_49 : decode cX12_sign 49 = .ok (.bipush 44, 2) := by decide +kernel
theorem dX12_sign_51 : decode cX12_sign 51 = .ok (.if_icmp .eq 57, 3) := by decide +kernel
theorem dX12_sign_54 : decode cX12_sign 54 = .ok (.iload_n 1, 1) := by decide +kernel
theorem dX12_sign_55 : decode cX12_sign 55 = .ok (.bipush 61, 2) := by decide +kernel
theorem dX12_sign_57 : decode cX12_sign 57 = .ok (.if_icmp .eq 51, 3) := by decide +kernel
theorem dX12_sign_60 : decode cX12_sign 60 = .ok (.iload_n 1, 1) := by decide +kernel
theorem dX12_sign_61 : decode cX12_sign 61 = .ok (.bipush 60, 2) := by decide +kernel
theorem dX12_sign_63 : decode cX12_sign 63 = .ok (.if_icmp .eq 45, 3) := by decide +kernel
theorem dX12_sign_66 : decode cX12_sign 66 = .ok (.iload_n 1, 1) := by decide +kernel
theorem dX12_sign_67 : decode cX12_sign 67 = .ok (.bipush 62, 2) := by decide +kernel
theorem dX12_sign_69 : decode cX12_sign 69 = .ok (.if_icmp .eq 39, 3) := by decide +kernel
theorem dX12_sign_72 : decode cX12_sign 72 = .ok (.iload_n 1, 1) := by decide +kernel
theorem dX12_sign_73 : decode cX12_sign 73 = .ok (.bipush 43, 2) := by decide +kernel
theorem dX12_sign_75 : decode cX12_sign 75 = .ok (.if_icmp .eq 33, 3) := by decide +kernel
theorem dX12_sign_78 : decode cX12_sign 78 = .ok (.iload_n 1, 1) := by decide +kernel
theorem dX12_sign_79 : decode cX12_sign 79 = .ok (.bipush 45, 2) := by decide +kernel
theorem dX12_sign_81 : decode cX12_sign 81 = .ok (.if_icmp .eq 27, 3) := by decide +kernel
theorem dX12_sign_84 : decode cX12_sign 84 = .ok (.iload_n 1, 1) := by decide +kernel
theorem dX12_sign_85 : decode cX12_sign 85 = .ok (.bipush 42, 2) := by decide +kernel
theorem dX12_sign_87 : decode cX12_sign 87 = .ok (.if_icmp .eq 21, 3) := by decide +kernel
theorem dX12_sign_90 : decode cX12_sign 90 = .ok (.iload_n 1, 1) := by decide +kernel
theorem dX12_sign_91 : decode cX12_sign 91 = .ok (.bipush 47, 2) := by decide +kernel
theorem dX12_sign_93 : decode cX12_sign 93 = .ok (.if_icmp .eq 15, 3) := by decide +kernel
theorem dX12_sign_96 : decode cX12_sign 96 = .ok (.iload_n 1, 1) := by decide +kernel
theorem dX12_sign_97 : decode cX12_sign 97 = .ok (.bipush 37, 2) := by decide +kernel
theorem dX12_sign_99 : decode cX12_sign 99 = .ok (.if_icmp .eq 9, 3) := by decide +kernel
theorem dX12_sign_102 : decode cX12_sign 102 = .ok (.iload_n 1, 1) := by decide +kernel
theorem dX12_sign_103 : decode cX12_sign 103 = .ok (.bipush 38, 2) := by decide +kernel
theorem dX12_sign_105 : decode cX12_sign 105 = .ok (.if_icmp .ne 7, 3) := by decide +kernel
theorem dX12_sign_108 : decode cX12_sign 108 = .ok (.iconst 1, 1) := by decide +kernel
theorem dX12_sign_109 : decode cX12_sign 109 = .ok (.goto 4, 3) := by decide +kernel
theorem dX12_sign_112 : decode cX12_sign 112 = .ok (.iconst 0, 1) := by decide +kernel
theorem dX12_sign_113 : decode cX12_sign 113 = .ok (.ireturn, 1) := by decide +kernel
theorem dX12_sign__0 : decode cX12_sign_ 0 = .ok (.aload_n 0, 1) := by decide +kernel
theorem dX12_sign__1 : decode cX12_sign_ 1 = .ok (.iload_n 1, 1) := by decide +kernel
theorem dX12_sign__2 : decode cX12_sign_ 2 = .ok (.iload_n 2, 1) := by decide +kernel
theorem dX12_sign__3 : decode cX12_sign_ 3 = .ok (.invokevirtual 688, 3) := by decide +kernel
theorem dX12_sign__6 : decode cX12_sign_ 6 = .ok (.ifCond .ne 5, 3) := by decide +kernel
theorem dX12_sign__9 : decode cX12_sign_ 9 = .ok (.iconst (-1), 1) := by decide +kernel
theorem dX12_sign__10 : decode cX12_sign_ 10 = .ok (.ireturn, 1) := by decide +kernel
theorem dX12_sign__11 : decode cX12_sign_ 11 = .ok (.sipush 400, 3) := by decide +kernel
theorem dX12_sign__14 : decode cX12_sign_ 14 = .ok (.iload_n 1, 1) := by decide +kernel
theorem dX12_sign__15 : decode cX12_sign_ 15 = .ok (.imul, 1) := by decide +kernel
theorem dX12_sign__16 : decode cX12_sign_ 16 = .ok (.iload_n 2, 1) := by decide +kernel
theorem dX12_sign__17 : decode cX12_sign_ 17 = .ok (.iadd, 1) := by decide +kernel
theorem dX12_sign__18 : decode cX12_sign_ 18 = .ok (.istore 4, 2) := by decide +kernel
theorem dX12_sign__20 : decode cX12_sign_ 20 = .ok (.aload_n 0, 1) := by decide +kernel
theorem dX12_sign__21 : decode cX12_sign_ 21 = .ok (.getfield 217, 3) := by decide +kernel
theorem dX12_sign__24 : decode cX12_sign_ 24 = .ok (.iload 4, 2) := by decide +kernel
theorem dX12_sign__26 : decode cX12_sign_ 26 = .ok (.iaload, 1) := by decide +kernel
theorem dX12_sign__27 : decode cX12_sign_ 27 = .ok (.iconst 5, 1) := by decide +kernel
theorem dX12_sign__28 : decode cX12_sign_ 28 = .ok (.if_icmp .ne 19, 3) := by decide +kernel
theorem dX12_sign__31 : decode cX12_sign_ 31 = .ok (.iload_n 3, 1) := by decide +kernel
theorem dX12_sign__32 : decode cX12_sign_ 32 = .ok (.ifCond .lt 15, 3) := by decide +kernel
theorem dX12_sign__35 : decode cX12_sign_ 35 = .ok (.iload_n 3, 1) := by decide +kernel
theorem dX12_sign__36 : decode cX12_sign_ 36 = .ok (.i2l, 1) := by decide +kernel
theorem dX12_sign__37 : decode cX12_sign_ 37 = .ok (.aload_n 0, 1) := by decide +kernel
theorem dX12_sign__38 : decode cX12_sign_ 38 = .ok (.iload 4, 2) := by decide +kernel
theorem dX12_sign__40 : decode cX12_sign_ 40 = .ok (.invokevirtual 643, 3) := by decide +kernel
theorem dX12_sign__43 : decode cX12_sign_ 43 = .ok (.lcmp, 1) := by decide +kernel
theorem dX12_sign__44 : decode cX12_sign_ 44 = .ok (.ifCond .lt 5, 3) := by decide +kernel
theorem dX12_sign__47 : decode cX12_sign_ 47 = .ok (.iconst (-1), 1) := by decide +kernel
theorem dX12_sign__48 : decode cX12_sign_ 48 = .ok (.ireturn, 1) := by decide +kernel
theorem dX12_sign__49 : decode cX12_sign_ 49 = .ok (.aload_n 0, 1) := by decide +kernel
theorem dX12_sign__50 : decode cX12_sign_ 50 = .ok (.aload_n 0, 1) := by decide +kernel
theorem dX12_sign__51 : decode cX12_sign_ 51 = .ok (.getfield 259, 3) := by decide +kernel
theorem dX12_sign__54 : decode cX12_sign_ 54 = .ok (.aload_n 0, 1) := by decide +kernel
theorem dX12_sign__55 : decode cX12_sign_ 55 = .ok (.getfield 220, 3) := by decide +kernel
theorem dX12_sign__58 : decode cX12_sign_ 58 = .ok (.iload 4, 2) := by decide +kernel
theorem dX12_sign__60 : decode cX12_sign_ 60 = .ok (.iaload, 1) := by decide +kernel
theorem dX12_sign__61 : decode cX12_sign_ 61 = .ok (.iload_n 3, 1) := by decide +kernel
theorem dX12_sign__62 : decode cX12_sign_ 62 = .ok (.iadd, 1) := by decide +kernel
theorem dX12_sign__63 : decode cX12_sign_ 63 = .ok (.invokevirtual 299, 3) := by decide +kernel
theorem dX12_sign__66 : decode cX12_sign_ 66 = .ok (.ireturn, 1) := by decide +kernel
theorem dX12_signed_0 : decode cX12_signed 0 = .ok (.aload_n 0, 1) := by decide +kernel
theorem dX12_signed_1 : decode cX12_signed 1 = .ok (.getfield 167, 3) := by decide +kernel
theorem dX12_signed_4 : decode cX12_signed 4 = .ok (.ifCond .le 5, 3) := by decide +kernel
theorem dX12_signed_7 : decode cX12_signed 7 = .ok (.lconst 0, 1) := by decide +kernel
theorem dX12_signed_8 : decode cX12_signed 8 = .ok (.lreturn, 1) := by decide +kernel
theorem dX12_signed_9 : decode cX12_signed 9 = .ok (.aload_n 0, 1) := by decide +kernel
theorem dX12_signed_10 : decode cX12_signed 10 = .ok (.bipush 45, 2) := by decide +kernel
theorem dX12_signed_12 : decode cX12_signed 12 = .ok (.invokevirtual 401, 3) := by decide +kernel
theorem dX12_signed_15 : decode cX12_signed 15 = .ok (.istore_n 1, 1) := by decide +kernel
theorem dX12_signed_16 : decode cX12_signed 16 = .ok (.iload_n 1, 1) := by decide +kernel
theorem dX12_signed_17 : decode cX12_signed 17 = .ok (.ifCond .eq 7, 3) := by decide +kernel
theorem dX12_signed_20 : decode cX12_signed 20 = .ok (.aload_n 0, 1) := by decide +kernel
theorem dX12_signed_21 : decode cX12_signed 21 = .ok (.invokevirtual 408, 3) := by decide +kernel
theorem dX12_signed_24 : decode cX12_signed 24 = .ok (.aload_n 0, 1) := by decide +kernel
theorem dX12_signed_25 : decode cX12_signed 25 = .ok (.aload_n 0, 1) := by decide +kernel
theorem dX12_signed_26 : decode cX12_signed 26 = .ok (.getfield 51, 3) := by decide +kernel
theorem dX12_signed_29 : decode cX12_signed 29 = .ok (.iconst 2, 1) := by decide +kernel
theorem dX12_signed_30 : decode cX12_signed 30 = .ok (.if_icmp .ne 7, 3) := by decide +kernel
theorem dX12_signed_33 : decode cX12_signed 33 = .ok (.iconst 1, 1) := by decide +kernel
theorem dX12_signed_34 : decode cX12_signed 34 = .ok (.goto 4, 3) := by decide +kernel
theorem dX12_signed_37 : decode cX12_signed 37 = .ok (.iconst 0, 1) := by decide +kernel
theorem dX12_signed_38 : decode cX12_signed 38 = .ok (.iconst 2, 1) := by decide +kernel
theorem dX12_signed_39 : decode cX12_signed 39 = .ok (.invokevirtual 404, 3) := by decide +kernel
theorem dX12_signed_42 : decode cX12_signed 42 = .ok (.ifCond .ne 5, 3) := by decide +kernel
theorem dX12_signed_45 : decode cX12_signed 45 = .ok (.lconst 0, 1) := by decide +kernel
theorem dX12_signed_46 : decode cX12_signed 46 = .ok (.lreturn, 1) := by decide +kernel
theorem dX12_signed_47 : decode cX12_signed 47 = .ok (.iload_n 1, 1) := by decide +kernel
theorem dX12_signed_48 : decode cX12_signed 48 = .ok (.ifCond .eq 11, 3) := by decide +kernel
theorem dX12_signed_51 : decode cX12_signed 51 = .ok (.aload_n 0, 1) := by decide +kernel
theorem dX12_signed_52 : decode cX12_signed 52 = .ok (.getfield 64, 3) := by decide +kernel
theorem dX12_signed_55 : decode cX12_signed 55 = .ok (.lneg, 1) := by decide +kernel
theorem dX12_signed_56 : decode cX12_signed 56 = .ok (.goto 7, 3) := by decide +kernel
theorem dX12_signed_59 : decode cX12_signed 59 = .ok (.aload_n 0, 1) := by decide +kernel
theorem dX12_signed_60 : decode cX12_signed 60 = .ok (.getfield 64, 3) := by decide +kernel
theorem dX12_signed_63 : decode cX12_signed 63 = .ok (.lstore_n 2, 1) := by decide +kernel
theorem dX12_signed_64 : decode cX12_signed 64 = .ok (.aload_n 0, 1) := by decide +kernel
theorem dX12_signed_65 : decode cX12_signed 65 = .ok (.invokevirtual 408, 3) := by decide +kernel
theorem dX12_signed_68 : decode cX12_signed 68 = .ok (.lload_n 2, 1) := by decide +kernel
theorem dX12_signed_69 : decode cX12_signed 69 = .ok (.lreturn, 1) := by decide +kernel
theorem dX12_single_0 : decode cX12_single 0 = .ok (.iconst (-1), 1) := by decide +kernel
theorem dX12_single_1 : decode cX12_single 1 = .ok (.istore_n 1, 1) := by decide +kernel
theorem dX12_single_2 : decode cX12_single 2 = .ok (.aload_n 0, 1) := by decide +kernel
theorem dX12_single_3 : decode cX12_single 3 = .ok (.getfield 51, 3) := by decide +kernel
theorem dX12_single_6 : decode cX12_single 6 = .ok (.iconst 2, 1) := by decide +kernel
theorem dX12_single_7 : decode cX12_single 7 = .ok (.if_icmp .ne 18, 3) := by decide +kernel
theorem dX12_single_10 : decode cX12_single 10 = .ok (.aload_n 0, 1) := by decide +kernel
theorem dX12_single_11 : decode cX12_single 11 = .ok (.iconst 0, 1) := by decide +kernel
theorem dX12_single_12 : decode cX12_single 12 = .ok (.iconst (-1), 1) := by decide +kernel
theorem dX12_single_13 : decode cX12_single 13 = .ok (.iconst (-1), 1) := by decide +kernel
theorem dX12_single_14 : decode cX12_single 14 = .ok (.aload_n 0, 1) := by decide +kernel
theorem dX12_single_15 : decode cX12_single 15 = .ok (.getfield 64, 3) := by decide +kernel
theorem dX12_single_18 : decode cX12_single 18 = .ok (.invokevirtual 529, 3) := by decide +kernel
theorem dX12_single_21 : decode cX12_single 21 = .ok (.istore_n 1, 1) := by decide +kernel
theorem dX12_single_22 : decode cX12_single 22 = .ok (.goto 121, 3) := by decide +kernel
theorem dX12_single_25 : decode cX12_single 25 = .ok (.aload_n 0, 1) := by decide +kernel
theorem dX12_single_26 : decode cX12_single 26 = .ok (.ldc2_w 360, 3) := by decide +kernel
theorem dX12_single_29 : decode cX12_single 29 = .ok (.invokevirtual 334, 3) := by decide +kernel
theorem dX12_single_32 : decode cX12_single 32 = .ok (.ifCond .ne 23, 3) := by decide +kernel
theorem dX12_single_35 : decode cX12_single 35 = .ok (.aload_n 0, 1) := by decide +kernel
theorem dX12_single_36 : decode cX12_single 36 = .ok (.ldc2_w 380, 3) := by decide +kernel
theorem dX12_single_39 : decode cX12_single 39 = .ok (.invokevirtual 334, 3) := by decide +kernel
theorem dX12_single_42 : decode cX12_single 42 = .ok (.ifCond .ne 13, 3) := by decide +kernel
theorem dX12_single_45 : decode cX12_single 45 = .ok (.aload_n 0, 1) := by decide +kernel
theorem dX12_single_46 : decode cX12_single 46 = .ok (.ldc2_w 382, 3) := by decide +kernel
theorem dX12_single_49 : decode cX12_single 49 = .ok (.invokevirtual 334, 3) := by decide +kernel
theorem dX12_single_52 : decode cX12_single 52 = .ok (.ifCond .eq 43, 3) := by decide +kernel
theorem dX12_single_55 : decode cX12_single 55 = .ok (.aload_n 0, 1) := by decide +kernel
theorem dX12_single_56 : decode cX12_single 56 = .ok (.aload_n 0, 1) := by decide +kernel
theorem dX12_single_57 : decode cX12_single 57 = .ok (.ldc2_w 360, 3) := by decide +kernel
theorem dX12_single_60 : decode cX12_single 60 = .ok (.invokevirtual 334, 3) := by decide +kernel
theorem dX12_single_63 : decode cX12_single 63 = .ok (.ifCond .eq 7, 3) := by decide +kernel
theorem dX12_single_66 : decode cX12_single 66 = .ok (.iconst 2, 1) := by decide +kernel
theorem dX12_single_67 : decode cX12_single 67 = .ok (.goto 18, 3) := by decide +kernel
theorem dX12_single_70 : decode cX12_single 70 = .ok (.aload_n 0, 1) := by decide +kernel
theorem dX12_single_71 : decode cX12_single 71 = .ok (.ldc2_w 380, 3) := by decide +kernel
theorem dX12_single_74 : decode cX12_single 74 = .ok (.invokevirtual 334, 3) := by decide +kernel
theorem dX12_single_77 : decode cX12_single 77 = .ok (.ifCond .eq 7, 3) := by decide +kernel
theorem dX12_single_80 : decode cX12_single 80 = .ok (.iconst 3, 1) := by decide +kernel
theorem dX12_single_81 : decode cX12_single 81 = .ok (.goto 4, 3) := by decide +kernel
theorem dX12_single_84 : decode cX12_single 84 = .ok (.iconst 4, 1) := by decide +kernel
theorem dX12_single_85 : decode cX12_single 85 = .ok (.iconst (-1), 1) := by decide +kernel
theorem dX12_single_86 : decode cX12_single 86 = .ok (.iconst (-1), 1) := by decide +kernel
theorem dX12_single_87 : decode cX12_single 87 = .ok (.lconst 0, 1) := by decide +kernel
theorem dX12_single_88 : decode cX12_single 88 = .ok (.invokevirtual 529, 3) := by decide +kernel
theorem dX12_single_91 : decode cX12_single 91 = .ok (.istore_n 1, 1) := by decide +kernel
theorem dX12_single_92 : decode cX12_single 92 = .ok (.goto 51, 3) := by decide +kernel
theorem dX12_single_95 : decode cX12_single 95 = .ok (.aload_n 0, 1) := by decide +kernel
theorem dX12_single_96 : decode cX12_single 96 = .ok (.aload_n 0, 1) := by decide +kernel
theorem dX12_single_97 : decode cX12_single 97 = .ok (.invokevirtual 418, 3) := by decide +kernel
theorem dX12_single_100 : decode cX12_single 100 = .ok (.iconst 2, 1) := by decide +kernel
theorem dX12_single_101 : decode cX12_single 101 = .ok (.invokevirtual 404, 3) := by decide +kernel
theorem dX12_single_104 : decode cX12_single 104 = .ok (.ifCond .ne 5, 3) := by decide +kernel
theorem dX12_single_107 : decode cX12_single 107 = .ok (.iconst (-1), 1) := by decide +kernel
theorem dX12_single_108 : decode cX12_single 108 = .ok (.ireturn, 1) := by decide +kernel
theorem dX12_single_109 : decode cX12_single 109 = .ok (.aload_n 0, 1) := by decide +kernel
theorem dX12_single_110 : decode cX12_single 110 = .ok (.invokevirtual 554, 3) := by decide +kernel
theorem dX12_single_113 : decode cX12_single 113 = .ok (.istore_n 2, 1) := by decide +kernel
theorem dX12_single_114 : decode cX12_single 114 = .ok (.aload_n 0, 1) := by decide +kernel
theorem dX12_single_115 : decode cX12_single 115 = .ok (.iload_n 2, 1) := by decide +kernel
theorem dX12_single_116 : decode cX12_single 116 = .ok (.ifCond .lt 7, 3) := by decide +kernel
theorem dX12_single_119 : decode cX12_single 119 = .ok (.iconst 1, 1) := by decide +kernel
theorem dX12_single_120 : decode cX12_single 120 = .ok (.goto 4, 3) := by decide +kernel
theorem dX12_single_123 : decode cX12_single 123 = .ok (.iconst 0, 1) := by decide +kernel
theorem dX12_single_124 : decode cX12_single 124 = .ok (.iconst 4, 1) := by decide +kernel
theorem dX12_single_125 : decode cX12_single 125 = .ok (.invokevirtual 404, 3) := by decide +kernel
theorem dX12_single_128 : decode cX12_single 128 = .ok (.ifCond .ne 5, 3) := by decide +kernel
theorem dX12_single_131 : decode cX12_single 131 = .ok (.iconst (-1), 1) := by decide +kernel
theorem dX12_single_132 : decode cX12_single 132 = .ok (.ireturn, 1) := by decide +kernel
theorem dX12_single_133 : decode cX12_single 133 = .ok (.aload_n 0, 1) := by decide +kernel
theorem dX12_single_134 : decode cX12_single 134 = .ok (.iconst 1, 1) := by decide +kernel
theorem dX12_single_135 : decode cX12_single 135 = .ok (.iconst (-1), 1) := by decide +kernel
theorem dX12_single_136 : decode cX12_single 136 = .ok (.iconst (-1), 1) := by decide +kernel
theorem dX12_single_137 : decode cX12_single 137 = .ok (.iload_n 2, 1) := by decide +kernel
theorem dX12_single_138 : decode cX12_single 138 = .ok (.i2l, 1) := by decide +kernel
theorem dX12_single_139 : decode cX12_single 139 = .ok (.invokevirtual 529, 3) := by decide +kernel
theorem dX12_single_142 : decode cX12_single 142 = .ok (.istore_n 1, 1) := by decide +kernel
theorem dX12_single_143 : decode cX12_single 143 = .ok (.aload_n 0, 1) := by decide +kernel
theorem dX12_single_144 : decode cX12_single 144 = .ok (.invokevirtual 408, 3) := by decide +kernel
theorem dX12_single_147 : decode cX12_single 147 = .ok (.iload_n 1, 1) := by decide +kernel
theorem dX12_single_148 : decode cX12_single 148 = .ok (.ireturn, 1) := by decide +kernel
theorem dX12_size_0 : decode cX12_size 0 = .ok (.aload_n 0, 1) := by decide +kernel
theorem dX12_size_1 : decode cX12_size 1 = .ok (.iload_n 1, 1) := by decide +kernel
theorem dX12_size_2 : decode cX12_size 2 = .ok (.invokevirtual 570, 3) := by decide +kernel
theorem dX12_size_5 : decode cX12_size 5 = .ok (.ifCond .ne 5, 3) := by decide +kernel
theorem dX12_size_8 : decode cX12_size 8 = .ok (.iconst (-1), 1) := by decide +kernel
theorem dX12_size_9 : decode cX12_size 9 = .ok (.ireturn, 1) := by decide +kernel
theorem dX12_size_10 : decode cX12_size 10 = .ok (.aload_n 0, 1) := by decide +kernel
theorem dX12_size_11 : decode cX12_size 11 = .ok (.getfield 83, 3) := by decide +kernel
theorem dX12_size_14 : decode cX12_size 14 = .ok (.bipush 20, 2) := by decide +kernel
theorem dX12_size_16 : decode cX12_size 16 = .ok (.aload_n 0, 1) := by decide +kernel
theorem dX12_size_17 : decode cX12_size 17 = .ok (.getfield 67, 3) := by decide +kernel
theorem dX12_size_20 : decode cX12_size 20 = .ok (.imul, 1) := by decide +kernel
theorem dX12_size_21 : decode cX12_size 21 = .ok (.iload_n 1, 1) := by decide +kernel
theorem dX12_size_22 : decode cX12_size 22 = .ok (.iadd, 1) := by decide +kernel
theorem dX12_size_23 : decode cX12_size 23 = .ok (.iaload, 1) := by decide +kernel
theorem dX12_size_24 : decode cX12_size 24 = .ok (.istore_n 2, 1) := by decide +kernel
theorem dX12_size_25 : decode cX12_size 25 = .ok (.iload_n 2, 1) := by decide +kernel
theorem dX12_size_26 : decode cX12_size 26 = .ok (.ifCond .ge 8, 3) := by decide +kernel
theorem dX12_size_29 : decode cX12_size 29 = .ok (.bipush (-3), 2) := by decide +kernel
theorem dX12_size_31 : decode cX12_size 31 = .ok (.goto 4, 3) := by decide +kernel
theorem dX12_size_34 : decode cX12_size 34 = .ok (.iload_n 2, 1) := by decide +kernel
theorem dX12_size_35 : decode cX12_size 35 = .ok (.ireturn, 1) := by decide +kernel
theorem dX12_sizeOf_0 : decode cX12_sizeOf 0 = .ok (.aload_n 0, 1) := by decide +kernel
theorem dX12_sizeOf_1 : decode cX12_sizeOf 1 = .ok (.getfield 98, 3) := by decide +kernel
theorem dX12_sizeOf_4 : decode cX12_sizeOf 4 = .ok (.iload_n 1, 1) := by decide +kernel
theorem dX12_sizeOf_5 : decode cX12_sizeOf 5 = .ok (.iaload, 1) := by decide +kernel
theorem dX12_sizeOf_6 : decode cX12_sizeOf 6 = .ok (.tableswitch 367 1 10 #[54, 111, 132, 367, 221, 235, 239, 367, 333, 359], 54) := by decide +kernel
theorem dX12_sizeOf_60 : decode cX12_sizeOf 60 = .ok (.aload_n 0, 1) := by decide +kernel
theorem dX12_sizeOf_61 : decode cX12_sizeOf 61 = .ok (.getfield 113, 3) := by decide +kernel
theorem dX12_sizeOf_64 : decode cX12_sizeOf 64 = .ok (.iload_n 1, 1) := by decide +kernel
theorem dX12_sizeOf_65 : decode cX12_sizeOf 65 = .ok (.iaload, 1) := by decide +kernel
theorem dX12_sizeOf_66 : decode cX12_sizeOf 66 = .ok (.ifCond .ge 9, 3) := by decide +kernel
theorem dX12_sizeOf_69 : decode cX12_sizeOf 69 = .ok (.ldc2_w 521, 3) := by decide +kernel
theorem dX12_sizeOf_72 : decode cX12_sizeOf 72 = .ok (.goto 16, 3) := by decide +kernel
theorem dX12_sizeOf_75 : decode cX12_sizeOf 75 = .ok (.aload_n 0, 1) := by decide +kernel
theorem dX12_sizeOf_76 : decode cX12_sizeOf 76 = .ok (.aload_n 0, 1) := by decide +kernel
theorem dX12_sizeOf_77 : decode cX12_sizeOf 77 = .ok (.getfield 113, 3) := by decide +kernel
theorem dX12_sizeOf_80 : decode cX12_sizeOf 80 = .ok (.iload_n 1, 1) := by decide +kernel
theorem dX12_sizeOf_81 : decode cX12_sizeOf 81 = .ok (.iaload, 1) := by decide +kernel
theorem dX12_sizeOf_82 : decode cX12_sizeOf 82 = .ok (.ldc2_w 563, 3) := by decide +kernel
theorem dX12_sizeOf_85 : decode cX12_sizeOf 85 = .ok (.invokevirtual 565, 3) := by decide +kernel
theorem dX12_sizeOf_88 : decode cX12_sizeOf 88 = .ok (.lstore 4, 2) := by decide +kernel
theorem dX12_sizeOf_90 : decode cX12_sizeOf 90 = .ok (.lload 4, 2) := by decide +kernel
theorem dX12_sizeOf_92 : decode cX12_sizeOf 92 = .ok (.lconst 0, 1) := by decide +kernel
theorem dX12_sizeOf_93 : decode cX12_sizeOf 93 = .ok (.lcmp, 1) := by decide +kernel
theorem dX12_sizeOf_94 : decode cX12_sizeOf 94 = .ok (.ifCond .ge 9, 3) := by decide +kernel
theorem dX12_sizeOf_97 : decode cX12_sizeOf 97 = .ok (.ldc2_w 521, 3) := by decide +kernel
theorem dX12_sizeOf_100 : decode cX12_sizeOf 100 = .ok (.goto 16, 3) := by decide +kernel
theorem dX12_sizeOf_103 : decode cX12_sizeOf 103 = .ok (.lload 4, 2) := by decide +kernel
theorem dX12_sizeOf_105 : decode cX12_sizeOf 105 = .ok (.aload_n 0, 1) := by decide +kernel
theorem dX12_sizeOf_106 : decode cX12_sizeOf 106 = .ok (.getfield 101, 3) := by decide +kernel
theorem dX12_sizeOf_109 : decode cX12_sizeOf 109 = .ok (.iload_n 1, 1) := by decide +kernel
theorem dX12_sizeOf_110 : decode cX12_sizeOf 110 = .ok (.iaload, 1) := by decide +kernel
theorem dX12_sizeOf_111 : decode cX12_sizeOf 111 = .ok (.bipush 15, 2) := by decide +kernel
theorem dX12_sizeOf_113 : decode cX12_sizeOf 113 = .ok (.iand, 1) := by decide +kernel
theorem dX12_sizeOf_114 : decode cX12_sizeOf 114 = .ok (.i2l, 1) := by decide +kernel
theorem dX12_sizeOf_115 : decode cX12_sizeOf 115 = .ok (.lmul, 1) := by decide +kernel
theorem dX12_sizeOf_116 : decode cX12_sizeOf 116 = .ok (.lreturn, 1) := by decide +kernel
theorem dX12_sizeOf_117 : decode cX12_sizeOf 117 = .ok (.aload_n 0, 1) := by decide +kernel
theorem dX12_sizeOf_118 : decode cX12_sizeOf 118 = .ok (.getfield 83, 3) := by decide +kernel
theorem dX12_sizeOf_121 : decode cX12_sizeOf 121 = .ok (.bipush 20, 2) := by decide +kernel
theorem dX12_sizeOf_123 : decode cX12_sizeOf 123 = .ok (.aload_n 0, 1) := by decide +kernel
theorem dX12_sizeOf_124 : decode cX12_sizeOf 124 = .ok (.getfield 173, 3) := by decide +kernel
theorem dX12_sizeOf_127 : decode cX12_sizeOf 127 = .ok (.imul, 1) := by decide +kernel
theorem dX12_sizeOf_128 : decode cX12_sizeOf 128 = .ok (.aload_n 0, 1) := by decide +kernel
theorem dX12_sizeOf_129 : decode cX12_sizeOf 129 = .ok (.getfield 107, 3) := by decide +kernel
theorem dX12_sizeOf_132 : decode cX12_sizeOf 132 = .ok (.iload_n 1, 1) := by decide +kernel
theorem dX12_sizeOf_133 : decode cX12_sizeOf 133 = .ok (.iaload, 1) := by decide +kernel
theorem dX12_sizeOf_134 : decode cX12_sizeOf 134 = .ok (.iadd, 1) := by decide +kernel
theorem dX12_sizeOf_135 : decode cX12_sizeOf 135 = .ok (.iaload, 1) := by decide +kernel
theorem dX12_sizeOf_136 : decode cX12_sizeOf 136 = .ok (.i2l, 1) := by decide +kernel
theorem dX12_sizeOf_137 : decode cX12_sizeOf 137 = .ok (.lreturn, 1) := by decide +kernel
theorem dX12_sizeOf_138 : decode cX12_sizeOf 138 = .ok (.aload_n 0, 1) := by decide +kernel
theorem dX12_sizeOf_139 : decode cX12_sizeOf 139 = .ok (.getfield 113, 3) := by decide +kernel
theorem dX12_sizeOf_142 : decode cX12_sizeOf 142 = .ok (.iload_n 1, 1) := by decide +kernel
theorem dX12_sizeOf_143 : decode cX12_sizeOf 143 = .ok (.iaload, 1) := by decide +kernel
theorem dX12_sizeOf_144 : decode cX12_sizeOf 144 = .ok (.ifCond .ge 9, 3) := by decide +kernel
theorem dX12_sizeOf_147 : decode cX12_sizeOf 147 = .ok (.ldc2_w 521, 3) := by decide +kernel
theorem dX12_sizeOf_150 : decode cX12_sizeOf 150 = .ok (.goto 16, 3) := by decide +kernel
theorem dX12_sizeOf_153 : decode cX12_sizeOf 153 = .ok (.aload_n 0, 1) := by decide +kernel
theorem dX12_sizeOf_154 : decode cX12_sizeOf 154 = .ok (.aload_n 0, 1) := by decide +kernel
theorem dX12_sizeOf_155 : decode cX12_sizeOf 155 = .ok (.getfield 113, 3) := by decide +kernel
theorem dX12_sizeOf_158 : decode cX12_sizeOf 158 = .ok (.iload_n 1, 1) := by decide +kernel
theorem dX12_sizeOf_159 : decode cX12_sizeOf 159 = .ok (.iaload, 1) := by decide +kernel
theorem dX12_sizeOf_160 : decode cX12_sizeOf 160 = .ok (.ldc2_w 563, 3) := by decide +kernel
theorem dX12_sizeOf_163 : decode cX12_sizeOf 163 = .ok (.invokevirtual 565, 3) := by decide +kernel
theorem dX12_sizeOf_166 : decode cX12_sizeOf 166 = .ok (.lstore 4, 2) := by decide +kernel
theorem dX12_sizeOf_168 : decode cX12_sizeOf 168 = .ok (.lload 4, 2) := by decide +kernel
theorem dX12_sizeOf_170 : decode cX12_sizeOf 170 = .ok (.lconst 0, 1) := by decide +kernel
theorem dX12_sizeOf_171 : decode cX12_sizeOf 171 = .ok (.lcmp, 1) := by decide +kernel
theorem dX12_sizeOf_172 : decode cX12_sizeOf 172 = .ok (.ifCond .lt 25, 3) := by decide +kernel
theorem dX12_sizeOf_175 : decode cX12_sizeOf 175 = .ok (.aload_n 0, 1) := by decide +kernel
theorem dX12_sizeOf_176 : decode cX12_sizeOf 176 = .ok (.getfield 83, 3) := by decide +kernel
theorem dX12_sizeOf_179 : decode cX12_sizeOf 179 = .ok (.bipush 20, 2) := by decide +kernel
theorem dX12_sizeOf_181 : decode cX12_sizeOf 181 = .ok (.aload_n 0, 1) := by decide +kernel
theorem dX12_sizeOf_182 : decode cX12_sizeOf 182 = .ok (.getfield 173, 3) := by decide +kernel
theorem dX12_sizeOf_185 : decode cX12_sizeOf 185 = .ok (.imul, 1) := by decide +kernel
theorem dX12_sizeOf_186 : decode cX12_sizeOf 186 = .ok (.aload_n 0, 1) := by decide +kernel
theorem dX12_sizeOf_187 : decode cX12_sizeOf 187 = .ok (.getfield 107, 3) := by decide +kernel
theorem dX12_sizeOf_190 : decode cX12_sizeOf 190 = .ok (.iload_n 1, 1) := by decide +kernel
theorem dX12_sizeOf_191 : decode cX12_sizeOf 191 = .ok (.iaload, 1) := by decide +kernel
theorem dX12_sizeOf_192 : decode cX12_sizeOf 192 = .ok (.iadd, 1) := by decide +kernel
theorem dX12_sizeOf_193 : decode cX12_sizeOf 193 = .ok (.iaload, 1) := by decide +kernel
theorem dX12_sizeOf_194 : decode cX12_sizeOf 194 = .ok (.ifCond .ge 9, 3) := by decide +kernel
theorem dX12_sizeOf_197 : decode cX12_sizeOf 197 = .ok (.ldc2_w 521, 3) := by decide +kernel
theorem dX12_sizeOf_200 : decode cX12_sizeOf 200 = .ok (.goto 26, 3) := by decide +kernel
theorem dX12_sizeOf_203 : decode cX12_sizeOf 203 = .ok (.lload 4, 2) := by decide +kernel
theorem dX12_sizeOf_205 : decode cX12_sizeOf 205 = .ok (.aload_n 0, 1) := by decide +kernel
theorem dX12_sizeOf_206 : decode cX12_sizeOf 206 = .ok (.getfield 83, 3) := by decide +kernel
theorem dX12_sizeOf_209 : decode cX12_sizeOf 209 = .ok (.bipush 20, 2) := by decide +kernel
theorem dX12_sizeOf_211 : decode cX12_sizeOf 211 = .ok (.aload_n 0, 1) := by decide +kernel
theorem dX12_sizeOf_212 : decode cX12_sizeOf 212 = .ok (.getfield 173, 3) := by decide +kernel
theorem dX12_sizeOf_215 : decode cX12_sizeOf 215 = .ok (.imul, 1) := by decide +kernel
theorem dX12_sizeOf_216 : decode cX12_sizeOf 216 = .ok (.aload_n 0, 1) := by decide +kernel
theorem dX12_sizeOf_217 : decode cX12_sizeOf 217 = .ok (.getfield 107, 3) := by decide +kernel
theorem dX12_sizeOf_220 : decode cX12_sizeOf 220 = .ok (.iload_n 1, 1) := by decide +kernel
theorem dX12_sizeOf_221 : decode cX12_sizeOf 221 = .ok (.iaload, 1) := by decide +kernel
theorem dX12_sizeOf_222 : decode cX12_sizeOf 222 = .ok (.iadd, 1) := by decide +kernel
theorem dX12_sizeOf_223 : decode cX12_sizeOf 223 = .ok (.iaload, 1) := by decide +kernel
theorem dX12_sizeOf_224 : decode cX12_sizeOf 224 = .ok (.i2l, 1) := by decide +kernel
theorem dX12_sizeOf_225 : decode cX12_sizeOf 225 = .ok (.lmul, 1) := by decide +kernel
theorem dX12_sizeOf_226 : decode cX12_sizeOf 226 = .ok (.lreturn, 1) := by decide +kernel
theorem dX12_sizeOf_227 : decode cX12_sizeOf 227 = .ok (.aload_n 0, 1) := by decide +kernel
theorem dX12_sizeOf_228 : decode cX12_sizeOf 228 = .ok (.aload_n 0, 1) := by decide +kernel
theorem dX12_sizeOf_229 : decode cX12_sizeOf 229 = .ok (.getfield 113, 3) := by decide +kernel
theorem dX12_sizeOf_232 : decode cX12_sizeOf 232 = .ok (.iload_n 1, 1) := by decide +kernel
theorem dX12_sizeOf_233 : decode cX12_sizeOf 233 = .ok (.iaload, 1) := by decide +kernel
theorem dX12_sizeOf_234 : decode cX12_sizeOf 234 = .ok (.ldc2_w 568, 3) := by decide +kernel
theorem dX12_sizeOf_237 : decode cX12_sizeOf 237 = .ok (.invokevirtual 565, 3) := by decide +kernel
theorem dX12_sizeOf_240 : decode cX12_sizeOf 240 = .ok (.lreturn, 1) := by decide +kernel
theorem dX12_sizeOf_241 : decode cX12_sizeOf 241 = .ok (.ldc2_w 521, 3) := by decide +kernel
theorem dX12_sizeOf_244 : decode cX12_sizeOf 244 = .ok (.lreturn, 1) := by decide +kernel
theorem dX12_sizeOf_245 : decode cX12_sizeOf 245 = .ok (.aload_n 0, 1) := by decide +kernel
theorem dX12_sizeOf_246 : decode cX12_sizeOf 246 = .ok (.getfield 122, 3) := by decide +kernel
theorem dX12_sizeOf_249 : decode cX12_sizeOf 249 = .ok (.iload_n 1, 1) := by decide +kernel
theorem dX12_sizeOf_250 : decode cX12_sizeOf 250 = .ok (.iaload, 1) := by decide +kernel
theorem dX12_sizeOf_251 : decode cX12_sizeOf 251 = .ok (.ifCond .ge 7, 3) := by decide +kernel
theorem dX12_sizeOf_254 : decode cX12_sizeOf 254 = .ok (.ldc2_w 521, 3) := by decide +kernel
theorem dX12_sizeOf_257 : decode cX12_sizeOf 257 = .ok (.lreturn, 1) := by decide +kernel
theorem dX12_sizeOf_258 : decode cX12_sizeOf 258 = .ok (.aload_n 0, 1) := by decide +kernel
theorem dX12_sizeOf_259 : decode cX12_sizeOf 259 = .ok (.getfield 83, 3) := by decide +kernel
theorem dX12_sizeOf_262 : decode cX12_sizeOf 262 = .ok (.bipush 20, 2) := by decide +kernel
theorem dX12_sizeOf_264 : decode cX12_sizeOf 264 = .ok (.aload_n 0, 1) := by decide +kernel
theorem dX12_sizeOf_265 : decode cX12_sizeOf 265 = .ok (.getfield 173, 3) := by decide +kernel
theorem dX12_sizeOf_268 : decode cX12_sizeOf 268 = .ok (.imul, 1) := by decide +kernel
theorem dX12_sizeOf_269 : decode cX12_sizeOf 269 = .ok (.aload_n 0, 1) := by decide +kernel
theorem dX12_sizeOf_270 : decode cX12_sizeOf 270 = .ok (.getfield 122, 3) := by decide +kernel
theorem dX12_sizeOf_273 : decode cX12_sizeOf 273 = .ok (.iload_n 1, 1) := by decide +kernel
theorem dX12_sizeOf_274 : decode cX12_sizeOf 274 = .ok (.iaload, 1) := by decide +kernel
theorem dX12_sizeOf_275 : decode cX12_sizeOf 275 = .ok (.iadd, 1) := by decide +kernel
theorem dX12_sizeOf_276 : decode cX12_sizeOf 276 = .ok (.iaload, 1) := by decide +kernel
theorem dX12_sizeOf_277 : decode cX12_sizeOf 277 = .ok (.i2l, 1) := by decide +kernel
theorem dX12_sizeOf_278 : decode cX12_sizeOf 278 = .ok (.lstore 4, 2) := by decide +kernel
theorem dX12_sizeOf_280 : decode cX12_sizeOf 280 = .ok (.iconst 0, 1) := by decide +kernel
theorem dX12_sizeOf_281 : decode cX12_sizeOf 281 = .ok (.istore 6, 2) := by decide +kernel
theorem dX12_sizeOf_283 : decode cX12_sizeOf 283 = .ok (.iload 6, 2) := by decide +kernel
theorem dX12_sizeOf_285 : decode cX12_sizeOf 285 = .ok (.aload_n 0, 1) := by decide +kernel
theorem dX12_sizeOf_286 : decode cX12_sizeOf 286 = .ok (.getfield 125, 3) := by decide +kernel
theorem dX12_sizeOf_289 : decode cX12_sizeOf 289 = .ok (.iload_n 1, 1) := by decide +kernel
theorem dX12_sizeOf_290 : decode cX12_sizeOf 290 = .ok (.iaload, 1) := by decide +kernel
theorem dX12_sizeOf_291 : decode cX12_sizeOf 291 = .ok (.if_icmp .ge 45, 3) := by decide +kernel
theorem dX12_sizeOf_294 : decode cX12_sizeOf 294 = .ok (.aload_n 0, 1) := by decide +kernel
theorem dX12_sizeOf_295 : decode cX12_sizeOf 295 = .ok (.getfield 83, 3) := by decide +kernel
theorem dX12_sizeOf_298 : decode cX12_sizeOf 298 = .ok (.bipush 20, 2) := by decide +kernel
theorem dX12_sizeOf_300 : decode cX12_sizeOf 300 = .ok (.aload_n 0, 1) := by decide +kernel
theorem dX12_sizeOf_301 : decode cX12_sizeOf 301 = .ok (.getfield 173, 3) := by decide +kernel
theorem dX12_sizeOf_304 : decode cX12_sizeOf 304 = .ok (.imul, 1) := by decide +kernel
theorem dX12_sizeOf_305 : decode cX12_sizeOf 305 = .ok (.aload_n 0, 1) := by decide +kernel
theorem dX12_sizeOf_306 : decode cX12_sizeOf 306 = .ok (.getfield 137, 3) := by decide +kernel
theorem dX12_sizeOf_309 : decode cX12_sizeOf 309 = .ok (.bipush 16, 2) := by decide +kernel
theorem dX12_sizeOf_311 : decode cX12_sizeOf 311 = .ok (.iload_n 1, 1) := by decide +kernel
theorem dX12_sizeOf_312 : decode cX12_sizeOf 312 = .ok (.imul, 1) := by decide +kernel
theorem dX12_sizeOf_313 : decode cX12_sizeOf 313 = .ok (.iload 6, 2) := by decide +kernel
theorem dX12_sizeOf_315 : decode cX12_sizeOf 315 = .ok (.iadd, 1) := by decide +kernel
theorem dX12_sizeOf_316 : decode cX12_sizeOf 316 = .ok (.iaload, 1) := by decide +kernel
theorem dX12_sizeOf_317 : decode cX12_sizeOf 317 = .ok (.iadd, 1) := by decide +kernel
theorem dX12_sizeOf_318 : decode cX12_sizeOf 318 = .ok (.iaload, 1) := by decide +kernel
theorem dX12_sizeOf_319 : decode cX12_sizeOf 319 = .ok (.i2l, 1) := by decide +kernel
theorem dX12_sizeOf_320 : decode cX12_sizeOf 320 = .ok (.lload 4, 2) := by decide +kernel
theorem dX12_sizeOf_322 : decode cX12_sizeOf 322 = .ok (.lcmp, 1) := by decide +kernel
theorem dX12_sizeOf_323 : decode cX12_sizeOf 323 = .ok (.ifCond .eq 7, 3) := by decide +kernel
theorem dX12_sizeOf_326 : decode cX12_sizeOf 326 = .ok (.ldc2_w 521, 3) := by decide +kernel
theorem dX12_sizeOf_329 : decode cX12_sizeOf 329 = .ok (.lreturn, 1) := by decide +kernel
theorem dX12_sizeOf_330 : decode cX12_sizeOf 330 = .ok (.iinc 6 1, 3) := by decide +kernel
theorem dX12_sizeOf_333 : decode cX12_sizeOf 333 = .ok (.goto (-50), 3) := by decide +kernel
theorem dX12_sizeOf_336 : decode cX12_sizeOf 336 = .ok (.lload 4, 2) := by decide +kernel
theorem dX12_sizeOf_338 : decode cX12_sizeOf 338 = .ok (.lreturn, 1) := by decide +kernel
theorem dX12_sizeOf_339 : decode cX12_sizeOf 339 = .ok (.aload_n 0, 1) := by decide +kernel
theorem dX12_sizeOf_340 : decode cX12_sizeOf 340 = .ok (.getfield 119, 3) := by decide +kernel
theorem dX12_sizeOf_343 : decode cX12_sizeOf 343 = .ok (.iload_n 1, 1) := by decide +kernel
theorem dX12_sizeOf_344 : decode cX12_sizeOf 344 = .ok (.iaload, 1) := by decide +kernel
theorem dX12_sizeOf_345 : decode cX12_sizeOf 345 = .ok (.i2l, 1) := by decide +kernel
theorem dX12_sizeOf_346 : decode cX12_sizeOf 346 = .ok (.lload_n 2, 1) := by decide +kernel
theorem dX12_sizeOf_347 : decode cX12_sizeOf 347 = .ok (.aload_n 0, 1) := by decide +kernel
theorem dX12_sizeOf_348 : decode cX12_sizeOf 348 = .ok (.getfield 119, 3) := by decide +kernel
theorem dX12_sizeOf_351 : decode cX12_sizeOf 351 = .ok (.iload_n 1, 1) := by decide +kernel
theorem dX12_sizeOf_352 : decode cX12_sizeOf 352 = .ok (.iaload, 1) := by decide +kernel
theorem dX12_sizeOf_353 : decode cX12_sizeOf 353 = .ok (.i2l, 1) := by decide +kernel
theorem dX12_sizeOf_354 : decode cX12_sizeOf 354 = .ok (.lrem, 1) := by decide +kernel
theorem dX12_sizeOf_355 : decode cX12_sizeOf 355 = .ok (.lsub, 1) := by decide +kernel
theorem dX12_sizeOf_356 : decode cX12_sizeOf 356 = .ok (.aload_n 0, 1) := by decide +kernel
theorem dX12_sizeOf_357 : decode cX12_sizeOf 357 = .ok (.getfield 119, 3) := by decide +kernel
theorem dX12_sizeOf_360 : decode cX12_sizeOf 360 = .ok (.iload_n 1, 1) := by decide +kernel
theorem dX12_sizeOf_361 : decode cX12_sizeOf 361 = .ok (.iaload, 1) := by decide +kernel
theorem dX12_sizeOf_362 : decode cX12_sizeOf 362 = .ok (.i2l, 1) := by decide +kernel
theorem dX12_sizeOf_363 : decode cX12_sizeOf 363 = .ok (.lrem, 1) := by decide +kernel
theorem dX12_sizeOf_364 : decode cX12_sizeOf 364 = .ok (.lreturn, 1) := by decide +kernel
theorem dX12_sizeOf_365 : decode cX12_sizeOf 365 = .ok (.aload_n 0, 1) := by decide +kernel
theorem dX12_sizeOf_366 : decode cX12_sizeOf 366 = .ok (.getfield 125, 3) := by decide +kernel
theorem dX12_sizeOf_369 : decode cX12_sizeOf 369 = .ok (.iload_n 1, 1) := by decide +kernel
theorem dX12_sizeOf_370 : decode cX12_sizeOf 370 = .ok (.iaload, 1) := by decide +kernel
theorem dX12_sizeOf_371 : decode cX12_sizeOf 371 = .ok (.i2l, 1) := by decide +kernel
theorem dX12_sizeOf_372 : decode cX12_sizeOf 372 = .ok (.lreturn, 1) := by decide +kernel
theorem dX12_sizeOf_373 : decode cX12_sizeOf 373 = .ok (.aload_n 0, 1) := by decide +kernel
theorem dX12_sizeOf_374 : decode cX12_sizeOf 374 = .ok (.getfield 101, 3) := by decide +kernel
theorem dX12_sizeOf_377 : decode cX12_sizeOf 377 = .ok (.iload_n 1, 1) := by decide +kernel
theorem dX12_sizeOf_378 : decode cX12_sizeOf 378 = .ok (.iaload, 1) := by decide +kernel
theorem dX12_sizeOf_379 : decode cX12_sizeOf 379 = .ok (.bipush 15, 2) := by decide +kernel
theorem dX12_sizeOf_381 : decode cX12_sizeOf 381 = .ok (.iand, 1) := by decide +kernel
theorem dX12_sizeOf_382 : decode cX12_sizeOf 382 = .ok (.i2l, 1) := by decide +kernel
theorem dX12_sizeOf_383 : decode cX12_sizeOf 383 = .ok (.lreturn, 1) := by decide +kernel
theorem dX12_sized_0 : decode cX12_sized 0 = .ok (.lconst 0, 1) := by decide +kernel
theorem dX12_sized_1 : decode cX12_sized 1 = .ok (.lstore_n 2, 1) := by decide +kernel
theorem dX12_sized_2 : decode cX12_sized 2 = .ok (.iconst 0, 1) := by decide +kernel
theorem dX12_sized_3 : decode cX12_sized 3 = .ok (.istore 4, 2) := by decide +kernel
theorem dX12_sized_5 : decode cX12_sized 5 = .ok (.iload 4, 2) := by decide +kernel
theorem dX12_sized_7 : decode cX12_sized 7 = .ok (.aload_n 0, 1) := by decide +kernel
theorem dX12_sized_8 : decode cX12_sized 8 = .ok (.getfield 80, 3) := by decide +kernel
theorem dX12_sized_11 : decode cX12_sized 11 = .ok (.bipush 20, 2) := by decide +kernel
theorem dX12_sized_13 : decode cX12_sized 13 = .ok (.aload_n 0, 1) := by decide +kernel
theorem dX12_sized_14 : decode cX12_sized 14 = .ok (.getfield 173, 3) := by decide +kernel
theorem dX12_sized_17 : decode cX12_sized 17 = .ok (.imul, 1) := by decide +kernel
theorem dX12_sized_18 : decode cX12_sized 18 = .ok (.iload_n 1, 1) := by decide +kernel
theorem dX12_sized_19 : decode cX12_sized 19 = .ok (.iadd, 1) := by decide +kernel
theorem dX12_sized_20 : decode cX12_sized 20 = .ok (.iaload, 1) := by decide +kernel
theorem dX12_sized_21 : decode cX12_sized 21 = .ok (.if_icmp .ge 61, 3) := by decide +kernel
theorem dX12_sized_24 : decode cX12_sized 24 = .ok (.aload_n 0, 1) := by decide +kernel
theorem dX12_sized_25 : decode cX12_sized 25 = .ok (.iload_n 1, 1) := by decide +kernel
theorem dX12_sized_26 : decode cX12_sized 26 = .ok (.iload 4, 2) := by decide +kernel
theorem dX12_sized_28 : decode cX12_sized 28 = .ok (.invokevirtual 447, 3) := by decide +kernel
theorem dX12_sized_31 : decode cX12_sized 31 = .ok (.istore 5, 2) := by decide +kernel
theorem dX12_sized_33 : decode cX12_sized 33 = .ok (.aload_n 0, 1) := by decide +kernel
theorem dX12_sized_34 : decode cX12_sized 34 = .ok (.iload 5, 2) := by decide +kernel
theorem dX12_sized_36 : decode cX12_sized 36 = .ok (.lload_n 2, 1) := by decide +kernel
theorem dX12_sized_37 : decode cX12_sized 37 = .ok (.invokevirtual 557, 3) := by decide +kernel
theorem dX12_sized_40 : decode cX12_sized 40 = .ok (.lstore 6, 2) := by decide +kernel
theorem dX12_sized_42 : decode cX12_sized 42 = .ok (.aload_n 0, 1) := by decide +kernel
theorem dX12_sized_43 : decode cX12_sized 43 = .ok (.getfield 110, 3) := by decide +kernel
theorem dX12_sized_46 : decode cX12_sized 46 = .ok (.iload 5, 2) := by decide +kernel
theorem dX12_sized_48 : decode cX12_sized 48 = .ok (.iaload, 1) := by decide +kernel
theorem dX12_sized_49 : decode cX12_sized 49 = .ok (.ifCond .ge 10, 3) := by decide +kernel
theorem dX12_sized_52 : decode cX12_sized 52 = .ok (.lload 6, 2) := by decide +kernel
theorem dX12_sized_54 : decode cX12_sized 54 = .ok (.lconst 0, 1) := by decide +kernel
theorem dX12_sized_55 : decode cX12_sized 55 = .ok (.lcmp, 1) := by decide +kernel
theorem dX12_sized_56 : decode cX12_sized 56 = .ok (.ifCond .ge 5, 3) := by decide +kernel
theorem dX12_sized_59 : decode cX12_sized 59 = .ok (.iconst (-1), 1) := by decide +kernel
theorem dX12_sized_60 : decode cX12_sized 60 = .ok (.ireturn, 1) := by decide +kernel
theorem dX12_sized_61 : decode cX12_sized 61 = .ok (.lload_n 2, 1) := by decide +kernel
theorem dX12_sized_62 : decode cX12_sized 62 = .ok (.lload 6, 2) := by decide +kernel
theorem dX12_sized_64 : decode cX12_sized 64 = .ok (.ladd, 1) := by decide +kernel
theorem dX12_sized_65 : decode cX12_sized 65 = .ok (.lstore_n 2, 1) := by decide +kernel
theorem dX12_sized_66 : decode cX12_sized 66 = .ok (.lload_n 2, 1) := by decide +kernel
theorem dX12_sized_67 : decode cX12_sized 67 = .ok (.ldc2_w 561, 3) := by decide +kernel
theorem dX12_sized_70 : decode cX12_sized 70 = .ok (.lcmp, 1) := by decide +kernel
theorem dX12_sized_71 : decode cX12_sized 71 = .ok (.ifCond .le 5, 3) := by decide +kernel
theorem dX12_sized_74 : decode cX12_sized 74 = .ok (.iconst (-1), 1) := by decide +kernel
theorem dX12_sized_75 : decode cX12_sized 75 = .ok (.ireturn, 1) := by decide +kernel
theorem dX12_sized_76 : decode cX12_sized 76 = .ok (.iinc 4 1, 3) := by decide +kernel
theorem dX12_sized_79 : decode cX12_sized 79 = .ok (.goto (-74), 3) := by decide +kernel
theorem dX12_sized_82 : decode cX12_sized 82 = .ok (.lload_n 2, 1) := by decide +kernel
theorem dX12_sized_83 : decode cX12_sized 83 = .ok (.l2i, 1) := by decide +kernel
theorem dX12_sized_84 : decode cX12_sized 84 = .ok (.ireturn, 1) := by decide +kernel
theorem dX12_stops_0 : decode cX12_stops 0 = .ok (.aload_n 0, 1) := by decide +kernel
theorem dX12_stops_1 : decode cX12_stops 1 = .ok (.getfield 271, 3) := by decide +kernel
theorem dX12_stops_4 : decode cX12_stops 4 = .ok (.iconst 1, 1) := by decide +kernel
theorem dX12_stops_5 : decode cX12_stops 5 = .ok (.isub, 1) := by decide +kernel
theorem dX12_stops_6 : decode cX12_stops 6 = .ok (.istore_n 1, 1) := by decide +kernel
theorem dX12_stops_7 : decode cX12_stops 7 = .ok (.aload_n 0, 1) := by decide +kernel
theorem dX12_stops_8 : decode cX12_stops 8 = .ok (.getfield 217, 3) := by decide +kernel
theorem dX12_stops_11 : decode cX12_stops 11 = .ok (.aload_n 0, 1) := by decide +kernel
theorem dX12_stops_12 : decode cX12_stops 12 = .ok (.getfield 265, 3) := by decide +kernel
theorem dX12_stops_15 : decode cX12_stops 15 = .ok (.iload_n 1, 1) := by decide +kernel
theorem dX12_stops_16 : decode cX12_stops 16 = .ok (.iaload, 1) := by decide +kernel
theorem dX12_stops_17 : decode cX12_stops 17 = .ok (.iaload, 1) := by decide +kernel
theorem dX12_stops_18 : decode cX12_stops 18 = .ok (.ifCond .eq 9, 3) := by decide +kernel
theorem dX12_stops_21 : decode cX12_stops 21 = .ok (.iinc 1 (-1), 3) := by decide +kernel
theorem dX12_stops_24 : decode cX12_stops 24 = .ok (.goto (-17), 3) := by decide +kernel
theorem dX12_stops_27 : decode cX12_stops 27 = .ok (.aload_n 0, 1) := by decide +kernel
theorem dX12_stops_28 : decode cX12_stops 28 = .ok (.getfield 268, 3) := by decide +kernel
theorem dX12_stops_31 : decode cX12_stops 31 = .ok (.iload_n 1, 1) := by decide +kernel
theorem dX12_stops_32 : decode cX12_stops 32 = .ok (.bipush 14, 2) := by decide +kernel
theorem dX12_stops_34 : decode cX12_stops 34 = .ok (.iastore, 1) := by decide +kernel
theorem dX12_stops_35 : decode cX12_stops 35 = .ok (.return_, 1) := by decide +kernel
theorem dX12_strength_0 : decode cX12_strength 0 = .ok (.iload_n 1, 1) := by decide +kernel
theorem dX12_strength_1 : decode cX12_strength 1 = .ok (.bipush 17, 2) := by decide +kernel
theorem dX12_strength_3 : decode cX12_strength 3 = .ok (.if_icmp .ne 7, 3) := by decide +kernel
theorem dX12_strength_6 : decode cX12_strength 6 = .ok (.iconst 1, 1) := by decide +kernel
theorem dX12_strength_7 : decode cX12_strength 7 = .ok (.goto 73, 3) := by decide +kernel
theorem dX12_strength_10 : decode cX12_strength 10 = .ok (.iload_n 1, 1) := by decide +kernel
theorem dX12_strength_11 : decode cX12_strength 11 = .ok (.bipush 16, 2) := by decide +kernel
theorem dX12_strength_13 : decode cX12_strength 13 = .ok (.if_icmp .ne 7, 3) := by decide +kernel
theorem dX12_strength_16 : decode cX12_strength 16 = .ok (.iconst 2, 1) := by decide +kernel
theorem dX12_strength_17 : decode cX12_strength 17 = .ok (.goto 63, 3) := by decide +kernel
theorem dX12_strength_20 : decode cX12_strength 20 = .ok (.iload_n 1, 1) := by decide +kernel
theorem dX12_strength_21 : decode cX12_strength 21 = .ok (.bipush 13, 2) := by decide +kernel
theorem dX12_strength_23 : decode cX12_strength 23 = .ok (.if_icmp .lt 13, 3) := by decide +kernel
theorem dX12_strength_26 : decode cX12_strength 26 = .ok (.iload_n 1, 1) := by decide +kernel
theorem dX12_strength_27 : decode cX12_strength 27 = .ok (.bipush 15, 2) := by decide +kernel
theorem dX12_strength_29 : decode cX12_strength 29 = .ok (.if_icmp .gt 7, 3) := by decide +kernel
theorem dX12_strength_32 : decode cX12_strength 32 = .ok (.iconst 3, 1) := by decide +kernel
theorem dX12_strength_33 : decode cX12_strength 33 = .ok (.goto 47, 3) := by decide +kernel
theorem dX12_strength_36 : decode cX12_strength 36 = .ok (.iload_n 1, 1) := by decide +kernel
theorem dX12_strength_37 : decode cX12_strength 37 = .ok (.bipush 7, 2) := by decide +kernel
theorem dX12_strength_39 : decode cX12_strength 39 = .ok (.if_icmp .eq 9, 3) := by decide +kernel
theorem dX12_strength_42 : decode cX12_strength 42 = .ok (.iload_n 1, 1) := by decide +kernel
theorem dX12_strength_43 : decode cX12_strength 43 = .ok (.bipush 8, 2) := by decide +kernel
theorem dX12_strength_45 : decode cX12_strength 45 = .ok (.if_icmp .ne 7, 3) := by decide +kernel
theorem dX12_strength_48 : decode cX12_strength 48 = .ok (.iconst 4, 1) := by decide +kernel
theorem dX12_strength_49 : decode cX12_strength 49 = .ok (.goto 31, 3) := by decide +kernel
theorem dX12_strength_52 : decode cX12_strength 52 = .ok (.iload_n 1, 1) := by decide +kernel
theorem dX12_strength_53 : decode cX12_strength 53 = .ok (.bipush 9, 2) := by decide +kernel
theorem dX12_strength_55 : decode cX12_strength 55 = .ok (.if_icmp .lt 13, 3) := by decide +kernel
theorem dX12_strength_58 : decode cX12_strength 58 = .ok (.iload_n 1, 1) := by decide +kernel
theorem dX12_strength_59 : decode cX12_strength 59 = .ok (.bipush 12, 2) := by decide +kernel
theorem dX12_strength_61 : decode cX12_strength 61 = .ok (.if_icmp .gt 7, 3) := by decide +kernel
theorem dX12_strength_64 : decode cX12_strength 64 = .ok (.iconst 5, 1) := by decide +kernel
theorem dX12_strength_65 : decode cX12_strength 65 = .ok (.goto 15, 3) := by decide +kernel
theorem dX12_strength_68 : decode cX12_strength 68 = .ok (.iload_n 1, 1) := by decide +kernel
theorem dX12_strength_69 : decode cX12_strength 69 = .ok (.bipush 18, 2) := by decide +kernel
theorem dX12_strength_71 : decode cX12_strength 71 = .ok (.if_icmp .ne 7, 3) := by decide +kernel
theorem dX12_strength_74 : decode cX12_strength 74 = .ok (.iconst 0, 1) := by decide +kernel
theorem dX12_strength_75 : decode cX12_strength 75 = .ok (.goto 5, 3) := by decide +kernel
theorem dX12_strength_78 : decode cX12_strength 78 = .ok (.bipush 6, 2) := by decide +kernel
theorem dX12_strength_80 : decode cX12_strength 80 = .ok (.ireturn, 1) := by decide +kernel
theorem dX12_structNamed_0 : decode cX12_structNamed 0 = .ok (.iconst 0, 1) := by decide +kernel
theorem dX12_structNamed_1 : decode cX12_structNamed 1 = .ok (.istore 4, 2) := by decide +kernel
theorem dX12_structNamed_3 : decode cX12_structNamed 3 = .ok (.iload 4, 2) := by decide +kernel
theorem dX12_structNamed_5 : decode cX12_structNamed 5 = .ok (.iload_n 3, 1) := by decide +kernel
theorem dX12_structNamed_6 : decode cX12_structNamed 6 = .ok (.if_icmp .ge 32, 3) := by decide +kernel
theorem dX12_structNamed_9 : decode cX12_structNamed 9 = .ok (.aload_n 0, 1) := by decide +kernel
theorem dX12_structNamed_10 : decode cX12_structNamed 10 = .ok (.getfield 76, 3) := by decide +kernel
theorem dX12_structNamed_13 : decode cX12_structNamed 13 = .ok (.bipush 20, 2) := by decide +kernel
theorem dX12_structNamed_15 : decode cX12_structNamed 15 = .ok (.aload_n 0, 1) := by decide +kernel
theorem dX12_structNamed_16 : decode cX12_structNamed 16 = .ok (.getfield 173, 3) := by decide +kernel
theorem dX12_structNamed_19 : decode cX12_structNamed 19 = .ok (.imul, 1) := by decide +kernel
theorem dX12_structNamed_20 : decode cX12_structNamed 20 = .ok (.iload 4, 2) := by decide +kernel
theorem dX12_structNamed_22 : decode cX12_structNamed 22 = .ok (.iadd, 1) := by decide +kernel
theorem dX12_structNamed_23 : decode cX12_structNamed 23 = .ok (.laload, 1) := by decide +kernel
theorem dX12_structNamed_24 : decode cX12_structNamed 24 = .ok (.lload_n 1, 1) := by decide +kernel
theorem dX12_structNamed_25 : decode cX12_structNamed 25 = .ok (.lcmp, 1) := by decide +kernel
theorem dX12_structNamed_26 : decode cX12_structNamed 26 = .ok (.ifCond .ne 6, 3) := by decide +kernel
theorem dX12_structNamed_29 : decode cX12_structNamed 29 = .ok (.iload 4, 2) := by decide +kernel
theorem dX12_structNamed_31 : decode cX12_structNamed 31 = .ok (.ireturn, 1) := by decide +kernel
theorem dX12_structNamed_32 : decode cX12_structNamed 32 = .ok (.iinc 4 1, 3) := by decide +kernel
theorem dX12_structNamed_35 : decode cX12_structNamed 35 = .ok (.goto (-32), 3) := by decide +kernel
theorem dX12_structNamed_38 : decode cX12_structNamed 38 = .ok (.iconst (-1), 1) := by decide +kernel
theorem dX12_structNamed_39 : decode cX12_structNamed 39 = .ok (.ireturn, 1) := by decide +kernel
theorem dX12_sumBounds_0 : decode cX12_sumBounds 0 = .ok (.aload_n 0, 1) := by decide +kernel
theorem dX12_sumBounds_1 : decode cX12_sumBounds 1 = .ok (.aload_n 0, 1) := by decide +kernel
theorem dX12_sumBounds_2 : decode cX12_sumBounds 2 = .ok (.aload_n 0, 1) := by decide +kernel
theorem dX12_sumBounds_3 : decode cX12_sumBounds 3 = .ok (.getfield 113, 3) := by decide +kernel
theorem dX12_sumBounds_6 : decode cX12_sumBounds 6 = .ok (.iload_n 2, 1) := by decide +kernel
theorem dX12_sumBounds_7 : decode cX12_sumBounds 7 = .ok (.iaload, 1) := by decide +kernel
theorem dX12_sumBounds_8 : decode cX12_sumBounds 8 = .ok (.iload_n 3, 1) := by decide +kernel
theorem dX12_sumBounds_9 : decode cX12_sumBounds 9 = .ok (.aload_n 0, 1) := by decide +kernel
theorem dX12_sumBounds_10 : decode cX12_sumBounds 10 = .ok (.getfield 220, 3) := by decide +kernel
theorem dX12_sumBounds_13 : decode cX12_sumBounds 13 = .ok (.iload_n 1, 1) := by decide +kernel
theorem dX12_sumBounds_14 : decode cX12_sumBounds 14 = .ok (.iaload, 1) := by decide +kernel
theorem dX12_sumBounds_15 : decode cX12_sumBounds 15 = .ok (.invokevirtual 608, 3) := by decide +kernel
theorem dX12_sumBounds_18 : decode cX12_sumBounds 18 = .ok (.putfield 280, 3) := by decide +kernel
theorem dX12_sumBounds_21 : decode cX12_sumBounds 21 = .ok (.aload_n 0, 1) := by decide +kernel
theorem dX12_sumBounds_22 : decode cX12_sumBounds 22 = .ok (.getfield 274, 3) := by decide +kernel
theorem dX12_sumBounds_25 : decode cX12_sumBounds 25 = .ok (.istore 4, 2) := by decide +kernel
theorem dX12_sumBounds_27 : decode cX12_sumBounds 27 = .ok (.aload_n 0, 1) := by decide +kernel
theorem dX12_sumBounds_28 : decode cX12_sumBounds 28 = .ok (.aload_n 0, 1) := by decide +kernel
theorem dX12_sumBounds_29 : decode cX12_sumBounds 29 = .ok (.aload_n 0, 1) := by decide +kernel
theorem dX12_sumBounds_30 : decode cX12_sumBounds 30 = .ok (.getfield 116, 3) := by decide +kernel
theorem dX12_sumBounds_33 : decode cX12_sumBounds 33 = .ok (.iload_n 2, 1) := by decide +kernel
theorem dX12_sumBounds_34 : decode cX12_sumBounds 34 = .ok (.iaload, 1) := by decide +kernel
theorem dX12_sumBounds_35 : decode cX12_sumBounds 35 = .ok (.iload_n 3, 1) := by decide +kernel
theorem dX12_sumBounds_36 : decode cX12_sumBounds 36 = .ok (.aload_n 0, 1) := by decide +kernel
theorem dX12_sumBounds_37 : decode cX12_sumBounds 37 = .ok (.getfield 220, 3) := by decide +kernel
theorem dX12_sumBounds_40 : decode cX12_sumBounds 40 = .ok (.iload_n 1, 1) := by decide +kernel
theorem dX12_sumBounds_41 : decode cX12_sumBounds 41 = .ok (.iaload, 1) := by decide +kernel
theorem dX12_sumBounds_42 : decode cX12_sumBounds 42 = .ok (.invokevirtual 608, 3) := by decide +kernel
theorem dX12_sumBounds_45 : decode cX12_sumBounds 45 = .ok (.putfield 283, 3) := by decide +kernel
theorem dX12_sumBounds_48 : decode cX12_sumBounds 48 = .ok (.iload 4, 2) := by decide +kernel
theorem dX12_sumBounds_50 : decode cX12_sumBounds 50 = .ok (.ifCond .ne 10, 3) := by decide +kernel
theorem dX12_sumBounds_53 : decode cX12_sumBounds 53 = .ok (.aload_n 0, 1) := by decide +kernel
theorem dX12_sumBounds_54 : decode cX12_sumBounds 54 = .ok (.getfield 274, 3) := by decide +kernel
theorem dX12_sumBounds_57 : decode cX12_sumBounds 57 = .ok (.ifCond .eq 6, 3) := by decide +kernel
theorem dX12_sumBounds_60 : decode cX12_sumBounds 60 = .ok (.bipush 6, 2) := by decide +kernel
theorem dX12_sumBounds_62 : decode cX12_sumBounds 62 = .ok (.ireturn, 1) := by decide +kernel
theorem dX12_sumBounds_63 : decode cX12_sumBounds 63 = .ok (.aload_n 0, 1) := by decide +kernel
theorem dX12_sumBounds_64 : decode cX12_sumBounds 64 = .ok (.getfield 280, 3) := by decide +kernel
theorem dX12_sumBounds_67 : decode cX12_sumBounds 67 = .ok (.lconst 0, 1) := by decide +kernel
theorem dX12_sumBounds_68 : decode cX12_sumBounds 68 = .ok (.lcmp, 1) := by decide +kernel
theorem dX12_sumBounds_69 : decode cX12_sumBounds 69 = .ok (.ifCond .lt 40, 3) := by decide +kernel
theorem dX12_sumBounds_72 : decode cX12_sumBounds 72 = .ok (.aload_n 0, 1) := by decide +kernel
theorem dX12_sumBounds_73 : decode cX12_sumBounds 73 = .ok (.getfield 283, 3) := by decide +kernel
theorem dX12_sumBounds_76 : decode cX12_sumBounds 76 = .ok (.aload_n 0, 1) := by decide +kernel
theorem dX12_sumBounds_77 : decode cX12_sumBounds 77 = .ok (.getfield 280, 3) := by decide +kernel
theorem dX12_sumBounds_80 : decode cX12_sumBounds 80 = .ok (.lcmp, 1) := by decide +kernel
theorem dX12_sumBounds_81 : decode cX12_sumBounds 81 = .ok (.ifCond .lt 28, 3) := by decide +kernel
theorem dX12_sumBounds_84 : decode cX12_sumBounds 84 = .ok (.aload_n 0, 1) := by decide +kernel
theorem dX12_sumBounds_85 : decode cX12_sumBounds 85 = .ok (.getfield 283, 3) := by decide +kernel
theorem dX12_sumBounds_88 : decode cX12_sumBounds 88 = .ok (.aload_n 0, 1) := by decide +kernel
theorem dX12_sumBounds_89 : decode cX12_sumBounds 89 = .ok (.getfield 13, 3) := by decide +kernel
theorem dX12_sumBounds_92 : decode cX12_sumBounds 92 = .ok (.aload_n 0, 1) := by decide +kernel
theorem dX12_sumBounds_93 : decode cX12_sumBounds 93 = .ok (.getfield 259, 3) := by decide +kernel
theorem dX12_sumBounds_96 : decode cX12_sumBounds 96 = .ok (.iaload, 1) := by decide +kernel
theorem dX12_sumBounds_97 : decode cX12_sumBounds 97 = .ok (.aload_n 0, 1) := by decide +kernel
theorem dX12_sumBounds_98 : decode cX12_sumBounds 98 = .ok (.getfield 220, 3) := by decide +kernel
theorem dX12_sumBounds_101 : decode cX12_sumBounds 101 = .ok (.iload_n 3, 1) := by decide +kernel
theorem dX12_sumBounds_102 : decode cX12_sumBounds 102 = .ok (.iaload, 1) := by decide +kernel
theorem dX12_sumBounds_103 : decode cX12_sumBounds 103 = .ok (.isub, 1) := by decide +kernel
theorem dX12_sumBounds_104 : decode cX12_sumBounds 104 = .ok (.i2l, 1) := by decide +kernel
theorem dX12_sumBounds_105 : decode cX12_sumBounds 105 = .ok (.lcmp, 1) := by decide +kernel
theorem dX12_sumBounds_106 : decode cX12_sumBounds 106 = .ok (.ifCond .le 7, 3) := by decide +kernel
theorem dX12_sumBounds_109 : decode cX12_sumBounds 109 = .ok (.iconst 5, 1) := by decide +kernel
theorem dX12_sumBounds_110 : decode cX12_sumBounds 110 = .ok (.goto 4, 3) := by decide +kernel
theorem dX12_sumBounds_113 : decode cX12_sumBounds 113 = .ok (.iconst 0, 1) := by decide +kernel
theorem dX12_sumBounds_114 : decode cX12_sumBounds 114 = .ok (.ireturn, 1) := by decide +kernel
theorem dX12_summed_0 : decode cX12_summed 0 = .ok (.aload_n 0, 1) := by decide +kernel
theorem dX12_summed_1 : decode cX12_summed 1 = .ok (.iload_n 1, 1) := by decide +kernel
theorem dX12_summed_2 : decode cX12_summed 2 = .ok (.iload_n 2, 1) := by decide +kernel
theorem dX12_summed_3 : decode cX12_summed 3 = .ok (.iload_n 3, 1) := by decide +kernel
theorem dX12_summed_4 : decode cX12_summed 4 = .ok (.invokevirtual 672, 3) := by decide +kernel
theorem dX12_summed_7 : decode cX12_summed 7 = .ok (.istore 4, 2) := by decide +kernel
theorem dX12_summed_9 : decode cX12_summed 9 = .ok (.iload 4, 2) := by decide +kernel
theorem dX12_summed_11 : decode cX12_summed 11 = .ok (.ifCond .le 13, 3) := by decide +kernel
theorem dX12_summed_14 : decode cX12_summed 14 = .ok (.aload_n 0, 1) := by decide +kernel
theorem dX12_summed_15 : decode cX12_summed 15 = .ok (.iload_n 1, 1) := by decide +kernel
theorem dX12_summed_16 : decode cX12_summed 16 = .ok (.iload 4, 2) := by decide +kernel
theorem dX12_summed_18 : decode cX12_summed 18 = .ok (.invokevirtual 577, 3) := by decide +kernel
theorem dX12_summed_21 : decode cX12_summed 21 = .ok (.goto 36, 3) := by decide +kernel
theorem dX12_summed_24 : decode cX12_summed 24 = .ok (.aload_n 0, 1) := by decide +kernel
theorem dX12_summed_25 : decode cX12_summed 25 = .ok (.aload_n 0, 1) := by decide +kernel
theorem dX12_summed_26 : decode cX12_summed 26 = .ok (.getfield 220, 3) := by decide +kernel
theorem dX12_summed_29 : decode cX12_summed 29 = .ok (.iload_n 1, 1) := by decide +kernel
theorem dX12_summed_30 : decode cX12_summed 30 = .ok (.iaload, 1) := by decide +kernel
theorem dX12_summed_31 : decode cX12_summed 31 = .ok (.aload_n 0, 1) := by decide +kernel
theorem dX12_summed_32 : decode cX12_summed 32 = .ok (.getfield 101, 3) := by decide +kernel
theorem dX12_summed_35 : decode cX12_summed 35 = .ok (.iload_n 2, 1) := by decide +kernel
theorem dX12_summed_36 : decode cX12_summed 36 = .ok (.iaload, 1) := by decide +kernel
theorem dX12_summed_37 : decode cX12_summed 37 = .ok (.invokevirtual 657, 3) := by decide +kernel
theorem dX12_summed_40 : decode cX12_summed 40 = .ok (.aload_n 0, 1) := by decide +kernel
theorem dX12_summed_41 : decode cX12_summed 41 = .ok (.iload_n 1, 1) := by decide +kernel
theorem dX12_summed_42 : decode cX12_summed 42 = .ok (.iload_n 2, 1) := by decide +kernel
theorem dX12_summed_43 : decode cX12_summed 43 = .ok (.iload_n 3, 1) := by decide +kernel
theorem dX12_summed_44 : decode cX12_summed 44 = .ok (.invokevirtual 675, 3) := by decide +kernel
theorem dX12_summed_47 : decode cX12_summed 47 = .ok (.lcmp, 1) := by decide +kernel
theorem dX12_summed_48 : decode cX12_summed 48 = .ok (.ifCond .eq 9, 3) := by decide +kernel
theorem dX12_summed_51 : decode cX12_summed 51 = .ok (.aload_n 0, 1) := by decide +kernel
theorem dX12_summed_52 : decode cX12_summed 52 = .ok (.iload_n 1, 1) := by decide +kernel
theorem dX12_summed_53 : decode cX12_summed 53 = .ok (.iconst 3, 1) := by decide +kernel
theorem dX12_summed_54 : decode cX12_summed 54 = .ok (.invokevirtual 577, 3) := by decide +kernel
theorem dX12_summed_57 : decode cX12_summed 57 = .ok (.return_, 1) := by decide +kernel
theorem dX12_take_0 : decode cX12_take 0 = .ok (.aload_n 0, 1) := by decide +kernel
theorem dX12_take_1 : decode cX12_take 1 = .ok (.aload_n 0, 1) := by decide +kernel
theorem dX12_take_2 : decode cX12_take 2 = .ok (.iload_n 1, 1) := by decide +kernel
theorem dX12_take_3 : decode cX12_take 3 = .ok (.invokevirtual 401, 3) := by decide +kernel
theorem dX12_take_6 : decode cX12_take 6 = .ok (.iconst 2, 1) := by decide +kernel
theorem dX12_take_7 : decode cX12_take 7 = .ok (.invokevirtual 404, 3) := by decide +kernel
theorem dX12_take_10 : decode cX12_take 10 = .ok (.ifCond .eq 7, 3) := by decide +kernel
theorem dX12_take_13 : decode cX12_take 13 = .ok (.aload_n 0, 1) := by decide +kernel
theorem dX12_take_14 : decode cX12_take 14 = .ok (.invokevirtual 408, 3) := by decide +kernel
theorem dX12_take_17 : decode cX12_take 17 = .ok (.return_, 1) := by decide +kernel
theorem dX12_takeWord_0 : decode cX12_takeWord 0 = .ok (.aload_n 0, 1) := by decide +kernel
theorem dX12_takeWord_1 : decode cX12_takeWord 1 = .ok (.aload_n 0, 1) := by decide +kernel
theorem dX12_takeWord_2 : decode cX12_takeWord 2 = .ok (.lload_n 1, 1) := by decide +kernel
theorem dX12_takeWord_3 : decode cX12_takeWord 3 = .ok (.invokevirtual 334, 3) := by decide +kernel
theorem dX12_takeWord_6 : decode cX12_takeWord 6 = .ok (.iconst 2, 1) := by decide +kernel
theorem dX12_takeWord_7 : decode cX12_takeWord 7 = .ok (.invokevirtual 404, 3) := by decide +kernel
theorem dX12_takeWord_10 : decode cX12_takeWord 10 = .ok (.ifCond .eq 7, 3) := by decide +kernel
theorem dX12_takeWord_13 : decode cX12_takeWord 13 = .ok (.aload_n 0, 1) := by decide +kernel
theorem dX12_takeWord_14 : decode cX12_takeWord 14 = .ok (.invokevirtual 408, 3) := by decide +kernel
theorem dX12_takeWord_17 : decode cX12_takeWord 17 = .ok (.return_, 1) := by decide +kernel
theorem dX12_tapeAt_0 : decode cX12_tapeAt 0 = .ok (.iload_n 1, 1) := by decide +kernel
theorem dX12_tapeAt_1 : decode cX12_tapeAt 1 = .ok (.aload_n 0, 1) := by decide +kernel
theorem dX12_tapeAt_2 : decode cX12_tapeAt 2 = .ok (.getfield 45, 3) := by decide +kernel
theorem dX12_tapeAt_5 : decode cX12_tapeAt 5 = .ok (.if_icmp .ge 12, 3) := by decide +kernel
theorem dX12_tapeAt_8 : decode cX12_tapeAt 8 = .ok (.aload_n 0, 1) := by decide +kernel
theorem dX12_tapeAt_9 : decode cX12_tapeAt 9 = .ok (.getfield 42, 3) := by decide +kernel
theorem dX12_tapeAt_12 : decode cX12_tapeAt 12 = .ok (.iload_n 1, 1) := by decide +kernel
theorem dX12_tapeAt_13 : decode cX12_tapeAt 13 = .ok (.iaload, 1) := by decide +kernel
theorem dX12_tapeAt_14 : decode cX12_tapeAt 14 = .ok (.goto 4, 3) := by decide +kernel
theorem dX12_tapeAt_17 : decode cX12_tapeAt 17 = .ok (.iconst 0, 1) := by decide +kernel
theorem dX12_tapeAt_18 : decode cX12_tapeAt 18 = .ok (.ireturn, 1) := by decide +kernel
theorem dX12_textLaid_0 : decode cX12_textLaid 0 = .ok (.aload_n 0, 1) := by decide +kernel
theorem dX12_textLaid_1 : decode cX12_textLaid 1 = .ok (.aload_n 0, 1) := by decide +kernel
theorem dX12_textLaid_2 : decode cX12_textLaid 2 = .ok (.getfield 113, 3) := by decide +kernel
theorem dX12_textLaid_5 : decode cX12_textLaid 5 = .ok (.iload_n 2, 1) := by decide +kernel
theorem dX12_textLaid_6 : decode cX12_textLaid 6 = .ok (.iaload, 1) := by decide +kernel
theorem dX12_textLaid_7 : decode cX12_textLaid 7 = .ok (.iload_n 3, 1) := by decide +kernel
theorem dX12_textLaid_8 : decode cX12_textLaid 8 = .ok (.aload_n 0, 1) := by decide +kernel
theorem dX12_textLaid_9 : decode cX12_textLaid 9 = .ok (.getfield 220, 3) := by decide +kernel
theorem dX12_textLaid_12 : decode cX12_textLaid 12 = .ok (.iload_n 1, 1) := by decide +kernel
theorem dX12_textLaid_13 : decode cX12_textLaid 13 = .ok (.iaload, 1) := by decide +kernel
theorem dX12_textLaid_14 : decode cX12_textLaid 14 = .ok (.invokevirtual 608, 3) := by decide +kernel
theorem dX12_textLaid_17 : decode cX12_textLaid 17 = .ok (.lstore 4, 2) := by decide +kernel
theorem dX12_textLaid_19 : decode cX12_textLaid 19 = .ok (.aload_n 0, 1) := by decide +kernel
theorem dX12_textLaid_20 : decode cX12_textLaid 20 = .ok (.getfield 274, 3) := by decide +kernel
theorem dX12_textLaid_23 : decode cX12_textLaid 23 = .ok (.ifCond .ne 19, 3) := by decide +kernel
theorem dX12_textLaid_26 : decode cX12_textLaid 26 = .ok (.lload 4, 2) := by decide +kernel
theorem dX12_textLaid_28 : decode cX12_textLaid 28 = .ok (.lconst 0, 1) := by decide +kernel
theorem dX12_textLaid_29 : decode cX12_textLaid 29 = .ok (.lcmp, 1) := by decide +kernel
theorem dX12_textLaid_30 : decode cX12_textLaid 30 = .ok (.ifCond .lt 12, 3) := by decide +kernel
theorem dX12_textLaid_33 : decode cX12_textLaid 33 = .ok (.lload 4, 2) := by decide +kernel
theorem dX12_textLaid_35 : decode cX12_textLaid 35 = .ok (.ldc2_w 568, 3) := by decide +kernel
theorem dX12_textLaid_38 : decode cX12_textLaid 38 = .ok (.lcmp, 1) := by decide +kernel
theorem dX12_textLaid_39 : decode cX12_textLaid 39 = .ok (.ifCond .le 23, 3) := by decide +kernel
theorem dX12_textLaid_42 : decode cX12_textLaid 42 = .ok (.aload_n 0, 1) := by decide +kernel
theorem dX12_textLaid_43 : decode cX12_textLaid 43 = .ok (.iload_n 1, 1) := by decide +kernel
theorem dX12_textLaid_44 : decode cX12_textLaid 44 = .ok (.aload_n 0, 1) := by decide +kernel
theorem dX12_textLaid_45 : decode cX12_textLaid 45 = .ok (.getfield 274, 3) := by decide +kernel
theorem dX12_textLaid_48 : decode cX12_textLaid 48 = .ok (.ifCond .eq 8, 3) := by decide +kernel
theorem dX12_textLaid_51 : decode cX12_textLaid 51 = .ok (.bipush 6, 2) := by decide +kernel
theorem dX12_textLaid_53 : decode cX12_textLaid 53 = .ok (.goto 4, 3) := by decide +kernel
theorem dX12_textLaid_56 : decode cX12_textLaid 56 = .ok (.iconst 5, 1) := by decide +kernel
theorem dX12_textLaid_57 : decode cX12_textLaid 57 = .ok (.invokevirtual 577, 3) := by decide +kernel
theorem dX12_textLaid_60 : decode cX12_textLaid 60 = .ok (.iconst 1, 1) := by decide +kernel
theorem dX12_textLaid_61 : decode cX12_textLaid 61 = .ok (.ireturn, 1) := by decide +kernel
theorem dX12_textLaid_62 : decode cX12_textLaid 62 = .ok (.aload_n 0, 1) := by decide +kernel
theorem dX12_textLaid_63 : decode cX12_textLaid 63 = .ok (.iload_n 1, 1) := by decide +kernel
theorem dX12_textLaid_64 : decode cX12_textLaid 64 = .ok (.lload 4, 2) := by decide +kernel
theorem dX12_textLaid_66 : decode cX12_textLaid 66 = .ok (.invokevirtual 602, 3) := by decide +kernel
theorem dX12_textLaid_69 : decode cX12_textLaid 69 = .ok (.ireturn, 1) := by decide +kernel
theorem dX12_told_0 : decode cX12_told 0 = .ok (.aload_n 0, 1) := by decide +kernel
theorem dX12_told_1 : decode cX12_told 1 = .ok (.getfield 98, 3) := by decide +kernel
theorem dX12_told_4 : decode cX12_told 4 = .ok (.iload_n 1, 1) := by decide +kernel
theorem dX12_told_5 : decode cX12_told 5 = .ok (.iaload, 1) := by decide +kernel
theorem dX12_told_6 : decode cX12_told 6 = .ok (.bipush 9, 2) := by decide +kernel
theorem dX12_told_8 : decode cX12_told 8 = .ok (.if_icmp .eq 16, 3) := by decide +kernel
theorem dX12_told_11 : decode cX12_told 11 = .ok (.aload_n 0, 1) := by decide +kernel
theorem dX12_told_12 : decode cX12_told 12 = .ok (.getfield 128, 3) := by decide +kernel
theorem dX12_told_15 : decode cX12_told 15 = .ok (.iload_n 1, 1) := by decide +kernel
theorem dX12_told_16 : decode cX12_told 16 = .ok (.laload, 1) := by decide +kernel
theorem dX12_told_17 : decode cX12_told 17 = .ok (.lload_n 2, 1) := by decide +kernel
theorem dX12_told_18 : decode cX12_told 18 = .ok (.lcmp, 1) := by decide +kernel
theorem dX12_told_19 : decode cX12_told 19 = .ok (.ifCond .ne 5, 3) := by decide +kernel
theorem dX12_told_22 : decode cX12_told 22 = .ok (.iconst 1, 1) := by decide +kernel
theorem dX12_told_23 : decode cX12_told 23 = .ok (.ireturn, 1) := by decide +kernel
theorem dX12_told_24 : decode cX12_told 24 = .ok (.iconst 0, 1) := by decide +kernel
theorem dX12_told_25 : decode cX12_told 25 = .ok (.istore 4, 2) := by decide +kernel
theorem dX12_told_27 : decode cX12_told 27 = .ok (.aload_n 0, 1) := by decide +kernel
theorem dX12_told_28 : decode cX12_told 28 = .ok (.getfield 98, 3) := by decide +kernel
theorem dX12_told_31 : decode cX12_told 31 = .ok (.iload_n 1, 1) := by decide +kernel
theorem dX12_told_32 : decode cX12_told 32 = .ok (.iaload, 1) := by decide +kernel
theorem dX12_told_33 : decode cX12_told 33 = .ok (.iconst 4, 1) := by decide +kernel
theorem dX12_told_34 : decode cX12_told 34 = .ok (.if_icmp .ne 39, 3) := by decide +kernel
theorem dX12_told_37 : decode cX12_told 37 = .ok (.iload 4, 2) := by decide +kernel
theorem dX12_told_39 : decode cX12_told 39 = .ok (.aload_n 0, 1) := by decide +kernel
theorem dX12_told_40 : decode cX12_told 40 = .ok (.getfield 125, 3) := by decide +kernel
theorem dX12_told_43 : decode cX12_told 43 = .ok (.iload_n 1, 1) := by decide +kernel
theorem dX12_told_44 : decode cX12_told 44 = .ok (.iaload, 1) := by decide +kernel
theorem dX12_told_45 : decode cX12_told 45 = .ok (.if_icmp .ge 28, 3) := by decide +kernel
theorem dX12_told_48 : decode cX12_told 48 = .ok (.aload_n 0, 1) := by decide +kernel
theorem dX12_told_49 : decode cX12_told 49 = .ok (.getfield 131, 3) := by decide +kernel
theorem dX12_told_52 : decode cX12_told 52 = .ok (.bipush 16, 2) := by decide +kernel
theorem dX12_told_54 : decode cX12_told 54 = .ok (.iload_n 1, 1) := by decide +kernel
theorem dX12_told_55 : decode cX12_told 55 = .ok (.imul, 1) := by decide +kernel
theorem dX12_told_56 : decode cX12_told 56 = .ok (.iload 4, 2) := by decide +kernel
theorem dX12_told_58 : decode cX12_told 58 = .ok (.iadd, 1) := by decide +kernel
theorem dX12_told_59 : decode cX12_told 59 = .ok (.laload, 1) := by decide +kernel
theorem dX12_told_60 : decode cX12_told 60 = .ok (.lload_n 2, 1) := by decide +kernel
theorem dX12_told_61 : decode cX12_told 61 = .ok (.lcmp, 1) := by decide +kernel
theorem dX12_told_62 : decode cX12_told 62 = .ok (.ifCond .ne 5, 3) := by decide +kernel
theorem dX12_told_65 : decode cX12_told 65 = .ok (.iconst 1, 1) := by decide +kernel
theorem dX12_told_66 : decode cX12_told 66 = .ok (.ireturn, 1) := by decide +kernel
theorem dX12_told_67 : decode cX12_told 67 = .ok (.iinc 4 1, 3) := by decide +kernel
theorem dX12_told_70 : decode cX12_told 70 = .ok (.goto (-43), 3) := by decide +kernel
theorem dX12_told_73 : decode cX12_told 73 = .ok (.iconst 0, 1) := by decide +kernel
theorem dX12_told_74 : decode cX12_told 74 = .ok (.ireturn, 1) := by decide +kernel
theorem dX12_top_0 : decode cX12_top 0 = .ok (.aload_n 0, 1) := by decide +kernel
theorem dX12_top_1 : decode cX12_top 1 = .ok (.iload_n 1, 1) := by decide +kernel
theorem dX12_top_2 : decode cX12_top 2 = .ok (.invokevirtual 293, 3) := by decide +kernel
theorem dX12_top_5 : decode cX12_top 5 = .ok (.ifCond .ne 5, 3) := by decide +kernel
theorem dX12_top_8 : decode cX12_top 8 = .ok (.iconst (-1), 1) := by decide +kernel
theorem dX12_top_9 : decode cX12_top 9 = .ok (.ireturn, 1) := by decide +kernel
theorem dX12_top_10 : decode cX12_top 10 = .ok (.aload_n 0, 1) := by decide +kernel
theorem dX12_top_11 : decode cX12_top 11 = .ok (.getfield 17, 3) := by decide +kernel
theorem dX12_top_14 : decode cX12_top 14 = .ok (.iload_n 1, 1) := by decide +kernel
theorem dX12_top_15 : decode cX12_top 15 = .ok (.iaload, 1) := by decide +kernel
theorem dX12_top_16 : decode cX12_top 16 = .ok (.ifCond .ne 6, 3) := by decide +kernel
theorem dX12_top_19 : decode cX12_top 19 = .ok (.bipush (-7), 2) := by decide +kernel
theorem dX12_top_21 : decode cX12_top 21 = .ok (.ireturn, 1) := by decide +kernel
theorem dX12_top_22 : decode cX12_top 22 = .ok (.aload_n 0, 1) := by decide +kernel
theorem dX12_top_23 : decode cX12_top 23 = .ok (.getfield 17, 3) := by decide +kernel
theorem dX12_top_26 : decode cX12_top 26 = .ok (.iload_n 1, 1) := by decide +kernel
theorem dX12_top_27 : decode cX12_top 27 = .ok (.iaload, 1) := by decide +kernel
theorem dX12_top_28 : decode cX12_top 28 = .ok (.iconst 1, 1) := by decide +kernel
theorem dX12_top_29 : decode cX12_top 29 = .ok (.isub, 1) := by decide +kernel
theorem dX12_top_30 : decode cX12_top 30 = .ok (.istore_n 3, 1) := by decide +kernel
theorem dX12_top_31 : decode cX12_top 31 = .ok (.iconst 0, 1) := by decide +kernel
theorem dX12_top_32 : decode cX12_top 32 = .ok (.istore 4, 2) := by decide +kernel
theorem dX12_top_34 : decode cX12_top 34 = .ok (.iconst 0, 1) := by decide +kernel
theorem dX12_top_35 : decode cX12_top 35 = .ok (.istore 5, 2) := by decide +kernel
theorem dX12_top_37 : decode cX12_top 37 = .ok (.iload 5, 2) := by decide +kernel
theorem dX12_top_39 : decode cX12_top 39 = .ok (.aload_n 0, 1) := by decide +kernel
theorem dX12_top_40 : decode cX12_top 40 = .ok (.getfield 13, 3) := by decide +kernel
theorem dX12_top_43 : decode cX12_top 43 = .ok (.iload_n 1, 1) := by decide +kernel
theorem dX12_top_44 : decode cX12_top 44 = .ok (.iaload, 1) := by decide +kernel
theorem dX12_top_45 : decode cX12_top 45 = .ok (.if_icmp .ge 82, 3) := by decide +kernel
theorem dX12_top_48 : decode cX12_top 48 = .ok (.aload_n 0, 1) := by decide +kernel
theorem dX12_top_49 : decode cX12_top 49 = .ok (.getfield 24, 3) := by decide +kernel
theorem dX12_top_52 : decode cX12_top 52 = .ok (.aload_n 0, 1) := by decide +kernel
theorem dX12_top_53 : decode cX12_top 53 = .ok (.iload_n 1, 1) := by decide +kernel
theorem dX12_top_54 : decode cX12_top 54 = .ok (.iload_n 3, 1) := by decide +kernel
theorem dX12_top_55 : decode cX12_top 55 = .ok (.iload 5, 2) := by decide +kernel
theorem dX12_top_57 : decode cX12_top 57 = .ok (.invokevirtual 289, 3) := by decide +kernel
theorem dX12_top_60 : decode cX12_top 60 = .ok (.iaload, 1) := by decide +kernel
theorem dX12_top_61 : decode cX12_top 61 = .ok (.istore 6, 2) := by decide +kernel
theorem dX12_top_63 : decode cX12_top 63 = .ok (.iload 6, 2) := by decide +kernel
theorem dX12_top_65 : decode cX12_top 65 = .ok (.ifCond .ge 6, 3) := by decide +kernel
theorem dX12_top_68 : decode cX12_top 68 = .ok (.goto 53, 3) := by decide +kernel
theorem dX12_top_71 : decode cX12_top 71 = .ok (.iinc 4 1, 3) := by decide +kernel
theorem dX12_top_74 : decode cX12_top 74 = .ok (.iload_n 2, 1) := by decide +kernel
theorem dX12_top_75 : decode cX12_top 75 = .ok (.ifCond .eq 27, 3) := by decide +kernel
theorem dX12_top_78 : decode cX12_top 78 = .ok (.iload_n 3, 1) := by decide +kernel
theorem dX12_top_79 : decode cX12_top 79 = .ok (.ifCond .le 23, 3) := by decide +kernel
theorem dX12_top_82 : decode cX12_top 82 = .ok (.aload_n 0, 1) := by decide +kernel
theorem dX12_top_83 : decode cX12_top 83 = .ok (.getfield 24, 3) := by decide +kernel
theorem dX12_top_86 : decode cX12_top 86 = .ok (.aload_n 0, 1) := by decide +kernel
theorem dX12_top_87 : decode cX12_top 87 = .ok (.iload_n 1, 1) := by decide +kernel
theorem dX12_top_88 : decode cX12_top 88 = .ok (.iload_n 3, 1) := by decide +kernel
theorem dX12_top_89 : decode cX12_top 89 = .ok (.iconst 1, 1) := by decide +kernel
theorem dX12_top_90 : decode cX12_top 90 = .ok (.isub, 1) := by decide +kernel
theorem dX12_top_91 : decode cX12_top 91 = .ok (.iload 5, 2) := by decide +kernel
theorem dX12_top_93 : decode cX12_top 93 = .ok (.invokevirtual 289, 3) := by decide +kernel
theorem dX12_top_96 : decode cX12_top 96 = .ok (.iload 6, 2) := by decide +kernel
theorem dX12_top_98 : decode cX12_top 98 = .ok (.iastore, 1) := by decide +kernel
theorem dX12_top_99 : decode cX12_top 99 = .ok (.goto 22, 3) := by decide +kernel
theorem dX12_top_102 : decode cX12_top 102 = .ok (.iload_n 2, 1) := by decide +kernel
theorem dX12_top_103 : decode cX12_top 103 = .ok (.ifCond .eq 18, 3) := by decide +kernel
theorem dX12_top_106 : decode cX12_top 106 = .ok (.aload_n 0, 1) := by decide +kernel
theorem dX12_top_107 : decode cX12_top 107 = .ok (.getfield 20, 3) := by decide +kernel
theorem dX12_top_110 : decode cX12_top 110 = .ok (.sipush 2000, 3) := by decide +kernel
theorem dX12_top_113 : decode cX12_top 113 = .ok (.iload_n 1, 1) := by decide +kernel
theorem dX12_top_114 : decode cX12_top 114 = .ok (.imul, 1) := by decide +kernel
theorem dX12_top_115 : decode cX12_top 115 = .ok (.iload 5, 2) := by decide +kernel
theorem dX12_top_117 : decode cX12_top 117 = .ok (.iadd, 1) := by decide +kernel
theorem dX12_top_118 : decode cX12_top 118 = .ok (.iload 6, 2) := by decide +kernel
theorem dX12_top_120 : decode cX12_top 120 = .ok (.iastore, 1) := by decide +kernel
theorem dX12_top_121 : decode cX12_top 121 = .ok (.iinc 5 1, 3) := by decide +kernel
theorem dX12_top_124 : decode cX12_top 124 = .ok (.goto (-87), 3) := by decide +kernel
theorem dX12_top_127 : decode cX12_top 127 = .ok (.aload_n 0, 1) := by decide +kernel
theorem dX12_top_128 : decode cX12_top 128 = .ok (.getfield 17, 3) := by decide +kernel
theorem dX12_top_131 : decode cX12_top 131 = .ok (.iload_n 1, 1) := by decide +kernel
theorem dX12_top_132 : decode cX12_top 132 = .ok (.iload_n 3, 1) := by decide +kernel
theorem dX12_top_133 : decode cX12_top 133 = .ok (.iastore, 1) := by decide +kernel
theorem dX12_top_134 : decode cX12_top 134 = .ok (.iload 4, 2) := by decide +kernel
theorem dX12_top_136 : decode cX12_top 136 = .ok (.ireturn, 1) := by decide +kernel
theorem dX12_undo_0 : decode cX12_undo 0 = .ok (.aload_n 0, 1) := by decide +kernel
theorem dX12_undo_1 : decode cX12_undo 1 = .ok (.iload_n 1, 1) := by decide +kernel
theorem dX12_undo_2 : decode cX12_undo 2 = .ok (.invokevirtual 293, 3) := by decide +kernel
theorem dX12_undo_5 : decode cX12_undo 5 = .ok (.ifCond .ne 5, 3) := by decide +kernel
theorem dX12_undo_8 : decode cX12_undo 8 = .ok (.iconst (-1), 1) := by decide +kernel
theorem dX12_undo_9 : decode cX12_undo 9 = .ok (.ireturn, 1) := by decide +kernel
theorem dX12_undo_10 : decode cX12_undo 10 = .ok (.aload_n 0, 1) := by decide +kernel
theorem dX12_undo_11 : decode cX12_undo 11 = .ok (.getfield 17, 3) := by decide +kernel
theorem dX12_undo_14 : decode cX12_undo 14 = .ok (.iload_n 1, 1) := by decide +kernel
theorem dX12_undo_15 : decode cX12_undo 15 = .ok (.iaload, 1) := by decide +kernel
theorem dX12_undo_16 : decode cX12_undo 16 = .ok (.ifCond .ne 6, 3) := by decide +kernel
theorem dX12_undo_19 : decode cX12_undo 19 = .ok (.bipush (-7), 2) := by decide +kernel
theorem dX12_undo_21 : decode cX12_undo 21 = .ok (.ireturn, 1) := by decide +kernel
theorem dX12_undo_22 : decode cX12_undo 22 = .ok (.iconst 4, 1) := by decide +kernel
theorem dX12_undo_23 : decode cX12_undo 23 = .ok (.iload_n 1, 1) := by decide +kernel
theorem dX12_undo_24 : decode cX12_undo 24 = .ok (.imul, 1) := by decide +kernel
theorem dX12_undo_25 : decode cX12_undo 25 = .ok (.aload_n 0, 1) := by decide +kernel
theorem dX12_undo_26 : decode cX12_undo 26 = .ok (.getfield 17, 3) := by decide +kernel
theorem dX12_undo_29 : decode cX12_undo 29 = .ok (.iload_n 1, 1) := by decide +kernel
theorem dX12_undo_30 : decode cX12_undo 30 = .ok (.iaload, 1) := by decide +kernel
theorem dX12_undo_31 : decode cX12_undo 31 = .ok (.iadd, 1) := by decide +kernel
theorem dX12_undo_32 : decode cX12_undo 32 = .ok (.iconst 1, 1) := by decide +kernel
theorem dX12_undo_33 : decode cX12_undo 33 = .ok (.isub, 1) := by decide +kernel
theorem dX12_undo_34 : decode cX12_undo 34 = .ok (.istore_n 2, 1) := by decide +kernel
theorem dX12_undo_35 : decode cX12_undo 35 = .ok (.aload_n 0, 1) := by decide +kernel
theorem dX12_undo_36 : decode cX12_undo 36 = .ok (.getfield 27, 3) := by decide +kernel
theorem dX12_undo_39 : decode cX12_undo 39 = .ok (.iload_n 2, 1) := by decide +kernel
theorem dX12_undo_40 : decode cX12_undo 40 = .ok (.iaload, 1) := by decide +kernel
theorem dX12_undo_41 : decode cX12_undo 41 = .ok (.ifCond .ne 5, 3) := by decide +kernel
theorem dX12_undo_44 : decode cX12_undo 44 = .ok (.iconst 0, 1) := by decide +kernel
theorem dX12_undo_45 : decode cX12_undo 45 = .ok (.ireturn, 1) := by decide +kernel
theorem dX12_undo_46 : decode cX12_undo 46 = .ok (.aload_n 0, 1) := by decide +kernel
theorem dX12_undo_47 : decode cX12_undo 47 = .ok (.getfield 27, 3) := by decide +kernel
theorem dX12_undo_50 : decode cX12_undo 50 = .ok (.iload_n 2, 1) := by decide +kernel
theorem dX12_undo_51 : decode cX12_undo 51 = .ok (.dup2, 1) := by decide +kernel
theorem dX12_undo_52 : decode cX12_undo 52 = .ok (.iaload, 1) := by decide +kernel
theorem dX12_undo_53 : decode cX12_undo 53 = .ok (.iconst 1, 1) := by decide +kernel
theorem dX12_undo_54 : decode cX12_undo 54 = .ok (.isub, 1) := by decide +kernel
theorem dX12_undo_55 : decode cX12_undo 55 = .ok (.iastore, 1) := by decide +kernel
theorem dX12_undo_56 : decode cX12_undo 56 = .ok (.bipush 20, 2) := by decide +kernel
theorem dX12_undo_58 : decode cX12_undo 58 = .ok (.iload_n 2, 1) := by decide +kernel
theorem dX12_undo_59 : decode cX12_undo 59 = .ok (.imul, 1) := by decide +kernel
theorem dX12_undo_60 : decode cX12_undo 60 = .ok (.aload_n 0, 1) := by decide +kernel
theorem dX12_undo_61 : decode cX12_undo 61 = .ok (.getfield 27, 3) := by decide +kernel
theorem dX12_undo_64 : decode cX12_undo 64 = .ok (.iload_n 2, 1) := by decide +kernel
theorem dX12_undo_65 : decode cX12_undo 65 = .ok (.iaload, 1) := by decide +kernel
theorem dX12_undo_66 : decode cX12_undo 66 = .ok (.iadd, 1) := by decide +kernel
theorem dX12_undo_67 : decode cX12_undo 67 = .ok (.istore_n 3, 1) := by decide +kernel
theorem dX12_undo_68 : decode cX12_undo 68 = .ok (.iconst 0, 1) := by decide +kernel
theorem dX12_undo_69 : decode cX12_undo 69 = .ok (.istore 4, 2) := by decide +kernel
theorem dX12_undo_71 : decode cX12_undo 71 = .ok (.iload 4, 2) := by decide +kernel
theorem dX12_undo_73 : decode cX12_undo 73 = .ok (.aload_n 0, 1) := by decide +kernel
theorem dX12_undo_74 : decode cX12_undo 74 = .ok (.getfield 30, 3) := by decide +kernel
theorem dX12_undo_77 : decode cX12_undo 77 = .ok (.iload_n 3, 1) := by decide +kernel
theorem dX12_undo_78 : decode cX12_undo 78 = .ok (.iaload, 1) := by decide +kernel
theorem dX12_undo_79 : decode cX12_undo 79 = .ok (.if_icmp .ge 51, 3) := by decide +kernel
theorem dX12_undo_82 : decode cX12_undo 82 = .ok (.aload_n 0, 1) := by decide +kernel
theorem dX12_undo_83 : decode cX12_undo 83 = .ok (.getfield 24, 3) := by decide +kernel
theorem dX12_undo_86 : decode cX12_undo 86 = .ok (.aload_n 0, 1) := by decide +kernel
theorem dX12_undo_87 : decode cX12_undo 87 = .ok (.iload_n 1, 1) := by decide +kernel
theorem dX12_undo_88 : decode cX12_undo 88 = .ok (.aload_n 0, 1) := by decide +kernel
theorem dX12_undo_89 : decode cX12_undo 89 = .ok (.getfield 17, 3) := by decide +kernel
theorem dX12_undo_92 : decode cX12_undo 92 = .ok (.iload_n 1, 1) := by decide +kernel
theorem dX12_undo_93 : decode cX12_undo 93 = .ok (.iaload, 1) := by decide +kernel
theorem dX12_undo_94 : decode cX12_undo 94 = .ok (.iconst 1, 1) := by decide +kernel
theorem dX12_undo_95 : decode cX12_undo 95 = .ok (.isub, 1) := by decide +kernel
theorem dX12_undo_96 : decode cX12_undo 96 = .ok (.aload_n 0, 1) := by decide +kernel
theorem dX12_undo_97 : decode cX12_undo 97 = .ok (.getfield 33, 3) := by decide +kernel
theorem dX12_undo_100 : decode cX12_undo 100 = .ok (.bipush 8, 2) := by decide +kernel
theorem dX12_undo_102 : decode cX12_undo 102 = .ok (.iload_n 3, 1) := by decide +kernel
theorem dX12_undo_103 : decode cX12_undo 103 = .ok (.imul, 1) := by decide +kernel
theorem dX12_undo_104 : decode cX12_undo 104 = .ok (.iload 4, 2) := by decide +kernel
theorem dX12_undo_106 : decode cX12_undo 106 = .ok (.iadd, 1) := by decide +kernel
theorem dX12_undo_107 : decode cX12_undo 107 = .ok (.iaload, 1) := by decide +kernel
theorem dX12_undo_108 : decode cX12_undo 108 = .ok (.invokevirtual 289, 3) := by decide +kernel
theorem dX12_undo_111 : decode cX12_undo 111 = .ok (.aload_n 0, 1) := by decide +kernel
theorem dX12_undo_112 : decode cX12_undo 112 = .ok (.getfield 36, 3) := by decide +kernel
theorem dX12_undo_115 : decode cX12_undo 115 = .ok (.bipush 8, 2) := by decide +kernel
theorem dX12_undo_117 : decode cX12_undo 117 = .ok (.iload_n 3, 1) := by decide +kernel
theorem dX12_undo_118 : decode cX12_undo 118 = .ok (.imul, 1) := by decide +kernel
theorem dX12_undo_119 : decode cX12_undo 119 = .ok (.iload 4, 2) := by decide +kernel
theorem dX12_undo_121 : decode cX12_undo 121 = .ok (.iadd, 1) := by decide +kernel
theorem dX12_undo_122 : decode cX12_undo 122 = .ok (.iaload, 1) := by decide +kernel
theorem dX12_undo_123 : decode cX12_undo 123 = .ok (.iastore, 1) := by decide +kernel
theorem dX12_undo_124 : decode cX12_undo 124 = .ok (.iinc 4 1, 3) := by decide +kernel
theorem dX12_undo_127 : decode cX12_undo 127 = .ok (.goto (-56), 3) := by decide +kernel
theorem dX12_undo_130 : decode cX12_undo 130 = .ok (.aload_n 0, 1) := by decide +kernel
theorem dX12_undo_131 : decode cX12_undo 131 = .ok (.getfield 30, 3) := by decide +kernel
theorem dX12_undo_134 : decode cX12_undo 134 = .ok (.iload_n 3, 1) := by decide +kernel
theorem dX12_undo_135 : decode cX12_undo 135 = .ok (.iaload, 1) := by decide +kernel
theorem dX12_undo_136 : decode cX12_undo 136 = .ok (.ireturn, 1) := by decide +kernel
theorem dX12_unionLaid_0 : decode cX12_unionLaid 0 = .ok (.aload_n 0, 1) := by decide +kernel
theorem dX12_unionLaid_1 : decode cX12_unionLaid 1 = .ok (.aload_n 0, 1) := by decide +kernel
theorem dX12_unionLaid_2 : decode cX12_unionLaid 2 = .ok (.getfield 113, 3) := by decide +kernel
theorem dX12_unionLaid_5 : decode cX12_unionLaid 5 = .ok (.iload_n 2, 1) := by decide +kernel
theorem dX12_unionLaid_6 : decode cX12_unionLaid 6 = .ok (.iaload, 1) := by decide +kernel
theorem dX12_unionLaid_7 : decode cX12_unionLaid 7 = .ok (.iload_n 3, 1) := by decide +kernel
theorem dX12_unionLaid_8 : decode cX12_unionLaid 8 = .ok (.aload_n 0, 1) := by decide +kernel
theorem dX12_unionLaid_9 : decode cX12_unionLaid 9 = .ok (.getfield 220, 3) := by decide +kernel
theorem dX12_unionLaid_12 : decode cX12_unionLaid 12 = .ok (.iload_n 1, 1) := by decide +kernel
theorem dX12_unionLaid_13 : decode cX12_unionLaid 13 = .ok (.iaload, 1) := by decide +kernel
theorem dX12_unionLaid_14 : decode cX12_unionLaid 14 = .ok (.invokevirtual 608, 3) := by decide +kernel
theorem dX12_unionLaid_17 : decode cX12_unionLaid 17 = .ok (.lstore 4, 2) := by decide +kernel
theorem dX12_unionLaid_19 : decode cX12_unionLaid 19 = .ok (.aload_n 0, 1) := by decide +kernel
theorem dX12_unionLaid_20 : decode cX12_unionLaid 20 = .ok (.getfield 274, 3) := by decide +kernel
theorem dX12_unionLaid_23 : decode cX12_unionLaid 23 = .ok (.ifCond .eq 11, 3) := by decide +kernel
theorem dX12_unionLaid_26 : decode cX12_unionLaid 26 = .ok (.aload_n 0, 1) := by decide +kernel
theorem dX12_unionLaid_27 : decode cX12_unionLaid 27 = .ok (.iload_n 1, 1) := by decide +kernel
theorem dX12_unionLaid_28 : decode cX12_unionLaid 28 = .ok (.bipush 6, 2) := by decide +kernel
theorem dX12_unionLaid_30 : decode cX12_unionLaid 30 = .ok (.invokevirtual 577, 3) := by decide +kernel
theorem dX12_unionLaid_33 : decode cX12_unionLaid 33 = .ok (.return_, 1) := by decide +kernel
theorem dX12_unionLaid_34 : decode cX12_unionLaid 34 = .ok (.aload_n 0, 1) := by decide +kernel
theorem dX12_unionLaid_35 : decode cX12_unionLaid 35 = .ok (.getfield 122, 3) := by decide +kernel
theorem dX12_unionLaid_38 : decode cX12_unionLaid 38 = .ok (.iload_n 2, 1) := by decide +kernel
theorem dX12_unionLaid_39 : decode cX12_unionLaid 39 = .ok (.iaload, 1) := by decide +kernel
theorem dX12_unionLaid_40 : decode cX12_unionLaid 40 = .ok (.istore 6, 2) := by decide +kernel
theorem dX12_unionLaid_42 : decode cX12_unionLaid 42 = .ok (.aload_n 0, 1) := by decide +kernel
theorem dX12_unionLaid_43 : decode cX12_unionLaid 43 = .ok (.getfield 125, 3) := by decide +kernel
theorem dX12_unionLaid_46 : decode cX12_unionLaid 46 = .ok (.iload_n 2, 1) := by decide +kernel
theorem dX12_unionLaid_47 : decode cX12_unionLaid 47 = .ok (.iaload, 1) := by decide +kernel
theorem dX12_unionLaid_48 : decode cX12_unionLaid 48 = .ok (.iconst 1, 1) := by decide +kernel
theorem dX12_unionLaid_49 : decode cX12_unionLaid 49 = .ok (.isub, 1) := by decide +kernel
theorem dX12_unionLaid_50 : decode cX12_unionLaid 50 = .ok (.istore 7, 2) := by decide +kernel
theorem dX12_unionLaid_52 : decode cX12_unionLaid 52 = .ok (.iload 7, 2) := by decide +kernel
theorem dX12_unionLaid_54 : decode cX12_unionLaid 54 = .ok (.ifCond .lt 41, 3) := by decide +kernel
theorem dX12_unionLaid_57 : decode cX12_unionLaid 57 = .ok (.aload_n 0, 1) := by decide +kernel
theorem dX12_unionLaid_58 : decode cX12_unionLaid 58 = .ok (.getfield 134, 3) := by decide +kernel
theorem dX12_unionLaid_61 : decode cX12_unionLaid 61 = .ok (.bipush 16, 2) := by decide +kernel
theorem dX12_unionLaid_63 : decode cX12_unionLaid 63 = .ok (.iload_n 2, 1) := by decide +kernel
theorem dX12_unionLaid_64 : decode cX12_unionLaid 64 = .ok (.imul, 1) := by decide +kernel
theorem dX12_unionLaid_65 : decode cX12_unionLaid 65 = .ok (.iload 7, 2) := by decide +kernel
theorem dX12_unionLaid_67 : decode cX12_unionLaid 67 = .ok (.iadd, 1) := by decide +kernel
theorem dX12_unionLaid_68 : decode cX12_unionLaid 68 = .ok (.laload, 1) := by decide +kernel
theorem dX12_unionLaid_69 : decode cX12_unionLaid 69 = .ok (.lload 4, 2) := by decide +kernel
theorem dX12_unionLaid_71 : decode cX12_unionLaid 71 = .ok (.lcmp, 1) := by decide +kernel
theorem dX12_unionLaid_72 : decode cX12_unionLaid 72 = .ok (.ifCond .ne 17, 3) := by decide +kernel
theorem dX12_unionLaid_75 : decode cX12_unionLaid 75 = .ok (.aload_n 0, 1) := by decide +kernel
theorem dX12_unionLaid_76 : decode cX12_unionLaid 76 = .ok (.getfield 137, 3) := by decide +kernel
theorem dX12_unionLaid_79 : decode cX12_unionLaid 79 = .ok (.bipush 16, 2) := by decide +kernel
theorem dX12_unionLaid_81 : decode cX12_unionLaid 81 = .ok (.iload_n 2, 1) := by decide +kernel
theorem dX12_unionLaid_82 : decode cX12_unionLaid 82 = .ok (.imul, 1) := by decide +kernel
theorem dX12_unionLaid_83 : decode cX12_unionLaid 83 = .ok (.iload 7, 2) := by decide +kernel
theorem dX12_unionLaid_85 : decode cX12_unionLaid 85 = .ok (.iadd, 1) := by decide +kernel
theorem dX12_unionLaid_86 : decode cX12_unionLaid 86 = .ok (.iaload, 1) := by decide +kernel
theorem dX12_unionLaid_87 : decode cX12_unionLaid 87 = .ok (.istore 6, 2) := by decide +kernel
theorem dX12_unionLaid_89 : decode cX12_unionLaid 89 = .ok (.iinc 7 (-1), 3) := by decide +kernel
theorem dX12_unionLaid_92 : decode cX12_unionLaid 92 = .ok (.goto (-40), 3) := by decide +kernel
theorem dX12_unionLaid_95 : decode cX12_unionLaid 95 = .ok (.iload 6, 2) := by decide +kernel
theorem dX12_unionLaid_97 : decode cX12_unionLaid 97 = .ok (.ifCond .ge 11, 3) := by decide +kernel
theorem dX12_unionLaid_100 : decode cX12_unionLaid 100 = .ok (.aload_n 0, 1) := by decide +kernel
theorem dX12_unionLaid_101 : decode cX12_unionLaid 101 = .ok (.iload_n 1, 1) := by decide +kernel
theorem dX12_unionLaid_102 : decode cX12_unionLaid 102 = .ok (.bipush 7, 2) := by decide +kernel
theorem dX12_unionLaid_104 : decode cX12_unionLaid 104 = .ok (.invokevirtual 577, 3) := by decide +kernel
theorem dX12_unionLaid_107 : decode cX12_unionLaid 107 = .ok (.return_, 1) := by decide +kernel
theorem dX12_unionLaid_108 : decode cX12_unionLaid 108 = .ok (.aload_n 0, 1) := by decide +kernel
theorem dX12_unionLaid_109 : decode cX12_unionLaid 109 = .ok (.iload_n 1, 1) := by decide +kernel
theorem dX12_unionLaid_110 : decode cX12_unionLaid 110 = .ok (.iconst 0, 1) := by decide +kernel
theorem dX12_unionLaid_111 : decode cX12_unionLaid 111 = .ok (.invokevirtual 587, 3) := by decide +kernel
theorem dX12_unionLaid_114 : decode cX12_unionLaid 114 = .ok (.aload_n 0, 1) := by decide +kernel
theorem dX12_unionLaid_115 : decode cX12_unionLaid 115 = .ok (.iload 6, 2) := by decide +kernel
theorem dX12_unionLaid_117 : decode cX12_unionLaid 117 = .ok (.iload_n 1, 1) := by decide +kernel
theorem dX12_unionLaid_118 : decode cX12_unionLaid 118 = .ok (.aload_n 0, 1) := by decide +kernel
theorem dX12_unionLaid_119 : decode cX12_unionLaid 119 = .ok (.getfield 220, 3) := by decide +kernel
theorem dX12_unionLaid_122 : decode cX12_unionLaid 122 = .ok (.iload_n 1, 1) := by decide +kernel
theorem dX12_unionLaid_123 : decode cX12_unionLaid 123 = .ok (.iaload, 1) := by decide +kernel
theorem dX12_unionLaid_124 : decode cX12_unionLaid 124 = .ok (.iconst (-1), 1) := by decide +kernel
theorem dX12_unionLaid_125 : decode cX12_unionLaid 125 = .ok (.invokevirtual 590, 3) := by decide +kernel
theorem dX12_unionLaid_128 : decode cX12_unionLaid 128 = .ok (.return_, 1) := by decide +kernel
