theorem dX11_byteOf_0 : decode cX11_byteOf 0 = .ok (.lload_n 0, 1) := by decide +kernel
theorem dX11_byteOf_1 : decode cX11_byteOf 1 = .ok (.bipush 8, 2) := by decide +kernel
theorem dX11_byteOf_3 : decode cX11_byteOf 3 = .ok (.iload_n 2, 1) := by decide +kernel
theorem dX11_byteOf_4 : decode cX11_byteOf 4 = .ok (.imul, 1) := by decide +kernel
theorem dX11_byteOf_5 : decode cX11_byteOf 5 = .ok (.lushr, 1) := by decide +kernel
theorem dX11_byteOf_6 : decode cX11_byteOf 6 = .ok (.l2i, 1) := by decide +kernel
theorem dX11_byteOf_7 : decode cX11_byteOf 7 = .ok (.sipush 255, 3) := by decide +kernel
theorem dX11_byteOf_10 : decode cX11_byteOf 10 = .ok (.iand, 1) := by decide +kernel
theorem dX11_byteOf_11 : decode cX11_byteOf 11 = .ok (.ireturn, 1) := by decide +kernel
theorem dX11_cellByte_0 : decode cX11_cellByte 0 = .ok (.aload_n 0, 1) := by decide +kernel
theorem dX11_cellByte_1 : decode cX11_cellByte 1 = .ok (.iload_n 1, 1) := by decide +kernel
theorem dX11_cellByte_2 : decode cX11_cellByte 2 = .ok (.iload_n 2, 1) := by decide +kernel
theorem dX11_cellByte_3 : decode cX11_cellByte 3 = .ok (.iconst 3, 1) := by decide +kernel
theorem dX11_cellByte_4 : decode cX11_cellByte 4 = .ok (.idiv, 1) := by decide +kernel
theorem dX11_cellByte_5 : decode cX11_cellByte 5 = .ok (.iadd, 1) := by decide +kernel
theorem dX11_cellByte_6 : decode cX11_cellByte 6 = .ok (.invokevirtual 93, 3) := by decide +kernel
theorem dX11_cellByte_9 : decode cX11_cellByte 9 = .ok (.istore_n 3, 1) := by decide +kernel
theorem dX11_cellByte_10 : decode cX11_cellByte 10 = .ok (.iload_n 3, 1) := by decide +kernel
theorem dX11_cellByte_11 : decode cX11_cellByte 11 = .ok (.iconst (-1), 1) := by decide +kernel
theorem dX11_cellByte_12 : decode cX11_cellByte 12 = .ok (.if_icmp .eq 9, 3) := by decide +kernel
theorem dX11_cellByte_15 : decode cX11_cellByte 15 = .ok (.iload_n 2, 1) := by decide +kernel
theorem dX11_cellByte_16 : decode cX11_cellByte 16 = .ok (.iconst 3, 1) := by decide +kernel
theorem dX11_cellByte_17 : decode cX11_cellByte 17 = .ok (.irem, 1) := by decide +kernel
theorem dX11_cellByte_18 : decode cX11_cellByte 18 = .ok (.ifCond .ne 6, 3) := by decide +kernel
theorem dX11_cellByte_21 : decode cX11_cellByte 21 = .ok (.bipush 32, 2) := by decide +kernel
theorem dX11_cellByte_23 : decode cX11_cellByte 23 = .ok (.ireturn, 1) := by decide +kernel
theorem dX11_cellByte_24 : decode cX11_cellByte 24 = .ok (.iload_n 2, 1) := by decide +kernel
theorem dX11_cellByte_25 : decode cX11_cellByte 25 = .ok (.iconst 3, 1) := by decide +kernel
theorem dX11_cellByte_26 : decode cX11_cellByte 26 = .ok (.irem, 1) := by decide +kernel
theorem dX11_cellByte_27 : decode cX11_cellByte 27 = .ok (.iconst 1, 1) := by decide +kernel
theorem dX11_cellByte_28 : decode cX11_cellByte 28 = .ok (.if_icmp .ne 9, 3) := by decide +kernel
theorem dX11_cellByte_31 : decode cX11_cellByte 31 = .ok (.iload_n 3, 1) := by decide +kernel
theorem dX11_cellByte_32 : decode cX11_cellByte 32 = .ok (.iconst 4, 1) := by decide +kernel
theorem dX11_cellByte_33 : decode cX11_cellByte 33 = .ok (.ishr, 1) := by decide +kernel
theorem dX11_cellByte_34 : decode cX11_cellByte 34 = .ok (.goto 4, 3) := by decide +kernel
theorem dX11_cellByte_37 : decode cX11_cellByte 37 = .ok (.iload_n 3, 1) := by decide +kernel
theorem dX11_cellByte_38 : decode cX11_cellByte 38 = .ok (.invokestatic 367, 3) := by decide +kernel
theorem dX11_cellByte_41 : decode cX11_cellByte 41 = .ok (.ireturn, 1) := by decide +kernel
theorem dX11_changed_0 : decode cX11_changed 0 = .ok (.aload_n 0, 1) := by decide +kernel
theorem dX11_changed_1 : decode cX11_changed 1 = .ok (.iload_n 1, 1) := by decide +kernel
theorem dX11_changed_2 : decode cX11_changed 2 = .ok (.invokevirtual 79, 3) := by decide +kernel
theorem dX11_changed_5 : decode cX11_changed 5 = .ok (.astore_n 3, 1) := by decide +kernel
theorem dX11_changed_6 : decode cX11_changed 6 = .ok (.aload_n 3, 1) := by decide +kernel
theorem dX11_changed_7 : decode cX11_changed 7 = .ok (.ifnonnull 7, 3) := by decide +kernel
theorem dX11_changed_10 : decode cX11_changed 10 = .ok (.aconst_null, 1) := by decide +kernel
theorem dX11_changed_11 : decode cX11_changed 11 = .ok (.goto 7, 3) := by decide +kernel
theorem dX11_changed_14 : decode cX11_changed 14 = .ok (.aload_n 3, 1) := by decide +kernel
theorem dX11_changed_15 : decode cX11_changed 15 = .ok (.invokevirtual 114, 3) := by decide +kernel
theorem dX11_changed_18 : decode cX11_changed 18 = .ok (.astore 4, 2) := by decide +kernel
theorem dX11_changed_20 : decode cX11_changed 20 = .ok (.aload 4, 2) := by decide +kernel
theorem dX11_changed_22 : decode cX11_changed 22 = .ok (.ifnonnull 7, 3) := by decide +kernel
theorem dX11_changed_25 : decode cX11_changed 25 = .ok (.iconst (-1), 1) := by decide +kernel
theorem dX11_changed_26 : decode cX11_changed 26 = .ok (.goto 9, 3) := by decide +kernel
theorem dX11_changed_29 : decode cX11_changed 29 = .ok (.aload 4, 2) := by decide +kernel
theorem dX11_changed_31 : decode cX11_changed 31 = .ok (.iload_n 2, 1) := by decide +kernel
theorem dX11_changed_32 : decode cX11_changed 32 = .ok (.invokevirtual 118, 3) := by decide +kernel
theorem dX11_changed_35 : decode cX11_changed 35 = .ok (.ireturn, 1) := by decide +kernel
theorem dX11_clear_0 : decode cX11_clear 0 = .ok (.aload_n 0, 1) := by decide +kernel
theorem dX11_clear_1 : decode cX11_clear 1 = .ok (.getfield 143, 3) := by decide +kernel
theorem dX11_clear_4 : decode cX11_clear 4 = .ok (.istore_n 1, 1) := by decide +kernel
theorem dX11_clear_5 : decode cX11_clear 5 = .ok (.aload_n 0, 1) := by decide +kernel
theorem dX11_clear_6 : decode cX11_clear 6 = .ok (.iconst 0, 1) := by decide +kernel
theorem dX11_clear_7 : decode cX11_clear 7 = .ok (.putfield 143, 3) := by decide +kernel
theorem dX11_clear_10 : decode cX11_clear 10 = .ok (.iload_n 1, 1) := by decide +kernel
theorem dX11_clear_11 : decode cX11_clear 11 = .ok (.ireturn, 1) := by decide +kernel
theorem dX11_commit_0 : decode cX11_commit 0 = .ok (.aload_n 0, 1) := by decide +kernel
theorem dX11_commit_1 : decode cX11_commit 1 = .ok (.iload_n 1, 1) := by decide +kernel
theorem dX11_commit_2 : decode cX11_commit 2 = .ok (.invokevirtual 79, 3) := by decide +kernel
theorem dX11_commit_5 : decode cX11_commit 5 = .ok (.astore_n 2, 1) := by decide +kernel
theorem dX11_commit_6 : decode cX11_commit 6 = .ok (.aload_n 2, 1) := by decide +kernel
theorem dX11_commit_7 : decode cX11_commit 7 = .ok (.ifnonnull 5, 3) := by decide +kernel
theorem dX11_commit_10 : decode cX11_commit 10 = .ok (.iconst (-1), 1) := by decide +kernel
theorem dX11_commit_11 : decode cX11_commit 11 = .ok (.ireturn, 1) := by decide +kernel
theorem dX11_commit_12 : decode cX11_commit 12 = .ok (.aload_n 2, 1) := by decide +kernel
theorem dX11_commit_13 : decode cX11_commit 13 = .ok (.getfield 83, 3) := by decide +kernel
theorem dX11_commit_16 : decode cX11_commit 16 = .ok (.ifCond .ne 8, 3) := by decide +kernel
theorem dX11_commit_19 : decode cX11_commit 19 = .ok (.bipush (-7), 2) := by decide +kernel
theorem dX11_commit_21 : decode cX11_commit 21 = .ok (.goto 7, 3) := by decide +kernel
theorem dX11_commit_24 : decode cX11_commit 24 = .ok (.aload_n 2, 1) := by decide +kernel
theorem dX11_commit_25 : decode cX11_commit 25 = .ok (.invokevirtual 100, 3) := by decide +kernel
theorem dX11_commit_28 : decode cX11_commit 28 = .ok (.ireturn, 1) := by decide +kernel
theorem dX11_count_0 : decode cX11_count 0 = .ok (.iload_n 1, 1) := by decide +kernel
theorem dX11_count_1 : decode cX11_count 1 = .ok (.tableswitch 96 0 7 #[47, 52, 60, 68, 76, 81, 86, 91], 47) := by decide +kernel
theorem dX11_count_48 : decode cX11_count 48 = .ok (.aload_n 0, 1) := by decide +kernel
theorem dX11_count_49 : decode cX11_count 49 = .ok (.getfield 74, 3) := by decide +kernel
theorem dX11_count_52 : decode cX11_count 52 = .ok (.ireturn, 1) := by decide +kernel
theorem dX11_count_53 : decode cX11_count 53 = .ok (.aload_n 0, 1) := by decide +kernel
theorem dX11_count_54 : decode cX11_count 54 = .ok (.getfield 18, 3) := by decide +kernel
theorem dX11_count_57 : decode cX11_count 57 = .ok (.getfield 123, 3) := by decide +kernel
theorem dX11_count_60 : decode cX11_count 60 = .ok (.ireturn, 1) := by decide +kernel
theorem dX11_count_61 : decode cX11_count 61 = .ok (.aload_n 0, 1) := by decide +kernel
theorem dX11_count_62 : decode cX11_count 62 = .ok (.getfield 39, 3) := by decide +kernel
theorem dX11_count_65 : decode cX11_count 65 = .ok (.getfield 146, 3) := by decide +kernel
theorem dX11_count_68 : decode cX11_count 68 = .ok (.ireturn, 1) := by decide +kernel
theorem dX11_count_69 : decode cX11_count 69 = .ok (.aload_n 0, 1) := by decide +kernel
theorem dX11_count_70 : decode cX11_count 70 = .ok (.getfield 39, 3) := by decide +kernel
theorem dX11_count_73 : decode cX11_count 73 = .ok (.getfield 373, 3) := by decide +kernel
theorem dX11_count_76 : decode cX11_count 76 = .ok (.ireturn, 1) := by decide +kernel
theorem dX11_count_77 : decode cX11_count 77 = .ok (.aload_n 0, 1) := by decide +kernel
theorem dX11_count_78 : decode cX11_count 78 = .ok (.getfield 143, 3) := by decide +kernel
theorem dX11_count_81 : decode cX11_count 81 = .ok (.ireturn, 1) := by decide +kernel
theorem dX11_count_82 : decode cX11_count 82 = .ok (.aload_n 0, 1) := by decide +kernel
theorem dX11_count_83 : decode cX11_count 83 = .ok (.invokevirtual 376, 3) := by decide +kernel
theorem dX11_count_86 : decode cX11_count 86 = .ok (.ireturn, 1) := by decide +kernel
theorem dX11_count_87 : decode cX11_count 87 = .ok (.aload_n 0, 1) := by decide +kernel
theorem dX11_count_88 : decode cX11_count 88 = .ok (.invokevirtual 379, 3) := by decide +kernel
theorem dX11_count_91 : decode cX11_count 91 = .ok (.ireturn, 1) := by decide +kernel
theorem dX11_count_92 : decode cX11_count 92 = .ok (.aload_n 0, 1) := by decide +kernel
theorem dX11_count_93 : decode cX11_count 93 = .ok (.invokevirtual 382, 3) := by decide +kernel
theorem dX11_count_96 : decode cX11_count 96 = .ok (.ireturn, 1) := by decide +kernel
theorem dX11_count_97 : decode cX11_count 97 = .ok (.iconst (-1), 1) := by decide +kernel
theorem dX11_count_98 : decode cX11_count 98 = .ok (.ireturn, 1) := by decide +kernel
theorem dX11_covered_0 : decode cX11_covered 0 = .ok (.aload_n 0, 1) := by decide +kernel
theorem dX11_covered_1 : decode cX11_covered 1 = .ok (.iload_n 1, 1) := by decide +kernel
theorem dX11_covered_2 : decode cX11_covered 2 = .ok (.invokevirtual 173, 3) := by decide +kernel
theorem dX11_covered_5 : decode cX11_covered 5 = .ok (.astore_n 3, 1) := by decide +kernel
theorem dX11_covered_6 : decode cX11_covered 6 = .ok (.aload_n 3, 1) := by decide +kernel
theorem dX11_covered_7 : decode cX11_covered 7 = .ok (.ifnonnull 7, 3) := by decide +kernel
theorem dX11_covered_10 : decode cX11_covered 10 = .ok (.iconst (-1), 1) := by decide +kernel
theorem dX11_covered_11 : decode cX11_covered 11 = .ok (.goto 8, 3) := by decide +kernel
theorem dX11_covered_14 : decode cX11_covered 14 = .ok (.aload_n 3, 1) := by decide +kernel
theorem dX11_covered_15 : decode cX11_covered 15 = .ok (.iload_n 2, 1) := by decide +kernel
theorem dX11_covered_16 : decode cX11_covered 16 = .ok (.invokevirtual 347, 3) := by decide +kernel
theorem dX11_covered_19 : decode cX11_covered 19 = .ok (.ireturn, 1) := by decide +kernel
theorem dX11_cut_0 : decode cX11_cut 0 = .ok (.iload_n 1, 1) := by decide +kernel
theorem dX11_cut_1 : decode cX11_cut 1 = .ok (.ifCond .lt 14, 3) := by decide +kernel
theorem dX11_cut_4 : decode cX11_cut 4 = .ok (.iload_n 1, 1) := by decide +kernel
theorem dX11_cut_5 : decode cX11_cut 5 = .ok (.aload_n 0, 1) := by decide +kernel
theorem dX11_cut_6 : decode cX11_cut 6 = .ok (.getfield 18, 3) := by decide +kernel
theorem dX11_cut_9 : decode cX11_cut 9 = .ok (.getfield 123, 3) := by decide +kernel
theorem dX11_cut_12 : decode cX11_cut 12 = .ok (.if_icmp .le 6, 3) := by decide +kernel
theorem dX11_cut_15 : decode cX11_cut 15 = .ok (.bipush (-3), 2) := by decide +kernel
theorem dX11_cut_17 : decode cX11_cut 17 = .ok (.ireturn, 1) := by decide +kernel
theorem dX11_cut_18 : decode cX11_cut 18 = .ok (.aload_n 0, 1) := by decide +kernel
theorem dX11_cut_19 : decode cX11_cut 19 = .ok (.getfield 18, 3) := by decide +kernel
theorem dX11_cut_22 : decode cX11_cut 22 = .ok (.iload_n 1, 1) := by decide +kernel
theorem dX11_cut_23 : decode cX11_cut 23 = .ok (.putfield 123, 3) := by decide +kernel
theorem dX11_cut_26 : decode cX11_cut 26 = .ok (.iload_n 1, 1) := by decide +kernel
theorem dX11_cut_27 : decode cX11_cut 27 = .ok (.ireturn, 1) := by decide +kernel
theorem dX11_describe_0 : decode cX11_describe 0 = .ok (.aload_n 0, 1) := by decide +kernel
theorem dX11_describe_1 : decode cX11_describe 1 = .ok (.getfield 18, 3) := by decide +kernel
theorem dX11_describe_4 : decode cX11_describe 4 = .ok (.invokevirtual 127, 3) := by decide +kernel
theorem dX11_describe_7 : decode cX11_describe 7 = .ok (.aload_n 0, 1) := by decide +kernel
theorem dX11_describe_8 : decode cX11_describe 8 = .ok (.getfield 25, 3) := by decide +kernel
theorem dX11_describe_11 : decode cX11_describe 11 = .ok (.aload_n 0, 1) := by decide +kernel
theorem dX11_describe_12 : decode cX11_describe 12 = .ok (.getfield 18, 3) := by decide +kernel
theorem dX11_describe_15 : decode cX11_describe 15 = .ok (.aload_n 0, 1) := by decide +kernel
theorem dX11_describe_16 : decode cX11_describe 16 = .ok (.getfield 43, 3) := by decide +kernel
theorem dX11_describe_19 : decode cX11_describe 19 = .ok (.invokevirtual 130, 3) := by decide +kernel
theorem dX11_describe_22 : decode cX11_describe 22 = .ok (.istore_n 1, 1) := by decide +kernel
theorem dX11_describe_23 : decode cX11_describe 23 = .ok (.aload_n 0, 1) := by decide +kernel
theorem dX11_describe_24 : decode cX11_describe 24 = .ok (.aload_n 0, 1) := by decide +kernel
theorem dX11_describe_25 : decode cX11_describe 25 = .ok (.getfield 25, 3) := by decide +kernel
theorem dX11_describe_28 : decode cX11_describe 28 = .ok (.getfield 134, 3) := by decide +kernel
theorem dX11_describe_31 : decode cX11_describe 31 = .ok (.putfield 137, 3) := by decide +kernel
theorem dX11_describe_34 : decode cX11_describe 34 = .ok (.iload_n 1, 1) := by decide +kernel
theorem dX11_describe_35 : decode cX11_describe 35 = .ok (.ifCond .ne 14, 3) := by decide +kernel
theorem dX11_describe_38 : decode cX11_describe 38 = .ok (.bipush (-10), 2) := by decide +kernel
theorem dX11_describe_40 : decode cX11_describe 40 = .ok (.aload_n 0, 1) := by decide +kernel
theorem dX11_describe_41 : decode cX11_describe 41 = .ok (.getfield 25, 3) := by decide +kernel
theorem dX11_describe_44 : decode cX11_describe 44 = .ok (.getfield 140, 3) := by decide +kernel
theorem dX11_describe_47 : decode cX11_describe 47 = .ok (.isub, 1) := by decide +kernel
theorem dX11_describe_48 : decode cX11_describe 48 = .ok (.ireturn, 1) := by decide +kernel
theorem dX11_describe_49 : decode cX11_describe 49 = .ok (.aload_n 0, 1) := by decide +kernel
theorem dX11_describe_50 : decode cX11_describe 50 = .ok (.getfield 39, 3) := by decide +kernel
theorem dX11_describe_53 : decode cX11_describe 53 = .ok (.astore_n 2, 1) := by decide +kernel
theorem dX11_describe_54 : decode cX11_describe 54 = .ok (.aload_n 0, 1) := by decide +kernel
theorem dX11_describe_55 : decode cX11_describe 55 = .ok (.aload_n 0, 1) := by decide +kernel
theorem dX11_describe_56 : decode cX11_describe 56 = .ok (.getfield 43, 3) := by decide +kernel
theorem dX11_describe_59 : decode cX11_describe 59 = .ok (.putfield 39, 3) := by decide +kernel
theorem dX11_describe_62 : decode cX11_describe 62 = .ok (.aload_n 0, 1) := by decide +kernel
theorem dX11_describe_63 : decode cX11_describe 63 = .ok (.aload_n 2, 1) := by decide +kernel
theorem dX11_describe_64 : decode cX11_describe 64 = .ok (.putfield 43, 3) := by decide +kernel
theorem dX11_describe_67 : decode cX11_describe 67 = .ok (.aload_n 0, 1) := by decide +kernel
theorem dX11_describe_68 : decode cX11_describe 68 = .ok (.iconst 0, 1) := by decide +kernel
theorem dX11_describe_69 : decode cX11_describe 69 = .ok (.putfield 143, 3) := by decide +kernel
theorem dX11_describe_72 : decode cX11_describe 72 = .ok (.aload_n 0, 1) := by decide +kernel
theorem dX11_describe_73 : decode cX11_describe 73 = .ok (.getfield 39, 3) := by decide +kernel
theorem dX11_describe_76 : decode cX11_describe 76 = .ok (.getfield 146, 3) := by decide +kernel
theorem dX11_describe_79 : decode cX11_describe 79 = .ok (.ireturn, 1) := by decide +kernel
theorem dX11_differ_0 : decode cX11_differ 0 = .ok (.aload_n 0, 1) := by decide +kernel
theorem dX11_differ_1 : decode cX11_differ 1 = .ok (.iload_n 1, 1) := by decide +kernel
theorem dX11_differ_2 : decode cX11_differ 2 = .ok (.invokevirtual 79, 3) := by decide +kernel
theorem dX11_differ_5 : decode cX11_differ 5 = .ok (.astore 5, 2) := by decide +kernel
theorem dX11_differ_7 : decode cX11_differ 7 = .ok (.aload_n 0, 1) := by decide +kernel
theorem dX11_differ_8 : decode cX11_differ 8 = .ok (.iload_n 2, 1) := by decide +kernel
theorem dX11_differ_9 : decode cX11_differ 9 = .ok (.invokevirtual 79, 3) := by decide +kernel
theorem dX11_differ_12 : decode cX11_differ 12 = .ok (.astore 6, 2) := by decide +kernel
theorem dX11_differ_14 : decode cX11_differ 14 = .ok (.aload 5, 2) := by decide +kernel
theorem dX11_differ_16 : decode cX11_differ 16 = .ok (.ifnull 8, 3) := by decide +kernel
theorem dX11_differ_19 : decode cX11_differ 19 = .ok (.aload 6, 2) := by decide +kernel
theorem dX11_differ_21 : decode cX11_differ 21 = .ok (.ifnonnull 5, 3) := by decide +kernel
theorem dX11_differ_24 : decode cX11_differ 24 = .ok (.iconst (-1), 1) := by decide +kernel
theorem dX11_differ_25 : decode cX11_differ 25 = .ok (.ireturn, 1) := by decide +kernel
theorem dX11_differ_26 : decode cX11_differ 26 = .ok (.aload 5, 2) := by decide +kernel
theorem dX11_differ_28 : decode cX11_differ 28 = .ok (.getfield 86, 3) := by decide +kernel
theorem dX11_differ_31 : decode cX11_differ 31 = .ok (.aload 6, 2) := by decide +kernel
theorem dX11_differ_33 : decode cX11_differ 33 = .ok (.getfield 86, 3) := by decide +kernel
theorem dX11_differ_36 : decode cX11_differ 36 = .ok (.invokestatic 358, 3) := by decide +kernel
theorem dX11_differ_39 : decode cX11_differ 39 = .ok (.istore 7, 2) := by decide +kernel
theorem dX11_differ_41 : decode cX11_differ 41 = .ok (.iconst 0, 1) := by decide +kernel
theorem dX11_differ_42 : decode cX11_differ 42 = .ok (.istore 8, 2) := by decide +kernel
theorem dX11_differ_44 : decode cX11_differ 44 = .ok (.iload 8, 2) := by decide +kernel
theorem dX11_differ_46 : decode cX11_differ 46 = .ok (.iload 7, 2) := by decide +kernel
theorem dX11_differ_48 : decode cX11_differ 48 = .ok (.if_icmp .ge 38, 3) := by decide +kernel
theorem dX11_differ_51 : decode cX11_differ 51 = .ok (.aload_n 0, 1) := by decide +kernel
theorem dX11_differ_52 : decode cX11_differ 52 = .ok (.getfield 71, 3) := by decide +kernel
theorem dX11_differ_55 : decode cX11_differ 55 = .ok (.iload 8, 2) := by decide +kernel
theorem dX11_differ_57 : decode cX11_differ 57 = .ok (.aload 5, 2) := by decide +kernel
theorem dX11_differ_59 : decode cX11_differ 59 = .ok (.iload 8, 2) := by decide +kernel
theorem dX11_differ_61 : decode cX11_differ 61 = .ok (.invokevirtual 93, 3) := by decide +kernel
theorem dX11_differ_64 : decode cX11_differ 64 = .ok (.aload 6, 2) := by decide +kernel
theorem dX11_differ_66 : decode cX11_differ 66 = .ok (.iload 8, 2) := by decide +kernel
theorem dX11_differ_68 : decode cX11_differ 68 = .ok (.invokevirtual 93, 3) := by decide +kernel
theorem dX11_differ_71 : decode cX11_differ 71 = .ok (.if_icmp .ne 7, 3) := by decide +kernel
theorem dX11_differ_74 : decode cX11_differ 74 = .ok (.iconst 0, 1) := by decide +kernel
theorem dX11_differ_75 : decode cX11_differ 75 = .ok (.goto 4, 3) := by decide +kernel
theorem dX11_differ_78 : decode cX11_differ 78 = .ok (.iconst 1, 1) := by decide +kernel
theorem dX11_differ_79 : decode cX11_differ 79 = .ok (.iastore, 1) := by decide +kernel
theorem dX11_differ_80 : decode cX11_differ 80 = .ok (.iinc 8 1, 3) := by decide +kernel
theorem dX11_differ_83 : decode cX11_differ 83 = .ok (.goto (-39), 3) := by decide +kernel
theorem dX11_differ_86 : decode cX11_differ 86 = .ok (.aload_n 0, 1) := by decide +kernel
theorem dX11_differ_87 : decode cX11_differ 87 = .ok (.iload 7, 2) := by decide +kernel
theorem dX11_differ_89 : decode cX11_differ 89 = .ok (.iload_n 3, 1) := by decide +kernel
theorem dX11_differ_90 : decode cX11_differ 90 = .ok (.iload 4, 2) := by decide +kernel
theorem dX11_differ_92 : decode cX11_differ 92 = .ok (.invokevirtual 354, 3) := by decide +kernel
theorem dX11_differ_95 : decode cX11_differ 95 = .ok (.ireturn, 1) := by decide +kernel
theorem dX11_drop_0 : decode cX11_drop 0 = .ok (.aload_n 0, 1) := by decide +kernel
theorem dX11_drop_1 : decode cX11_drop 1 = .ok (.iload_n 1, 1) := by decide +kernel
theorem dX11_drop_2 : decode cX11_drop 2 = .ok (.invokevirtual 79, 3) := by decide +kernel
theorem dX11_drop_5 : decode cX11_drop 5 = .ok (.astore_n 2, 1) := by decide +kernel
theorem dX11_drop_6 : decode cX11_drop 6 = .ok (.aload_n 2, 1) := by decide +kernel
theorem dX11_drop_7 : decode cX11_drop 7 = .ok (.ifnonnull 5, 3) := by decide +kernel
theorem dX11_drop_10 : decode cX11_drop 10 = .ok (.iconst (-1), 1) := by decide +kernel
theorem dX11_drop_11 : decode cX11_drop 11 = .ok (.ireturn, 1) := by decide +kernel
theorem dX11_drop_12 : decode cX11_drop 12 = .ok (.aload_n 2, 1) := by decide +kernel
theorem dX11_drop_13 : decode cX11_drop 13 = .ok (.getfield 83, 3) := by decide +kernel
theorem dX11_drop_16 : decode cX11_drop 16 = .ok (.ifCond .ne 8, 3) := by decide +kernel
theorem dX11_drop_19 : decode cX11_drop 19 = .ok (.bipush (-7), 2) := by decide +kernel
theorem dX11_drop_21 : decode cX11_drop 21 = .ok (.goto 7, 3) := by decide +kernel
theorem dX11_drop_24 : decode cX11_drop 24 = .ok (.aload_n 2, 1) := by decide +kernel
theorem dX11_drop_25 : decode cX11_drop 25 = .ok (.invokevirtual 104, 3) := by decide +kernel
theorem dX11_drop_28 : decode cX11_drop 28 = .ok (.ireturn, 1) := by decide +kernel
theorem dX11_evaluate_0 : decode cX11_evaluate 0 = .ok (.aload_n 0, 1) := by decide +kernel
theorem dX11_evaluate_1 : decode cX11_evaluate 1 = .ok (.iload_n 1, 1) := by decide +kernel
theorem dX11_evaluate_2 : decode cX11_evaluate 2 = .ok (.invokevirtual 173, 3) := by decide +kernel
theorem dX11_evaluate_5 : decode cX11_evaluate 5 = .ok (.astore_n 3, 1) := by decide +kernel
theorem dX11_evaluate_6 : decode cX11_evaluate 6 = .ok (.aload_n 0, 1) := by decide +kernel
theorem dX11_evaluate_7 : decode cX11_evaluate 7 = .ok (.iload_n 1, 1) := by decide +kernel
theorem dX11_evaluate_8 : decode cX11_evaluate 8 = .ok (.iload_n 2, 1) := by decide +kernel
theorem dX11_evaluate_9 : decode cX11_evaluate 9 = .ok (.invokevirtual 188, 3) := by decide +kernel
theorem dX11_evaluate_12 : decode cX11_evaluate 12 = .ok (.astore 4, 2) := by decide +kernel
theorem dX11_evaluate_14 : decode cX11_evaluate 14 = .ok (.aload_n 3, 1) := by decide +kernel
theorem dX11_evaluate_15 : decode cX11_evaluate 15 = .ok (.ifnull 8, 3) := by decide +kernel
theorem dX11_evaluate_18 : decode cX11_evaluate 18 = .ok (.aload 4, 2) := by decide +kernel
theorem dX11_evaluate_20 : decode cX11_evaluate 20 = .ok (.ifnonnull 5, 3) := by decide +kernel
theorem dX11_evaluate_23 : decode cX11_evaluate 23 = .ok (.iconst (-1), 1) := by decide +kernel
theorem dX11_evaluate_24 : decode cX11_evaluate 24 = .ok (.ireturn, 1) := by decide +kernel
theorem dX11_evaluate_25 : decode cX11_evaluate 25 = .ok (.aload 4, 2) := by decide +kernel
theorem dX11_evaluate_27 : decode cX11_evaluate 27 = .ok (.getfield 192, 3) := by decide +kernel
theorem dX11_evaluate_30 : decode cX11_evaluate 30 = .ok (.ifCond .eq 6, 3) := by decide +kernel
theorem dX11_evaluate_33 : decode cX11_evaluate 33 = .ok (.bipush (-4), 2) := by decide +kernel
theorem dX11_evaluate_35 : decode cX11_evaluate 35 = .ok (.ireturn, 1) := by decide +kernel
theorem dX11_evaluate_36 : decode cX11_evaluate 36 = .ok (.aload_n 0, 1) := by decide +kernel
theorem dX11_evaluate_37 : decode cX11_evaluate 37 = .ok (.getfield 18, 3) := by decide +kernel
theorem dX11_evaluate_40 : decode cX11_evaluate 40 = .ok (.invokevirtual 127, 3) := by decide +kernel
theorem dX11_evaluate_43 : decode cX11_evaluate 43 = .ok (.aload_n 0, 1) := by decide +kernel
theorem dX11_evaluate_44 : decode cX11_evaluate 44 = .ok (.getfield 25, 3) := by decide +kernel
theorem dX11_evaluate_47 : decode cX11_evaluate 47 = .ok (.aload_n 0, 1) := by decide +kernel
theorem dX11_evaluate_48 : decode cX11_evaluate 48 = .ok (.getfield 18, 3) := by decide +kernel
theorem dX11_evaluate_51 : decode cX11_evaluate 51 = .ok (.aload_n 0, 1) := by decide +kernel
theorem dX11_evaluate_52 : decode cX11_evaluate 52 = .ok (.getfield 39, 3) := by decide +kernel
theorem dX11_evaluate_55 : decode cX11_evaluate 55 = .ok (.aload 4, 2) := by decide +kernel
theorem dX11_evaluate_57 : decode cX11_evaluate 57 = .ok (.getfield 217, 3) := by decide +kernel
theorem dX11_evaluate_60 : decode cX11_evaluate 60 = .ok (.aload_n 0, 1) := by decide +kernel
theorem dX11_evaluate_61 : decode cX11_evaluate 61 = .ok (.getfield 49, 3) := by decide +kernel
theorem dX11_evaluate_64 : decode cX11_evaluate 64 = .ok (.invokevirtual 270, 3) := by decide +kernel
theorem dX11_evaluate_67 : decode cX11_evaluate 67 = .ok (.istore 5, 2) := by decide +kernel
theorem dX11_evaluate_69 : decode cX11_evaluate 69 = .ok (.aload_n 0, 1) := by decide +kernel
theorem dX11_evaluate_70 : decode cX11_evaluate 70 = .ok (.aload_n 0, 1) := by decide +kernel
theorem dX11_evaluate_71 : decode cX11_evaluate 71 = .ok (.getfield 25, 3) := by decide +kernel
theorem dX11_evaluate_74 : decode cX11_evaluate 74 = .ok (.getfield 134, 3) := by decide +kernel
theorem dX11_evaluate_77 : decode cX11_evaluate 77 = .ok (.putfield 137, 3) := by decide +kernel
theorem dX11_evaluate_80 : decode cX11_evaluate 80 = .ok (.iload 5, 2) := by decide +kernel
theorem dX11_evaluate_82 : decode cX11_evaluate 82 = .ok (.ifCond .ne 14, 3) := by decide +kernel
theorem dX11_evaluate_85 : decode cX11_evaluate 85 = .ok (.bipush (-10), 2) := by decide +kernel
theorem dX11_evaluate_87 : decode cX11_evaluate 87 = .ok (.aload_n 0, 1) := by decide +kernel
theorem dX11_evaluate_88 : decode cX11_evaluate 88 = .ok (.getfield 25, 3) := by decide +kernel
theorem dX11_evaluate_91 : decode cX11_evaluate 91 = .ok (.getfield 140, 3) := by decide +kernel
theorem dX11_evaluate_94 : decode cX11_evaluate 94 = .ok (.isub, 1) := by decide +kernel
theorem dX11_evaluate_95 : decode cX11_evaluate 95 = .ok (.ireturn, 1) := by decide +kernel
theorem dX11_evaluate_96 : decode cX11_evaluate 96 = .ok (.aload_n 0, 1) := by decide +kernel
theorem dX11_evaluate_97 : decode cX11_evaluate 97 = .ok (.getfield 32, 3) := by decide +kernel
theorem dX11_evaluate_100 : decode cX11_evaluate 100 = .ok (.aload_n 0, 1) := by decide +kernel
theorem dX11_evaluate_101 : decode cX11_evaluate 101 = .ok (.getfield 49, 3) := by decide +kernel
theorem dX11_evaluate_104 : decode cX11_evaluate 104 = .ok (.iconst 0, 1) := by decide +kernel
theorem dX11_evaluate_105 : decode cX11_evaluate 105 = .ok (.aload 4, 2) := by decide +kernel
theorem dX11_evaluate_107 : decode cX11_evaluate 107 = .ok (.aload 4, 2) := by decide +kernel
theorem dX11_evaluate_109 : decode cX11_evaluate 109 = .ok (.getfield 200, 3) := by decide +kernel
theorem dX11_evaluate_112 : decode cX11_evaluate 112 = .ok (.aload_n 3, 1) := by decide +kernel
theorem dX11_evaluate_113 : decode cX11_evaluate 113 = .ok (.getfield 177, 3) := by decide +kernel
theorem dX11_evaluate_116 : decode cX11_evaluate 116 = .ok (.invokevirtual 274, 3) := by decide +kernel
theorem dX11_evaluate_119 : decode cX11_evaluate 119 = .ok (.lstore 6, 2) := by decide +kernel
theorem dX11_evaluate_121 : decode cX11_evaluate 121 = .ok (.aload_n 0, 1) := by decide +kernel
theorem dX11_evaluate_122 : decode cX11_evaluate 122 = .ok (.getfield 32, 3) := by decide +kernel
theorem dX11_evaluate_125 : decode cX11_evaluate 125 = .ok (.getfield 278, 3) := by decide +kernel
theorem dX11_evaluate_128 : decode cX11_evaluate 128 = .ok (.ifCond .eq 6, 3) := by decide +kernel
theorem dX11_evaluate_131 : decode cX11_evaluate 131 = .ok (.bipush (-3), 2) := by decide +kernel
theorem dX11_evaluate_133 : decode cX11_evaluate 133 = .ok (.ireturn, 1) := by decide +kernel
theorem dX11_evaluate_134 : decode cX11_evaluate 134 = .ok (.aload_n 0, 1) := by decide +kernel
theorem dX11_evaluate_135 : decode cX11_evaluate 135 = .ok (.lload 6, 2) := by decide +kernel
theorem dX11_evaluate_137 : decode cX11_evaluate 137 = .ok (.putfield 281, 3) := by decide +kernel
theorem dX11_evaluate_140 : decode cX11_evaluate 140 = .ok (.iconst 0, 1) := by decide +kernel
theorem dX11_evaluate_141 : decode cX11_evaluate 141 = .ok (.ireturn, 1) := by decide +kernel
theorem dX11_faults_0 : decode cX11_faults 0 = .ok (.aload_n 0, 1) := by decide +kernel
theorem dX11_faults_1 : decode cX11_faults 1 = .ok (.iload_n 1, 1) := by decide +kernel
theorem dX11_faults_2 : decode cX11_faults 2 = .ok (.invokevirtual 173, 3) := by decide +kernel
theorem dX11_faults_5 : decode cX11_faults 5 = .ok (.astore_n 3, 1) := by decide +kernel
theorem dX11_faults_6 : decode cX11_faults 6 = .ok (.aload_n 3, 1) := by decide +kernel
theorem dX11_faults_7 : decode cX11_faults 7 = .ok (.ifnonnull 5, 3) := by decide +kernel
theorem dX11_faults_10 : decode cX11_faults 10 = .ok (.iconst (-1), 1) := by decide +kernel
theorem dX11_faults_11 : decode cX11_faults 11 = .ok (.ireturn, 1) := by decide +kernel
theorem dX11_faults_12 : decode cX11_faults 12 = .ok (.iload_n 2, 1) := by decide +kernel
theorem dX11_faults_13 : decode cX11_faults 13 = .ok (.tableswitch 42 0 2 #[27, 32, 37], 27) := by decide +kernel
theorem dX11_faults_40 : decode cX11_faults 40 = .ok (.aload_n 3, 1) := by decide +kernel
theorem dX11_faults_41 : decode cX11_faults 41 = .ok (.invokevirtual 254, 3) := by decide +kernel
theorem dX11_faults_44 : decode cX11_faults 44 = .ok (.ireturn, 1) := by decide +kernel
theorem dX11_faults_45 : decode cX11_faults 45 = .ok (.aload_n 3, 1) := by decide +kernel
theorem dX11_faults_46 : decode cX11_faults 46 = .ok (.invokevirtual 257, 3) := by decide +kernel
theorem dX11_faults_49 : decode cX11_faults 49 = .ok (.ireturn, 1) := by decide +kernel
theorem dX11_faults_50 : decode cX11_faults 50 = .ok (.aload_n 3, 1) := by decide +kernel
theorem dX11_faults_51 : decode cX11_faults 51 = .ok (.getfield 187, 3) := by decide +kernel
theorem dX11_faults_54 : decode cX11_faults 54 = .ok (.ireturn, 1) := by decide +kernel
theorem dX11_faults_55 : decode cX11_faults 55 = .ok (.iconst (-1), 1) := by decide +kernel
theorem dX11_faults_56 : decode cX11_faults 56 = .ok (.ireturn, 1) := by decide +kernel
theorem dX11_feed_0 : decode cX11_feed 0 = .ok (.iload_n 3, 1) := by decide +kernel
theorem dX11_feed_1 : decode cX11_feed 1 = .ok (.iconst 1, 1) := by decide +kernel
theorem dX11_feed_2 : decode cX11_feed 2 = .ok (.if_icmp .lt 9, 3) := by decide +kernel
theorem dX11_feed_5 : decode cX11_feed 5 = .ok (.iload_n 3, 1) := by decide +kernel
theorem dX11_feed_6 : decode cX11_feed 6 = .ok (.bipush 8, 2) := by decide +kernel
theorem dX11_feed_8 : decode cX11_feed 8 = .ok (.if_icmp .le 6, 3) := by decide +kernel
theorem dX11_feed_11 : decode cX11_feed 11 = .ok (.bipush (-3), 2) := by decide +kernel
theorem dX11_feed_13 : decode cX11_feed 13 = .ok (.ireturn, 1) := by decide +kernel
theorem dX11_feed_14 : decode cX11_feed 14 = .ok (.aload_n 0, 1) := by decide +kernel
theorem dX11_feed_15 : decode cX11_feed 15 = .ok (.getfield 18, 3) := by decide +kernel
theorem dX11_feed_18 : decode cX11_feed 18 = .ok (.getfield 123, 3) := by decide +kernel
theorem dX11_feed_21 : decode cX11_feed 21 = .ok (.iload_n 3, 1) := by decide +kernel
theorem dX11_feed_22 : decode cX11_feed 22 = .ok (.iadd, 1) := by decide +kernel
theorem dX11_feed_23 : decode cX11_feed 23 = .ok (.sipush 3000, 3) := by decide +kernel
theorem dX11_feed_26 : decode cX11_feed 26 = .ok (.if_icmp .le 6, 3) := by decide +kernel
theorem dX11_feed_29 : decode cX11_feed 29 = .ok (.bipush (-2), 2) := by decide +kernel
theorem dX11_feed_31 : decode cX11_feed 31 = .ok (.ireturn, 1) := by decide +kernel
theorem dX11_feed_32 : decode cX11_feed 32 = .ok (.aload_n 0, 1) := by decide +kernel
theorem dX11_feed_33 : decode cX11_feed 33 = .ok (.getfield 18, 3) := by decide +kernel
theorem dX11_feed_36 : decode cX11_feed 36 = .ok (.lload_n 1, 1) := by decide +kernel
theorem dX11_feed_37 : decode cX11_feed 37 = .ok (.iload_n 3, 1) := by decide +kernel
theorem dX11_feed_38 : decode cX11_feed 38 = .ok (.invokevirtual 126, 3) := by decide +kernel
theorem dX11_feed_41 : decode cX11_feed 41 = .ok (.aload_n 0, 1) := by decide +kernel
theorem dX11_feed_42 : decode cX11_feed 42 = .ok (.getfield 18, 3) := by decide +kernel
theorem dX11_feed_45 : decode cX11_feed 45 = .ok (.getfield 123, 3) := by decide +kernel
theorem dX11_feed_48 : decode cX11_feed 48 = .ok (.ireturn, 1) := by decide +kernel
theorem dX11_figureOf_0 : decode cX11_figureOf 0 = .ok (.iload_n 0, 1) := by decide +kernel
theorem dX11_figureOf_1 : decode cX11_figureOf 1 = .ok (.bipush 15, 2) := by decide +kernel
theorem dX11_figureOf_3 : decode cX11_figureOf 3 = .ok (.iand, 1) := by decide +kernel
theorem dX11_figureOf_4 : decode cX11_figureOf 4 = .ok (.istore_n 1, 1) := by decide +kernel
theorem dX11_figureOf_5 : decode cX11_figureOf 5 = .ok (.iload_n 1, 1) := by decide +kernel
theorem dX11_figureOf_6 : decode cX11_figureOf 6 = .ok (.bipush 10, 2) := by decide +kernel
theorem dX11_figureOf_8 : decode cX11_figureOf 8 = .ok (.if_icmp .ge 10, 3) := by decide +kernel
theorem dX11_figureOf_11 : decode cX11_figureOf 11 = .ok (.bipush 48, 2) := by decide +kernel
theorem dX11_figureOf_13 : decode cX11_figureOf 13 = .ok (.iload_n 1, 1) := by decide +kernel
theorem dX11_figureOf_14 : decode cX11_figureOf 14 = .ok (.iadd, 1) := by decide +kernel
theorem dX11_figureOf_15 : decode cX11_figureOf 15 = .ok (.goto 10, 3) := by decide +kernel
theorem dX11_figureOf_18 : decode cX11_figureOf 18 = .ok (.bipush 97, 2) := by decide +kernel
theorem dX11_figureOf_20 : decode cX11_figureOf 20 = .ok (.iload_n 1, 1) := by decide +kernel
theorem dX11_figureOf_21 : decode cX11_figureOf 21 = .ok (.iadd, 1) := by decide +kernel
theorem dX11_figureOf_22 : decode cX11_figureOf 22 = .ok (.bipush 10, 2) := by decide +kernel
theorem dX11_figureOf_24 : decode cX11_figureOf 24 = .ok (.isub, 1) := by decide +kernel
theorem dX11_figureOf_25 : decode cX11_figureOf 25 = .ok (.ireturn, 1) := by decide +kernel
theorem dX11_find_0 : decode cX11_find 0 = .ok (.aload_n 0, 1) := by decide +kernel
theorem dX11_find_1 : decode cX11_find 1 = .ok (.iload_n 1, 1) := by decide +kernel
theorem dX11_find_2 : decode cX11_find 2 = .ok (.iconst 0, 1) := by decide +kernel
theorem dX11_find_3 : decode cX11_find 3 = .ok (.invokevirtual 188, 3) := by decide +kernel
theorem dX11_find_6 : decode cX11_find 6 = .ok (.astore_n 2, 1) := by decide +kernel
theorem dX11_find_7 : decode cX11_find 7 = .ok (.aload_n 2, 1) := by decide +kernel
theorem dX11_find_8 : decode cX11_find 8 = .ok (.ifnonnull 5, 3) := by decide +kernel
theorem dX11_find_11 : decode cX11_find 11 = .ok (.iconst (-1), 1) := by decide +kernel
theorem dX11_find_12 : decode cX11_find 12 = .ok (.ireturn, 1) := by decide +kernel
theorem dX11_find_13 : decode cX11_find 13 = .ok (.aload_n 0, 1) := by decide +kernel
theorem dX11_find_14 : decode cX11_find 14 = .ok (.getfield 18, 3) := by decide +kernel
theorem dX11_find_17 : decode cX11_find 17 = .ok (.invokevirtual 127, 3) := by decide +kernel
theorem dX11_find_20 : decode cX11_find 20 = .ok (.iconst 0, 1) := by decide +kernel
theorem dX11_find_21 : decode cX11_find 21 = .ok (.istore_n 3, 1) := by decide +kernel
theorem dX11_find_22 : decode cX11_find 22 = .ok (.iload_n 3, 1) := by decide +kernel
theorem dX11_find_23 : decode cX11_find 23 = .ok (.aload_n 0, 1) := by decide +kernel
theorem dX11_find_24 : decode cX11_find 24 = .ok (.getfield 18, 3) := by decide +kernel
theorem dX11_find_27 : decode cX11_find 27 = .ok (.getfield 260, 3) := by decide +kernel
theorem dX11_find_30 : decode cX11_find 30 = .ok (.if_icmp .ge 42, 3) := by decide +kernel
theorem dX11_find_33 : decode cX11_find 33 = .ok (.aload_n 0, 1) := by decide +kernel
theorem dX11_find_34 : decode cX11_find 34 = .ok (.getfield 18, 3) := by decide +kernel
theorem dX11_find_37 : decode cX11_find 37 = .ok (.getfield 263, 3) := by decide +kernel
theorem dX11_find_40 : decode cX11_find 40 = .ok (.iload_n 3, 1) := by decide +kernel
theorem dX11_find_41 : decode cX11_find 41 = .ok (.iaload, 1) := by decide +kernel
theorem dX11_find_42 : decode cX11_find 42 = .ok (.ifCond .eq 30, 3) := by decide +kernel
theorem dX11_find_45 : decode cX11_find 45 = .ok (.aload_n 0, 1) := by decide +kernel
theorem dX11_find_46 : decode cX11_find 46 = .ok (.aload_n 2, 1) := by decide +kernel
theorem dX11_find_47 : decode cX11_find 47 = .ok (.iload_n 3, 1) := by decide +kernel
theorem dX11_find_48 : decode cX11_find 48 = .ok (.invokevirtual 266, 3) := by decide +kernel
theorem dX11_find_51 : decode cX11_find 51 = .ok (.astore 4, 2) := by decide +kernel
theorem dX11_find_53 : decode cX11_find 53 = .ok (.aload 4, 2) := by decide +kernel
theorem dX11_find_55 : decode cX11_find 55 = .ok (.ifnonnull 8, 3) := by decide +kernel
theorem dX11_find_58 : decode cX11_find 58 = .ok (.bipush (-10), 2) := by decide +kernel
theorem dX11_find_60 : decode cX11_find 60 = .ok (.iload_n 3, 1) := by decide +kernel
theorem dX11_find_61 : decode cX11_find 61 = .ok (.isub, 1) := by decide +kernel
theorem dX11_find_62 : decode cX11_find 62 = .ok (.ireturn, 1) := by decide +kernel
theorem dX11_find_63 : decode cX11_find 63 = .ok (.aload 4, 2) := by decide +kernel
theorem dX11_find_65 : decode cX11_find 65 = .ok (.astore_n 2, 1) := by decide +kernel
theorem dX11_find_66 : decode cX11_find 66 = .ok (.iinc 3 1, 3) := by decide +kernel
theorem dX11_find_69 : decode cX11_find 69 = .ok (.goto (-47), 3) := by decide +kernel
theorem dX11_find_72 : decode cX11_find 72 = .ok (.aload_n 2, 1) := by decide +kernel
theorem dX11_find_73 : decode cX11_find 73 = .ok (.getfield 207, 3) := by decide +kernel
theorem dX11_find_76 : decode cX11_find 76 = .ok (.ireturn, 1) := by decide +kernel
theorem dX11_fix_0 : decode cX11_fix 0 = .ok (.aload_n 0, 1) := by decide +kernel
theorem dX11_fix_1 : decode cX11_fix 1 = .ok (.iload_n 1, 1) := by decide +kernel
theorem dX11_fix_2 : decode cX11_fix 2 = .ok (.invokevirtual 173, 3) := by decide +kernel
theorem dX11_fix_5 : decode cX11_fix 5 = .ok (.astore_n 3, 1) := by decide +kernel
theorem dX11_fix_6 : decode cX11_fix 6 = .ok (.aload_n 0, 1) := by decide +kernel
theorem dX11_fix_7 : decode cX11_fix 7 = .ok (.iload_n 1, 1) := by decide +kernel
theorem dX11_fix_8 : decode cX11_fix 8 = .ok (.iload_n 2, 1) := by decide +kernel
theorem dX11_fix_9 : decode cX11_fix 9 = .ok (.invokevirtual 188, 3) := by decide +kernel
theorem dX11_fix_12 : decode cX11_fix 12 = .ok (.astore 4, 2) := by decide +kernel
theorem dX11_fix_14 : decode cX11_fix 14 = .ok (.aload_n 3, 1) := by decide +kernel
theorem dX11_fix_15 : decode cX11_fix 15 = .ok (.ifnull 8, 3) := by decide +kernel
theorem dX11_fix_18 : decode cX11_fix 18 = .ok (.aload 4, 2) := by decide +kernel
theorem dX11_fix_20 : decode cX11_fix 20 = .ok (.ifnonnull 5, 3) := by decide +kernel
theorem dX11_fix_23 : decode cX11_fix 23 = .ok (.iconst (-1), 1) := by decide +kernel
theorem dX11_fix_24 : decode cX11_fix 24 = .ok (.ireturn, 1) := by decide +kernel
theorem dX11_fix_25 : decode cX11_fix 25 = .ok (.aload 4, 2) := by decide +kernel
theorem dX11_fix_27 : decode cX11_fix 27 = .ok (.getfield 192, 3) := by decide +kernel
theorem dX11_fix_30 : decode cX11_fix 30 = .ok (.bipush 10, 2) := by decide +kernel
theorem dX11_fix_32 : decode cX11_fix 32 = .ok (.if_icmp .eq 6, 3) := by decide +kernel
theorem dX11_fix_35 : decode cX11_fix 35 = .ok (.bipush (-4), 2) := by decide +kernel
theorem dX11_fix_37 : decode cX11_fix 37 = .ok (.ireturn, 1) := by decide +kernel
theorem dX11_fix_38 : decode cX11_fix 38 = .ok (.aload 4, 2) := by decide +kernel
theorem dX11_fix_40 : decode cX11_fix 40 = .ok (.getfield 213, 3) := by decide +kernel
theorem dX11_fix_43 : decode cX11_fix 43 = .ok (.iconst 1, 1) := by decide +kernel
theorem dX11_fix_44 : decode cX11_fix 44 = .ok (.if_icmp .ne 6, 3) := by decide +kernel
theorem dX11_fix_47 : decode cX11_fix 47 = .ok (.bipush (-5), 2) := by decide +kernel
theorem dX11_fix_49 : decode cX11_fix 49 = .ok (.ireturn, 1) := by decide +kernel
theorem dX11_fix_50 : decode cX11_fix 50 = .ok (.aload_n 3, 1) := by decide +kernel
theorem dX11_fix_51 : decode cX11_fix 51 = .ok (.aload 4, 2) := by decide +kernel
theorem dX11_fix_53 : decode cX11_fix 53 = .ok (.invokevirtual 311, 3) := by decide +kernel
theorem dX11_fix_56 : decode cX11_fix 56 = .ok (.ifCond .eq 7, 3) := by decide +kernel
theorem dX11_fix_59 : decode cX11_fix 59 = .ok (.iconst 0, 1) := by decide +kernel
theorem dX11_fix_60 : decode cX11_fix 60 = .ok (.goto 5, 3) := by decide +kernel
theorem dX11_fix_63 : decode cX11_fix 63 = .ok (.bipush (-3), 2) := by decide +kernel
theorem dX11_fix_65 : decode cX11_fix 65 = .ok (.ireturn, 1) := by decide +kernel
theorem dX11_gap_0 : decode cX11_gap 0 = .ok (.aload_n 0, 1) := by decide +kernel
theorem dX11_gap_1 : decode cX11_gap 1 = .ok (.iload_n 1, 1) := by decide +kernel
theorem dX11_gap_2 : decode cX11_gap 2 = .ok (.invokevirtual 173, 3) := by decide +kernel
theorem dX11_gap_5 : decode cX11_gap 5 = .ok (.astore 4, 2) := by decide +kernel
theorem dX11_gap_7 : decode cX11_gap 7 = .ok (.aload 4, 2) := by decide +kernel
theorem dX11_gap_9 : decode cX11_gap 9 = .ok (.ifnonnull 5, 3) := by decide +kernel
theorem dX11_gap_12 : decode cX11_gap 12 = .ok (.iconst (-1), 1) := by decide +kernel
theorem dX11_gap_13 : decode cX11_gap 13 = .ok (.ireturn, 1) := by decide +kernel
theorem dX11_gap_14 : decode cX11_gap 14 = .ok (.aload 4, 2) := by decide +kernel
theorem dX11_gap_16 : decode cX11_gap 16 = .ok (.aload_n 0, 1) := by decide +kernel
theorem dX11_gap_17 : decode cX11_gap 17 = .ok (.getfield 71, 3) := by decide +kernel
theorem dX11_gap_20 : decode cX11_gap 20 = .ok (.invokevirtual 350, 3) := by decide +kernel
theorem dX11_gap_23 : decode cX11_gap 23 = .ok (.aload_n 0, 1) := by decide +kernel
theorem dX11_gap_24 : decode cX11_gap 24 = .ok (.aload 4, 2) := by decide +kernel
theorem dX11_gap_26 : decode cX11_gap 26 = .ok (.getfield 177, 3) := by decide +kernel
theorem dX11_gap_29 : decode cX11_gap 29 = .ok (.getfield 86, 3) := by decide +kernel
theorem dX11_gap_32 : decode cX11_gap 32 = .ok (.iload_n 2, 1) := by decide +kernel
theorem dX11_gap_33 : decode cX11_gap 33 = .ok (.iload_n 3, 1) := by decide +kernel
theorem dX11_gap_34 : decode cX11_gap 34 = .ok (.invokevirtual 354, 3) := by decide +kernel
theorem dX11_gap_37 : decode cX11_gap 37 = .ok (.ireturn, 1) := by decide +kernel
theorem dX11_hex_0 : decode cX11_hex 0 = .ok (.aload_n 0, 1) := by decide +kernel
theorem dX11_hex_1 : decode cX11_hex 1 = .ok (.iload_n 1, 1) := by decide +kernel
theorem dX11_hex_2 : decode cX11_hex 2 = .ok (.invokevirtual 79, 3) := by decide +kernel
theorem dX11_hex_5 : decode cX11_hex 5 = .ok (.astore 4, 2) := by decide +kernel
theorem dX11_hex_7 : decode cX11_hex 7 = .ok (.aload 4, 2) := by decide +kernel
theorem dX11_hex_9 : decode cX11_hex 9 = .ok (.ifnull 25, 3) := by decide +kernel
theorem dX11_hex_12 : decode cX11_hex 12 = .ok (.iload_n 2, 1) := by decide +kernel
theorem dX11_hex_13 : decode cX11_hex 13 = .ok (.ifCond .lt 21, 3) := by decide +kernel
theorem dX11_hex_16 : decode cX11_hex 16 = .ok (.iload_n 2, 1) := by decide +kernel
theorem dX11_hex_17 : decode cX11_hex 17 = .ok (.bipush 125, 2) := by decide +kernel
theorem dX11_hex_19 : decode cX11_hex 19 = .ok (.if_icmp .ge 15, 3) := by decide +kernel
theorem dX11_hex_22 : decode cX11_hex 22 = .ok (.bipush 16, 2) := by decide +kernel
theorem dX11_hex_24 : decode cX11_hex 24 = .ok (.iload_n 2, 1) := by decide +kernel
theorem dX11_hex_25 : decode cX11_hex 25 = .ok (.imul, 1) := by decide +kernel
theorem dX11_hex_26 : decode cX11_hex 26 = .ok (.aload 4, 2) := by decide +kernel
theorem dX11_hex_28 : decode cX11_hex 28 = .ok (.getfield 86, 3) := by decide +kernel
theorem dX11_hex_31 : decode cX11_hex 31 = .ok (.if_icmp .lt 5, 3) := by decide +kernel
theorem dX11_hex_34 : decode cX11_hex 34 = .ok (.iconst (-1), 1) := by decide +kernel
theorem dX11_hex_35 : decode cX11_hex 35 = .ok (.ireturn, 1) := by decide +kernel
theorem dX11_hex_36 : decode cX11_hex 36 = .ok (.bipush 16, 2) := by decide +kernel
theorem dX11_hex_38 : decode cX11_hex 38 = .ok (.aload 4, 2) := by decide +kernel
theorem dX11_hex_40 : decode cX11_hex 40 = .ok (.getfield 86, 3) := by decide +kernel
theorem dX11_hex_43 : decode cX11_hex 43 = .ok (.bipush 16, 2) := by decide +kernel
theorem dX11_hex_45 : decode cX11_hex 45 = .ok (.iload_n 2, 1) := by decide +kernel
theorem dX11_hex_46 : decode cX11_hex 46 = .ok (.imul, 1) := by decide +kernel
theorem dX11_hex_47 : decode cX11_hex 47 = .ok (.isub, 1) := by decide +kernel
theorem dX11_hex_48 : decode cX11_hex 48 = .ok (.invokestatic 364, 3) := by decide +kernel
theorem dX11_hex_51 : decode cX11_hex 51 = .ok (.istore 5, 2) := by decide +kernel
theorem dX11_hex_53 : decode cX11_hex 53 = .ok (.iload_n 3, 1) := by decide +kernel
theorem dX11_hex_54 : decode cX11_hex 54 = .ok (.iconst 4, 1) := by decide +kernel
theorem dX11_hex_55 : decode cX11_hex 55 = .ok (.if_icmp .ge 26, 3) := by decide +kernel
theorem dX11_hex_58 : decode cX11_hex 58 = .ok (.iload_n 3, 1) := by decide +kernel
theorem dX11_hex_59 : decode cX11_hex 59 = .ok (.ifCond .ge 7, 3) := by decide +kernel
theorem dX11_hex_62 : decode cX11_hex 62 = .ok (.iconst (-1), 1) := by decide +kernel
theorem dX11_hex_63 : decode cX11_hex 63 = .ok (.goto 17, 3) := by decide +kernel
theorem dX11_hex_66 : decode cX11_hex 66 = .ok (.bipush 16, 2) := by decide +kernel
theorem dX11_hex_68 : decode cX11_hex 68 = .ok (.iload_n 2, 1) := by decide +kernel
theorem dX11_hex_69 : decode cX11_hex 69 = .ok (.imul, 1) := by decide +kernel
theorem dX11_hex_70 : decode cX11_hex 70 = .ok (.bipush 12, 2) := by decide +kernel
theorem dX11_hex_72 : decode cX11_hex 72 = .ok (.iconst 4, 1) := by decide +kernel
theorem dX11_hex_73 : decode cX11_hex 73 = .ok (.iload_n 3, 1) := by decide +kernel
theorem dX11_hex_74 : decode cX11_hex 74 = .ok (.imul, 1) := by decide +kernel
theorem dX11_hex_75 : decode cX11_hex 75 = .ok (.isub, 1) := by decide +kernel
theorem dX11_hex_76 : decode cX11_hex 76 = .ok (.ishr, 1) := by decide +kernel
theorem dX11_hex_77 : decode cX11_hex 77 = .ok (.invokestatic 367, 3) := by decide +kernel
theorem dX11_hex_80 : decode cX11_hex 80 = .ok (.ireturn, 1) := by decide +kernel
theorem dX11_hex_81 : decode cX11_hex 81 = .ok (.iload_n 3, 1) := by decide +kernel
theorem dX11_hex_82 : decode cX11_hex 82 = .ok (.bipush 53, 2) := by decide +kernel
theorem dX11_hex_84 : decode cX11_hex 84 = .ok (.if_icmp .ge 26, 3) := by decide +kernel
theorem dX11_hex_87 : decode cX11_hex 87 = .ok (.iload_n 3, 1) := by decide +kernel
theorem dX11_hex_88 : decode cX11_hex 88 = .ok (.iconst 4, 1) := by decide +kernel
theorem dX11_hex_89 : decode cX11_hex 89 = .ok (.if_icmp .ne 8, 3) := by decide +kernel
theorem dX11_hex_92 : decode cX11_hex 92 = .ok (.bipush 58, 2) := by decide +kernel
theorem dX11_hex_94 : decode cX11_hex 94 = .ok (.goto 15, 3) := by decide +kernel
theorem dX11_hex_97 : decode cX11_hex 97 = .ok (.aload 4, 2) := by decide +kernel
theorem dX11_hex_99 : decode cX11_hex 99 = .ok (.bipush 16, 2) := by decide +kernel
theorem dX11_hex_101 : decode cX11_hex 101 = .ok (.iload_n 2, 1) := by decide +kernel
theorem dX11_hex_102 : decode cX11_hex 102 = .ok (.imul, 1) := by decide +kernel
theorem dX11_hex_103 : decode cX11_hex 103 = .ok (.iload_n 3, 1) := by decide +kernel
theorem dX11_hex_104 : decode cX11_hex 104 = .ok (.iconst 5, 1) := by decide +kernel
theorem dX11_hex_105 : decode cX11_hex 105 = .ok (.isub, 1) := by decide +kernel
theorem dX11_hex_106 : decode cX11_hex 106 = .ok (.invokestatic 370, 3) := by decide +kernel
theorem dX11_hex_109 : decode cX11_hex 109 = .ok (.ireturn, 1) := by decide +kernel
theorem dX11_hex_110 : decode cX11_hex 110 = .ok (.iload_n 3, 1) := by decide +kernel
theorem dX11_hex_111 : decode cX11_hex 111 = .ok (.bipush 55, 2) := by decide +kernel
theorem dX11_hex_113 : decode cX11_hex 113 = .ok (.if_icmp .ge 17, 3) := by decide +kernel
theorem dX11_hex_116 : decode cX11_hex 116 = .ok (.iload_n 3, 1) := by decide +kernel
theorem dX11_hex_117 : decode cX11_hex 117 = .ok (.bipush 53, 2) := by decide +kernel
theorem dX11_hex_119 : decode cX11_hex 119 = .ok (.if_icmp .ne 8, 3) := by decide +kernel
theorem dX11_hex_122 : decode cX11_hex 122 = .ok (.bipush 32, 2) := by decide +kernel
theorem dX11_hex_124 : decode cX11_hex 124 = .ok (.goto 5, 3) := by decide +kernel
theorem dX11_hex_127 : decode cX11_hex 127 = .ok (.bipush 124, 2) := by decide +kernel
theorem dX11_hex_129 : decode cX11_hex 129 = .ok (.ireturn, 1) := by decide +kernel
theorem dX11_hex_130 : decode cX11_hex 130 = .ok (.iload_n 3, 1) := by decide +kernel
theorem dX11_hex_131 : decode cX11_hex 131 = .ok (.bipush 55, 2) := by decide +kernel
theorem dX11_hex_133 : decode cX11_hex 133 = .ok (.isub, 1) := by decide +kernel
theorem dX11_hex_134 : decode cX11_hex 134 = .ok (.iload 5, 2) := by decide +kernel
theorem dX11_hex_136 : decode cX11_hex 136 = .ok (.if_icmp .ge 41, 3) := by decide +kernel
theorem dX11_hex_139 : decode cX11_hex 139 = .ok (.aload 4, 2) := by decide +kernel
theorem dX11_hex_141 : decode cX11_hex 141 = .ok (.bipush 16, 2) := by decide +kernel
theorem dX11_hex_143 : decode cX11_hex 143 = .ok (.iload_n 2, 1) := by decide +kernel
theorem dX11_hex_144 : decode cX11_hex 144 = .ok (.imul, 1) := by decide +kernel
theorem dX11_hex_145 : decode cX11_hex 145 = .ok (.iload_n 3, 1) := by decide +kernel
theorem dX11_hex_146 : decode cX11_hex 146 = .ok (.iadd, 1) := by decide +kernel
theorem dX11_hex_147 : decode cX11_hex 147 = .ok (.bipush 55, 2) := by decide +kernel
theorem dX11_hex_149 : decode cX11_hex 149 = .ok (.isub, 1) := by decide +kernel
theorem dX11_hex_150 : decode cX11_hex 150 = .ok (.invokevirtual 93, 3) := by decide +kernel
theorem dX11_hex_153 : decode cX11_hex 153 = .ok (.istore 6, 2) := by decide +kernel
theorem dX11_hex_155 : decode cX11_hex 155 = .ok (.iload 6, 2) := by decide +kernel
theorem dX11_hex_157 : decode cX11_hex 157 = .ok (.bipush 32, 2) := by decide +kernel
theorem dX11_hex_159 : decode cX11_hex 159 = .ok (.if_icmp .lt 15, 3) := by decide +kernel
theorem dX11_hex_162 : decode cX11_hex 162 = .ok (.iload 6, 2) := by decide +kernel
theorem dX11_hex_164 : decode cX11_hex 164 = .ok (.bipush 126, 2) := by decide +kernel
theorem dX11_hex_166 : decode cX11_hex 166 = .ok (.if_icmp .gt 8, 3) := by decide +kernel
theorem dX11_hex_169 : decode cX11_hex 169 = .ok (.iload 6, 2) := by decide +kernel
theorem dX11_hex_171 : decode cX11_hex 171 = .ok (.goto 5, 3) := by decide +kernel
theorem dX11_hex_174 : decode cX11_hex 174 = .ok (.bipush 46, 2) := by decide +kernel
theorem dX11_hex_176 : decode cX11_hex 176 = .ok (.ireturn, 1) := by decide +kernel
theorem dX11_hex_177 : decode cX11_hex 177 = .ok (.iload_n 3, 1) := by decide +kernel
theorem dX11_hex_178 : decode cX11_hex 178 = .ok (.bipush 55, 2) := by decide +kernel
theorem dX11_hex_180 : decode cX11_hex 180 = .ok (.isub, 1) := by decide +kernel
theorem dX11_hex_181 : decode cX11_hex 181 = .ok (.iload 5, 2) := by decide +kernel
theorem dX11_hex_183 : decode cX11_hex 183 = .ok (.if_icmp .ne 8, 3) := by decide +kernel
theorem dX11_hex_186 : decode cX11_hex 186 = .ok (.bipush 124, 2) := by decide +kernel
theorem dX11_hex_188 : decode cX11_hex 188 = .ok (.goto 4, 3) := by decide +kernel
theorem dX11_hex_191 : decode cX11_hex 191 = .ok (.iconst (-1), 1) := by decide +kernel
theorem dX11_hex_192 : decode cX11_hex 192 = .ok (.ireturn, 1) := by decide +kernel
theorem dX11_image_0 : decode cX11_image 0 = .ok (.aload_n 0, 1) := by decide +kernel
theorem dX11_image_1 : decode cX11_image 1 = .ok (.getfield 74, 3) := by decide +kernel
theorem dX11_image_4 : decode cX11_image 4 = .ok (.bipush 6, 2) := by decide +kernel
theorem dX11_image_6 : decode cX11_image 6 = .ok (.if_icmp .lt 6, 3) := by decide +kernel
theorem dX11_image_9 : decode cX11_image 9 = .ok (.bipush (-2), 2) := by decide +kernel
theorem dX11_image_11 : decode cX11_image 11 = .ok (.ireturn, 1) := by decide +kernel
theorem dX11_image_12 : decode cX11_image 12 = .ok (.aload_n 0, 1) := by decide +kernel
theorem dX11_image_13 : decode cX11_image 13 = .ok (.getfield 11, 3) := by decide +kernel
theorem dX11_image_16 : decode cX11_image 16 = .ok (.aload_n 0, 1) := by decide +kernel
theorem dX11_image_17 : decode cX11_image 17 = .ok (.getfield 74, 3) := by decide +kernel
theorem dX11_image_20 : decode cX11_image 20 = .ok (.new 9, 3) := by decide +kernel
theorem dX11_image_23 : decode cX11_image 23 = .ok (.dup, 1) := by decide +kernel
theorem dX11_image_24 : decode cX11_image 24 = .ok (.invokespecial 78, 3) := by decide +kernel
theorem dX11_image_27 : decode cX11_image 27 = .ok (.aastore, 1) := by decide +kernel
theorem dX11_image_28 : decode cX11_image 28 = .ok (.aload_n 0, 1) := by decide +kernel
theorem dX11_image_29 : decode cX11_image 29 = .ok (.dup, 1) := by decide +kernel
theorem dX11_image_30 : decode cX11_image 30 = .ok (.getfield 74, 3) := by decide +kernel
theorem dX11_image_33 : decode cX11_image 33 = .ok (.iconst 1, 1) := by decide +kernel
theorem dX11_image_34 : decode cX11_image 34 = .ok (.iadd, 1) := by decide +kernel
theorem dX11_image_35 : decode cX11_image 35 = .ok (.putfield 74, 3) := by decide +kernel
theorem dX11_image_38 : decode cX11_image 38 = .ok (.aload_n 0, 1) := by decide +kernel
theorem dX11_image_39 : decode cX11_image 39 = .ok (.getfield 74, 3) := by decide +kernel
theorem dX11_image_42 : decode cX11_image 42 = .ok (.iconst 1, 1) := by decide +kernel
theorem dX11_image_43 : decode cX11_image 43 = .ok (.isub, 1) := by decide +kernel
theorem dX11_image_44 : decode cX11_image 44 = .ok (.ireturn, 1) := by decide +kernel
theorem dX11_imageOf_0 : decode cX11_imageOf 0 = .ok (.iload_n 1, 1) := by decide +kernel
theorem dX11_imageOf_1 : decode cX11_imageOf 1 = .ok (.ifCond .lt 11, 3) := by decide +kernel
theorem dX11_imageOf_4 : decode cX11_imageOf 4 = .ok (.iload_n 1, 1) := by decide +kernel
theorem dX11_imageOf_5 : decode cX11_imageOf 5 = .ok (.aload_n 0, 1) := by decide +kernel
theorem dX11_imageOf_6 : decode cX11_imageOf 6 = .ok (.getfield 74, 3) := by decide +kernel
theorem dX11_imageOf_9 : decode cX11_imageOf 9 = .ok (.if_icmp .lt 7, 3) := by decide +kernel
theorem dX11_imageOf_12 : decode cX11_imageOf 12 = .ok (.aconst_null, 1) := by decide +kernel
theorem dX11_imageOf_13 : decode cX11_imageOf 13 = .ok (.goto 9, 3) := by decide +kernel
theorem dX11_imageOf_16 : decode cX11_imageOf 16 = .ok (.aload_n 0, 1) := by decide +kernel
theorem dX11_imageOf_17 : decode cX11_imageOf 17 = .ok (.getfield 11, 3) := by decide +kernel
theorem dX11_imageOf_20 : decode cX11_imageOf 20 = .ok (.iload_n 1, 1) := by decide +kernel
theorem dX11_imageOf_21 : decode cX11_imageOf 21 = .ok (.aaload, 1) := by decide +kernel
theorem dX11_imageOf_22 : decode cX11_imageOf 22 = .ok (.areturn, 1) := by decide +kernel
theorem dX11_init_0 : decode cX11_init 0 = .ok (.aload_n 0, 1) := by decide +kernel
theorem dX11_init_1 : decode cX11_init 1 = .ok (.invokespecial 3, 3) := by decide +kernel
theorem dX11_init_4 : decode cX11_init 4 = .ok (.aload_n 0, 1) := by decide +kernel
theorem dX11_init_5 : decode cX11_init 5 = .ok (.bipush 6, 2) := by decide +kernel
theorem dX11_init_7 : decode cX11_init 7 = .ok (.anewarray 9, 3) := by decide +kernel
theorem dX11_init_10 : decode cX11_init 10 = .ok (.putfield 11, 3) := by decide +kernel
theorem dX11_init_13 : decode cX11_init 13 = .ok (.aload_n 0, 1) := by decide +kernel
theorem dX11_init_14 : decode cX11_init 14 = .ok (.new 15, 3) := by decide +kernel
theorem dX11_init_17 : decode cX11_init 17 = .ok (.dup, 1) := by decide +kernel
theorem dX11_init_18 : decode cX11_init 18 = .ok (.invokespecial 17, 3) := by decide +kernel
theorem dX11_init_21 : decode cX11_init 21 = .ok (.putfield 18, 3) := by decide +kernel
theorem dX11_init_24 : decode cX11_init 24 = .ok (.aload_n 0, 1) := by decide +kernel
theorem dX11_init_25 : decode cX11_init 25 = .ok (.new 22, 3) := by decide +kernel
theorem dX11_init_28 : decode cX11_init 28 = .ok (.dup, 1) := by decide +kernel
theorem dX11_init_29 : decode cX11_init 29 = .ok (.invokespecial 24, 3) := by decide +kernel
theorem dX11_init_32 : decode cX11_init 32 = .ok (.putfield 25, 3) := by decide +kernel
theorem dX11_init_35 : decode cX11_init 35 = .ok (.aload_n 0, 1) := by decide +kernel
theorem dX11_init_36 : decode cX11_init 36 = .ok (.new 29, 3) := by decide +kernel
theorem dX11_init_39 : decode cX11_init 39 = .ok (.dup, 1) := by decide +kernel
theorem dX11_init_40 : decode cX11_init 40 = .ok (.invokespecial 31, 3) := by decide +kernel
theorem dX11_init_43 : decode cX11_init 43 = .ok (.putfield 32, 3) := by decide +kernel
theorem dX11_init_46 : decode cX11_init 46 = .ok (.aload_n 0, 1) := by decide +kernel
theorem dX11_init_47 : decode cX11_init 47 = .ok (.new 36, 3) := by decide +kernel
theorem dX11_init_50 : decode cX11_init 50 = .ok (.dup, 1) := by decide +kernel
theorem dX11_init_51 : decode cX11_init 51 = .ok (.invokespecial 38, 3) := by decide +kernel
theorem dX11_init_54 : decode cX11_init 54 = .ok (.putfield 39, 3) := by decide +kernel
theorem dX11_init_57 : decode cX11_init 57 = .ok (.aload_n 0, 1) := by decide +kernel
theorem dX11_init_58 : decode cX11_init 58 = .ok (.new 36, 3) := by decide +kernel
theorem dX11_init_61 : decode cX11_init 61 = .ok (.dup, 1) := by decide +kernel
theorem dX11_init_62 : decode cX11_init 62 = .ok (.invokespecial 38, 3) := by decide +kernel
theorem dX11_init_65 : decode cX11_init 65 = .ok (.putfield 43, 3) := by decide +kernel
theorem dX11_init_68 : decode cX11_init 68 = .ok (.aload_n 0, 1) := by decide +kernel
theorem dX11_init_69 : decode cX11_init 69 = .ok (.new 46, 3) := by decide +kernel
theorem dX11_init_72 : decode cX11_init 72 = .ok (.dup, 1) := by decide +kernel
theorem dX11_init_73 : decode cX11_init 73 = .ok (.invokespecial 48, 3) := by decide +kernel
theorem dX11_init_76 : decode cX11_init 76 = .ok (.putfield 49, 3) := by decide +kernel
theorem dX11_init_79 : decode cX11_init 79 = .ok (.aload_n 0, 1) := by decide +kernel
theorem dX11_init_80 : decode cX11_init 80 = .ok (.bipush 6, 2) := by decide +kernel
theorem dX11_init_82 : decode cX11_init 82 = .ok (.anewarray 53, 3) := by decide +kernel
theorem dX11_init_85 : decode cX11_init 85 = .ok (.putfield 55, 3) := by decide +kernel
theorem dX11_init_88 : decode cX11_init 88 = .ok (.aload_n 0, 1) := by decide +kernel
theorem dX11_init_89 : decode cX11_init 89 = .ok (.new 53, 3) := by decide +kernel
theorem dX11_init_92 : decode cX11_init 92 = .ok (.dup, 1) := by decide +kernel
theorem dX11_init_93 : decode cX11_init 93 = .ok (.invokespecial 59, 3) := by decide +kernel
theorem dX11_init_96 : decode cX11_init 96 = .ok (.putfield 60, 3) := by decide +kernel
theorem dX11_init_99 : decode cX11_init 99 = .ok (.aload_n 0, 1) := by decide +kernel
theorem dX11_init_100 : decode cX11_init 100 = .ok (.sipush 3000, 3) := by decide +kernel
theorem dX11_init_103 : decode cX11_init 103 = .ok (.newarray .int, 2) := by decide +kernel
theorem dX11_init_105 : decode cX11_init 105 = .ok (.putfield 64, 3) := by decide +kernel
theorem dX11_init_108 : decode cX11_init 108 = .ok (.aload_n 0, 1) := by decide +kernel
theorem dX11_init_109 : decode cX11_init 109 = .ok (.sipush 3000, 3) := by decide +kernel
theorem dX11_init_112 : decode cX11_init 112 = .ok (.newarray .int, 2) := by decide +kernel
theorem dX11_init_114 : decode cX11_init 114 = .ok (.putfield 68, 3) := by decide +kernel
theorem dX11_init_117 : decode cX11_init 117 = .ok (.aload_n 0, 1) := by decide +kernel
theorem dX11_init_118 : decode cX11_init 118 = .ok (.sipush 2001, 3) := by decide +kernel
theorem dX11_init_121 : decode cX11_init 121 = .ok (.newarray .int, 2) := by decide +kernel
theorem dX11_init_123 : decode cX11_init 123 = .ok (.putfield 71, 3) := by decide +kernel
theorem dX11_init_126 : decode cX11_init 126 = .ok (.return_, 1) := by decide +kernel
theorem dX11_isStructure_0 : decode cX11_isStructure 0 = .ok (.iload_n 1, 1) := by decide +kernel
theorem dX11_isStructure_1 : decode cX11_isStructure 1 = .ok (.ifCond .lt 18, 3) := by decide +kernel
theorem dX11_isStructure_4 : decode cX11_isStructure 4 = .ok (.iload_n 1, 1) := by decide +kernel
theorem dX11_isStructure_5 : decode cX11_isStructure 5 = .ok (.aload_n 0, 1) := by decide +kernel
theorem dX11_isStructure_6 : decode cX11_isStructure 6 = .ok (.getfield 39, 3) := by decide +kernel
theorem dX11_isStructure_9 : decode cX11_isStructure 9 = .ok (.getfield 146, 3) := by decide +kernel
theorem dX11_isStructure_12 : decode cX11_isStructure 12 = .ok (.if_icmp .ge 7, 3) := by decide +kernel
theorem dX11_isStructure_15 : decode cX11_isStructure 15 = .ok (.iconst 1, 1) := by decide +kernel
theorem dX11_isStructure_16 : decode cX11_isStructure 16 = .ok (.goto 4, 3) := by decide +kernel
theorem dX11_isStructure_19 : decode cX11_isStructure 19 = .ok (.iconst 0, 1) := by decide +kernel
theorem dX11_isStructure_20 : decode cX11_isStructure 20 = .ok (.ireturn, 1) := by decide +kernel
theorem dX11_kid_0 : decode cX11_kid 0 = .ok (.aload_n 0, 1) := by decide +kernel
theorem dX11_kid_1 : decode cX11_kid 1 = .ok (.iload_n 1, 1) := by decide +kernel
theorem dX11_kid_2 : decode cX11_kid 2 = .ok (.iload_n 2, 1) := by decide +kernel
theorem dX11_kid_3 : decode cX11_kid 3 = .ok (.invokevirtual 188, 3) := by decide +kernel
theorem dX11_kid_6 : decode cX11_kid 6 = .ok (.astore 4, 2) := by decide +kernel
theorem dX11_kid_8 : decode cX11_kid 8 = .ok (.aload 4, 2) := by decide +kernel
theorem dX11_kid_10 : decode cX11_kid 10 = .ok (.ifnonnull 7, 3) := by decide +kernel
theorem dX11_kid_13 : decode cX11_kid 13 = .ok (.aconst_null, 1) := by decide +kernel
theorem dX11_kid_14 : decode cX11_kid 14 = .ok (.goto 9, 3) := by decide +kernel
theorem dX11_kid_17 : decode cX11_kid 17 = .ok (.aload 4, 2) := by decide +kernel
theorem dX11_kid_19 : decode cX11_kid 19 = .ok (.iload_n 3, 1) := by decide +kernel
theorem dX11_kid_20 : decode cX11_kid 20 = .ok (.invokevirtual 218, 3) := by decide +kernel
theorem dX11_kid_23 : decode cX11_kid 23 = .ok (.astore 5, 2) := by decide +kernel
theorem dX11_kid_25 : decode cX11_kid 25 = .ok (.aload 5, 2) := by decide +kernel
theorem dX11_kid_27 : decode cX11_kid 27 = .ok (.ifnonnull 7, 3) := by decide +kernel
theorem dX11_kid_30 : decode cX11_kid 30 = .ok (.iconst (-1), 1) := by decide +kernel
theorem dX11_kid_31 : decode cX11_kid 31 = .ok (.goto 8, 3) := by decide +kernel
theorem dX11_kid_34 : decode cX11_kid 34 = .ok (.aload 5, 2) := by decide +kernel
theorem dX11_kid_36 : decode cX11_kid 36 = .ok (.getfield 207, 3) := by decide +kernel
theorem dX11_kid_39 : decode cX11_kid 39 = .ok (.ireturn, 1) := by decide +kernel
theorem dX11_kidByToken_0 : decode cX11_kidByToken 0 = .ok (.aload_n 0, 1) := by decide +kernel
theorem dX11_kidByToken_1 : decode cX11_kidByToken 1 = .ok (.getfield 18, 3) := by decide +kernel
theorem dX11_kidByToken_4 : decode cX11_kidByToken 4 = .ok (.getfield 263, 3) := by decide +kernel
theorem dX11_kidByToken_7 : decode cX11_kidByToken 7 = .ok (.iload_n 2, 1) := by decide +kernel
theorem dX11_kidByToken_8 : decode cX11_kidByToken 8 = .ok (.iaload, 1) := by decide +kernel
theorem dX11_kidByToken_9 : decode cX11_kidByToken 9 = .ok (.istore_n 3, 1) := by decide +kernel
theorem dX11_kidByToken_10 : decode cX11_kidByToken 10 = .ok (.iload_n 3, 1) := by decide +kernel
theorem dX11_kidByToken_11 : decode cX11_kidByToken 11 = .ok (.iconst 2, 1) := by decide +kernel
theorem dX11_kidByToken_12 : decode cX11_kidByToken 12 = .ok (.if_icmp .ne 17, 3) := by decide +kernel
theorem dX11_kidByToken_15 : decode cX11_kidByToken 15 = .ok (.aload_n 1, 1) := by decide +kernel
theorem dX11_kidByToken_16 : decode cX11_kidByToken 16 = .ok (.aload_n 0, 1) := by decide +kernel
theorem dX11_kidByToken_17 : decode cX11_kidByToken 17 = .ok (.getfield 18, 3) := by decide +kernel
theorem dX11_kidByToken_20 : decode cX11_kidByToken 20 = .ok (.getfield 389, 3) := by decide +kernel
theorem dX11_kidByToken_23 : decode cX11_kidByToken 23 = .ok (.iload_n 2, 1) := by decide +kernel
theorem dX11_kidByToken_24 : decode cX11_kidByToken 24 = .ok (.laload, 1) := by decide +kernel
theorem dX11_kidByToken_25 : decode cX11_kidByToken 25 = .ok (.invokevirtual 392, 3) := by decide +kernel
theorem dX11_kidByToken_28 : decode cX11_kidByToken 28 = .ok (.areturn, 1) := by decide +kernel
theorem dX11_kidByToken_29 : decode cX11_kidByToken 29 = .ok (.iload_n 3, 1) := by decide +kernel
theorem dX11_kidByToken_30 : decode cX11_kidByToken 30 = .ok (.iconst 3, 1) := by decide +kernel
theorem dX11_kidByToken_31 : decode cX11_kidByToken 31 = .ok (.if_icmp .ne 34, 3) := by decide +kernel
theorem dX11_kidByToken_34 : decode cX11_kidByToken 34 = .ok (.aload_n 0, 1) := by decide +kernel
theorem dX11_kidByToken_35 : decode cX11_kidByToken 35 = .ok (.getfield 18, 3) := by decide +kernel
theorem dX11_kidByToken_38 : decode cX11_kidByToken 38 = .ok (.getfield 389, 3) := by decide +kernel
theorem dX11_kidByToken_41 : decode cX11_kidByToken 41 = .ok (.iload_n 2, 1) := by decide +kernel
theorem dX11_kidByToken_42 : decode cX11_kidByToken 42 = .ok (.laload, 1) := by decide +kernel
theorem dX11_kidByToken_43 : decode cX11_kidByToken 43 = .ok (.ldc2_w 396, 3) := by decide +kernel
theorem dX11_kidByToken_46 : decode cX11_kidByToken 46 = .ok (.lcmp, 1) := by decide +kernel
theorem dX11_kidByToken_47 : decode cX11_kidByToken 47 = .ok (.ifCond .ge 18, 3) := by decide +kernel
theorem dX11_kidByToken_50 : decode cX11_kidByToken 50 = .ok (.aload_n 1, 1) := by decide +kernel
theorem dX11_kidByToken_51 : decode cX11_kidByToken 51 = .ok (.aload_n 0, 1) := by decide +kernel
theorem dX11_kidByToken_52 : decode cX11_kidByToken 52 = .ok (.getfield 18, 3) := by decide +kernel
theorem dX11_kidByToken_55 : decode cX11_kidByToken 55 = .ok (.getfield 389, 3) := by decide +kernel
theorem dX11_kidByToken_58 : decode cX11_kidByToken 58 = .ok (.iload_n 2, 1) := by decide +kernel
theorem dX11_kidByToken_59 : decode cX11_kidByToken 59 = .ok (.laload, 1) := by decide +kernel
theorem dX11_kidByToken_60 : decode cX11_kidByToken 60 = .ok (.l2i, 1) := by decide +kernel
theorem dX11_kidByToken_61 : decode cX11_kidByToken 61 = .ok (.invokevirtual 218, 3) := by decide +kernel
theorem dX11_kidByToken_64 : decode cX11_kidByToken 64 = .ok (.areturn, 1) := by decide +kernel
theorem dX11_kidByToken_65 : decode cX11_kidByToken 65 = .ok (.aconst_null, 1) := by decide +kernel
theorem dX11_kidByToken_66 : decode cX11_kidByToken 66 = .ok (.areturn, 1) := by decide +kernel
theorem dX11_lay_0 : decode cX11_lay 0 = .ok (.aload_n 0, 1) := by decide +kernel
theorem dX11_lay_1 : decode cX11_lay 1 = .ok (.iload_n 1, 1) := by decide +kernel
theorem dX11_lay_2 : decode cX11_lay 2 = .ok (.invokevirtual 79, 3) := by decide +kernel
theorem dX11_lay_5 : decode cX11_lay 5 = .ok (.astore 4, 2) := by decide +kernel
theorem dX11_lay_7 : decode cX11_lay 7 = .ok (.aload 4, 2) := by decide +kernel
theorem dX11_lay_9 : decode cX11_lay 9 = .ok (.ifnull 11, 3) := by decide +kernel
theorem dX11_lay_12 : decode cX11_lay 12 = .ok (.aload_n 0, 1) := by decide +kernel
theorem dX11_lay_13 : decode cX11_lay 13 = .ok (.iload_n 2, 1) := by decide +kernel
theorem dX11_lay_14 : decode cX11_lay 14 = .ok (.invokevirtual 149, 3) := by decide +kernel
theorem dX11_lay_17 : decode cX11_lay 17 = .ok (.ifCond .ne 5, 3) := by decide +kernel
theorem dX11_lay_20 : decode cX11_lay 20 = .ok (.iconst (-1), 1) := by decide +kernel
theorem dX11_lay_21 : decode cX11_lay 21 = .ok (.ireturn, 1) := by decide +kernel
theorem dX11_lay_22 : decode cX11_lay 22 = .ok (.iload_n 3, 1) := by decide +kernel
theorem dX11_lay_23 : decode cX11_lay 23 = .ok (.ifCond .lt 12, 3) := by decide +kernel
theorem dX11_lay_26 : decode cX11_lay 26 = .ok (.iload_n 3, 1) := by decide +kernel
theorem dX11_lay_27 : decode cX11_lay 27 = .ok (.aload 4, 2) := by decide +kernel
theorem dX11_lay_29 : decode cX11_lay 29 = .ok (.getfield 86, 3) := by decide +kernel
theorem dX11_lay_32 : decode cX11_lay 32 = .ok (.if_icmp .le 6, 3) := by decide +kernel
theorem dX11_lay_35 : decode cX11_lay 35 = .ok (.bipush (-3), 2) := by decide +kernel
theorem dX11_lay_37 : decode cX11_lay 37 = .ok (.ireturn, 1) := by decide +kernel
theorem dX11_lay_38 : decode cX11_lay 38 = .ok (.aload_n 0, 1) := by decide +kernel
theorem dX11_lay_39 : decode cX11_lay 39 = .ok (.getfield 143, 3) := by decide +kernel
theorem dX11_lay_42 : decode cX11_lay 42 = .ok (.bipush 6, 2) := by decide +kernel
theorem dX11_lay_44 : decode cX11_lay 44 = .ok (.if_icmp .lt 6, 3) := by decide +kernel
theorem dX11_lay_47 : decode cX11_lay 47 = .ok (.bipush (-2), 2) := by decide +kernel
theorem dX11_lay_49 : decode cX11_lay 49 = .ok (.ireturn, 1) := by decide +kernel
theorem dX11_lay_50 : decode cX11_lay 50 = .ok (.aload_n 0, 1) := by decide +kernel
theorem dX11_lay_51 : decode cX11_lay 51 = .ok (.getfield 60, 3) := by decide +kernel
theorem dX11_lay_54 : decode cX11_lay 54 = .ok (.aload 4, 2) := by decide +kernel
theorem dX11_lay_56 : decode cX11_lay 56 = .ok (.iload_n 2, 1) := by decide +kernel
theorem dX11_lay_57 : decode cX11_lay 57 = .ok (.iload_n 3, 1) := by decide +kernel
theorem dX11_lay_58 : decode cX11_lay 58 = .ok (.aload_n 0, 1) := by decide +kernel
theorem dX11_lay_59 : decode cX11_lay 59 = .ok (.getfield 39, 3) := by decide +kernel
theorem dX11_lay_62 : decode cX11_lay 62 = .ok (.aload_n 0, 1) := by decide +kernel
theorem dX11_lay_63 : decode cX11_lay 63 = .ok (.getfield 32, 3) := by decide +kernel
theorem dX11_lay_66 : decode cX11_lay 66 = .ok (.invokevirtual 165, 3) := by decide +kernel
theorem dX11_lay_69 : decode cX11_lay 69 = .ok (.aload_n 0, 1) := by decide +kernel
theorem dX11_lay_70 : decode cX11_lay 70 = .ok (.getfield 60, 3) := by decide +kernel
theorem dX11_lay_73 : decode cX11_lay 73 = .ok (.getfield 169, 3) := by decide +kernel
theorem dX11_lay_76 : decode cX11_lay 76 = .ok (.ifCond .eq 6, 3) := by decide +kernel
theorem dX11_lay_79 : decode cX11_lay 79 = .ok (.bipush (-6), 2) := by decide +kernel
theorem dX11_lay_81 : decode cX11_lay 81 = .ok (.ireturn, 1) := by decide +kernel
theorem dX11_lay_82 : decode cX11_lay 82 = .ok (.aload_n 0, 1) := by decide +kernel
theorem dX11_lay_83 : decode cX11_lay 83 = .ok (.getfield 60, 3) := by decide +kernel
theorem dX11_lay_86 : decode cX11_lay 86 = .ok (.astore 5, 2) := by decide +kernel
theorem dX11_lay_88 : decode cX11_lay 88 = .ok (.aload_n 0, 1) := by decide +kernel
theorem dX11_lay_89 : decode cX11_lay 89 = .ok (.aload_n 0, 1) := by decide +kernel
theorem dX11_lay_90 : decode cX11_lay 90 = .ok (.getfield 55, 3) := by decide +kernel
theorem dX11_lay_93 : decode cX11_lay 93 = .ok (.aload_n 0, 1) := by decide +kernel
theorem dX11_lay_94 : decode cX11_lay 94 = .ok (.getfield 143, 3) := by decide +kernel
theorem dX11_lay_97 : decode cX11_lay 97 = .ok (.aaload, 1) := by decide +kernel
theorem dX11_lay_98 : decode cX11_lay 98 = .ok (.ifnonnull 13, 3) := by decide +kernel
theorem dX11_lay_101 : decode cX11_lay 101 = .ok (.new 53, 3) := by decide +kernel
theorem dX11_lay_104 : decode cX11_lay 104 = .ok (.dup, 1) := by decide +kernel
theorem dX11_lay_105 : decode cX11_lay 105 = .ok (.invokespecial 59, 3) := by decide +kernel
theorem dX11_lay_108 : decode cX11_lay 108 = .ok (.goto 12, 3) := by decide +kernel
theorem dX11_lay_111 : decode cX11_lay 111 = .ok (.aload_n 0, 1) := by decide +kernel
theorem dX11_lay_112 : decode cX11_lay 112 = .ok (.getfield 55, 3) := by decide +kernel
theorem dX11_lay_115 : decode cX11_lay 115 = .ok (.aload_n 0, 1) := by decide +kernel
theorem dX11_lay_116 : decode cX11_lay 116 = .ok (.getfield 143, 3) := by decide +kernel
theorem dX11_lay_119 : decode cX11_lay 119 = .ok (.aaload, 1) := by decide +kernel
theorem dX11_lay_120 : decode cX11_lay 120 = .ok (.putfield 60, 3) := by decide +kernel
theorem dX11_lay_123 : decode cX11_lay 123 = .ok (.aload_n 0, 1) := by decide +kernel
theorem dX11_lay_124 : decode cX11_lay 124 = .ok (.getfield 55, 3) := by decide +kernel
theorem dX11_lay_127 : decode cX11_lay 127 = .ok (.aload_n 0, 1) := by decide +kernel
theorem dX11_lay_128 : decode cX11_lay 128 = .ok (.getfield 143, 3) := by decide +kernel
theorem dX11_lay_131 : decode cX11_lay 131 = .ok (.aload 5, 2) := by decide +kernel
theorem dX11_lay_133 : decode cX11_lay 133 = .ok (.aastore, 1) := by decide +kernel
theorem dX11_lay_134 : decode cX11_lay 134 = .ok (.aload_n 0, 1) := by decide +kernel
theorem dX11_lay_135 : decode cX11_lay 135 = .ok (.dup, 1) := by decide +kernel
theorem dX11_lay_136 : decode cX11_lay 136 = .ok (.getfield 143, 3) := by decide +kernel
theorem dX11_lay_139 : decode cX11_lay 139 = .ok (.iconst 1, 1) := by decide +kernel
theorem dX11_lay_140 : decode cX11_lay 140 = .ok (.iadd, 1) := by decide +kernel
theorem dX11_lay_141 : decode cX11_lay 141 = .ok (.putfield 143, 3) := by decide +kernel
theorem dX11_lay_144 : decode cX11_lay 144 = .ok (.aload_n 0, 1) := by decide +kernel
theorem dX11_lay_145 : decode cX11_lay 145 = .ok (.getfield 143, 3) := by decide +kernel
theorem dX11_lay_148 : decode cX11_lay 148 = .ok (.iconst 1, 1) := by decide +kernel
theorem dX11_lay_149 : decode cX11_lay 149 = .ok (.isub, 1) := by decide +kernel
theorem dX11_lay_150 : decode cX11_lay 150 = .ok (.ireturn, 1) := by decide +kernel
theorem dX11_layer_0 : decode cX11_layer 0 = .ok (.aload_n 0, 1) := by decide +kernel
theorem dX11_layer_1 : decode cX11_layer 1 = .ok (.iload_n 1, 1) := by decide +kernel
theorem dX11_layer_2 : decode cX11_layer 2 = .ok (.invokevirtual 79, 3) := by decide +kernel
theorem dX11_layer_5 : decode cX11_layer 5 = .ok (.astore_n 2, 1) := by decide +kernel
theorem dX11_layer_6 : decode cX11_layer 6 = .ok (.aload_n 2, 1) := by decide +kernel
theorem dX11_layer_7 : decode cX11_layer 7 = .ok (.ifnonnull 5, 3) := by decide +kernel
theorem dX11_layer_10 : decode cX11_layer 10 = .ok (.iconst (-1), 1) := by decide +kernel
theorem dX11_layer_11 : decode cX11_layer 11 = .ok (.ireturn, 1) := by decide +kernel
theorem dX11_layer_12 : decode cX11_layer 12 = .ok (.aload_n 2, 1) := by decide +kernel
theorem dX11_layer_13 : decode cX11_layer 13 = .ok (.getfield 83, 3) := by decide +kernel
theorem dX11_layer_16 : decode cX11_layer 16 = .ok (.iconst 4, 1) := by decide +kernel
theorem dX11_layer_17 : decode cX11_layer 17 = .ok (.if_icmp .lt 6, 3) := by decide +kernel
theorem dX11_layer_20 : decode cX11_layer 20 = .ok (.bipush (-2), 2) := by decide +kernel
theorem dX11_layer_22 : decode cX11_layer 22 = .ok (.ireturn, 1) := by decide +kernel
theorem dX11_layer_23 : decode cX11_layer 23 = .ok (.aload_n 2, 1) := by decide +kernel
theorem dX11_layer_24 : decode cX11_layer 24 = .ok (.invokevirtual 97, 3) := by decide +kernel
theorem dX11_layer_27 : decode cX11_layer 27 = .ok (.aload_n 2, 1) := by decide +kernel
theorem dX11_layer_28 : decode cX11_layer 28 = .ok (.getfield 83, 3) := by decide +kernel
theorem dX11_layer_31 : decode cX11_layer 31 = .ok (.ireturn, 1) := by decide +kernel
theorem dX11_layerTotal_0 : decode cX11_layerTotal 0 = .ok (.iconst 0, 1) := by decide +kernel
theorem dX11_layerTotal_1 : decode cX11_layerTotal 1 = .ok (.istore_n 1, 1) := by decide +kernel
theorem dX11_layerTotal_2 : decode cX11_layerTotal 2 = .ok (.iconst 0, 1) := by decide +kernel
theorem dX11_layerTotal_3 : decode cX11_layerTotal 3 = .ok (.istore_n 2, 1) := by decide +kernel
theorem dX11_layerTotal_4 : decode cX11_layerTotal 4 = .ok (.iload_n 2, 1) := by decide +kernel
theorem dX11_layerTotal_5 : decode cX11_layerTotal 5 = .ok (.aload_n 0, 1) := by decide +kernel
theorem dX11_layerTotal_6 : decode cX11_layerTotal 6 = .ok (.getfield 74, 3) := by decide +kernel
theorem dX11_layerTotal_9 : decode cX11_layerTotal 9 = .ok (.if_icmp .ge 21, 3) := by decide +kernel
theorem dX11_layerTotal_12 : decode cX11_layerTotal 12 = .ok (.iload_n 1, 1) := by decide +kernel
theorem dX11_layerTotal_13 : decode cX11_layerTotal 13 = .ok (.aload_n 0, 1) := by decide +kernel
theorem dX11_layerTotal_14 : decode cX11_layerTotal 14 = .ok (.getfield 11, 3) := by decide +kernel
theorem dX11_layerTotal_17 : decode cX11_layerTotal 17 = .ok (.iload_n 2, 1) := by decide +kernel
theorem dX11_layerTotal_18 : decode cX11_layerTotal 18 = .ok (.aaload, 1) := by decide +kernel
theorem dX11_layerTotal_19 : decode cX11_layerTotal 19 = .ok (.getfield 83, 3) := by decide +kernel
theorem dX11_layerTotal_22 : decode cX11_layerTotal 22 = .ok (.iadd, 1) := by decide +kernel
theorem dX11_layerTotal_23 : decode cX11_layerTotal 23 = .ok (.istore_n 1, 1) := by decide +kernel
theorem dX11_layerTotal_24 : decode cX11_layerTotal 24 = .ok (.iinc 2 1, 3) := by decide +kernel
theorem dX11_layerTotal_27 : decode cX11_layerTotal 27 = .ok (.goto (-23), 3) := by decide +kernel
theorem dX11_layerTotal_30 : decode cX11_layerTotal 30 = .ok (.iload_n 1, 1) := by decide +kernel
theorem dX11_layerTotal_31 : decode cX11_layerTotal 31 = .ok (.ireturn, 1) := by decide +kernel
theorem dX11_length_0 : decode cX11_length 0 = .ok (.aload_n 0, 1) := by decide +kernel
theorem dX11_length_1 : decode cX11_length 1 = .ok (.iload_n 1, 1) := by decide +kernel
theorem dX11_length_2 : decode cX11_length 2 = .ok (.invokevirtual 79, 3) := by decide +kernel
theorem dX11_length_5 : decode cX11_length 5 = .ok (.astore_n 2, 1) := by decide +kernel
theorem dX11_length_6 : decode cX11_length 6 = .ok (.aload_n 2, 1) := by decide +kernel
theorem dX11_length_7 : decode cX11_length 7 = .ok (.ifnonnull 7, 3) := by decide +kernel
theorem dX11_length_10 : decode cX11_length 10 = .ok (.iconst (-1), 1) := by decide +kernel
theorem dX11_length_11 : decode cX11_length 11 = .ok (.goto 7, 3) := by decide +kernel
theorem dX11_length_14 : decode cX11_length 14 = .ok (.aload_n 2, 1) := by decide +kernel
theorem dX11_length_15 : decode cX11_length 15 = .ok (.getfield 86, 3) := by decide +kernel
theorem dX11_length_18 : decode cX11_length 18 = .ok (.ireturn, 1) := by decide +kernel
theorem dX11_letter_0 : decode cX11_letter 0 = .ok (.aload_n 0, 1) := by decide +kernel
theorem dX11_letter_1 : decode cX11_letter 1 = .ok (.iload_n 1, 1) := by decide +kernel
theorem dX11_letter_2 : decode cX11_letter 2 = .ok (.invokevirtual 173, 3) := by decide +kernel
theorem dX11_letter_5 : decode cX11_letter 5 = .ok (.astore 5, 2) := by decide +kernel
theorem dX11_letter_7 : decode cX11_letter 7 = .ok (.aload_n 0, 1) := by decide +kernel
theorem dX11_letter_8 : decode cX11_letter 8 = .ok (.iload_n 1, 1) := by decide +kernel
theorem dX11_letter_9 : decode cX11_letter 9 = .ok (.iload_n 2, 1) := by decide +kernel
theorem dX11_letter_10 : decode cX11_letter 10 = .ok (.invokevirtual 188, 3) := by decide +kernel
theorem dX11_letter_13 : decode cX11_letter 13 = .ok (.astore 6, 2) := by decide +kernel
theorem dX11_letter_15 : decode cX11_letter 15 = .ok (.aload 5, 2) := by decide +kernel
theorem dX11_letter_17 : decode cX11_letter 17 = .ok (.ifnull 8, 3) := by decide +kernel
theorem dX11_letter_20 : decode cX11_letter 20 = .ok (.aload 6, 2) := by decide +kernel
theorem dX11_letter_22 : decode cX11_letter 22 = .ok (.ifnonnull 5, 3) := by decide +kernel
theorem dX11_letter_25 : decode cX11_letter 25 = .ok (.iconst (-1), 1) := by decide +kernel
theorem dX11_letter_26 : decode cX11_letter 26 = .ok (.ireturn, 1) := by decide +kernel
theorem dX11_letter_27 : decode cX11_letter 27 = .ok (.iload_n 3, 1) := by decide +kernel
theorem dX11_letter_28 : decode cX11_letter 28 = .ok (.ifCond .ne 14, 3) := by decide +kernel
theorem dX11_letter_31 : decode cX11_letter 31 = .ok (.aload 6, 2) := by decide +kernel
theorem dX11_letter_33 : decode cX11_letter 33 = .ok (.getfield 229, 3) := by decide +kernel
theorem dX11_letter_36 : decode cX11_letter 36 = .ok (.iload 4, 2) := by decide +kernel
theorem dX11_letter_38 : decode cX11_letter 38 = .ok (.invokestatic 233, 3) := by decide +kernel
theorem dX11_letter_41 : decode cX11_letter 41 = .ok (.ireturn, 1) := by decide +kernel
theorem dX11_letter_42 : decode cX11_letter 42 = .ok (.iload_n 3, 1) := by decide +kernel
theorem dX11_letter_43 : decode cX11_letter 43 = .ok (.iconst 1, 1) := by decide +kernel
theorem dX11_letter_44 : decode cX11_letter 44 = .ok (.if_icmp .ne 32, 3) := by decide +kernel
theorem dX11_letter_47 : decode cX11_letter 47 = .ok (.aload 6, 2) := by decide +kernel
theorem dX11_letter_49 : decode cX11_letter 49 = .ok (.getfield 192, 3) := by decide +kernel
theorem dX11_letter_52 : decode cX11_letter 52 = .ok (.iconst 1, 1) := by decide +kernel
theorem dX11_letter_53 : decode cX11_letter 53 = .ok (.if_icmp .ne 23, 3) := by decide +kernel
theorem dX11_letter_56 : decode cX11_letter 56 = .ok (.aload 6, 2) := by decide +kernel
theorem dX11_letter_58 : decode cX11_letter 58 = .ok (.getfield 237, 3) := by decide +kernel
theorem dX11_letter_61 : decode cX11_letter 61 = .ok (.ifnull 15, 3) := by decide +kernel
theorem dX11_letter_64 : decode cX11_letter 64 = .ok (.aload 6, 2) := by decide +kernel
theorem dX11_letter_66 : decode cX11_letter 66 = .ok (.getfield 237, 3) := by decide +kernel
theorem dX11_letter_69 : decode cX11_letter 69 = .ok (.getfield 241, 3) := by decide +kernel
theorem dX11_letter_72 : decode cX11_letter 72 = .ok (.iconst (-1), 1) := by decide +kernel
theorem dX11_letter_73 : decode cX11_letter 73 = .ok (.if_icmp .ne 5, 3) := by decide +kernel
theorem dX11_letter_76 : decode cX11_letter 76 = .ok (.iconst (-1), 1) := by decide +kernel
theorem dX11_letter_77 : decode cX11_letter 77 = .ok (.ireturn, 1) := by decide +kernel
theorem dX11_letter_78 : decode cX11_letter 78 = .ok (.aload_n 0, 1) := by decide +kernel
theorem dX11_letter_79 : decode cX11_letter 79 = .ok (.getfield 39, 3) := by decide +kernel
theorem dX11_letter_82 : decode cX11_letter 82 = .ok (.aload 6, 2) := by decide +kernel
theorem dX11_letter_84 : decode cX11_letter 84 = .ok (.getfield 237, 3) := by decide +kernel
theorem dX11_letter_87 : decode cX11_letter 87 = .ok (.getfield 241, 3) := by decide +kernel
theorem dX11_letter_90 : decode cX11_letter 90 = .ok (.aload 6, 2) := by decide +kernel
theorem dX11_letter_92 : decode cX11_letter 92 = .ok (.aload 5, 2) := by decide +kernel
theorem dX11_letter_94 : decode cX11_letter 94 = .ok (.getfield 177, 3) := by decide +kernel
theorem dX11_letter_97 : decode cX11_letter 97 = .ok (.invokevirtual 222, 3) := by decide +kernel
theorem dX11_letter_100 : decode cX11_letter 100 = .ok (.invokevirtual 246, 3) := by decide +kernel
theorem dX11_letter_103 : decode cX11_letter 103 = .ok (.istore 7, 2) := by decide +kernel
theorem dX11_letter_105 : decode cX11_letter 105 = .ok (.iload 7, 2) := by decide +kernel
theorem dX11_letter_107 : decode cX11_letter 107 = .ok (.iconst (-1), 1) := by decide +kernel
theorem dX11_letter_108 : decode cX11_letter 108 = .ok (.if_icmp .ne 7, 3) := by decide +kernel
theorem dX11_letter_111 : decode cX11_letter 111 = .ok (.iconst (-1), 1) := by decide +kernel
theorem dX11_letter_112 : decode cX11_letter 112 = .ok (.goto 18, 3) := by decide +kernel
theorem dX11_letter_115 : decode cX11_letter 115 = .ok (.aload_n 0, 1) := by decide +kernel
theorem dX11_letter_116 : decode cX11_letter 116 = .ok (.getfield 39, 3) := by decide +kernel
theorem dX11_letter_119 : decode cX11_letter 119 = .ok (.getfield 250, 3) := by decide +kernel
theorem dX11_letter_122 : decode cX11_letter 122 = .ok (.iload 7, 2) := by decide +kernel
theorem dX11_letter_124 : decode cX11_letter 124 = .ok (.laload, 1) := by decide +kernel
theorem dX11_letter_125 : decode cX11_letter 125 = .ok (.iload 4, 2) := by decide +kernel
theorem dX11_letter_127 : decode cX11_letter 127 = .ok (.invokestatic 233, 3) := by decide +kernel
theorem dX11_letter_130 : decode cX11_letter 130 = .ok (.ireturn, 1) := by decide +kernel
theorem dX11_letterOf_0 : decode cX11_letterOf 0 = .ok (.iload_n 2, 1) := by decide +kernel
theorem dX11_letterOf_1 : decode cX11_letterOf 1 = .ok (.ifCond .lt 9, 3) := by decide +kernel
theorem dX11_letterOf_4 : decode cX11_letterOf 4 = .ok (.iload_n 2, 1) := by decide +kernel
theorem dX11_letterOf_5 : decode cX11_letterOf 5 = .ok (.bipush 8, 2) := by decide +kernel
theorem dX11_letterOf_7 : decode cX11_letterOf 7 = .ok (.if_icmp .lt 7, 3) := by decide +kernel
theorem dX11_letterOf_10 : decode cX11_letterOf 10 = .ok (.iconst 0, 1) := by decide +kernel
theorem dX11_letterOf_11 : decode cX11_letterOf 11 = .ok (.goto 8, 3) := by decide +kernel
theorem dX11_letterOf_14 : decode cX11_letterOf 14 = .ok (.lload_n 0, 1) := by decide +kernel
theorem dX11_letterOf_15 : decode cX11_letterOf 15 = .ok (.iload_n 2, 1) := by decide +kernel
theorem dX11_letterOf_16 : decode cX11_letterOf 16 = .ok (.invokestatic 315, 3) := by decide +kernel
theorem dX11_letterOf_19 : decode cX11_letterOf 19 = .ok (.istore_n 3, 1) := by decide +kernel
theorem dX11_letterOf_20 : decode cX11_letterOf 20 = .ok (.iload_n 3, 1) := by decide +kernel
theorem dX11_letterOf_21 : decode cX11_letterOf 21 = .ok (.ifCond .ne 7, 3) := by decide +kernel
theorem dX11_letterOf_24 : decode cX11_letterOf 24 = .ok (.iconst (-1), 1) := by decide +kernel
theorem dX11_letterOf_25 : decode cX11_letterOf 25 = .ok (.goto 4, 3) := by decide +kernel
theorem dX11_letterOf_28 : decode cX11_letterOf 28 = .ok (.iload_n 3, 1) := by decide +kernel
theorem dX11_letterOf_29 : decode cX11_letterOf 29 = .ok (.ireturn, 1) := by decide +kernel
theorem dX11_lowBits_0 : decode cX11_lowBits 0 = .ok (.iload_n 0, 1) := by decide +kernel
theorem dX11_lowBits_1 : decode cX11_lowBits 1 = .ok (.bipush 64, 2) := by decide +kernel
theorem dX11_lowBits_3 : decode cX11_lowBits 3 = .ok (.if_icmp .lt 9, 3) := by decide +kernel
theorem dX11_lowBits_6 : decode cX11_lowBits 6 = .ok (.ldc2_w 345, 3) := by decide +kernel
theorem dX11_lowBits_9 : decode cX11_lowBits 9 = .ok (.goto 8, 3) := by decide +kernel
theorem dX11_lowBits_12 : decode cX11_lowBits 12 = .ok (.lconst 1, 1) := by decide +kernel
theorem dX11_lowBits_13 : decode cX11_lowBits 13 = .ok (.iload_n 0, 1) := by decide +kernel
theorem dX11_lowBits_14 : decode cX11_lowBits 14 = .ok (.lshl, 1) := by decide +kernel
theorem dX11_lowBits_15 : decode cX11_lowBits 15 = .ok (.lconst 1, 1) := by decide +kernel
theorem dX11_lowBits_16 : decode cX11_lowBits 16 = .ok (.lsub, 1) := by decide +kernel
theorem dX11_lowBits_17 : decode cX11_lowBits 17 = .ok (.lreturn, 1) := by decide +kernel
theorem dX11_magic_0 : decode cX11_magic 0 = .ok (.aload_n 0, 1) := by decide +kernel
theorem dX11_magic_1 : decode cX11_magic 1 = .ok (.iload_n 1, 1) := by decide +kernel
theorem dX11_magic_2 : decode cX11_magic 2 = .ok (.invokevirtual 79, 3) := by decide +kernel
theorem dX11_magic_5 : decode cX11_magic 5 = .ok (.astore 4, 2) := by decide +kernel
theorem dX11_magic_7 : decode cX11_magic 7 = .ok (.aload 4, 2) := by decide +kernel
theorem dX11_magic_9 : decode cX11_magic 9 = .ok (.ifnull 26, 3) := by decide +kernel
theorem dX11_magic_12 : decode cX11_magic 12 = .ok (.aload_n 0, 1) := by decide +kernel
theorem dX11_magic_13 : decode cX11_magic 13 = .ok (.iload_n 2, 1) := by decide +kernel
theorem dX11_magic_14 : decode cX11_magic 14 = .ok (.invokevirtual 149, 3) := by decide +kernel
theorem dX11_magic_17 : decode cX11_magic 17 = .ok (.ifCond .eq 18, 3) := by decide +kernel
theorem dX11_magic_20 : decode cX11_magic 20 = .ok (.aload_n 0, 1) := by decide +kernel
theorem dX11_magic_21 : decode cX11_magic 21 = .ok (.getfield 39, 3) := by decide +kernel
theorem dX11_magic_24 : decode cX11_magic 24 = .ok (.getfield 153, 3) := by decide +kernel
theorem dX11_magic_27 : decode cX11_magic 27 = .ok (.iload_n 2, 1) := by decide +kernel
theorem dX11_magic_28 : decode cX11_magic 28 = .ok (.aaload, 1) := by decide +kernel
theorem dX11_magic_29 : decode cX11_magic 29 = .ok (.getfield 325, 3) := by decide +kernel
theorem dX11_magic_32 : decode cX11_magic 32 = .ok (.ifCond .ne 5, 3) := by decide +kernel
theorem dX11_magic_35 : decode cX11_magic 35 = .ok (.iconst (-1), 1) := by decide +kernel
theorem dX11_magic_36 : decode cX11_magic 36 = .ok (.ireturn, 1) := by decide +kernel
theorem dX11_magic_37 : decode cX11_magic 37 = .ok (.aload_n 0, 1) := by decide +kernel
theorem dX11_magic_38 : decode cX11_magic 38 = .ok (.getfield 39, 3) := by decide +kernel
theorem dX11_magic_41 : decode cX11_magic 41 = .ok (.getfield 153, 3) := by decide +kernel
theorem dX11_magic_44 : decode cX11_magic 44 = .ok (.iload_n 2, 1) := by decide +kernel
theorem dX11_magic_45 : decode cX11_magic 45 = .ok (.aaload, 1) := by decide +kernel
theorem dX11_magic_46 : decode cX11_magic 46 = .ok (.getfield 328, 3) := by decide +kernel
theorem dX11_magic_49 : decode cX11_magic 49 = .ok (.iconst 0, 1) := by decide +kernel
theorem dX11_magic_50 : decode cX11_magic 50 = .ok (.aaload, 1) := by decide +kernel
theorem dX11_magic_51 : decode cX11_magic 51 = .ok (.astore 5, 2) := by decide +kernel
theorem dX11_magic_53 : decode cX11_magic 53 = .ok (.aload 5, 2) := by decide +kernel
theorem dX11_magic_55 : decode cX11_magic 55 = .ok (.getfield 332, 3) := by decide +kernel
theorem dX11_magic_58 : decode cX11_magic 58 = .ok (.bipush 9, 2) := by decide +kernel
theorem dX11_magic_60 : decode cX11_magic 60 = .ok (.if_icmp .ne 12, 3) := by decide +kernel
theorem dX11_magic_63 : decode cX11_magic 63 = .ok (.aload 5, 2) := by decide +kernel
theorem dX11_magic_65 : decode cX11_magic 65 = .ok (.getfield 333, 3) := by decide +kernel
theorem dX11_magic_68 : decode cX11_magic 68 = .ok (.iconst (-1), 1) := by decide +kernel
theorem dX11_magic_69 : decode cX11_magic 69 = .ok (.if_icmp .eq 5, 3) := by decide +kernel
theorem dX11_magic_72 : decode cX11_magic 72 = .ok (.iconst (-1), 1) := by decide +kernel
theorem dX11_magic_73 : decode cX11_magic 73 = .ok (.ireturn, 1) := by decide +kernel
theorem dX11_magic_74 : decode cX11_magic 74 = .ok (.iconst 0, 1) := by decide +kernel
theorem dX11_magic_75 : decode cX11_magic 75 = .ok (.istore 6, 2) := by decide +kernel
theorem dX11_magic_77 : decode cX11_magic 77 = .ok (.iload 6, 2) := by decide +kernel
theorem dX11_magic_79 : decode cX11_magic 79 = .ok (.aload 5, 2) := by decide +kernel
theorem dX11_magic_81 : decode cX11_magic 81 = .ok (.getfield 336, 3) := by decide +kernel
theorem dX11_magic_84 : decode cX11_magic 84 = .ok (.if_icmp .ge 60, 3) := by decide +kernel
theorem dX11_magic_87 : decode cX11_magic 87 = .ok (.aload_n 0, 1) := by decide +kernel
theorem dX11_magic_88 : decode cX11_magic 88 = .ok (.getfield 39, 3) := by decide +kernel
theorem dX11_magic_91 : decode cX11_magic 91 = .ok (.getfield 339, 3) := by decide +kernel
theorem dX11_magic_94 : decode cX11_magic 94 = .ok (.aload 5, 2) := by decide +kernel
theorem dX11_magic_96 : decode cX11_magic 96 = .ok (.getfield 342, 3) := by decide +kernel
theorem dX11_magic_99 : decode cX11_magic 99 = .ok (.iload 6, 2) := by decide +kernel
theorem dX11_magic_101 : decode cX11_magic 101 = .ok (.iadd, 1) := by decide +kernel
theorem dX11_magic_102 : decode cX11_magic 102 = .ok (.laload, 1) := by decide +kernel
theorem dX11_magic_103 : decode cX11_magic 103 = .ok (.lstore 7, 2) := by decide +kernel
theorem dX11_magic_105 : decode cX11_magic 105 = .ok (.aload_n 0, 1) := by decide +kernel
theorem dX11_magic_106 : decode cX11_magic 106 = .ok (.getfield 64, 3) := by decide +kernel
theorem dX11_magic_109 : decode cX11_magic 109 = .ok (.iload 6, 2) := by decide +kernel
theorem dX11_magic_111 : decode cX11_magic 111 = .ok (.lload 7, 2) := by decide +kernel
theorem dX11_magic_113 : decode cX11_magic 113 = .ok (.l2i, 1) := by decide +kernel
theorem dX11_magic_114 : decode cX11_magic 114 = .ok (.iastore, 1) := by decide +kernel
theorem dX11_magic_115 : decode cX11_magic 115 = .ok (.aload_n 0, 1) := by decide +kernel
theorem dX11_magic_116 : decode cX11_magic 116 = .ok (.getfield 68, 3) := by decide +kernel
theorem dX11_magic_119 : decode cX11_magic 119 = .ok (.iload 6, 2) := by decide +kernel
theorem dX11_magic_121 : decode cX11_magic 121 = .ok (.lload 7, 2) := by decide +kernel
theorem dX11_magic_123 : decode cX11_magic 123 = .ok (.ldc2_w 345, 3) := by decide +kernel
theorem dX11_magic_126 : decode cX11_magic 126 = .ok (.lcmp, 1) := by decide +kernel
theorem dX11_magic_127 : decode cX11_magic 127 = .ok (.ifCond .ne 7, 3) := by decide +kernel
theorem dX11_magic_130 : decode cX11_magic 130 = .ok (.iconst 0, 1) := by decide +kernel
theorem dX11_magic_131 : decode cX11_magic 131 = .ok (.goto 6, 3) := by decide +kernel
theorem dX11_magic_134 : decode cX11_magic 134 = .ok (.sipush 255, 3) := by decide +kernel
theorem dX11_magic_137 : decode cX11_magic 137 = .ok (.iastore, 1) := by decide +kernel
theorem dX11_magic_138 : decode cX11_magic 138 = .ok (.iinc 6 1, 3) := by decide +kernel
theorem dX11_magic_141 : decode cX11_magic 141 = .ok (.goto (-64), 3) := by decide +kernel
theorem dX11_magic_144 : decode cX11_magic 144 = .ok (.aload_n 0, 1) := by decide +kernel
theorem dX11_magic_145 : decode cX11_magic 145 = .ok (.aload 4, 2) := by decide +kernel
theorem dX11_magic_147 : decode cX11_magic 147 = .ok (.aload 5, 2) := by decide +kernel
theorem dX11_magic_149 : decode cX11_magic 149 = .ok (.getfield 336, 3) := by decide +kernel
theorem dX11_magic_152 : decode cX11_magic 152 = .ok (.iload_n 3, 1) := by decide +kernel
theorem dX11_magic_153 : decode cX11_magic 153 = .ok (.invokevirtual 318, 3) := by decide +kernel
theorem dX11_magic_156 : decode cX11_magic 156 = .ok (.ireturn, 1) := by decide +kernel
theorem dX11_masked_0 : decode cX11_masked 0 = .ok (.aload_n 0, 1) := by decide +kernel
theorem dX11_masked_1 : decode cX11_masked 1 = .ok (.iload_n 1, 1) := by decide +kernel
theorem dX11_masked_2 : decode cX11_masked 2 = .ok (.invokevirtual 79, 3) := by decide +kernel
theorem dX11_masked_5 : decode cX11_masked 5 = .ok (.astore_n 3, 1) := by decide +kernel
theorem dX11_masked_6 : decode cX11_masked 6 = .ok (.aload_n 0, 1) := by decide +kernel
theorem dX11_masked_7 : decode cX11_masked 7 = .ok (.getfield 18, 3) := by decide +kernel
theorem dX11_masked_10 : decode cX11_masked 10 = .ok (.getfield 123, 3) := by decide +kernel
theorem dX11_masked_13 : decode cX11_masked 13 = .ok (.iconst 2, 1) := by decide +kernel
theorem dX11_masked_14 : decode cX11_masked 14 = .ok (.idiv, 1) := by decide +kernel
theorem dX11_masked_15 : decode cX11_masked 15 = .ok (.istore 4, 2) := by decide +kernel
theorem dX11_masked_17 : decode cX11_masked 17 = .ok (.aload_n 3, 1) := by decide +kernel
theorem dX11_masked_18 : decode cX11_masked 18 = .ok (.ifnull 22, 3) := by decide +kernel
theorem dX11_masked_21 : decode cX11_masked 21 = .ok (.iload 4, 2) := by decide +kernel
theorem dX11_masked_23 : decode cX11_masked 23 = .ok (.ifCond .eq 17, 3) := by decide +kernel
theorem dX11_masked_26 : decode cX11_masked 26 = .ok (.iload 4, 2) := by decide +kernel
theorem dX11_masked_28 : decode cX11_masked 28 = .ok (.iconst 2, 1) := by decide +kernel
theorem dX11_masked_29 : decode cX11_masked 29 = .ok (.imul, 1) := by decide +kernel
theorem dX11_masked_30 : decode cX11_masked 30 = .ok (.aload_n 0, 1) := by decide +kernel
theorem dX11_masked_31 : decode cX11_masked 31 = .ok (.getfield 18, 3) := by decide +kernel
theorem dX11_masked_34 : decode cX11_masked 34 = .ok (.getfield 123, 3) := by decide +kernel
theorem dX11_masked_37 : decode cX11_masked 37 = .ok (.if_icmp .eq 5, 3) := by decide +kernel
theorem dX11_masked_40 : decode cX11_masked 40 = .ok (.iconst (-1), 1) := by decide +kernel
theorem dX11_masked_41 : decode cX11_masked 41 = .ok (.ireturn, 1) := by decide +kernel
theorem dX11_masked_42 : decode cX11_masked 42 = .ok (.iconst 0, 1) := by decide +kernel
theorem dX11_masked_43 : decode cX11_masked 43 = .ok (.istore 5, 2) := by decide +kernel
theorem dX11_masked_45 : decode cX11_masked 45 = .ok (.iload 5, 2) := by decide +kernel
theorem dX11_masked_47 : decode cX11_masked 47 = .ok (.iload 4, 2) := by decide +kernel
theorem dX11_masked_49 : decode cX11_masked 49 = .ok (.if_icmp .ge 46, 3) := by decide +kernel
theorem dX11_masked_52 : decode cX11_masked 52 = .ok (.aload_n 0, 1) := by decide +kernel
theorem dX11_masked_53 : decode cX11_masked 53 = .ok (.getfield 64, 3) := by decide +kernel
theorem dX11_masked_56 : decode cX11_masked 56 = .ok (.iload 5, 2) := by decide +kernel
theorem dX11_masked_58 : decode cX11_masked 58 = .ok (.aload_n 0, 1) := by decide +kernel
theorem dX11_masked_59 : decode cX11_masked 59 = .ok (.getfield 18, 3) := by decide +kernel
theorem dX11_masked_62 : decode cX11_masked 62 = .ok (.getfield 322, 3) := by decide +kernel
theorem dX11_masked_65 : decode cX11_masked 65 = .ok (.iload 5, 2) := by decide +kernel
theorem dX11_masked_67 : decode cX11_masked 67 = .ok (.iaload, 1) := by decide +kernel
theorem dX11_masked_68 : decode cX11_masked 68 = .ok (.iastore, 1) := by decide +kernel
theorem dX11_masked_69 : decode cX11_masked 69 = .ok (.aload_n 0, 1) := by decide +kernel
theorem dX11_masked_70 : decode cX11_masked 70 = .ok (.getfield 68, 3) := by decide +kernel
theorem dX11_masked_73 : decode cX11_masked 73 = .ok (.iload 5, 2) := by decide +kernel
theorem dX11_masked_75 : decode cX11_masked 75 = .ok (.aload_n 0, 1) := by decide +kernel
theorem dX11_masked_76 : decode cX11_masked 76 = .ok (.getfield 18, 3) := by decide +kernel
theorem dX11_masked_79 : decode cX11_masked 79 = .ok (.getfield 322, 3) := by decide +kernel
theorem dX11_masked_82 : decode cX11_masked 82 = .ok (.iload 4, 2) := by decide +kernel
theorem dX11_masked_84 : decode cX11_masked 84 = .ok (.iload 5, 2) := by decide +kernel
theorem dX11_masked_86 : decode cX11_masked 86 = .ok (.iadd, 1) := by decide +kernel
theorem dX11_masked_87 : decode cX11_masked 87 = .ok (.iaload, 1) := by decide +kernel
theorem dX11_masked_88 : decode cX11_masked 88 = .ok (.iastore, 1) := by decide +kernel
theorem dX11_masked_89 : decode cX11_masked 89 = .ok (.iinc 5 1, 3) := by decide +kernel
theorem dX11_masked_92 : decode cX11_masked 92 = .ok (.goto (-47), 3) := by decide +kernel
theorem dX11_masked_95 : decode cX11_masked 95 = .ok (.aload_n 0, 1) := by decide +kernel
theorem dX11_masked_96 : decode cX11_masked 96 = .ok (.aload_n 3, 1) := by decide +kernel
theorem dX11_masked_97 : decode cX11_masked 97 = .ok (.iload 4, 2) := by decide +kernel
theorem dX11_masked_99 : decode cX11_masked 99 = .ok (.iload_n 2, 1) := by decide +kernel
theorem dX11_masked_100 : decode cX11_masked 100 = .ok (.invokevirtual 318, 3) := by decide +kernel
theorem dX11_masked_103 : decode cX11_masked 103 = .ok (.ireturn, 1) := by decide +kernel
theorem dX11_matchOf_0 : decode cX11_matchOf 0 = .ok (.iload_n 3, 1) := by decide +kernel
theorem dX11_matchOf_1 : decode cX11_matchOf 1 = .ok (.istore 4, 2) := by decide +kernel
theorem dX11_matchOf_3 : decode cX11_matchOf 3 = .ok (.iconst 0, 1) := by decide +kernel
theorem dX11_matchOf_4 : decode cX11_matchOf 4 = .ok (.istore 5, 2) := by decide +kernel
theorem dX11_matchOf_6 : decode cX11_matchOf 6 = .ok (.iload_n 3, 1) := by decide +kernel
theorem dX11_matchOf_7 : decode cX11_matchOf 7 = .ok (.ifCond .lt 42, 3) := by decide +kernel
theorem dX11_matchOf_10 : decode cX11_matchOf 10 = .ok (.iload 5, 2) := by decide +kernel
theorem dX11_matchOf_12 : decode cX11_matchOf 12 = .ok (.iload_n 2, 1) := by decide +kernel
theorem dX11_matchOf_13 : decode cX11_matchOf 13 = .ok (.iadd, 1) := by decide +kernel
theorem dX11_matchOf_14 : decode cX11_matchOf 14 = .ok (.aload_n 1, 1) := by decide +kernel
theorem dX11_matchOf_15 : decode cX11_matchOf 15 = .ok (.getfield 86, 3) := by decide +kernel
theorem dX11_matchOf_18 : decode cX11_matchOf 18 = .ok (.if_icmp .gt 31, 3) := by decide +kernel
theorem dX11_matchOf_21 : decode cX11_matchOf 21 = .ok (.aload_n 0, 1) := by decide +kernel
theorem dX11_matchOf_22 : decode cX11_matchOf 22 = .ok (.aload_n 1, 1) := by decide +kernel
theorem dX11_matchOf_23 : decode cX11_matchOf 23 = .ok (.iload 5, 2) := by decide +kernel
theorem dX11_matchOf_25 : decode cX11_matchOf 25 = .ok (.iload_n 2, 1) := by decide +kernel
theorem dX11_matchOf_26 : decode cX11_matchOf 26 = .ok (.invokevirtual 398, 3) := by decide +kernel
theorem dX11_matchOf_29 : decode cX11_matchOf 29 = .ok (.ifCond .eq 14, 3) := by decide +kernel
theorem dX11_matchOf_32 : decode cX11_matchOf 32 = .ok (.iload 4, 2) := by decide +kernel
theorem dX11_matchOf_34 : decode cX11_matchOf 34 = .ok (.ifCond .ne 6, 3) := by decide +kernel
theorem dX11_matchOf_37 : decode cX11_matchOf 37 = .ok (.iload 5, 2) := by decide +kernel
theorem dX11_matchOf_39 : decode cX11_matchOf 39 = .ok (.ireturn, 1) := by decide +kernel
theorem dX11_matchOf_40 : decode cX11_matchOf 40 = .ok (.iinc 4 (-1), 3) := by decide +kernel
theorem dX11_matchOf_43 : decode cX11_matchOf 43 = .ok (.iinc 5 1, 3) := by decide +kernel
theorem dX11_matchOf_46 : decode cX11_matchOf 46 = .ok (.goto (-40), 3) := by decide +kernel
theorem dX11_matchOf_49 : decode cX11_matchOf 49 = .ok (.iconst (-1), 1) := by decide +kernel
theorem dX11_matchOf_50 : decode cX11_matchOf 50 = .ok (.ireturn, 1) := by decide +kernel
theorem dX11_matches_0 : decode cX11_matches 0 = .ok (.iconst 0, 1) := by decide +kernel
theorem dX11_matches_1 : decode cX11_matches 1 = .ok (.istore 4, 2) := by decide +kernel
theorem dX11_matches_3 : decode cX11_matches 3 = .ok (.iload 4, 2) := by decide +kernel
theorem dX11_matches_5 : decode cX11_matches 5 = .ok (.iload_n 3, 1) := by decide +kernel
theorem dX11_matches_6 : decode cX11_matches 6 = .ok (.if_icmp .ge 38, 3) := by decide +kernel
theorem dX11_matches_9 : decode cX11_matches 9 = .ok (.aload_n 1, 1) := by decide +kernel
theorem dX11_matches_10 : decode cX11_matches 10 = .ok (.iload_n 2, 1) := by decide +kernel
theorem dX11_matches_11 : decode cX11_matches 11 = .ok (.iload 4, 2) := by decide +kernel
theorem dX11_matches_13 : decode cX11_matches 13 = .ok (.iadd, 1) := by decide +kernel
theorem dX11_matches_14 : decode cX11_matches 14 = .ok (.invokevirtual 93, 3) := by decide +kernel
theorem dX11_matches_17 : decode cX11_matches 17 = .ok (.aload_n 0, 1) := by decide +kernel
theorem dX11_matches_18 : decode cX11_matches 18 = .ok (.getfield 64, 3) := by decide +kernel
theorem dX11_matches_21 : decode cX11_matches 21 = .ok (.iload 4, 2) := by decide +kernel
theorem dX11_matches_23 : decode cX11_matches 23 = .ok (.iaload, 1) := by decide +kernel
theorem dX11_matches_24 : decode cX11_matches 24 = .ok (.ixor, 1) := by decide +kernel
theorem dX11_matches_25 : decode cX11_matches 25 = .ok (.aload_n 0, 1) := by decide +kernel
theorem dX11_matches_26 : decode cX11_matches 26 = .ok (.getfield 68, 3) := by decide +kernel
theorem dX11_matches_29 : decode cX11_matches 29 = .ok (.iload 4, 2) := by decide +kernel
theorem dX11_matches_31 : decode cX11_matches 31 = .ok (.iaload, 1) := by decide +kernel
theorem dX11_matches_32 : decode cX11_matches 32 = .ok (.iand, 1) := by decide +kernel
theorem dX11_matches_33 : decode cX11_matches 33 = .ok (.ifCond .eq 5, 3) := by decide +kernel
theorem dX11_matches_36 : decode cX11_matches 36 = .ok (.iconst 0, 1) := by decide +kernel
theorem dX11_matches_37 : decode cX11_matches 37 = .ok (.ireturn, 1) := by decide +kernel
theorem dX11_matches_38 : decode cX11_matches 38 = .ok (.iinc 4 1, 3) := by decide +kernel
theorem dX11_matches_41 : decode cX11_matches 41 = .ok (.goto (-38), 3) := by decide +kernel
theorem dX11_matches_44 : decode cX11_matches 44 = .ok (.iconst 1, 1) := by decide +kernel
theorem dX11_matches_45 : decode cX11_matches 45 = .ok (.ireturn, 1) := by decide +kernel
theorem dX11_node_0 : decode cX11_node 0 = .ok (.aload_n 0, 1) := by decide +kernel
theorem dX11_node_1 : decode cX11_node 1 = .ok (.iload_n 1, 1) := by decide +kernel
theorem dX11_node_2 : decode cX11_node 2 = .ok (.iload_n 2, 1) := by decide +kernel
theorem dX11_node_3 : decode cX11_node 3 = .ok (.invokevirtual 188, 3) := by decide +kernel
theorem dX11_node_6 : decode cX11_node 6 = .ok (.astore 4, 2) := by decide +kernel
theorem dX11_node_8 : decode cX11_node 8 = .ok (.aload 4, 2) := by decide +kernel
theorem dX11_node_10 : decode cX11_node 10 = .ok (.ifnonnull 5, 3) := by decide +kernel
theorem dX11_node_13 : decode cX11_node 13 = .ok (.iconst (-1), 1) := by decide +kernel
theorem dX11_node_14 : decode cX11_node 14 = .ok (.ireturn, 1) := by decide +kernel
theorem dX11_node_15 : decode cX11_node 15 = .ok (.iload_n 3, 1) := by decide +kernel
theorem dX11_node_16 : decode cX11_node 16 = .ok (.tableswitch 131 0 7 #[48, 54, 60, 66, 87, 93, 99, 113], 48) := by decide +kernel
theorem dX11_node_64 : decode cX11_node 64 = .ok (.aload 4, 2) := by decide +kernel
theorem dX11_node_66 : decode cX11_node 66 = .ok (.getfield 192, 3) := by decide +kernel
theorem dX11_node_69 : decode cX11_node 69 = .ok (.ireturn, 1) := by decide +kernel
theorem dX11_node_70 : decode cX11_node 70 = .ok (.aload 4, 2) := by decide +kernel
theorem dX11_node_72 : decode cX11_node 72 = .ok (.getfield 197, 3) := by decide +kernel
theorem dX11_node_75 : decode cX11_node 75 = .ok (.ireturn, 1) := by decide +kernel
theorem dX11_node_76 : decode cX11_node 76 = .ok (.aload 4, 2) := by decide +kernel
theorem dX11_node_78 : decode cX11_node 78 = .ok (.getfield 200, 3) := by decide +kernel
theorem dX11_node_81 : decode cX11_node 81 = .ok (.ireturn, 1) := by decide +kernel
theorem dX11_node_82 : decode cX11_node 82 = .ok (.aload 4, 2) := by decide +kernel
theorem dX11_node_84 : decode cX11_node 84 = .ok (.getfield 203, 3) := by decide +kernel
theorem dX11_node_87 : decode cX11_node 87 = .ok (.ifnonnull 7, 3) := by decide +kernel
theorem dX11_node_90 : decode cX11_node 90 = .ok (.iconst (-1), 1) := by decide +kernel
theorem dX11_node_91 : decode cX11_node 91 = .ok (.goto 11, 3) := by decide +kernel
theorem dX11_node_94 : decode cX11_node 94 = .ok (.aload 4, 2) := by decide +kernel
theorem dX11_node_96 : decode cX11_node 96 = .ok (.getfield 203, 3) := by decide +kernel
theorem dX11_node_99 : decode cX11_node 99 = .ok (.getfield 207, 3) := by decide +kernel
theorem dX11_node_102 : decode cX11_node 102 = .ok (.ireturn, 1) := by decide +kernel
theorem dX11_node_103 : decode cX11_node 103 = .ok (.aload 4, 2) := by decide +kernel
theorem dX11_node_105 : decode cX11_node 105 = .ok (.getfield 210, 3) := by decide +kernel
theorem dX11_node_108 : decode cX11_node 108 = .ok (.ireturn, 1) := by decide +kernel
theorem dX11_node_109 : decode cX11_node 109 = .ok (.aload 4, 2) := by decide +kernel
theorem dX11_node_111 : decode cX11_node 111 = .ok (.getfield 213, 3) := by decide +kernel
theorem dX11_node_114 : decode cX11_node 114 = .ok (.ireturn, 1) := by decide +kernel
theorem dX11_node_115 : decode cX11_node 115 = .ok (.aload 4, 2) := by decide +kernel
theorem dX11_node_117 : decode cX11_node 117 = .ok (.getfield 214, 3) := by decide +kernel
theorem dX11_node_120 : decode cX11_node 120 = .ok (.ifCond .eq 7, 3) := by decide +kernel
theorem dX11_node_123 : decode cX11_node 123 = .ok (.iconst 1, 1) := by decide +kernel
theorem dX11_node_124 : decode cX11_node 124 = .ok (.goto 4, 3) := by decide +kernel
theorem dX11_node_127 : decode cX11_node 127 = .ok (.iconst 0, 1) := by decide +kernel
theorem dX11_node_128 : decode cX11_node 128 = .ok (.ireturn, 1) := by decide +kernel
theorem dX11_node_129 : decode cX11_node 129 = .ok (.aload 4, 2) := by decide +kernel
theorem dX11_node_131 : decode cX11_node 131 = .ok (.getfield 192, 3) := by decide +kernel
theorem dX11_node_134 : decode cX11_node 134 = .ok (.ifCond .ne 11, 3) := by decide +kernel
theorem dX11_node_137 : decode cX11_node 137 = .ok (.aload 4, 2) := by decide +kernel
theorem dX11_node_139 : decode cX11_node 139 = .ok (.getfield 217, 3) := by decide +kernel
theorem dX11_node_142 : decode cX11_node 142 = .ok (.goto 4, 3) := by decide +kernel
theorem dX11_node_145 : decode cX11_node 145 = .ok (.iconst (-1), 1) := by decide +kernel
theorem dX11_node_146 : decode cX11_node 146 = .ok (.ireturn, 1) := by decide +kernel
theorem dX11_node_147 : decode cX11_node 147 = .ok (.iconst (-1), 1) := by decide +kernel
theorem dX11_node_148 : decode cX11_node 148 = .ok (.ireturn, 1) := by decide +kernel
theorem dX11_nodeOf_0 : decode cX11_nodeOf 0 = .ok (.aload_n 0, 1) := by decide +kernel
theorem dX11_nodeOf_1 : decode cX11_nodeOf 1 = .ok (.iload_n 1, 1) := by decide +kernel
theorem dX11_nodeOf_2 : decode cX11_nodeOf 2 = .ok (.invokevirtual 173, 3) := by decide +kernel
theorem dX11_nodeOf_5 : decode cX11_nodeOf 5 = .ok (.astore_n 3, 1) := by decide +kernel
theorem dX11_nodeOf_6 : decode cX11_nodeOf 6 = .ok (.aload_n 3, 1) := by decide +kernel
theorem dX11_nodeOf_7 : decode cX11_nodeOf 7 = .ok (.ifnull 15, 3) := by decide +kernel
theorem dX11_nodeOf_10 : decode cX11_nodeOf 10 = .ok (.iload_n 2, 1) := by decide +kernel
theorem dX11_nodeOf_11 : decode cX11_nodeOf 11 = .ok (.ifCond .lt 11, 3) := by decide +kernel
theorem dX11_nodeOf_14 : decode cX11_nodeOf 14 = .ok (.iload_n 2, 1) := by decide +kernel
theorem dX11_nodeOf_15 : decode cX11_nodeOf 15 = .ok (.aload_n 3, 1) := by decide +kernel
theorem dX11_nodeOf_16 : decode cX11_nodeOf 16 = .ok (.getfield 187, 3) := by decide +kernel
theorem dX11_nodeOf_19 : decode cX11_nodeOf 19 = .ok (.if_icmp .lt 7, 3) := by decide +kernel
theorem dX11_nodeOf_22 : decode cX11_nodeOf 22 = .ok (.aconst_null, 1) := by decide +kernel
theorem dX11_nodeOf_23 : decode cX11_nodeOf 23 = .ok (.goto 9, 3) := by decide +kernel
theorem dX11_nodeOf_26 : decode cX11_nodeOf 26 = .ok (.aload_n 3, 1) := by decide +kernel
theorem dX11_nodeOf_27 : decode cX11_nodeOf 27 = .ok (.getfield 385, 3) := by decide +kernel
theorem dX11_nodeOf_30 : decode cX11_nodeOf 30 = .ok (.iload_n 2, 1) := by decide +kernel
theorem dX11_nodeOf_31 : decode cX11_nodeOf 31 = .ok (.aaload, 1) := by decide +kernel
theorem dX11_nodeOf_32 : decode cX11_nodeOf 32 = .ok (.areturn, 1) := by decide +kernel
theorem dX11_nodeTotal_0 : decode cX11_nodeTotal 0 = .ok (.iconst 0, 1) := by decide +kernel
theorem dX11_nodeTotal_1 : decode cX11_nodeTotal 1 = .ok (.istore_n 1, 1) := by decide +kernel
theorem dX11_nodeTotal_2 : decode cX11_nodeTotal 2 = .ok (.iconst 0, 1) := by decide +kernel
theorem dX11_nodeTotal_3 : decode cX11_nodeTotal 3 = .ok (.istore_n 2, 1) := by decide +kernel
theorem dX11_nodeTotal_4 : decode cX11_nodeTotal 4 = .ok (.iload_n 2, 1) := by decide +kernel
theorem dX11_nodeTotal_5 : decode cX11_nodeTotal 5 = .ok (.aload_n 0, 1) := by decide +kernel
theorem dX11_nodeTotal_6 : decode cX11_nodeTotal 6 = .ok (.getfield 143, 3) := by decide +kernel
theorem dX11_nodeTotal_9 : decode cX11_nodeTotal 9 = .ok (.if_icmp .ge 21, 3) := by decide +kernel
theorem dX11_nodeTotal_12 : decode cX11_nodeTotal 12 = .ok (.iload_n 1, 1) := by decide +kernel
theorem dX11_nodeTotal_13 : decode cX11_nodeTotal 13 = .ok (.aload_n 0, 1) := by decide +kernel
theorem dX11_nodeTotal_14 : decode cX11_nodeTotal 14 = .ok (.getfield 55, 3) := by decide +kernel
theorem dX11_nodeTotal_17 : decode cX11_nodeTotal 17 = .ok (.iload_n 2, 1) := by decide +kernel
theorem dX11_nodeTotal_18 : decode cX11_nodeTotal 18 = .ok (.aaload, 1) := by decide +kernel
theorem dX11_nodeTotal_19 : decode cX11_nodeTotal 19 = .ok (.getfield 187, 3) := by decide +kernel
theorem dX11_nodeTotal_22 : decode cX11_nodeTotal 22 = .ok (.iadd, 1) := by decide +kernel
theorem dX11_nodeTotal_23 : decode cX11_nodeTotal 23 = .ok (.istore_n 1, 1) := by decide +kernel
theorem dX11_nodeTotal_24 : decode cX11_nodeTotal 24 = .ok (.iinc 2 1, 3) := by decide +kernel
theorem dX11_nodeTotal_27 : decode cX11_nodeTotal 27 = .ok (.goto (-23), 3) := by decide +kernel
theorem dX11_nodeTotal_30 : decode cX11_nodeTotal 30 = .ok (.iload_n 1, 1) := by decide +kernel
theorem dX11_nodeTotal_31 : decode cX11_nodeTotal 31 = .ok (.ireturn, 1) := by decide +kernel
theorem dX11_out_0 : decode cX11_out 0 = .ok (.aload_n 0, 1) := by decide +kernel
theorem dX11_out_1 : decode cX11_out 1 = .ok (.getfield 281, 3) := by decide +kernel
theorem dX11_out_4 : decode cX11_out 4 = .ok (.lreturn, 1) := by decide +kernel
theorem dX11_poke_0 : decode cX11_poke 0 = .ok (.aload_n 0, 1) := by decide +kernel
theorem dX11_poke_1 : decode cX11_poke 1 = .ok (.iload_n 1, 1) := by decide +kernel
theorem dX11_poke_2 : decode cX11_poke 2 = .ok (.invokevirtual 79, 3) := by decide +kernel
theorem dX11_poke_5 : decode cX11_poke 5 = .ok (.astore 4, 2) := by decide +kernel
theorem dX11_poke_7 : decode cX11_poke 7 = .ok (.aload 4, 2) := by decide +kernel
theorem dX11_poke_9 : decode cX11_poke 9 = .ok (.ifnull 13, 3) := by decide +kernel
theorem dX11_poke_12 : decode cX11_poke 12 = .ok (.aload 4, 2) := by decide +kernel
theorem dX11_poke_14 : decode cX11_poke 14 = .ok (.iload_n 2, 1) := by decide +kernel
theorem dX11_poke_15 : decode cX11_poke 15 = .ok (.invokevirtual 93, 3) := by decide +kernel
theorem dX11_poke_18 : decode cX11_poke 18 = .ok (.iconst (-1), 1) := by decide +kernel
theorem dX11_poke_19 : decode cX11_poke 19 = .ok (.if_icmp .ne 5, 3) := by decide +kernel
theorem dX11_poke_22 : decode cX11_poke 22 = .ok (.iconst (-1), 1) := by decide +kernel
theorem dX11_poke_23 : decode cX11_poke 23 = .ok (.ireturn, 1) := by decide +kernel
theorem dX11_poke_24 : decode cX11_poke 24 = .ok (.iload_n 3, 1) := by decide +kernel
theorem dX11_poke_25 : decode cX11_poke 25 = .ok (.ifCond .lt 10, 3) := by decide +kernel
theorem dX11_poke_28 : decode cX11_poke 28 = .ok (.iload_n 3, 1) := by decide +kernel
theorem dX11_poke_29 : decode cX11_poke 29 = .ok (.sipush 255, 3) := by decide +kernel
theorem dX11_poke_32 : decode cX11_poke 32 = .ok (.if_icmp .le 6, 3) := by decide +kernel
theorem dX11_poke_35 : decode cX11_poke 35 = .ok (.bipush (-3), 2) := by decide +kernel
theorem dX11_poke_37 : decode cX11_poke 37 = .ok (.ireturn, 1) := by decide +kernel
theorem dX11_poke_38 : decode cX11_poke 38 = .ok (.aload 4, 2) := by decide +kernel
theorem dX11_poke_40 : decode cX11_poke 40 = .ok (.iload_n 2, 1) := by decide +kernel
theorem dX11_poke_41 : decode cX11_poke 41 = .ok (.invokevirtual 93, 3) := by decide +kernel
theorem dX11_poke_44 : decode cX11_poke 44 = .ok (.istore 5, 2) := by decide +kernel
theorem dX11_poke_46 : decode cX11_poke 46 = .ok (.aload 4, 2) := by decide +kernel
theorem dX11_poke_48 : decode cX11_poke 48 = .ok (.iload_n 2, 1) := by decide +kernel
theorem dX11_poke_49 : decode cX11_poke 49 = .ok (.iconst 1, 1) := by decide +kernel
theorem dX11_poke_50 : decode cX11_poke 50 = .ok (.iload_n 3, 1) := by decide +kernel
theorem dX11_poke_51 : decode cX11_poke 51 = .ok (.i2l, 1) := by decide +kernel
theorem dX11_poke_52 : decode cX11_poke 52 = .ok (.iconst 0, 1) := by decide +kernel
theorem dX11_poke_53 : decode cX11_poke 53 = .ok (.invokevirtual 107, 3) := by decide +kernel
theorem dX11_poke_56 : decode cX11_poke 56 = .ok (.iload 5, 2) := by decide +kernel
theorem dX11_poke_58 : decode cX11_poke 58 = .ok (.ireturn, 1) := by decide +kernel
theorem dX11_push_0 : decode cX11_push 0 = .ok (.aload_n 0, 1) := by decide +kernel
theorem dX11_push_1 : decode cX11_push 1 = .ok (.iload_n 1, 1) := by decide +kernel
theorem dX11_push_2 : decode cX11_push 2 = .ok (.invokevirtual 79, 3) := by decide +kernel
theorem dX11_push_5 : decode cX11_push 5 = .ok (.astore 5, 2) := by decide +kernel
theorem dX11_push_7 : decode cX11_push 7 = .ok (.aload 5, 2) := by decide +kernel
theorem dX11_push_9 : decode cX11_push 9 = .ok (.ifnonnull 5, 3) := by decide +kernel
theorem dX11_push_12 : decode cX11_push 12 = .ok (.iconst (-1), 1) := by decide +kernel
theorem dX11_push_13 : decode cX11_push 13 = .ok (.ireturn, 1) := by decide +kernel
theorem dX11_push_14 : decode cX11_push 14 = .ok (.aload 5, 2) := by decide +kernel
theorem dX11_push_16 : decode cX11_push 16 = .ok (.getfield 83, 3) := by decide +kernel
theorem dX11_push_19 : decode cX11_push 19 = .ok (.ifCond .le 6, 3) := by decide +kernel
theorem dX11_push_22 : decode cX11_push 22 = .ok (.bipush (-7), 2) := by decide +kernel
theorem dX11_push_24 : decode cX11_push 24 = .ok (.ireturn, 1) := by decide +kernel
theorem dX11_push_25 : decode cX11_push 25 = .ok (.iload 4, 2) := by decide +kernel
theorem dX11_push_27 : decode cX11_push 27 = .ok (.iconst 1, 1) := by decide +kernel
theorem dX11_push_28 : decode cX11_push 28 = .ok (.if_icmp .lt 10, 3) := by decide +kernel
theorem dX11_push_31 : decode cX11_push 31 = .ok (.iload 4, 2) := by decide +kernel
theorem dX11_push_33 : decode cX11_push 33 = .ok (.bipush 8, 2) := by decide +kernel
theorem dX11_push_35 : decode cX11_push 35 = .ok (.if_icmp .le 6, 3) := by decide +kernel
theorem dX11_push_38 : decode cX11_push 38 = .ok (.bipush (-3), 2) := by decide +kernel
theorem dX11_push_40 : decode cX11_push 40 = .ok (.ireturn, 1) := by decide +kernel
theorem dX11_push_41 : decode cX11_push 41 = .ok (.aload 5, 2) := by decide +kernel
theorem dX11_push_43 : decode cX11_push 43 = .ok (.getfield 86, 3) := by decide +kernel
theorem dX11_push_46 : decode cX11_push 46 = .ok (.iload 4, 2) := by decide +kernel
theorem dX11_push_48 : decode cX11_push 48 = .ok (.iadd, 1) := by decide +kernel
theorem dX11_push_49 : decode cX11_push 49 = .ok (.sipush 2000, 3) := by decide +kernel
theorem dX11_push_52 : decode cX11_push 52 = .ok (.if_icmp .le 6, 3) := by decide +kernel
theorem dX11_push_55 : decode cX11_push 55 = .ok (.bipush (-2), 2) := by decide +kernel
theorem dX11_push_57 : decode cX11_push 57 = .ok (.ireturn, 1) := by decide +kernel
theorem dX11_push_58 : decode cX11_push 58 = .ok (.aload 5, 2) := by decide +kernel
theorem dX11_push_60 : decode cX11_push 60 = .ok (.lload_n 2, 1) := by decide +kernel
theorem dX11_push_61 : decode cX11_push 61 = .ok (.iload 4, 2) := by decide +kernel
theorem dX11_push_63 : decode cX11_push 63 = .ok (.invokevirtual 89, 3) := by decide +kernel
theorem dX11_push_66 : decode cX11_push 66 = .ok (.aload 5, 2) := by decide +kernel
theorem dX11_push_68 : decode cX11_push 68 = .ok (.getfield 86, 3) := by decide +kernel
theorem dX11_push_71 : decode cX11_push 71 = .ok (.ireturn, 1) := by decide +kernel
theorem dX11_put_0 : decode cX11_put 0 = .ok (.aload_n 0, 1) := by decide +kernel
theorem dX11_put_1 : decode cX11_put 1 = .ok (.iload_n 1, 1) := by decide +kernel
theorem dX11_put_2 : decode cX11_put 2 = .ok (.invokevirtual 173, 3) := by decide +kernel
theorem dX11_put_5 : decode cX11_put 5 = .ok (.astore 5, 2) := by decide +kernel
theorem dX11_put_7 : decode cX11_put 7 = .ok (.aload_n 0, 1) := by decide +kernel
theorem dX11_put_8 : decode cX11_put 8 = .ok (.iload_n 1, 1) := by decide +kernel
theorem dX11_put_9 : decode cX11_put 9 = .ok (.iload_n 2, 1) := by decide +kernel
theorem dX11_put_10 : decode cX11_put 10 = .ok (.invokevirtual 188, 3) := by decide +kernel
theorem dX11_put_13 : decode cX11_put 13 = .ok (.astore 6, 2) := by decide +kernel
theorem dX11_put_15 : decode cX11_put 15 = .ok (.aload 5, 2) := by decide +kernel
theorem dX11_put_17 : decode cX11_put 17 = .ok (.ifnull 8, 3) := by decide +kernel
theorem dX11_put_20 : decode cX11_put 20 = .ok (.aload 6, 2) := by decide +kernel
theorem dX11_put_22 : decode cX11_put 22 = .ok (.ifnonnull 5, 3) := by decide +kernel
theorem dX11_put_25 : decode cX11_put 25 = .ok (.iconst (-1), 1) := by decide +kernel
theorem dX11_put_26 : decode cX11_put 26 = .ok (.ireturn, 1) := by decide +kernel
theorem dX11_put_27 : decode cX11_put 27 = .ok (.aload 6, 2) := by decide +kernel
theorem dX11_put_29 : decode cX11_put 29 = .ok (.getfield 192, 3) := by decide +kernel
theorem dX11_put_32 : decode cX11_put 32 = .ok (.iconst 5, 1) := by decide +kernel
theorem dX11_put_33 : decode cX11_put 33 = .ok (.if_icmp .ne 11, 3) := by decide +kernel
theorem dX11_put_36 : decode cX11_put 36 = .ok (.aload 6, 2) := by decide +kernel
theorem dX11_put_38 : decode cX11_put 38 = .ok (.getfield 237, 3) := by decide +kernel
theorem dX11_put_41 : decode cX11_put 41 = .ok (.ifnonnull 6, 3) := by decide +kernel
theorem dX11_put_44 : decode cX11_put 44 = .ok (.bipush (-4), 2) := by decide +kernel
theorem dX11_put_46 : decode cX11_put 46 = .ok (.ireturn, 1) := by decide +kernel
theorem dX11_put_47 : decode cX11_put 47 = .ok (.aload 6, 2) := by decide +kernel
theorem dX11_put_49 : decode cX11_put 49 = .ok (.getfield 213, 3) := by decide +kernel
theorem dX11_put_52 : decode cX11_put 52 = .ok (.iconst 1, 1) := by decide +kernel
theorem dX11_put_53 : decode cX11_put 53 = .ok (.if_icmp .ne 6, 3) := by decide +kernel
theorem dX11_put_56 : decode cX11_put 56 = .ok (.bipush (-5), 2) := by decide +kernel
theorem dX11_put_58 : decode cX11_put 58 = .ok (.ireturn, 1) := by decide +kernel
theorem dX11_put_59 : decode cX11_put 59 = .ok (.aload 6, 2) := by decide +kernel
theorem dX11_put_61 : decode cX11_put 61 = .ok (.getfield 237, 3) := by decide +kernel
theorem dX11_put_64 : decode cX11_put 64 = .ok (.getfield 306, 3) := by decide +kernel
theorem dX11_put_67 : decode cX11_put 67 = .ok (.iconst (-1), 1) := by decide +kernel
theorem dX11_put_68 : decode cX11_put 68 = .ok (.if_icmp .ne 22, 3) := by decide +kernel
theorem dX11_put_71 : decode cX11_put 71 = .ok (.iload 4, 2) := by decide +kernel
theorem dX11_put_73 : decode cX11_put 73 = .ok (.i2l, 1) := by decide +kernel
theorem dX11_put_74 : decode cX11_put 74 = .ok (.aload 6, 2) := by decide +kernel
theorem dX11_put_76 : decode cX11_put 76 = .ok (.getfield 237, 3) := by decide +kernel
theorem dX11_put_79 : decode cX11_put 79 = .ok (.getfield 309, 3) := by decide +kernel
theorem dX11_put_82 : decode cX11_put 82 = .ok (.lcmp, 1) := by decide +kernel
theorem dX11_put_83 : decode cX11_put 83 = .ok (.ifCond .ne 7, 3) := by decide +kernel
theorem dX11_put_86 : decode cX11_put 86 = .ok (.iconst 1, 1) := by decide +kernel
theorem dX11_put_87 : decode cX11_put 87 = .ok (.goto 4, 3) := by decide +kernel
theorem dX11_put_90 : decode cX11_put 90 = .ok (.iconst 0, 1) := by decide +kernel
theorem dX11_put_91 : decode cX11_put 91 = .ok (.istore 7, 2) := by decide +kernel
theorem dX11_put_93 : decode cX11_put 93 = .ok (.aload 6, 2) := by decide +kernel
theorem dX11_put_95 : decode cX11_put 95 = .ok (.iload_n 3, 1) := by decide +kernel
theorem dX11_put_96 : decode cX11_put 96 = .ok (.invokevirtual 226, 3) := by decide +kernel
theorem dX11_put_99 : decode cX11_put 99 = .ok (.ifCond .eq 21, 3) := by decide +kernel
theorem dX11_put_102 : decode cX11_put 102 = .ok (.iload 4, 2) := by decide +kernel
theorem dX11_put_104 : decode cX11_put 104 = .ok (.ifCond .lt 16, 3) := by decide +kernel
theorem dX11_put_107 : decode cX11_put 107 = .ok (.iload 4, 2) := by decide +kernel
theorem dX11_put_109 : decode cX11_put 109 = .ok (.sipush 255, 3) := by decide +kernel
theorem dX11_put_112 : decode cX11_put 112 = .ok (.if_icmp .gt 8, 3) := by decide +kernel
theorem dX11_put_115 : decode cX11_put 115 = .ok (.iload 7, 2) := by decide +kernel
theorem dX11_put_117 : decode cX11_put 117 = .ok (.ifCond .eq 6, 3) := by decide +kernel
theorem dX11_put_120 : decode cX11_put 120 = .ok (.bipush (-3), 2) := by decide +kernel
theorem dX11_put_122 : decode cX11_put 122 = .ok (.ireturn, 1) := by decide +kernel
theorem dX11_put_123 : decode cX11_put 123 = .ok (.aload 5, 2) := by decide +kernel
theorem dX11_put_125 : decode cX11_put 125 = .ok (.getfield 177, 3) := by decide +kernel
theorem dX11_put_128 : decode cX11_put 128 = .ok (.aload 6, 2) := by decide +kernel
theorem dX11_put_130 : decode cX11_put 130 = .ok (.getfield 197, 3) := by decide +kernel
theorem dX11_put_133 : decode cX11_put 133 = .ok (.iload_n 3, 1) := by decide +kernel
theorem dX11_put_134 : decode cX11_put 134 = .ok (.iadd, 1) := by decide +kernel
theorem dX11_put_135 : decode cX11_put 135 = .ok (.iconst 1, 1) := by decide +kernel
theorem dX11_put_136 : decode cX11_put 136 = .ok (.iload 4, 2) := by decide +kernel
theorem dX11_put_138 : decode cX11_put 138 = .ok (.i2l, 1) := by decide +kernel
theorem dX11_put_139 : decode cX11_put 139 = .ok (.iconst 0, 1) := by decide +kernel
theorem dX11_put_140 : decode cX11_put 140 = .ok (.invokevirtual 107, 3) := by decide +kernel
theorem dX11_put_143 : decode cX11_put 143 = .ok (.iconst 0, 1) := by decide +kernel
theorem dX11_put_144 : decode cX11_put 144 = .ok (.ireturn, 1) := by decide +kernel
theorem dX11_relay_0 : decode cX11_relay 0 = .ok (.aload_n 0, 1) := by decide +kernel
theorem dX11_relay_1 : decode cX11_relay 1 = .ok (.iload_n 1, 1) := by decide +kernel
theorem dX11_relay_2 : decode cX11_relay 2 = .ok (.invokevirtual 173, 3) := by decide +kernel
theorem dX11_relay_5 : decode cX11_relay 5 = .ok (.astore_n 2, 1) := by decide +kernel
theorem dX11_relay_6 : decode cX11_relay 6 = .ok (.aload_n 2, 1) := by decide +kernel
theorem dX11_relay_7 : decode cX11_relay 7 = .ok (.ifnonnull 5, 3) := by decide +kernel
theorem dX11_relay_10 : decode cX11_relay 10 = .ok (.iconst (-1), 1) := by decide +kernel
theorem dX11_relay_11 : decode cX11_relay 11 = .ok (.ireturn, 1) := by decide +kernel
theorem dX11_relay_12 : decode cX11_relay 12 = .ok (.aload_n 0, 1) := by decide +kernel
theorem dX11_relay_13 : decode cX11_relay 13 = .ok (.getfield 60, 3) := by decide +kernel
theorem dX11_relay_16 : decode cX11_relay 16 = .ok (.aload_n 2, 1) := by decide +kernel
theorem dX11_relay_17 : decode cX11_relay 17 = .ok (.getfield 177, 3) := by decide +kernel
theorem dX11_relay_20 : decode cX11_relay 20 = .ok (.aload_n 2, 1) := by decide +kernel
theorem dX11_relay_21 : decode cX11_relay 21 = .ok (.getfield 181, 3) := by decide +kernel
theorem dX11_relay_24 : decode cX11_relay 24 = .ok (.aload_n 2, 1) := by decide +kernel
theorem dX11_relay_25 : decode cX11_relay 25 = .ok (.getfield 184, 3) := by decide +kernel
theorem dX11_relay_28 : decode cX11_relay 28 = .ok (.aload_n 0, 1) := by decide +kernel
theorem dX11_relay_29 : decode cX11_relay 29 = .ok (.getfield 39, 3) := by decide +kernel
theorem dX11_relay_32 : decode cX11_relay 32 = .ok (.aload_n 0, 1) := by decide +kernel
theorem dX11_relay_33 : decode cX11_relay 33 = .ok (.getfield 32, 3) := by decide +kernel
theorem dX11_relay_36 : decode cX11_relay 36 = .ok (.invokevirtual 165, 3) := by decide +kernel
theorem dX11_relay_39 : decode cX11_relay 39 = .ok (.aload_n 0, 1) := by decide +kernel
theorem dX11_relay_40 : decode cX11_relay 40 = .ok (.getfield 60, 3) := by decide +kernel
theorem dX11_relay_43 : decode cX11_relay 43 = .ok (.getfield 169, 3) := by decide +kernel
theorem dX11_relay_46 : decode cX11_relay 46 = .ok (.ifCond .eq 6, 3) := by decide +kernel
theorem dX11_relay_49 : decode cX11_relay 49 = .ok (.bipush (-6), 2) := by decide +kernel
theorem dX11_relay_51 : decode cX11_relay 51 = .ok (.ireturn, 1) := by decide +kernel
theorem dX11_relay_52 : decode cX11_relay 52 = .ok (.aload_n 0, 1) := by decide +kernel
theorem dX11_relay_53 : decode cX11_relay 53 = .ok (.getfield 55, 3) := by decide +kernel
theorem dX11_relay_56 : decode cX11_relay 56 = .ok (.iload_n 1, 1) := by decide +kernel
theorem dX11_relay_57 : decode cX11_relay 57 = .ok (.aload_n 0, 1) := by decide +kernel
theorem dX11_relay_58 : decode cX11_relay 58 = .ok (.getfield 60, 3) := by decide +kernel
theorem dX11_relay_61 : decode cX11_relay 61 = .ok (.aastore, 1) := by decide +kernel
theorem dX11_relay_62 : decode cX11_relay 62 = .ok (.aload_n 0, 1) := by decide +kernel
theorem dX11_relay_63 : decode cX11_relay 63 = .ok (.aload_n 2, 1) := by decide +kernel
theorem dX11_relay_64 : decode cX11_relay 64 = .ok (.putfield 60, 3) := by decide +kernel
theorem dX11_relay_67 : decode cX11_relay 67 = .ok (.aload_n 0, 1) := by decide +kernel
theorem dX11_relay_68 : decode cX11_relay 68 = .ok (.getfield 55, 3) := by decide +kernel
theorem dX11_relay_71 : decode cX11_relay 71 = .ok (.iload_n 1, 1) := by decide +kernel
theorem dX11_relay_72 : decode cX11_relay 72 = .ok (.aaload, 1) := by decide +kernel
theorem dX11_relay_73 : decode cX11_relay 73 = .ok (.getfield 187, 3) := by decide +kernel
theorem dX11_relay_76 : decode cX11_relay 76 = .ok (.ireturn, 1) := by decide +kernel
theorem dX11_search_0 : decode cX11_search 0 = .ok (.aload_n 0, 1) := by decide +kernel
theorem dX11_search_1 : decode cX11_search 1 = .ok (.iload_n 1, 1) := by decide +kernel
theorem dX11_search_2 : decode cX11_search 2 = .ok (.invokevirtual 79, 3) := by decide +kernel
theorem dX11_search_5 : decode cX11_search 5 = .ok (.astore 7, 2) := by decide +kernel
theorem dX11_search_7 : decode cX11_search 7 = .ok (.aload 7, 2) := by decide +kernel
theorem dX11_search_9 : decode cX11_search 9 = .ok (.ifnull 16, 3) := by decide +kernel
theorem dX11_search_12 : decode cX11_search 12 = .ok (.iload 4, 2) := by decide +kernel
theorem dX11_search_14 : decode cX11_search 14 = .ok (.iconst 1, 1) := by decide +kernel
theorem dX11_search_15 : decode cX11_search 15 = .ok (.if_icmp .lt 10, 3) := by decide +kernel
theorem dX11_search_18 : decode cX11_search 18 = .ok (.iload 4, 2) := by decide +kernel
theorem dX11_search_20 : decode cX11_search 20 = .ok (.bipush 8, 2) := by decide +kernel
theorem dX11_search_22 : decode cX11_search 22 = .ok (.if_icmp .le 5, 3) := by decide +kernel
theorem dX11_search_25 : decode cX11_search 25 = .ok (.iconst (-1), 1) := by decide +kernel
theorem dX11_search_26 : decode cX11_search 26 = .ok (.ireturn, 1) := by decide +kernel
theorem dX11_search_27 : decode cX11_search 27 = .ok (.iconst 0, 1) := by decide +kernel
theorem dX11_search_28 : decode cX11_search 28 = .ok (.istore 8, 2) := by decide +kernel
theorem dX11_search_30 : decode cX11_search 30 = .ok (.iload 8, 2) := by decide +kernel
theorem dX11_search_32 : decode cX11_search 32 = .ok (.iload 4, 2) := by decide +kernel
theorem dX11_search_34 : decode cX11_search 34 = .ok (.if_icmp .ge 47, 3) := by decide +kernel
theorem dX11_search_37 : decode cX11_search 37 = .ok (.aload_n 0, 1) := by decide +kernel
theorem dX11_search_38 : decode cX11_search 38 = .ok (.getfield 64, 3) := by decide +kernel
theorem dX11_search_41 : decode cX11_search 41 = .ok (.iload 8, 2) := by decide +kernel
theorem dX11_search_43 : decode cX11_search 43 = .ok (.lload_n 2, 1) := by decide +kernel
theorem dX11_search_44 : decode cX11_search 44 = .ok (.iload 5, 2) := by decide +kernel
theorem dX11_search_46 : decode cX11_search 46 = .ok (.ifCond .eq 13, 3) := by decide +kernel
theorem dX11_search_49 : decode cX11_search 49 = .ok (.iload 4, 2) := by decide +kernel
theorem dX11_search_51 : decode cX11_search 51 = .ok (.iconst 1, 1) := by decide +kernel
theorem dX11_search_52 : decode cX11_search 52 = .ok (.isub, 1) := by decide +kernel
theorem dX11_search_53 : decode cX11_search 53 = .ok (.iload 8, 2) := by decide +kernel
theorem dX11_search_55 : decode cX11_search 55 = .ok (.isub, 1) := by decide +kernel
theorem dX11_search_56 : decode cX11_search 56 = .ok (.goto 5, 3) := by decide +kernel
theorem dX11_search_59 : decode cX11_search 59 = .ok (.iload 8, 2) := by decide +kernel
theorem dX11_search_61 : decode cX11_search 61 = .ok (.invokestatic 315, 3) := by decide +kernel
theorem dX11_search_64 : decode cX11_search 64 = .ok (.iastore, 1) := by decide +kernel
theorem dX11_search_65 : decode cX11_search 65 = .ok (.aload_n 0, 1) := by decide +kernel
theorem dX11_search_66 : decode cX11_search 66 = .ok (.getfield 68, 3) := by decide +kernel
theorem dX11_search_69 : decode cX11_search 69 = .ok (.iload 8, 2) := by decide +kernel
theorem dX11_search_71 : decode cX11_search 71 = .ok (.sipush 255, 3) := by decide +kernel
theorem dX11_search_74 : decode cX11_search 74 = .ok (.iastore, 1) := by decide +kernel
theorem dX11_search_75 : decode cX11_search 75 = .ok (.iinc 8 1, 3) := by decide +kernel
theorem dX11_search_78 : decode cX11_search 78 = .ok (.goto (-48), 3) := by decide +kernel
theorem dX11_search_81 : decode cX11_search 81 = .ok (.aload_n 0, 1) := by decide +kernel
theorem dX11_search_82 : decode cX11_search 82 = .ok (.aload 7, 2) := by decide +kernel
theorem dX11_search_84 : decode cX11_search 84 = .ok (.iload 4, 2) := by decide +kernel
theorem dX11_search_86 : decode cX11_search 86 = .ok (.iload 6, 2) := by decide +kernel
theorem dX11_search_88 : decode cX11_search 88 = .ok (.invokevirtual 318, 3) := by decide +kernel
theorem dX11_search_91 : decode cX11_search 91 = .ok (.ireturn, 1) := by decide +kernel
theorem dX11_set_0 : decode cX11_set 0 = .ok (.aload_n 0, 1) := by decide +kernel
theorem dX11_set_1 : decode cX11_set 1 = .ok (.iload_n 1, 1) := by decide +kernel
theorem dX11_set_2 : decode cX11_set 2 = .ok (.invokevirtual 173, 3) := by decide +kernel
theorem dX11_set_5 : decode cX11_set 5 = .ok (.astore 5, 2) := by decide +kernel
theorem dX11_set_7 : decode cX11_set 7 = .ok (.aload_n 0, 1) := by decide +kernel
theorem dX11_set_8 : decode cX11_set 8 = .ok (.iload_n 1, 1) := by decide +kernel
theorem dX11_set_9 : decode cX11_set 9 = .ok (.iload_n 2, 1) := by decide +kernel
theorem dX11_set_10 : decode cX11_set 10 = .ok (.invokevirtual 188, 3) := by decide +kernel
theorem dX11_set_13 : decode cX11_set 13 = .ok (.astore 6, 2) := by decide +kernel
theorem dX11_set_15 : decode cX11_set 15 = .ok (.aload 5, 2) := by decide +kernel
theorem dX11_set_17 : decode cX11_set 17 = .ok (.ifnull 8, 3) := by decide +kernel
theorem dX11_set_20 : decode cX11_set 20 = .ok (.aload 6, 2) := by decide +kernel
theorem dX11_set_22 : decode cX11_set 22 = .ok (.ifnonnull 5, 3) := by decide +kernel
theorem dX11_set_25 : decode cX11_set 25 = .ok (.iconst (-1), 1) := by decide +kernel
theorem dX11_set_26 : decode cX11_set 26 = .ok (.ireturn, 1) := by decide +kernel
theorem dX11_set_27 : decode cX11_set 27 = .ok (.aload 6, 2) := by decide +kernel
theorem dX11_set_29 : decode cX11_set 29 = .ok (.invokevirtual 284, 3) := by decide +kernel
theorem dX11_set_32 : decode cX11_set 32 = .ok (.ifCond .eq 11, 3) := by decide +kernel
theorem dX11_set_35 : decode cX11_set 35 = .ok (.aload 6, 2) := by decide +kernel
theorem dX11_set_37 : decode cX11_set 37 = .ok (.getfield 237, 3) := by decide +kernel
theorem dX11_set_40 : decode cX11_set 40 = .ok (.ifnonnull 6, 3) := by decide +kernel
theorem dX11_set_43 : decode cX11_set 43 = .ok (.bipush (-4), 2) := by decide +kernel
theorem dX11_set_45 : decode cX11_set 45 = .ok (.ireturn, 1) := by decide +kernel
theorem dX11_set_46 : decode cX11_set 46 = .ok (.aload 6, 2) := by decide +kernel
theorem dX11_set_48 : decode cX11_set 48 = .ok (.getfield 213, 3) := by decide +kernel
theorem dX11_set_51 : decode cX11_set 51 = .ok (.iconst 1, 1) := by decide +kernel
theorem dX11_set_52 : decode cX11_set 52 = .ok (.if_icmp .ne 6, 3) := by decide +kernel
theorem dX11_set_55 : decode cX11_set 55 = .ok (.bipush (-5), 2) := by decide +kernel
theorem dX11_set_57 : decode cX11_set 57 = .ok (.ireturn, 1) := by decide +kernel
theorem dX11_set_58 : decode cX11_set 58 = .ok (.aload 6, 2) := by decide +kernel
theorem dX11_set_60 : decode cX11_set 60 = .ok (.lload_n 3, 1) := by decide +kernel
theorem dX11_set_61 : decode cX11_set 61 = .ok (.invokevirtual 288, 3) := by decide +kernel
theorem dX11_set_64 : decode cX11_set 64 = .ok (.ifCond .ne 6, 3) := by decide +kernel
theorem dX11_set_67 : decode cX11_set 67 = .ok (.bipush (-3), 2) := by decide +kernel
theorem dX11_set_69 : decode cX11_set 69 = .ok (.ireturn, 1) := by decide +kernel
theorem dX11_set_70 : decode cX11_set 70 = .ok (.aload 5, 2) := by decide +kernel
theorem dX11_set_72 : decode cX11_set 72 = .ok (.getfield 177, 3) := by decide +kernel
theorem dX11_set_75 : decode cX11_set 75 = .ok (.astore 7, 2) := by decide +kernel
theorem dX11_set_77 : decode cX11_set 77 = .ok (.aload 6, 2) := by decide +kernel
theorem dX11_set_79 : decode cX11_set 79 = .ok (.getfield 237, 3) := by decide +kernel
theorem dX11_set_82 : decode cX11_set 82 = .ok (.astore 8, 2) := by decide +kernel
theorem dX11_set_84 : decode cX11_set 84 = .ok (.aload 6, 2) := by decide +kernel
theorem dX11_set_86 : decode cX11_set 86 = .ok (.getfield 192, 3) := by decide +kernel
theorem dX11_set_89 : decode cX11_set 89 = .ok (.iconst 4, 1) := by decide +kernel
theorem dX11_set_90 : decode cX11_set 90 = .ok (.if_icmp .ne 32, 3) := by decide +kernel
theorem dX11_set_93 : decode cX11_set 93 = .ok (.aload 6, 2) := by decide +kernel
theorem dX11_set_95 : decode cX11_set 95 = .ok (.aload 7, 2) := by decide +kernel
theorem dX11_set_97 : decode cX11_set 97 = .ok (.aload 6, 2) := by decide +kernel
theorem dX11_set_99 : decode cX11_set 99 = .ok (.getfield 197, 3) := by decide +kernel
theorem dX11_set_102 : decode cX11_set 102 = .ok (.aload 8, 2) := by decide +kernel
theorem dX11_set_104 : decode cX11_set 104 = .ok (.getfield 292, 3) := by decide +kernel
theorem dX11_set_107 : decode cX11_set 107 = .ok (.aload 8, 2) := by decide +kernel
theorem dX11_set_109 : decode cX11_set 109 = .ok (.getfield 295, 3) := by decide +kernel
theorem dX11_set_112 : decode cX11_set 112 = .ok (.invokevirtual 298, 3) := by decide +kernel
theorem dX11_set_115 : decode cX11_set 115 = .ok (.lload_n 3, 1) := by decide +kernel
theorem dX11_set_116 : decode cX11_set 116 = .ok (.invokevirtual 302, 3) := by decide +kernel
theorem dX11_set_119 : decode cX11_set 119 = .ok (.goto 4, 3) := by decide +kernel
theorem dX11_set_122 : decode cX11_set 122 = .ok (.lload_n 3, 1) := by decide +kernel
theorem dX11_set_123 : decode cX11_set 123 = .ok (.lstore 9, 2) := by decide +kernel
theorem dX11_set_125 : decode cX11_set 125 = .ok (.aload 7, 2) := by decide +kernel
theorem dX11_set_127 : decode cX11_set 127 = .ok (.aload 6, 2) := by decide +kernel
theorem dX11_set_129 : decode cX11_set 129 = .ok (.getfield 197, 3) := by decide +kernel
theorem dX11_set_132 : decode cX11_set 132 = .ok (.aload 8, 2) := by decide +kernel
theorem dX11_set_134 : decode cX11_set 134 = .ok (.getfield 292, 3) := by decide +kernel
theorem dX11_set_137 : decode cX11_set 137 = .ok (.lload 9, 2) := by decide +kernel
theorem dX11_set_139 : decode cX11_set 139 = .ok (.aload 8, 2) := by decide +kernel
theorem dX11_set_141 : decode cX11_set 141 = .ok (.getfield 295, 3) := by decide +kernel
theorem dX11_set_144 : decode cX11_set 144 = .ok (.invokevirtual 107, 3) := by decide +kernel
theorem dX11_set_147 : decode cX11_set 147 = .ok (.iconst 0, 1) := by decide +kernel
theorem dX11_set_148 : decode cX11_set 148 = .ok (.ireturn, 1) := by decide +kernel
theorem dX11_sign_0 : decode cX11_sign 0 = .ok (.aload_n 0, 1) := by decide +kernel
theorem dX11_sign_1 : decode cX11_sign 1 = .ok (.iload_n 1, 1) := by decide +kernel
theorem dX11_sign_2 : decode cX11_sign 2 = .ok (.invokevirtual 173, 3) := by decide +kernel
theorem dX11_sign_5 : decode cX11_sign 5 = .ok (.astore 4, 2) := by decide +kernel
theorem dX11_sign_7 : decode cX11_sign 7 = .ok (.aload_n 0, 1) := by decide +kernel
theorem dX11_sign_8 : decode cX11_sign 8 = .ok (.iload_n 1, 1) := by decide +kernel
theorem dX11_sign_9 : decode cX11_sign 9 = .ok (.iload_n 2, 1) := by decide +kernel
theorem dX11_sign_10 : decode cX11_sign 10 = .ok (.invokevirtual 188, 3) := by decide +kernel
theorem dX11_sign_13 : decode cX11_sign 13 = .ok (.astore 5, 2) := by decide +kernel
theorem dX11_sign_15 : decode cX11_sign 15 = .ok (.aload 4, 2) := by decide +kernel
theorem dX11_sign_17 : decode cX11_sign 17 = .ok (.ifnull 17, 3) := by decide +kernel
theorem dX11_sign_20 : decode cX11_sign 20 = .ok (.aload 5, 2) := by decide +kernel
theorem dX11_sign_22 : decode cX11_sign 22 = .ok (.ifnull 12, 3) := by decide +kernel
theorem dX11_sign_25 : decode cX11_sign 25 = .ok (.aload 5, 2) := by decide +kernel
theorem dX11_sign_27 : decode cX11_sign 27 = .ok (.iload_n 3, 1) := by decide +kernel
theorem dX11_sign_28 : decode cX11_sign 28 = .ok (.invokevirtual 226, 3) := by decide +kernel
theorem dX11_sign_31 : decode cX11_sign 31 = .ok (.ifCond .ne 5, 3) := by decide +kernel
theorem dX11_sign_34 : decode cX11_sign 34 = .ok (.iconst (-1), 1) := by decide +kernel
theorem dX11_sign_35 : decode cX11_sign 35 = .ok (.ireturn, 1) := by decide +kernel
theorem dX11_sign_36 : decode cX11_sign 36 = .ok (.aload 4, 2) := by decide +kernel
theorem dX11_sign_38 : decode cX11_sign 38 = .ok (.getfield 177, 3) := by decide +kernel
theorem dX11_sign_41 : decode cX11_sign 41 = .ok (.aload 5, 2) := by decide +kernel
theorem dX11_sign_43 : decode cX11_sign 43 = .ok (.getfield 197, 3) := by decide +kernel
theorem dX11_sign_46 : decode cX11_sign 46 = .ok (.iload_n 3, 1) := by decide +kernel
theorem dX11_sign_47 : decode cX11_sign 47 = .ok (.iadd, 1) := by decide +kernel
theorem dX11_sign_48 : decode cX11_sign 48 = .ok (.invokevirtual 93, 3) := by decide +kernel
theorem dX11_sign_51 : decode cX11_sign 51 = .ok (.ireturn, 1) := by decide +kernel
theorem dX11_size_0 : decode cX11_size 0 = .ok (.aload_n 0, 1) := by decide +kernel
theorem dX11_size_1 : decode cX11_size 1 = .ok (.iload_n 1, 1) := by decide +kernel
theorem dX11_size_2 : decode cX11_size 2 = .ok (.invokevirtual 149, 3) := by decide +kernel
theorem dX11_size_5 : decode cX11_size 5 = .ok (.ifCond .ne 5, 3) := by decide +kernel
theorem dX11_size_8 : decode cX11_size 8 = .ok (.iconst (-1), 1) := by decide +kernel
theorem dX11_size_9 : decode cX11_size 9 = .ok (.ireturn, 1) := by decide +kernel
theorem dX11_size_10 : decode cX11_size 10 = .ok (.aload_n 0, 1) := by decide +kernel
theorem dX11_size_11 : decode cX11_size 11 = .ok (.getfield 39, 3) := by decide +kernel
theorem dX11_size_14 : decode cX11_size 14 = .ok (.getfield 153, 3) := by decide +kernel
theorem dX11_size_17 : decode cX11_size 17 = .ok (.iload_n 1, 1) := by decide +kernel
theorem dX11_size_18 : decode cX11_size 18 = .ok (.aaload, 1) := by decide +kernel
theorem dX11_size_19 : decode cX11_size 19 = .ok (.getfield 157, 3) := by decide +kernel
theorem dX11_size_22 : decode cX11_size 22 = .ok (.istore_n 2, 1) := by decide +kernel
theorem dX11_size_23 : decode cX11_size 23 = .ok (.iload_n 2, 1) := by decide +kernel
theorem dX11_size_24 : decode cX11_size 24 = .ok (.iconst (-1), 1) := by decide +kernel
theorem dX11_size_25 : decode cX11_size 25 = .ok (.if_icmp .ne 8, 3) := by decide +kernel
theorem dX11_size_28 : decode cX11_size 28 = .ok (.bipush (-3), 2) := by decide +kernel
theorem dX11_size_30 : decode cX11_size 30 = .ok (.goto 4, 3) := by decide +kernel
theorem dX11_size_33 : decode cX11_size 33 = .ok (.iload_n 2, 1) := by decide +kernel
theorem dX11_size_34 : decode cX11_size 34 = .ok (.ireturn, 1) := by decide +kernel
theorem dX11_stretchOf_0 : decode cX11_stretchOf 0 = .ok (.iload_n 2, 1) := by decide +kernel
theorem dX11_stretchOf_1 : decode cX11_stretchOf 1 = .ok (.istore 4, 2) := by decide +kernel
theorem dX11_stretchOf_3 : decode cX11_stretchOf 3 = .ok (.iconst (-1), 1) := by decide +kernel
theorem dX11_stretchOf_4 : decode cX11_stretchOf 4 = .ok (.istore 5, 2) := by decide +kernel
theorem dX11_stretchOf_6 : decode cX11_stretchOf 6 = .ok (.iconst 0, 1) := by decide +kernel
theorem dX11_stretchOf_7 : decode cX11_stretchOf 7 = .ok (.istore 6, 2) := by decide +kernel
theorem dX11_stretchOf_9 : decode cX11_stretchOf 9 = .ok (.iload 6, 2) := by decide +kernel
theorem dX11_stretchOf_11 : decode cX11_stretchOf 11 = .ok (.iload_n 1, 1) := by decide +kernel
theorem dX11_stretchOf_12 : decode cX11_stretchOf 12 = .ok (.if_icmp .gt 94, 3) := by decide +kernel
theorem dX11_stretchOf_15 : decode cX11_stretchOf 15 = .ok (.iload_n 2, 1) := by decide +kernel
theorem dX11_stretchOf_16 : decode cX11_stretchOf 16 = .ok (.ifCond .lt 90, 3) := by decide +kernel
theorem dX11_stretchOf_19 : decode cX11_stretchOf 19 = .ok (.iload_n 3, 1) := by decide +kernel
theorem dX11_stretchOf_20 : decode cX11_stretchOf 20 = .ok (.ifCond .eq 8, 3) := by decide +kernel
theorem dX11_stretchOf_23 : decode cX11_stretchOf 23 = .ok (.iload_n 3, 1) := by decide +kernel
theorem dX11_stretchOf_24 : decode cX11_stretchOf 24 = .ok (.iconst 1, 1) := by decide +kernel
theorem dX11_stretchOf_25 : decode cX11_stretchOf 25 = .ok (.if_icmp .ne 81, 3) := by decide +kernel
theorem dX11_stretchOf_28 : decode cX11_stretchOf 28 = .ok (.iload 6, 2) := by decide +kernel
theorem dX11_stretchOf_30 : decode cX11_stretchOf 30 = .ok (.iload_n 1, 1) := by decide +kernel
theorem dX11_stretchOf_31 : decode cX11_stretchOf 31 = .ok (.if_icmp .ge 17, 3) := by decide +kernel
theorem dX11_stretchOf_34 : decode cX11_stretchOf 34 = .ok (.aload_n 0, 1) := by decide +kernel
theorem dX11_stretchOf_35 : decode cX11_stretchOf 35 = .ok (.getfield 71, 3) := by decide +kernel
theorem dX11_stretchOf_38 : decode cX11_stretchOf 38 = .ok (.iload 6, 2) := by decide +kernel
theorem dX11_stretchOf_40 : decode cX11_stretchOf 40 = .ok (.iaload, 1) := by decide +kernel
theorem dX11_stretchOf_41 : decode cX11_stretchOf 41 = .ok (.ifCond .eq 7, 3) := by decide +kernel
theorem dX11_stretchOf_44 : decode cX11_stretchOf 44 = .ok (.iconst 1, 1) := by decide +kernel
theorem dX11_stretchOf_45 : decode cX11_stretchOf 45 = .ok (.goto 4, 3) := by decide +kernel
theorem dX11_stretchOf_48 : decode cX11_stretchOf 48 = .ok (.iconst 0, 1) := by decide +kernel
theorem dX11_stretchOf_49 : decode cX11_stretchOf 49 = .ok (.istore 7, 2) := by decide +kernel
theorem dX11_stretchOf_51 : decode cX11_stretchOf 51 = .ok (.iload 7, 2) := by decide +kernel
theorem dX11_stretchOf_53 : decode cX11_stretchOf 53 = .ok (.ifCond .eq 13, 3) := by decide +kernel
theorem dX11_stretchOf_56 : decode cX11_stretchOf 56 = .ok (.iload 5, 2) := by decide +kernel
theorem dX11_stretchOf_58 : decode cX11_stretchOf 58 = .ok (.iconst (-1), 1) := by decide +kernel
theorem dX11_stretchOf_59 : decode cX11_stretchOf 59 = .ok (.if_icmp .ne 7, 3) := by decide +kernel
theorem dX11_stretchOf_62 : decode cX11_stretchOf 62 = .ok (.iload 6, 2) := by decide +kernel
theorem dX11_stretchOf_64 : decode cX11_stretchOf 64 = .ok (.istore 5, 2) := by decide +kernel
theorem dX11_stretchOf_66 : decode cX11_stretchOf 66 = .ok (.iload 7, 2) := by decide +kernel
theorem dX11_stretchOf_68 : decode cX11_stretchOf 68 = .ok (.ifCond .ne 32, 3) := by decide +kernel
theorem dX11_stretchOf_71 : decode cX11_stretchOf 71 = .ok (.iload 5, 2) := by decide +kernel
theorem dX11_stretchOf_73 : decode cX11_stretchOf 73 = .ok (.iconst (-1), 1) := by decide +kernel
theorem dX11_stretchOf_74 : decode cX11_stretchOf 74 = .ok (.if_icmp .eq 26, 3) := by decide +kernel
theorem dX11_stretchOf_77 : decode cX11_stretchOf 77 = .ok (.iload 4, 2) := by decide +kernel
theorem dX11_stretchOf_79 : decode cX11_stretchOf 79 = .ok (.ifCond .ne 15, 3) := by decide +kernel
theorem dX11_stretchOf_82 : decode cX11_stretchOf 82 = .ok (.iload_n 3, 1) := by decide +kernel
theorem dX11_stretchOf_83 : decode cX11_stretchOf 83 = .ok (.ifCond .ne 8, 3) := by decide +kernel
theorem dX11_stretchOf_86 : decode cX11_stretchOf 86 = .ok (.iload 5, 2) := by decide +kernel
theorem dX11_stretchOf_88 : decode cX11_stretchOf 88 = .ok (.goto 5, 3) := by decide +kernel
theorem dX11_stretchOf_91 : decode cX11_stretchOf 91 = .ok (.iload 6, 2) := by decide +kernel
theorem dX11_stretchOf_93 : decode cX11_stretchOf 93 = .ok (.ireturn, 1) := by decide +kernel
theorem dX11_stretchOf_94 : decode cX11_stretchOf 94 = .ok (.iinc 4 (-1), 3) := by decide +kernel
theorem dX11_stretchOf_97 : decode cX11_stretchOf 97 = .ok (.iconst (-1), 1) := by decide +kernel
theorem dX11_stretchOf_98 : decode cX11_stretchOf 98 = .ok (.istore 5, 2) := by decide +kernel
theorem dX11_stretchOf_100 : decode cX11_stretchOf 100 = .ok (.iinc 6 1, 3) := by decide +kernel
theorem dX11_stretchOf_103 : decode cX11_stretchOf 103 = .ok (.goto (-94), 3) := by decide +kernel
theorem dX11_stretchOf_106 : decode cX11_stretchOf 106 = .ok (.iconst (-1), 1) := by decide +kernel
theorem dX11_stretchOf_107 : decode cX11_stretchOf 107 = .ok (.ireturn, 1) := by decide +kernel
theorem dX11_treeOf_0 : decode cX11_treeOf 0 = .ok (.iload_n 1, 1) := by decide +kernel
theorem dX11_treeOf_1 : decode cX11_treeOf 1 = .ok (.ifCond .lt 11, 3) := by decide +kernel
theorem dX11_treeOf_4 : decode cX11_treeOf 4 = .ok (.iload_n 1, 1) := by decide +kernel
theorem dX11_treeOf_5 : decode cX11_treeOf 5 = .ok (.aload_n 0, 1) := by decide +kernel
theorem dX11_treeOf_6 : decode cX11_treeOf 6 = .ok (.getfield 143, 3) := by decide +kernel
theorem dX11_treeOf_9 : decode cX11_treeOf 9 = .ok (.if_icmp .lt 7, 3) := by decide +kernel
theorem dX11_treeOf_12 : decode cX11_treeOf 12 = .ok (.aconst_null, 1) := by decide +kernel
theorem dX11_treeOf_13 : decode cX11_treeOf 13 = .ok (.goto 9, 3) := by decide +kernel
theorem dX11_treeOf_16 : decode cX11_treeOf 16 = .ok (.aload_n 0, 1) := by decide +kernel
theorem dX11_treeOf_17 : decode cX11_treeOf 17 = .ok (.getfield 55, 3) := by decide +kernel
theorem dX11_treeOf_20 : decode cX11_treeOf 20 = .ok (.iload_n 1, 1) := by decide +kernel
theorem dX11_treeOf_21 : decode cX11_treeOf 21 = .ok (.aaload, 1) := by decide +kernel
theorem dX11_treeOf_22 : decode cX11_treeOf 22 = .ok (.areturn, 1) := by decide +kernel
theorem dX11_undo_0 : decode cX11_undo 0 = .ok (.aload_n 0, 1) := by decide +kernel
theorem dX11_undo_1 : decode cX11_undo 1 = .ok (.iload_n 1, 1) := by decide +kernel
theorem dX11_undo_2 : decode cX11_undo 2 = .ok (.invokevirtual 79, 3) := by decide +kernel
theorem dX11_undo_5 : decode cX11_undo 5 = .ok (.astore_n 2, 1) := by decide +kernel
theorem dX11_undo_6 : decode cX11_undo 6 = .ok (.aload_n 2, 1) := by decide +kernel
theorem dX11_undo_7 : decode cX11_undo 7 = .ok (.ifnonnull 5, 3) := by decide +kernel
theorem dX11_undo_10 : decode cX11_undo 10 = .ok (.iconst (-1), 1) := by decide +kernel
theorem dX11_undo_11 : decode cX11_undo 11 = .ok (.ireturn, 1) := by decide +kernel
theorem dX11_undo_12 : decode cX11_undo 12 = .ok (.aload_n 2, 1) := by decide +kernel
theorem dX11_undo_13 : decode cX11_undo 13 = .ok (.getfield 83, 3) := by decide +kernel
theorem dX11_undo_16 : decode cX11_undo 16 = .ok (.ifCond .ne 8, 3) := by decide +kernel
theorem dX11_undo_19 : decode cX11_undo 19 = .ok (.bipush (-7), 2) := by decide +kernel
theorem dX11_undo_21 : decode cX11_undo 21 = .ok (.goto 7, 3) := by decide +kernel
theorem dX11_undo_24 : decode cX11_undo 24 = .ok (.aload_n 2, 1) := by decide +kernel
theorem dX11_undo_25 : decode cX11_undo 25 = .ok (.invokevirtual 111, 3) := by decide +kernel
theorem dX11_undo_28 : decode cX11_undo 28 = .ok (.ireturn, 1) := by decide +kernel
theorem dX11_uses_0 : decode cX11_uses 0 = .ok (.aload_n 0, 1) := by decide +kernel
theorem dX11_uses_1 : decode cX11_uses 1 = .ok (.iload_n 1, 1) := by decide +kernel
theorem dX11_uses_2 : decode cX11_uses 2 = .ok (.invokevirtual 149, 3) := by decide +kernel
theorem dX11_uses_5 : decode cX11_uses 5 = .ok (.ifCond .eq 11, 3) := by decide +kernel
theorem dX11_uses_8 : decode cX11_uses 8 = .ok (.aload_n 0, 1) := by decide +kernel
theorem dX11_uses_9 : decode cX11_uses 9 = .ok (.iload_n 2, 1) := by decide +kernel
theorem dX11_uses_10 : decode cX11_uses 10 = .ok (.invokevirtual 149, 3) := by decide +kernel
theorem dX11_uses_13 : decode cX11_uses 13 = .ok (.ifCond .ne 5, 3) := by decide +kernel
theorem dX11_uses_16 : decode cX11_uses 16 = .ok (.iconst (-1), 1) := by decide +kernel
theorem dX11_uses_17 : decode cX11_uses 17 = .ok (.ireturn, 1) := by decide +kernel
theorem dX11_uses_18 : decode cX11_uses 18 = .ok (.aload_n 0, 1) := by decide +kernel
theorem dX11_uses_19 : decode cX11_uses 19 = .ok (.getfield 39, 3) := by decide +kernel
theorem dX11_uses_22 : decode cX11_uses 22 = .ok (.getfield 153, 3) := by decide +kernel
theorem dX11_uses_25 : decode cX11_uses 25 = .ok (.iload_n 1, 1) := by decide +kernel
theorem dX11_uses_26 : decode cX11_uses 26 = .ok (.aaload, 1) := by decide +kernel
theorem dX11_uses_27 : decode cX11_uses 27 = .ok (.getfield 162, 3) := by decide +kernel
theorem dX11_uses_30 : decode cX11_uses 30 = .ok (.iload_n 2, 1) := by decide +kernel
theorem dX11_uses_31 : decode cX11_uses 31 = .ok (.ishr, 1) := by decide +kernel
theorem dX11_uses_32 : decode cX11_uses 32 = .ok (.iconst 1, 1) := by decide +kernel
theorem dX11_uses_33 : decode cX11_uses 33 = .ok (.iand, 1) := by decide +kernel
theorem dX11_uses_34 : decode cX11_uses 34 = .ok (.ireturn, 1) := by decide +kernel
theorem dX11_value_0 : decode cX11_value 0 = .ok (.aload_n 0, 1) := by decide +kernel
theorem dX11_value_1 : decode cX11_value 1 = .ok (.iload_n 1, 1) := by decide +kernel
theorem dX11_value_2 : decode cX11_value 2 = .ok (.invokevirtual 173, 3) := by decide +kernel
theorem dX11_value_5 : decode cX11_value 5 = .ok (.astore_n 3, 1) := by decide +kernel
theorem dX11_value_6 : decode cX11_value 6 = .ok (.aload_n 0, 1) := by decide +kernel
theorem dX11_value_7 : decode cX11_value 7 = .ok (.iload_n 1, 1) := by decide +kernel
theorem dX11_value_8 : decode cX11_value 8 = .ok (.iload_n 2, 1) := by decide +kernel
theorem dX11_value_9 : decode cX11_value 9 = .ok (.invokevirtual 188, 3) := by decide +kernel
theorem dX11_value_12 : decode cX11_value 12 = .ok (.astore 4, 2) := by decide +kernel
theorem dX11_value_14 : decode cX11_value 14 = .ok (.aload_n 3, 1) := by decide +kernel
theorem dX11_value_15 : decode cX11_value 15 = .ok (.ifnull 8, 3) := by decide +kernel
theorem dX11_value_18 : decode cX11_value 18 = .ok (.aload 4, 2) := by decide +kernel
theorem dX11_value_20 : decode cX11_value 20 = .ok (.ifnonnull 7, 3) := by decide +kernel
theorem dX11_value_23 : decode cX11_value 23 = .ok (.lconst 0, 1) := by decide +kernel
theorem dX11_value_24 : decode cX11_value 24 = .ok (.goto 12, 3) := by decide +kernel
theorem dX11_value_27 : decode cX11_value 27 = .ok (.aload 4, 2) := by decide +kernel
theorem dX11_value_29 : decode cX11_value 29 = .ok (.aload_n 3, 1) := by decide +kernel
theorem dX11_value_30 : decode cX11_value 30 = .ok (.getfield 177, 3) := by decide +kernel
theorem dX11_value_33 : decode cX11_value 33 = .ok (.invokevirtual 222, 3) := by decide +kernel
theorem dX11_value_36 : decode cX11_value 36 = .ok (.lreturn, 1) := by decide +kernel
theorem dX11_writeTotal_0 : decode cX11_writeTotal 0 = .ok (.iconst 0, 1) := by decide +kernel
theorem dX11_writeTotal_1 : decode cX11_writeTotal 1 = .ok (.istore_n 1, 1) := by decide +kernel
theorem dX11_writeTotal_2 : decode cX11_writeTotal 2 = .ok (.iconst 0, 1) := by decide +kernel
theorem dX11_writeTotal_3 : decode cX11_writeTotal 3 = .ok (.istore_n 2, 1) := by decide +kernel
theorem dX11_writeTotal_4 : decode cX11_writeTotal 4 = .ok (.iload_n 2, 1) := by decide +kernel
theorem dX11_writeTotal_5 : decode cX11_writeTotal 5 = .ok (.aload_n 0, 1) := by decide +kernel
theorem dX11_writeTotal_6 : decode cX11_writeTotal 6 = .ok (.getfield 74, 3) := by decide +kernel
theorem dX11_writeTotal_9 : decode cX11_writeTotal 9 = .ok (.if_icmp .ge 47, 3) := by decide +kernel
theorem dX11_writeTotal_12 : decode cX11_writeTotal 12 = .ok (.iconst 0, 1) := by decide +kernel
theorem dX11_writeTotal_13 : decode cX11_writeTotal 13 = .ok (.istore_n 3, 1) := by decide +kernel
theorem dX11_writeTotal_14 : decode cX11_writeTotal 14 = .ok (.iload_n 3, 1) := by decide +kernel
theorem dX11_writeTotal_15 : decode cX11_writeTotal 15 = .ok (.aload_n 0, 1) := by decide +kernel
theorem dX11_writeTotal_16 : decode cX11_writeTotal 16 = .ok (.getfield 11, 3) := by decide +kernel
theorem dX11_writeTotal_19 : decode cX11_writeTotal 19 = .ok (.iload_n 2, 1) := by decide +kernel
theorem dX11_writeTotal_20 : decode cX11_writeTotal 20 = .ok (.aaload, 1) := by decide +kernel
theorem dX11_writeTotal_21 : decode cX11_writeTotal 21 = .ok (.getfield 83, 3) := by decide +kernel
theorem dX11_writeTotal_24 : decode cX11_writeTotal 24 = .ok (.if_icmp .ge 26, 3) := by decide +kernel
theorem dX11_writeTotal_27 : decode cX11_writeTotal 27 = .ok (.iload_n 1, 1) := by decide +kernel
theorem dX11_writeTotal_28 : decode cX11_writeTotal 28 = .ok (.aload_n 0, 1) := by decide +kernel
theorem dX11_writeTotal_29 : decode cX11_writeTotal 29 = .ok (.getfield 11, 3) := by decide +kernel
theorem dX11_writeTotal_32 : decode cX11_writeTotal 32 = .ok (.iload_n 2, 1) := by decide +kernel
theorem dX11_writeTotal_33 : decode cX11_writeTotal 33 = .ok (.aaload, 1) := by decide +kernel
theorem dX11_writeTotal_34 : decode cX11_writeTotal 34 = .ok (.getfield 402, 3) := by decide +kernel
theorem dX11_writeTotal_37 : decode cX11_writeTotal 37 = .ok (.iload_n 3, 1) := by decide +kernel
theorem dX11_writeTotal_38 : decode cX11_writeTotal 38 = .ok (.aaload, 1) := by decide +kernel
theorem dX11_writeTotal_39 : decode cX11_writeTotal 39 = .ok (.getfield 406, 3) := by decide +kernel
theorem dX11_writeTotal_42 : decode cX11_writeTotal 42 = .ok (.iadd, 1) := by decide +kernel
theorem dX11_writeTotal_43 : decode cX11_writeTotal 43 = .ok (.istore_n 1, 1) := by decide +kernel
theorem dX11_writeTotal_44 : decode cX11_writeTotal 44 = .ok (.iinc 3 1, 3) := by decide +kernel
theorem dX11_writeTotal_47 : decode cX11_writeTotal 47 = .ok (.goto (-33), 3) := by decide +kernel
theorem dX11_writeTotal_50 : decode cX11_writeTotal 50 = .ok (.iinc 2 1, 3) := by decide +kernel
theorem dX11_writeTotal_53 : decode cX11_writeTotal 53 = .ok (.goto (-49), 3) := by decide +kernel
theorem dX11_writeTotal_56 : decode cX11_writeTotal 56 = .ok (.iload_n 1, 1) := by decide +kernel
theorem dX11_writeTotal_57 : decode cX11_writeTotal 57 = .ok (.ireturn, 1) := by decide +kernel
theorem dX11_wrong_0 : decode cX11_wrong 0 = .ok (.aload_n 0, 1) := by decide +kernel
theorem dX11_wrong_1 : decode cX11_wrong 1 = .ok (.getfield 137, 3) := by decide +kernel
theorem dX11_wrong_4 : decode cX11_wrong 4 = .ok (.ireturn, 1) := by decide +kernel
theorem dX12_above_0 : decode cX12_above 0 = .ok (.iconst 0, 1) := by decide +kernel
theorem dX12_above_1 : decode cX12_above 1 = .ok (.istore_n 2, 1) := by decide +kernel
theorem dX12_above_2 : decode cX12_above 2 = .ok (.aload_n 0, 1) := by decide +kernel
theorem dX12_above_3 : decode cX12_above 3 = .ok (.getfield 226, 3) := by decide +kernel
theorem dX12_above_6 : decode cX12_above 6 = .ok (.iload_n 1, 1) := by decide +kernel
theorem dX12_above_7 : decode cX12_above 7 = .ok (.iaload, 1) := by decide +kernel
theorem dX12_above_8 : decode cX12_above 8 = .ok (.istore_n 3, 1) := by decide +kernel
theorem dX12_above_9 : decode cX12_above 9 = .ok (.iload_n 3, 1) := by decide +kernel
theorem dX12_above_10 : decode cX12_above 10 = .ok (.ifCond .lt 30, 3) := by decide +kernel
theorem dX12_above_13 : decode cX12_above 13 = .ok (.iload_n 2, 1) := by decide +kernel
theorem dX12_above_14 : decode cX12_above 14 = .ok (.aload_n 0, 1) := by decide +kernel
theorem dX12_above_15 : decode cX12_above 15 = .ok (.getfield 217, 3) := by decide +kernel
theorem dX12_above_18 : decode cX12_above 18 = .ok (.iload_n 3, 1) := by decide +kernel
theorem dX12_above_19 : decode cX12_above 19 = .ok (.iaload, 1) := by decide +kernel
theorem dX12_above_20 : decode cX12_above 20 = .ok (.ifCond .ne 7, 3) := by decide +kernel
theorem dX12_above_23 : decode cX12_above 23 = .ok (.iconst 1, 1) := by decide +kernel
theorem dX12_above_24 : decode cX12_above 24 = .ok (.goto 4, 3) := by decide +kernel
theorem dX12_above_27 : decode cX12_above 27 = .ok (.iconst 0, 1) := by decide +kernel
theorem dX12_above_28 : decode cX12_above 28 = .ok (.iadd, 1) := by decide +kernel
theorem dX12_above_29 : decode cX12_above 29 = .ok (.istore_n 2, 1) := by decide +kernel
theorem dX12_above_30 : decode cX12_above 30 = .ok (.aload_n 0, 1) := by decide +kernel
theorem dX12_above_31 : decode cX12_above 31 = .ok (.getfield 226, 3) := by decide +kernel
theorem dX12_above_34 : decode cX12_above 34 = .ok (.iload_n 3, 1) := by decide +kernel
theorem dX12_above_35 : decode cX12_above 35 = .ok (.iaload, 1) := by decide +kernel
theorem dX12_above_36 : decode cX12_above 36 = .ok (.istore_n 3, 1) := by decide +kernel
theorem dX12_above_37 : decode cX12_above 37 = .ok (.goto (-28), 3) := by decide +kernel
theorem dX12_above_40 : decode cX12_above 40 = .ok (.iload_n 2, 1) := by decide +kernel
theorem dX12_above_41 : decode cX12_above 41 = .ok (.ireturn, 1) := by decide +kernel
theorem dX12_array_0 : decode cX12_array 0 = .ok (.aload_n 0, 1) := by decide +kernel
theorem dX12_array_1 : decode cX12_array 1 = .ok (.invokevirtual 408, 3) := by decide +kernel
theorem dX12_array_4 : decode cX12_array 4 = .ok (.aload_n 0, 1) := by decide +kernel
theorem dX12_array_5 : decode cX12_array 5 = .ok (.bipush 93, 2) := by decide +kernel
theorem dX12_array_7 : decode cX12_array 7 = .ok (.invokevirtual 401, 3) := by decide +kernel
theorem dX12_array_10 : decode cX12_array 10 = .ok (.ifCond .ne 16, 3) := by decide +kernel
theorem dX12_array_13 : decode cX12_array 13 = .ok (.aload_n 0, 1) := by decide +kernel
theorem dX12_array_14 : decode cX12_array 14 = .ok (.getfield 113, 3) := by decide +kernel
theorem dX12_array_17 : decode cX12_array 17 = .ok (.iload_n 1, 1) := by decide +kernel
theorem dX12_array_18 : decode cX12_array 18 = .ok (.aload_n 0, 1) := by decide +kernel
theorem dX12_array_19 : decode cX12_array 19 = .ok (.invokevirtual 460, 3) := by decide +kernel
theorem dX12_array_22 : decode cX12_array 22 = .ok (.iastore, 1) := by decide +kernel
theorem dX12_array_23 : decode cX12_array 23 = .ok (.goto 50, 3) := by decide +kernel
theorem dX12_array_26 : decode cX12_array 26 = .ok (.aload_n 0, 1) := by decide +kernel
theorem dX12_array_27 : decode cX12_array 27 = .ok (.getfield 98, 3) := by decide +kernel
theorem dX12_array_30 : decode cX12_array 30 = .ok (.iload_n 1, 1) := by decide +kernel
theorem dX12_array_31 : decode cX12_array 31 = .ok (.iaload, 1) := by decide +kernel
theorem dX12_array_32 : decode cX12_array 32 = .ok (.iconst 3, 1) := by decide +kernel
theorem dX12_array_33 : decode cX12_array 33 = .ok (.if_icmp .ne 40, 3) := by decide +kernel
theorem dX12_array_36 : decode cX12_array 36 = .ok (.aload_n 0, 1) := by decide +kernel
theorem dX12_array_37 : decode cX12_array 37 = .ok (.aload_n 0, 1) := by decide +kernel
theorem dX12_array_38 : decode cX12_array 38 = .ok (.getfield 83, 3) := by decide +kernel
theorem dX12_array_41 : decode cX12_array 41 = .ok (.bipush 20, 2) := by decide +kernel
theorem dX12_array_43 : decode cX12_array 43 = .ok (.aload_n 0, 1) := by decide +kernel
theorem dX12_array_44 : decode cX12_array 44 = .ok (.getfield 173, 3) := by decide +kernel
theorem dX12_array_47 : decode cX12_array 47 = .ok (.imul, 1) := by decide +kernel
theorem dX12_array_48 : decode cX12_array 48 = .ok (.aload_n 0, 1) := by decide +kernel
theorem dX12_array_49 : decode cX12_array 49 = .ok (.getfield 107, 3) := by decide +kernel
theorem dX12_array_52 : decode cX12_array 52 = .ok (.iload_n 1, 1) := by decide +kernel
theorem dX12_array_53 : decode cX12_array 53 = .ok (.iaload, 1) := by decide +kernel
theorem dX12_array_54 : decode cX12_array 54 = .ok (.iadd, 1) := by decide +kernel
theorem dX12_array_55 : decode cX12_array 55 = .ok (.iaload, 1) := by decide +kernel
theorem dX12_array_56 : decode cX12_array 56 = .ok (.ifCond .le 7, 3) := by decide +kernel
theorem dX12_array_59 : decode cX12_array 59 = .ok (.iconst 1, 1) := by decide +kernel
theorem dX12_array_60 : decode cX12_array 60 = .ok (.goto 4, 3) := by decide +kernel
theorem dX12_array_63 : decode cX12_array 63 = .ok (.iconst 0, 1) := by decide +kernel
theorem dX12_array_64 : decode cX12_array 64 = .ok (.bipush 6, 2) := by decide +kernel
theorem dX12_array_66 : decode cX12_array 66 = .ok (.invokevirtual 404, 3) := by decide +kernel
theorem dX12_array_69 : decode cX12_array 69 = .ok (.ifCond .ne 4, 3) := by decide +kernel
theorem dX12_array_72 : decode cX12_array 72 = .ok (.return_, 1) := by decide +kernel
theorem dX12_array_73 : decode cX12_array 73 = .ok (.aload_n 0, 1) := by decide +kernel
theorem dX12_array_74 : decode cX12_array 74 = .ok (.bipush 93, 2) := by decide +kernel
theorem dX12_array_76 : decode cX12_array 76 = .ok (.invokevirtual 431, 3) := by decide +kernel
theorem dX12_array_79 : decode cX12_array 79 = .ok (.return_, 1) := by decide +kernel
theorem dX12_arrayLaid_0 : decode cX12_arrayLaid 0 = .ok (.aload_n 0, 1) := by decide +kernel
theorem dX12_arrayLaid_1 : decode cX12_arrayLaid 1 = .ok (.getfield 98, 3) := by decide +kernel
theorem dX12_arrayLaid_4 : decode cX12_arrayLaid 4 = .ok (.iload_n 2, 1) := by decide +kernel
theorem dX12_arrayLaid_5 : decode cX12_arrayLaid 5 = .ok (.iaload, 1) := by decide +kernel
theorem dX12_arrayLaid_6 : decode cX12_arrayLaid 6 = .ok (.iconst 1, 1) := by decide +kernel
theorem dX12_arrayLaid_7 : decode cX12_arrayLaid 7 = .ok (.if_icmp .ne 15, 3) := by decide +kernel
theorem dX12_arrayLaid_10 : decode cX12_arrayLaid 10 = .ok (.aload_n 0, 1) := by decide +kernel
theorem dX12_arrayLaid_11 : decode cX12_arrayLaid 11 = .ok (.getfield 101, 3) := by decide +kernel
theorem dX12_arrayLaid_14 : decode cX12_arrayLaid 14 = .ok (.iload_n 2, 1) := by decide +kernel
theorem dX12_arrayLaid_15 : decode cX12_arrayLaid 15 = .ok (.iaload, 1) := by decide +kernel
theorem dX12_arrayLaid_16 : decode cX12_arrayLaid 16 = .ok (.bipush 15, 2) := by decide +kernel
theorem dX12_arrayLaid_18 : decode cX12_arrayLaid 18 = .ok (.iand, 1) := by decide +kernel
theorem dX12_arrayLaid_19 : decode cX12_arrayLaid 19 = .ok (.goto 22, 3) := by decide +kernel
theorem dX12_arrayLaid_22 : decode cX12_arrayLaid 22 = .ok (.aload_n 0, 1) := by decide +kernel
theorem dX12_arrayLaid_23 : decode cX12_arrayLaid 23 = .ok (.getfield 83, 3) := by decide +kernel
theorem dX12_arrayLaid_26 : decode cX12_arrayLaid 26 = .ok (.bipush 20, 2) := by decide +kernel
theorem dX12_arrayLaid_28 : decode cX12_arrayLaid 28 = .ok (.aload_n 0, 1) := by decide +kernel
theorem dX12_arrayLaid_29 : decode cX12_arrayLaid 29 = .ok (.getfield 67, 3) := by decide +kernel
theorem dX12_arrayLaid_32 : decode cX12_arrayLaid 32 = .ok (.imul, 1) := by decide +kernel
theorem dX12_arrayLaid_33 : decode cX12_arrayLaid 33 = .ok (.aload_n 0, 1) := by decide +kernel
theorem dX12_arrayLaid_34 : decode cX12_arrayLaid 34 = .ok (.getfield 107, 3) := by decide +kernel
theorem dX12_arrayLaid_37 : decode cX12_arrayLaid 37 = .ok (.iload_n 2, 1) := by decide +kernel
theorem dX12_arrayLaid_38 : decode cX12_arrayLaid 38 = .ok (.iaload, 1) := by decide +kernel
theorem dX12_arrayLaid_39 : decode cX12_arrayLaid 39 = .ok (.iadd, 1) := by decide +kernel
theorem dX12_arrayLaid_40 : decode cX12_arrayLaid 40 = .ok (.iaload, 1) := by decide +kernel
theorem dX12_arrayLaid_41 : decode cX12_arrayLaid 41 = .ok (.istore 4, 2) := by decide +kernel
theorem dX12_arrayLaid_43 : decode cX12_arrayLaid 43 = .ok (.aload_n 0, 1) := by decide +kernel
theorem dX12_arrayLaid_44 : decode cX12_arrayLaid 44 = .ok (.getfield 113, 3) := by decide +kernel
theorem dX12_arrayLaid_47 : decode cX12_arrayLaid 47 = .ok (.iload_n 2, 1) := by decide +kernel
theorem dX12_arrayLaid_48 : decode cX12_arrayLaid 48 = .ok (.iaload, 1) := by decide +kernel
theorem dX12_arrayLaid_49 : decode cX12_arrayLaid 49 = .ok (.ifCond .ge 26, 3) := by decide +kernel
theorem dX12_arrayLaid_52 : decode cX12_arrayLaid 52 = .ok (.aload_n 0, 1) := by decide +kernel
theorem dX12_arrayLaid_53 : decode cX12_arrayLaid 53 = .ok (.getfield 13, 3) := by decide +kernel
theorem dX12_arrayLaid_56 : decode cX12_arrayLaid 56 = .ok (.aload_n 0, 1) := by decide +kernel
theorem dX12_arrayLaid_57 : decode cX12_arrayLaid 57 = .ok (.getfield 259, 3) := by decide +kernel
theorem dX12_arrayLaid_60 : decode cX12_arrayLaid 60 = .ok (.iaload, 1) := by decide +kernel
theorem dX12_arrayLaid_61 : decode cX12_arrayLaid 61 = .ok (.aload_n 0, 1) := by decide +kernel
theorem dX12_arrayLaid_62 : decode cX12_arrayLaid 62 = .ok (.getfield 220, 3) := by decide +kernel
theorem dX12_arrayLaid_65 : decode cX12_arrayLaid 65 = .ok (.iload_n 1, 1) := by decide +kernel
theorem dX12_arrayLaid_66 : decode cX12_arrayLaid 66 = .ok (.iaload, 1) := by decide +kernel
theorem dX12_arrayLaid_67 : decode cX12_arrayLaid 67 = .ok (.isub, 1) := by decide +kernel
theorem dX12_arrayLaid_68 : decode cX12_arrayLaid 68 = .ok (.iload 4, 2) := by decide +kernel
theorem dX12_arrayLaid_70 : decode cX12_arrayLaid 70 = .ok (.idiv, 1) := by decide +kernel
theorem dX12_arrayLaid_71 : decode cX12_arrayLaid 71 = .ok (.i2l, 1) := by decide +kernel
theorem dX12_arrayLaid_72 : decode cX12_arrayLaid 72 = .ok (.goto 20, 3) := by decide +kernel
theorem dX12_arrayLaid_75 : decode cX12_arrayLaid 75 = .ok (.aload_n 0, 1) := by decide +kernel
theorem dX12_arrayLaid_76 : decode cX12_arrayLaid 76 = .ok (.aload_n 0, 1) := by decide +kernel
theorem dX12_arrayLaid_77 : decode cX12_arrayLaid 77 = .ok (.getfield 113, 3) := by decide +kernel
theorem dX12_arrayLaid_80 : decode cX12_arrayLaid 80 = .ok (.iload_n 2, 1) := by decide +kernel
theorem dX12_arrayLaid_81 : decode cX12_arrayLaid 81 = .ok (.iaload, 1) := by decide +kernel
theorem dX12_arrayLaid_82 : decode cX12_arrayLaid 82 = .ok (.iload_n 3, 1) := by decide +kernel
theorem dX12_arrayLaid_83 : decode cX12_arrayLaid 83 = .ok (.aload_n 0, 1) := by decide +kernel
theorem dX12_arrayLaid_84 : decode cX12_arrayLaid 84 = .ok (.getfield 220, 3) := by decide +kernel
theorem dX12_arrayLaid_87 : decode cX12_arrayLaid 87 = .ok (.iload_n 1, 1) := by decide +kernel
theorem dX12_arrayLaid_88 : decode cX12_arrayLaid 88 = .ok (.iaload, 1) := by decide +kernel
theorem dX12_arrayLaid_89 : decode cX12_arrayLaid 89 = .ok (.invokevirtual 608, 3) := by decide +kernel
theorem dX12_arrayLaid_92 : decode cX12_arrayLaid 92 = .ok (.lstore 5, 2) := by decide +kernel
theorem dX12_arrayLaid_94 : decode cX12_arrayLaid 94 = .ok (.aload_n 0, 1) := by decide +kernel
theorem dX12_arrayLaid_95 : decode cX12_arrayLaid 95 = .ok (.getfield 113, 3) := by decide +kernel
theorem dX12_arrayLaid_98 : decode cX12_arrayLaid 98 = .ok (.iload_n 2, 1) := by decide +kernel
theorem dX12_arrayLaid_99 : decode cX12_arrayLaid 99 = .ok (.iaload, 1) := by decide +kernel
theorem dX12_arrayLaid_100 : decode cX12_arrayLaid 100 = .ok (.ifCond .lt 47, 3) := by decide +kernel
theorem dX12_arrayLaid_103 : decode cX12_arrayLaid 103 = .ok (.aload_n 0, 1) := by decide +kernel
theorem dX12_arrayLaid_104 : decode cX12_arrayLaid 104 = .ok (.getfield 274, 3) := by decide +kernel
theorem dX12_arrayLaid_107 : decode cX12_arrayLaid 107 = .ok (.ifCond .ne 19, 3) := by decide +kernel
theorem dX12_arrayLaid_110 : decode cX12_arrayLaid 110 = .ok (.lload 5, 2) := by decide +kernel
theorem dX12_arrayLaid_112 : decode cX12_arrayLaid 112 = .ok (.lconst 0, 1) := by decide +kernel
theorem dX12_arrayLaid_113 : decode cX12_arrayLaid 113 = .ok (.lcmp, 1) := by decide +kernel
theorem dX12_arrayLaid_114 : decode cX12_arrayLaid 114 = .ok (.ifCond .lt 12, 3) := by decide +kernel
theorem dX12_arrayLaid_117 : decode cX12_arrayLaid 117 = .ok (.lload 5, 2) := by decide +kernel
theorem dX12_arrayLaid_119 : decode cX12_arrayLaid 119 = .ok (.ldc2_w 563, 3) := by decide +kernel
theorem dX12_arrayLaid_122 : decode cX12_arrayLaid 122 = .ok (.lcmp, 1) := by decide +kernel
theorem dX12_arrayLaid_123 : decode cX12_arrayLaid 123 = .ok (.ifCond .le 24, 3) := by decide +kernel
theorem dX12_arrayLaid_126 : decode cX12_arrayLaid 126 = .ok (.aload_n 0, 1) := by decide +kernel
theorem dX12_arrayLaid_127 : decode cX12_arrayLaid 127 = .ok (.iload_n 1, 1) := by decide +kernel
theorem dX12_arrayLaid_128 : decode cX12_arrayLaid 128 = .ok (.aload_n 0, 1) := by decide +kernel
theorem dX12_arrayLaid_129 : decode cX12_arrayLaid 129 = .ok (.getfield 274, 3) := by decide +kernel
theorem dX12_arrayLaid_132 : decode cX12_arrayLaid 132 = .ok (.ifCond .eq 8, 3) := by decide +kernel
theorem dX12_arrayLaid_135 : decode cX12_arrayLaid 135 = .ok (.bipush 6, 2) := by decide +kernel
theorem dX12_arrayLaid_137 : decode cX12_arrayLaid 137 = .ok (.goto 4, 3) := by decide +kernel
theorem dX12_arrayLaid_140 : decode cX12_arrayLaid 140 = .ok (.iconst 5, 1) := by decide +kernel
theorem dX12_arrayLaid_141 : decode cX12_arrayLaid 141 = .ok (.invokevirtual 577, 3) := by decide +kernel
theorem dX12_arrayLaid_144 : decode cX12_arrayLaid 144 = .ok (.goto 26, 3) := by decide +kernel
theorem dX12_arrayLaid_147 : decode cX12_arrayLaid 147 = .ok (.aload_n 0, 1) := by decide +kernel
theorem dX12_arrayLaid_148 : decode cX12_arrayLaid 148 = .ok (.iload_n 1, 1) := by decide +kernel
theorem dX12_arrayLaid_149 : decode cX12_arrayLaid 149 = .ok (.lload 5, 2) := by decide +kernel
theorem dX12_arrayLaid_151 : decode cX12_arrayLaid 151 = .ok (.ldc2_w 563, 3) := by decide +kernel
theorem dX12_arrayLaid_154 : decode cX12_arrayLaid 154 = .ok (.lcmp, 1) := by decide +kernel
theorem dX12_arrayLaid_155 : decode cX12_arrayLaid 155 = .ok (.ifCond .le 9, 3) := by decide +kernel
theorem dX12_arrayLaid_158 : decode cX12_arrayLaid 158 = .ok (.sipush 200, 3) := by decide +kernel
theorem dX12_arrayLaid_161 : decode cX12_arrayLaid 161 = .ok (.goto 6, 3) := by decide +kernel
theorem dX12_arrayLaid_164 : decode cX12_arrayLaid 164 = .ok (.lload 5, 2) := by decide +kernel
theorem dX12_arrayLaid_166 : decode cX12_arrayLaid 166 = .ok (.l2i, 1) := by decide +kernel
theorem dX12_arrayLaid_167 : decode cX12_arrayLaid 167 = .ok (.invokevirtual 587, 3) := by decide +kernel
theorem dX12_arrayLaid_170 : decode cX12_arrayLaid 170 = .ok (.return_, 1) := by decide +kernel
theorem dX12_at_0 : decode cX12_at 0 = .ok (.aload_n 0, 1) := by decide +kernel
theorem dX12_at_1 : decode cX12_at 1 = .ok (.iload_n 1, 1) := by decide +kernel
theorem dX12_at_2 : decode cX12_at 2 = .ok (.invokevirtual 293, 3) := by decide +kernel
theorem dX12_at_5 : decode cX12_at 5 = .ok (.ifCond .eq 17, 3) := by decide +kernel
theorem dX12_at_8 : decode cX12_at 8 = .ok (.iload_n 2, 1) := by decide +kernel
theorem dX12_at_9 : decode cX12_at 9 = .ok (.ifCond .lt 13, 3) := by decide +kernel
theorem dX12_at_12 : decode cX12_at 12 = .ok (.iload_n 2, 1) := by decide +kernel
theorem dX12_at_13 : decode cX12_at 13 = .ok (.aload_n 0, 1) := by decide +kernel
theorem dX12_at_14 : decode cX12_at 14 = .ok (.getfield 13, 3) := by decide +kernel
theorem dX12_at_17 : decode cX12_at 17 = .ok (.iload_n 1, 1) := by decide +kernel
theorem dX12_at_18 : decode cX12_at 18 = .ok (.iaload, 1) := by decide +kernel
theorem dX12_at_19 : decode cX12_at 19 = .ok (.if_icmp .lt 5, 3) := by decide +kernel
theorem dX12_at_22 : decode cX12_at 22 = .ok (.iconst (-1), 1) := by decide +kernel
theorem dX12_at_23 : decode cX12_at 23 = .ok (.ireturn, 1) := by decide +kernel
theorem dX12_at_24 : decode cX12_at 24 = .ok (.aload_n 0, 1) := by decide +kernel
theorem dX12_at_25 : decode cX12_at 25 = .ok (.iload_n 1, 1) := by decide +kernel
theorem dX12_at_26 : decode cX12_at 26 = .ok (.iload_n 2, 1) := by decide +kernel
theorem dX12_at_27 : decode cX12_at 27 = .ok (.invokevirtual 299, 3) := by decide +kernel
theorem dX12_at_30 : decode cX12_at 30 = .ok (.ireturn, 1) := by decide +kernel
theorem dX12_beginsCore_0 : decode cX12_beginsCore 0 = .ok (.aload_n 0, 1) := by decide +kernel
theorem dX12_beginsCore_1 : decode cX12_beginsCore 1 = .ok (.invokevirtual 390, 3) := by decide +kernel
theorem dX12_beginsCore_4 : decode cX12_beginsCore 4 = .ok (.ifCond .gt 80, 3) := by decide +kernel
theorem dX12_beginsCore_7 : decode cX12_beginsCore 7 = .ok (.aload_n 0, 1) := by decide +kernel
theorem dX12_beginsCore_8 : decode cX12_beginsCore 8 = .ok (.invokevirtual 418, 3) := by decide +kernel
theorem dX12_beginsCore_11 : decode cX12_beginsCore 11 = .ok (.ifCond .ne 73, 3) := by decide +kernel
theorem dX12_beginsCore_14 : decode cX12_beginsCore 14 = .ok (.aload_n 0, 1) := by decide +kernel
theorem dX12_beginsCore_15 : decode cX12_beginsCore 15 = .ok (.ldc2_w 344, 3) := by decide +kernel
theorem dX12_beginsCore_18 : decode cX12_beginsCore 18 = .ok (.invokevirtual 334, 3) := by decide +kernel
theorem dX12_beginsCore_21 : decode cX12_beginsCore 21 = .ok (.ifCond .ne 63, 3) := by decide +kernel
theorem dX12_beginsCore_24 : decode cX12_beginsCore 24 = .ok (.aload_n 0, 1) := by decide +kernel
theorem dX12_beginsCore_25 : decode cX12_beginsCore 25 = .ok (.ldc2_w 346, 3) := by decide +kernel
theorem dX12_beginsCore_28 : decode cX12_beginsCore 28 = .ok (.invokevirtual 334, 3) := by decide +kernel
theorem dX12_beginsCore_31 : decode cX12_beginsCore 31 = .ok (.ifCond .ne 53, 3) := by decide +kernel
theorem dX12_beginsCore_34 : decode cX12_beginsCore 34 = .ok (.aload_n 0, 1) := by decide +kernel
theorem dX12_beginsCore_35 : decode cX12_beginsCore 35 = .ok (.ldc2_w 350, 3) := by decide +kernel
theorem dX12_beginsCore_38 : decode cX12_beginsCore 38 = .ok (.invokevirtual 334, 3) := by decide +kernel
theorem dX12_beginsCore_41 : decode cX12_beginsCore 41 = .ok (.ifCond .ne 43, 3) := by decide +kernel
theorem dX12_beginsCore_44 : decode cX12_beginsCore 44 = .ok (.aload_n 0, 1) := by decide +kernel
theorem dX12_beginsCore_45 : decode cX12_beginsCore 45 = .ok (.ldc2_w 356, 3) := by decide +kernel
theorem dX12_beginsCore_48 : decode cX12_beginsCore 48 = .ok (.invokevirtual 334, 3) := by decide +kernel
theorem dX12_beginsCore_51 : decode cX12_beginsCore 51 = .ok (.ifCond .ne 33, 3) := by decide +kernel
theorem dX12_beginsCore_54 : decode cX12_beginsCore 54 = .ok (.aload_n 0, 1) := by decide +kernel
theorem dX12_beginsCore_55 : decode cX12_beginsCore 55 = .ok (.ldc2_w 364, 3) := by decide +kernel
theorem dX12_beginsCore_58 : decode cX12_beginsCore 58 = .ok (.invokevirtual 334, 3) := by decide +kernel
theorem dX12_beginsCore_61 : decode cX12_beginsCore 61 = .ok (.ifCond .ne 23, 3) := by decide +kernel
theorem dX12_beginsCore_64 : decode cX12_beginsCore 64 = .ok (.aload_n 0, 1) := by decide +kernel
theorem dX12_beginsCore_65 : decode cX12_beginsCore 65 = .ok (.ldc2_w 366, 3) := by decide +kernel
theorem dX12_beginsCore_68 : decode cX12_beginsCore 68 = .ok (.invokevirtual 334, 3) := by decide +kernel
theorem dX12_beginsCore_71 : decode cX12_beginsCore 71 = .ok (.ifCond .ne 13, 3) := by decide +kernel
theorem dX12_beginsCore_74 : decode cX12_beginsCore 74 = .ok (.aload_n 0, 1) := by decide +kernel
theorem dX12_beginsCore_75 : decode cX12_beginsCore 75 = .ok (.ldc2_w 368, 3) := by decide +kernel
theorem dX12_beginsCore_78 : decode cX12_beginsCore 78 = .ok (.invokevirtual 334, 3) := by decide +kernel
theorem dX12_beginsCore_81 : decode cX12_beginsCore 81 = .ok (.ifCond .eq 7, 3) := by decide +kernel
theorem dX12_beginsCore_84 : decode cX12_beginsCore 84 = .ok (.iconst 1, 1) := by decide +kernel
theorem dX12_beginsCore_85 : decode cX12_beginsCore 85 = .ok (.goto 4, 3) := by decide +kernel
theorem dX12_beginsCore_88 : decode cX12_beginsCore 88 = .ok (.iconst 0, 1) := by decide +kernel
theorem dX12_beginsCore_89 : decode cX12_beginsCore 89 = .ok (.ireturn, 1) := by decide +kernel
theorem dX12_begun_0 : decode cX12_begun 0 = .ok (.aload_n 0, 1) := by decide +kernel
theorem dX12_begun_1 : decode cX12_begun 1 = .ok (.iconst 0, 1) := by decide +kernel
theorem dX12_begun_2 : decode cX12_begun 2 = .ok (.iload_n 2, 1) := by decide +kernel
theorem dX12_begun_3 : decode cX12_begun 3 = .ok (.iload_n 3, 1) := by decide +kernel
theorem dX12_begun_4 : decode cX12_begun 4 = .ok (.iload 4, 2) := by decide +kernel
theorem dX12_begun_6 : decode cX12_begun 6 = .ok (.invokevirtual 580, 3) := by decide +kernel
theorem dX12_begun_9 : decode cX12_begun 9 = .ok (.istore 5, 2) := by decide +kernel
theorem dX12_begun_11 : decode cX12_begun 11 = .ok (.aload_n 0, 1) := by decide +kernel
theorem dX12_begun_12 : decode cX12_begun 12 = .ok (.getfield 262, 3) := by decide +kernel
theorem dX12_begun_15 : decode cX12_begun 15 = .ok (.ifCond .eq 4, 3) := by decide +kernel
theorem dX12_begun_18 : decode cX12_begun 18 = .ok (.return_, 1) := by decide +kernel
theorem dX12_begun_19 : decode cX12_begun 19 = .ok (.aload_n 0, 1) := by decide +kernel
theorem dX12_begun_20 : decode cX12_begun 20 = .ok (.getfield 235, 3) := by decide +kernel
theorem dX12_begun_23 : decode cX12_begun 23 = .ok (.iload 5, 2) := by decide +kernel
theorem dX12_begun_25 : decode cX12_begun 25 = .ok (.iload_n 1, 1) := by decide +kernel
theorem dX12_begun_26 : decode cX12_begun 26 = .ok (.iastore, 1) := by decide +kernel
theorem dX12_begun_27 : decode cX12_begun 27 = .ok (.aload_n 0, 1) := by decide +kernel
theorem dX12_begun_28 : decode cX12_begun 28 = .ok (.iload 5, 2) := by decide +kernel
theorem dX12_begun_30 : decode cX12_begun 30 = .ok (.invokevirtual 584, 3) := by decide +kernel
theorem dX12_begun_33 : decode cX12_begun 33 = .ok (.bipush 20, 2) := by decide +kernel
theorem dX12_begun_35 : decode cX12_begun 35 = .ok (.if_icmp .lt 7, 3) := by decide +kernel
theorem dX12_begun_38 : decode cX12_begun 38 = .ok (.iconst 1, 1) := by decide +kernel
theorem dX12_begun_39 : decode cX12_begun 39 = .ok (.goto 4, 3) := by decide +kernel
theorem dX12_begun_42 : decode cX12_begun 42 = .ok (.iconst 0, 1) := by decide +kernel
theorem dX12_begun_43 : decode cX12_begun 43 = .ok (.istore 6, 2) := by decide +kernel
theorem dX12_begun_45 : decode cX12_begun 45 = .ok (.iload 6, 2) := by decide +kernel
theorem dX12_begun_47 : decode cX12_begun 47 = .ok (.ifCond .eq 11, 3) := by decide +kernel
theorem dX12_begun_50 : decode cX12_begun 50 = .ok (.aload_n 0, 1) := by decide +kernel
theorem dX12_begun_51 : decode cX12_begun 51 = .ok (.iload 5, 2) := by decide +kernel
theorem dX12_begun_53 : decode cX12_begun 53 = .ok (.bipush 9, 2) := by decide +kernel
theorem dX12_begun_55 : decode cX12_begun 55 = .ok (.invokevirtual 577, 3) := by decide +kernel
theorem dX12_begun_58 : decode cX12_begun 58 = .ok (.aload_n 0, 1) := by decide +kernel
theorem dX12_begun_59 : decode cX12_begun 59 = .ok (.iload 5, 2) := by decide +kernel
theorem dX12_begun_61 : decode cX12_begun 61 = .ok (.iload 6, 2) := by decide +kernel
theorem dX12_begun_63 : decode cX12_begun 63 = .ok (.ifCond .eq 8, 3) := by decide +kernel
theorem dX12_begun_66 : decode cX12_begun 66 = .ok (.bipush 14, 2) := by decide +kernel
theorem dX12_begun_68 : decode cX12_begun 68 = .ok (.goto 4, 3) := by decide +kernel
theorem dX12_begun_71 : decode cX12_begun 71 = .ok (.iconst 0, 1) := by decide +kernel
theorem dX12_begun_72 : decode cX12_begun 72 = .ok (.invokevirtual 587, 3) := by decide +kernel
theorem dX12_begun_75 : decode cX12_begun 75 = .ok (.return_, 1) := by decide +kernel
theorem dX12_bound_0 : decode cX12_bound 0 = .ok (.aload_n 0, 1) := by decide +kernel
theorem dX12_bound_1 : decode cX12_bound 1 = .ok (.getfield 167, 3) := by decide +kernel
theorem dX12_bound_4 : decode cX12_bound 4 = .ok (.ifCond .gt 56, 3) := by decide +kernel
theorem dX12_bound_7 : decode cX12_bound 7 = .ok (.aload_n 0, 1) := by decide +kernel
theorem dX12_bound_8 : decode cX12_bound 8 = .ok (.aload_n 0, 1) := by decide +kernel
theorem dX12_bound_9 : decode cX12_bound 9 = .ok (.getfield 51, 3) := by decide +kernel
theorem dX12_bound_12 : decode cX12_bound 12 = .ok (.iconst 2, 1) := by decide +kernel
theorem dX12_bound_13 : decode cX12_bound 13 = .ok (.if_icmp .ne 7, 3) := by decide +kernel
theorem dX12_bound_16 : decode cX12_bound 16 = .ok (.iconst 1, 1) := by decide +kernel
theorem dX12_bound_17 : decode cX12_bound 17 = .ok (.goto 4, 3) := by decide +kernel
theorem dX12_bound_20 : decode cX12_bound 20 = .ok (.iconst 0, 1) := by decide +kernel
theorem dX12_bound_21 : decode cX12_bound 21 = .ok (.iconst 2, 1) := by decide +kernel
theorem dX12_bound_22 : decode cX12_bound 22 = .ok (.invokevirtual 404, 3) := by decide +kernel
theorem dX12_bound_25 : decode cX12_bound 25 = .ok (.ifCond .eq 35, 3) := by decide +kernel
theorem dX12_bound_28 : decode cX12_bound 28 = .ok (.aload_n 0, 1) := by decide +kernel
theorem dX12_bound_29 : decode cX12_bound 29 = .ok (.aload_n 0, 1) := by decide +kernel
theorem dX12_bound_30 : decode cX12_bound 30 = .ok (.getfield 64, 3) := by decide +kernel
theorem dX12_bound_33 : decode cX12_bound 33 = .ok (.lload_n 2, 1) := by decide +kernel
theorem dX12_bound_34 : decode cX12_bound 34 = .ok (.lcmp, 1) := by decide +kernel
theorem dX12_bound_35 : decode cX12_bound 35 = .ok (.ifCond .lt 17, 3) := by decide +kernel
theorem dX12_bound_38 : decode cX12_bound 38 = .ok (.aload_n 0, 1) := by decide +kernel
theorem dX12_bound_39 : decode cX12_bound 39 = .ok (.getfield 64, 3) := by decide +kernel
theorem dX12_bound_42 : decode cX12_bound 42 = .ok (.lload 4, 2) := by decide +kernel
theorem dX12_bound_44 : decode cX12_bound 44 = .ok (.lcmp, 1) := by decide +kernel
theorem dX12_bound_45 : decode cX12_bound 45 = .ok (.ifCond .gt 7, 3) := by decide +kernel
theorem dX12_bound_48 : decode cX12_bound 48 = .ok (.iconst 1, 1) := by decide +kernel
theorem dX12_bound_49 : decode cX12_bound 49 = .ok (.goto 4, 3) := by decide +kernel
theorem dX12_bound_52 : decode cX12_bound 52 = .ok (.iconst 0, 1) := by decide +kernel
theorem dX12_bound_53 : decode cX12_bound 53 = .ok (.iconst 5, 1) := by decide +kernel
theorem dX12_bound_54 : decode cX12_bound 54 = .ok (.invokevirtual 404, 3) := by decide +kernel
theorem dX12_bound_57 : decode cX12_bound 57 = .ok (.ifCond .ne 4, 3) := by decide +kernel
theorem dX12_bound_60 : decode cX12_bound 60 = .ok (.return_, 1) := by decide +kernel
theorem dX12_bound_61 : decode cX12_bound 61 = .ok (.aload_n 0, 1) := by decide +kernel
theorem dX12_bound_62 : decode cX12_bound 62 = .ok (.getfield 119, 3) := by decide +kernel
theorem dX12_bound_65 : decode cX12_bound 65 = .ok (.iload_n 1, 1) := by decide +kernel
theorem dX12_bound_66 : decode cX12_bound 66 = .ok (.aload_n 0, 1) := by decide +kernel
theorem dX12_bound_67 : decode cX12_bound 67 = .ok (.getfield 64, 3) := by decide +kernel
theorem dX12_bound_70 : decode cX12_bound 70 = .ok (.l2i, 1) := by decide +kernel
theorem dX12_bound_71 : decode cX12_bound 71 = .ok (.iastore, 1) := by decide +kernel
theorem dX12_bound_72 : decode cX12_bound 72 = .ok (.aload_n 0, 1) := by decide +kernel
theorem dX12_bound_73 : decode cX12_bound 73 = .ok (.invokevirtual 408, 3) := by decide +kernel
theorem dX12_bound_76 : decode cX12_bound 76 = .ok (.return_, 1) := by decide +kernel
theorem dX12_cell_0 : decode cX12_cell 0 = .ok (.iconst 4, 1) := by decide +kernel
theorem dX12_cell_1 : decode cX12_cell 1 = .ok (.iload_n 1, 1) := by decide +kernel
theorem dX12_cell_2 : decode cX12_cell 2 = .ok (.imul, 1) := by decide +kernel
theorem dX12_cell_3 : decode cX12_cell 3 = .ok (.iload_n 2, 1) := by decide +kernel
theorem dX12_cell_4 : decode cX12_cell 4 = .ok (.iadd, 1) := by decide +kernel
theorem dX12_cell_5 : decode cX12_cell 5 = .ok (.sipush 2000, 3) := by decide +kernel
theorem dX12_cell_8 : decode cX12_cell 8 = .ok (.imul, 1) := by decide +kernel
theorem dX12_cell_9 : decode cX12_cell 9 = .ok (.iload_n 3, 1) := by decide +kernel
theorem dX12_cell_10 : decode cX12_cell 10 = .ok (.iadd, 1) := by decide +kernel
theorem dX12_cell_11 : decode cX12_cell 11 = .ok (.ireturn, 1) := by decide +kernel
theorem dX12_changed_0 : decode cX12_changed 0 = .ok (.aload_n 0, 1) := by decide +kernel
theorem dX12_changed_1 : decode cX12_changed 1 = .ok (.iload_n 1, 1) := by decide +kernel
theorem dX12_changed_2 : decode cX12_changed 2 = .ok (.invokevirtual 293, 3) := by decide +kernel
theorem dX12_changed_5 : decode cX12_changed 5 = .ok (.ifCond .eq 16, 3) := by decide +kernel
theorem dX12_changed_8 : decode cX12_changed 8 = .ok (.iload_n 2, 1) := by decide +kernel
theorem dX12_changed_9 : decode cX12_changed 9 = .ok (.ifCond .lt 12, 3) := by decide +kernel
theorem dX12_changed_12 : decode cX12_changed 12 = .ok (.aload_n 0, 1) := by decide +kernel
theorem dX12_changed_13 : decode cX12_changed 13 = .ok (.getfield 17, 3) := by decide +kernel
theorem dX12_changed_16 : decode cX12_changed 16 = .ok (.iload_n 1, 1) := by decide +kernel
theorem dX12_changed_17 : decode cX12_changed 17 = .ok (.iaload, 1) := by decide +kernel
theorem dX12_changed_18 : decode cX12_changed 18 = .ok (.ifCond .ne 5, 3) := by decide +kernel
theorem dX12_changed_21 : decode cX12_changed 21 = .ok (.iconst (-1), 1) := by decide +kernel
theorem dX12_changed_22 : decode cX12_changed 22 = .ok (.ireturn, 1) := by decide +kernel
theorem dX12_changed_23 : decode cX12_changed 23 = .ok (.iload_n 2, 1) := by decide +kernel
theorem dX12_changed_24 : decode cX12_changed 24 = .ok (.istore_n 3, 1) := by decide +kernel
theorem dX12_changed_25 : decode cX12_changed 25 = .ok (.iconst 0, 1) := by decide +kernel
theorem dX12_changed_26 : decode cX12_changed 26 = .ok (.istore 4, 2) := by decide +kernel
theorem dX12_changed_28 : decode cX12_changed 28 = .ok (.iload 4, 2) := by decide +kernel
theorem dX12_changed_30 : decode cX12_changed 30 = .ok (.aload_n 0, 1) := by decide +kernel
theorem dX12_changed_31 : decode cX12_changed 31 = .ok (.getfield 13, 3) := by decide +kernel
theorem dX12_changed_34 : decode cX12_changed 34 = .ok (.iload_n 1, 1) := by decide +kernel
theorem dX12_changed_35 : decode cX12_changed 35 = .ok (.iaload, 1) := by decide +kernel
theorem dX12_changed_36 : decode cX12_changed 36 = .ok (.if_icmp .ge 45, 3) := by decide +kernel
theorem dX12_changed_39 : decode cX12_changed 39 = .ok (.aload_n 0, 1) := by decide +kernel
theorem dX12_changed_40 : decode cX12_changed 40 = .ok (.getfield 24, 3) := by decide +kernel
theorem dX12_changed_43 : decode cX12_changed 43 = .ok (.aload_n 0, 1) := by decide +kernel
theorem dX12_changed_44 : decode cX12_changed 44 = .ok (.iload_n 1, 1) := by decide +kernel
theorem dX12_changed_45 : decode cX12_changed 45 = .ok (.aload_n 0, 1) := by decide +kernel
theorem dX12_changed_46 : decode cX12_changed 46 = .ok (.getfield 17, 3) := by decide +kernel
theorem dX12_changed_49 : decode cX12_changed 49 = .ok (.iload_n 1, 1) := by decide +kernel
theorem dX12_changed_50 : decode cX12_changed 50 = .ok (.iaload, 1) := by decide +kernel
theorem dX12_changed_51 : decode cX12_changed 51 = .ok (.iconst 1, 1) := by decide +kernel
theorem dX12_changed_52 : decode cX12_changed 52 = .ok (.isub, 1) := by decide +kernel
theorem dX12_changed_53 : decode cX12_changed 53 = .ok (.iload 4, 2) := by decide +kernel
theorem dX12_changed_55 : decode cX12_changed 55 = .ok (.invokevirtual 289, 3) := by decide +kernel
theorem dX12_changed_58 : decode cX12_changed 58 = .ok (.iaload, 1) := by decide +kernel
theorem dX12_changed_59 : decode cX12_changed 59 = .ok (.ifCond .ge 6, 3) := by decide +kernel
theorem dX12_changed_62 : decode cX12_changed 62 = .ok (.goto 13, 3) := by decide +kernel
theorem dX12_changed_65 : decode cX12_changed 65 = .ok (.iload_n 3, 1) := by decide +kernel
theorem dX12_changed_66 : decode cX12_changed 66 = .ok (.ifCond .ne 6, 3) := by decide +kernel
theorem dX12_changed_69 : decode cX12_changed 69 = .ok (.iload 4, 2) := by decide +kernel
theorem dX12_changed_71 : decode cX12_changed 71 = .ok (.ireturn, 1) := by decide +kernel
theorem dX12_changed_72 : decode cX12_changed 72 = .ok (.iinc 3 (-1), 3) := by decide +kernel
theorem dX12_changed_75 : decode cX12_changed 75 = .ok (.iinc 4 1, 3) := by decide +kernel
theorem dX12_changed_78 : decode cX12_changed 78 = .ok (.goto (-50), 3) := by decide +kernel
theorem dX12_changed_81 : decode cX12_changed 81 = .ok (.iconst (-1), 1) := by decide +kernel
theorem dX12_changed_82 : decode cX12_changed 82 = .ok (.ireturn, 1) := by decide +kernel
theorem dX12_clear_0 : decode cX12_clear 0 = .ok (.aload_n 0, 1) := by decide +kernel
theorem dX12_clear_1 : decode cX12_clear 1 = .ok (.getfield 208, 3) := by decide +kernel
theorem dX12_clear_4 : decode cX12_clear 4 = .ok (.istore_n 1, 1) := by decide +kernel
theorem dX12_clear_5 : decode cX12_clear 5 = .ok (.aload_n 0, 1) := by decide +kernel
theorem dX12_clear_6 : decode cX12_clear 6 = .ok (.iconst 0, 1) := by decide +kernel
theorem dX12_clear_7 : decode cX12_clear 7 = .ok (.putfield 208, 3) := by decide +kernel
theorem dX12_clear_10 : decode cX12_clear 10 = .ok (.iload_n 1, 1) := by decide +kernel
theorem dX12_clear_11 : decode cX12_clear 11 = .ok (.ireturn, 1) := by decide +kernel
theorem dX12_closes_0 : decode cX12_closes 0 = .ok (.aload_n 0, 1) := by decide +kernel
theorem dX12_closes_1 : decode cX12_closes 1 = .ok (.dup, 1) := by decide +kernel
theorem dX12_closes_2 : decode cX12_closes 2 = .ok (.getfield 271, 3) := by decide +kernel
theorem dX12_closes_5 : decode cX12_closes 5 = .ok (.iconst 1, 1) := by decide +kernel
theorem dX12_closes_6 : decode cX12_closes 6 = .ok (.isub, 1) := by decide +kernel
theorem dX12_closes_7 : decode cX12_closes 7 = .ok (.putfield 271, 3) := by decide +kernel
theorem dX12_closes_10 : decode cX12_closes 10 = .ok (.aload_n 0, 1) := by decide +kernel
theorem dX12_closes_11 : decode cX12_closes 11 = .ok (.getfield 265, 3) := by decide +kernel
theorem dX12_closes_14 : decode cX12_closes 14 = .ok (.aload_n 0, 1) := by decide +kernel
theorem dX12_closes_15 : decode cX12_closes 15 = .ok (.getfield 271, 3) := by decide +kernel
theorem dX12_closes_18 : decode cX12_closes 18 = .ok (.iaload, 1) := by decide +kernel
theorem dX12_closes_19 : decode cX12_closes 19 = .ok (.istore_n 1, 1) := by decide +kernel
theorem dX12_closes_20 : decode cX12_closes 20 = .ok (.aload_n 0, 1) := by decide +kernel
theorem dX12_closes_21 : decode cX12_closes 21 = .ok (.getfield 226, 3) := by decide +kernel
theorem dX12_closes_24 : decode cX12_closes 24 = .ok (.iload_n 1, 1) := by decide +kernel
theorem dX12_closes_25 : decode cX12_closes 25 = .ok (.iaload, 1) := by decide +kernel
theorem dX12_closes_26 : decode cX12_closes 26 = .ok (.istore_n 2, 1) := by decide +kernel
theorem dX12_closes_27 : decode cX12_closes 27 = .ok (.iload_n 2, 1) := by decide +kernel
theorem dX12_closes_28 : decode cX12_closes 28 = .ok (.ifCond .lt 26, 3) := by decide +kernel
theorem dX12_closes_31 : decode cX12_closes 31 = .ok (.aload_n 0, 1) := by decide +kernel
theorem dX12_closes_32 : decode cX12_closes 32 = .ok (.getfield 217, 3) := by decide +kernel
theorem dX12_closes_35 : decode cX12_closes 35 = .ok (.iload_n 2, 1) := by decide +kernel
theorem dX12_closes_36 : decode cX12_closes 36 = .ok (.iaload, 1) := by decide +kernel
theorem dX12_closes_37 : decode cX12_closes 37 = .ok (.bipush 7, 2) := by decide +kernel
theorem dX12_closes_39 : decode cX12_closes 39 = .ok (.if_icmp .eq 15, 3) := by decide +kernel
theorem dX12_closes_42 : decode cX12_closes 42 = .ok (.aload_n 0, 1) := by decide +kernel
theorem dX12_closes_43 : decode cX12_closes 43 = .ok (.getfield 223, 3) := by decide +kernel
theorem dX12_closes_46 : decode cX12_closes 46 = .ok (.iload_n 2, 1) := by decide +kernel
theorem dX12_closes_47 : decode cX12_closes 47 = .ok (.aload_n 0, 1) := by decide +kernel
theorem dX12_closes_48 : decode cX12_closes 48 = .ok (.getfield 223, 3) := by decide +kernel
theorem dX12_closes_51 : decode cX12_closes 51 = .ok (.iload_n 1, 1) := by decide +kernel
theorem dX12_closes_52 : decode cX12_closes 52 = .ok (.iaload, 1) := by decide +kernel
theorem dX12_closes_53 : decode cX12_closes 53 = .ok (.iastore, 1) := by decide +kernel
theorem dX12_closes_54 : decode cX12_closes 54 = .ok (.return_, 1) := by decide +kernel
theorem dX12_commit_0 : decode cX12_commit 0 = .ok (.aload_n 0, 1) := by decide +kernel
theorem dX12_commit_1 : decode cX12_commit 1 = .ok (.iload_n 1, 1) := by decide +kernel
theorem dX12_commit_2 : decode cX12_commit 2 = .ok (.iconst 1, 1) := by decide +kernel
theorem dX12_commit_3 : decode cX12_commit 3 = .ok (.invokevirtual 303, 3) := by decide +kernel
theorem dX12_commit_6 : decode cX12_commit 6 = .ok (.ireturn, 1) := by decide +kernel
theorem dX12_core_0 : decode cX12_core 0 = .ok (.aload_n 0, 1) := by decide +kernel
theorem dX12_core_1 : decode cX12_core 1 = .ok (.invokevirtual 390, 3) := by decide +kernel
theorem dX12_core_4 : decode cX12_core 4 = .ok (.ifCond .le 30, 3) := by decide +kernel
theorem dX12_core_7 : decode cX12_core 7 = .ok (.aload_n 0, 1) := by decide +kernel
theorem dX12_core_8 : decode cX12_core 8 = .ok (.getfield 101, 3) := by decide +kernel
theorem dX12_core_11 : decode cX12_core 11 = .ok (.iload_n 1, 1) := by decide +kernel
theorem dX12_core_12 : decode cX12_core 12 = .ok (.aload_n 0, 1) := by decide +kernel
theorem dX12_core_13 : decode cX12_core 13 = .ok (.invokevirtual 390, 3) := by decide +kernel
theorem dX12_core_16 : decode cX12_core 16 = .ok (.iastore, 1) := by decide +kernel
theorem dX12_core_17 : decode cX12_core 17 = .ok (.aload_n 0, 1) := by decide +kernel
theorem dX12_core_18 : decode cX12_core 18 = .ok (.invokevirtual 408, 3) := by decide +kernel
theorem dX12_core_21 : decode cX12_core 21 = .ok (.aload_n 0, 1) := by decide +kernel
theorem dX12_core_22 : decode cX12_core 22 = .ok (.iload_n 1, 1) := by decide +kernel
theorem dX12_core_23 : decode cX12_core 23 = .ok (.invokevirtual 466, 3) := by decide +kernel
theorem dX12_core_26 : decode cX12_core 26 = .ok (.aload_n 0, 1) := by decide +kernel
theorem dX12_core_27 : decode cX12_core 27 = .ok (.iload_n 1, 1) := by decide +kernel
theorem dX12_core_28 : decode cX12_core 28 = .ok (.invokevirtual 469, 3) := by decide +kernel
theorem dX12_core_31 : decode cX12_core 31 = .ok (.goto 209, 3) := by decide +kernel
theorem dX12_core_34 : decode cX12_core 34 = .ok (.aload_n 0, 1) := by decide +kernel
theorem dX12_core_35 : decode cX12_core 35 = .ok (.invokevirtual 418, 3) := by decide +kernel
theorem dX12_core_38 : decode cX12_core 38 = .ok (.ifCond .eq 73, 3) := by decide +kernel
theorem dX12_core_41 : decode cX12_core 41 = .ok (.aload_n 0, 1) := by decide +kernel
theorem dX12_core_42 : decode cX12_core 42 = .ok (.getfield 98, 3) := by decide +kernel
theorem dX12_core_45 : decode cX12_core 45 = .ok (.iload_n 1, 1) := by decide +kernel
theorem dX12_core_46 : decode cX12_core 46 = .ok (.iconst 2, 1) := by decide +kernel
theorem dX12_core_47 : decode cX12_core 47 = .ok (.iastore, 1) := by decide +kernel
theorem dX12_core_48 : decode cX12_core 48 = .ok (.aload_n 0, 1) := by decide +kernel
theorem dX12_core_49 : decode cX12_core 49 = .ok (.getfield 107, 3) := by decide +kernel
theorem dX12_core_52 : decode cX12_core 52 = .ok (.iload_n 1, 1) := by decide +kernel
theorem dX12_core_53 : decode cX12_core 53 = .ok (.aload_n 0, 1) := by decide +kernel
theorem dX12_core_54 : decode cX12_core 54 = .ok (.aload_n 0, 1) := by decide +kernel
theorem dX12_core_55 : decode cX12_core 55 = .ok (.getfield 60, 3) := by decide +kernel
theorem dX12_core_58 : decode cX12_core 58 = .ok (.aload_n 0, 1) := by decide +kernel
theorem dX12_core_59 : decode cX12_core 59 = .ok (.getfield 70, 3) := by decide +kernel
theorem dX12_core_62 : decode cX12_core 62 = .ok (.aload_n 0, 1) := by decide +kernel
theorem dX12_core_63 : decode cX12_core 63 = .ok (.getfield 173, 3) := by decide +kernel
theorem dX12_core_66 : decode cX12_core 66 = .ok (.iaload, 1) := by decide +kernel
theorem dX12_core_67 : decode cX12_core 67 = .ok (.invokevirtual 414, 3) := by decide +kernel
theorem dX12_core_70 : decode cX12_core 70 = .ok (.iastore, 1) := by decide +kernel
theorem dX12_core_71 : decode cX12_core 71 = .ok (.aload_n 0, 1) := by decide +kernel
theorem dX12_core_72 : decode cX12_core 72 = .ok (.invokevirtual 408, 3) := by decide +kernel
theorem dX12_core_75 : decode cX12_core 75 = .ok (.aload_n 0, 1) := by decide +kernel
theorem dX12_core_76 : decode cX12_core 76 = .ok (.iload_n 1, 1) := by decide +kernel
theorem dX12_core_77 : decode cX12_core 77 = .ok (.invokevirtual 466, 3) := by decide +kernel
theorem dX12_core_80 : decode cX12_core 80 = .ok (.aload_n 0, 1) := by decide +kernel
theorem dX12_core_81 : decode cX12_core 81 = .ok (.getfield 167, 3) := by decide +kernel
theorem dX12_core_84 : decode cX12_core 84 = .ok (.ifCond .ne 156, 3) := by decide +kernel
theorem dX12_core_87 : decode cX12_core 87 = .ok (.aload_n 0, 1) := by decide +kernel
theorem dX12_core_88 : decode cX12_core 88 = .ok (.bipush 91, 2) := by decide +kernel
theorem dX12_core_90 : decode cX12_core 90 = .ok (.invokevirtual 401, 3) := by decide +kernel
theorem dX12_core_93 : decode cX12_core 93 = .ok (.ifCond .eq 147, 3) := by decide +kernel
theorem dX12_core_96 : decode cX12_core 96 = .ok (.aload_n 0, 1) := by decide +kernel
theorem dX12_core_97 : decode cX12_core 97 = .ok (.getfield 98, 3) := by decide +kernel
theorem dX12_core_100 : decode cX12_core 100 = .ok (.iload_n 1, 1) := by decide +kernel
theorem dX12_core_101 : decode cX12_core 101 = .ok (.iconst 3, 1) := by decide +kernel
theorem dX12_core_102 : decode cX12_core 102 = .ok (.iastore, 1) := by decide +kernel
theorem dX12_core_103 : decode cX12_core 103 = .ok (.aload_n 0, 1) := by decide +kernel
theorem dX12_core_104 : decode cX12_core 104 = .ok (.iload_n 1, 1) := by decide +kernel
theorem dX12_core_105 : decode cX12_core 105 = .ok (.invokevirtual 472, 3) := by decide +kernel
theorem dX12_core_108 : decode cX12_core 108 = .ok (.goto 132, 3) := by decide +kernel
theorem dX12_core_111 : decode cX12_core 111 = .ok (.aload_n 0, 1) := by decide +kernel
theorem dX12_core_112 : decode cX12_core 112 = .ok (.ldc2_w 344, 3) := by decide +kernel
theorem dX12_core_115 : decode cX12_core 115 = .ok (.invokevirtual 334, 3) := by decide +kernel
theorem dX12_core_118 : decode cX12_core 118 = .ok (.ifCond .eq 11, 3) := by decide +kernel
theorem dX12_core_121 : decode cX12_core 121 = .ok (.aload_n 0, 1) := by decide +kernel
theorem dX12_core_122 : decode cX12_core 122 = .ok (.iload_n 1, 1) := by decide +kernel
theorem dX12_core_123 : decode cX12_core 123 = .ok (.invokevirtual 475, 3) := by decide +kernel
theorem dX12_core_126 : decode cX12_core 126 = .ok (.goto 114, 3) := by decide +kernel
theorem dX12_core_129 : decode cX12_core 129 = .ok (.aload_n 0, 1) := by decide +kernel
theorem dX12_core_130 : decode cX12_core 130 = .ok (.ldc2_w 346, 3) := by decide +kernel
theorem dX12_core_133 : decode cX12_core 133 = .ok (.invokevirtual 334, 3) := by decide +kernel
theorem dX12_core_136 : decode cX12_core 136 = .ok (.ifCond .eq 11, 3) := by decide +kernel
theorem dX12_core_139 : decode cX12_core 139 = .ok (.aload_n 0, 1) := by decide +kernel
theorem dX12_core_140 : decode cX12_core 140 = .ok (.iload_n 1, 1) := by decide +kernel
theorem dX12_core_141 : decode cX12_core 141 = .ok (.invokevirtual 478, 3) := by decide +kernel
theorem dX12_core_144 : decode cX12_core 144 = .ok (.goto 96, 3) := by decide +kernel
theorem dX12_core_147 : decode cX12_core 147 = .ok (.aload_n 0, 1) := by decide +kernel
theorem dX12_core_148 : decode cX12_core 148 = .ok (.ldc2_w 350, 3) := by decide +kernel
theorem dX12_core_151 : decode cX12_core 151 = .ok (.invokevirtual 334, 3) := by decide +kernel
theorem dX12_core_154 : decode cX12_core 154 = .ok (.ifCond .eq 11, 3) := by decide +kernel
theorem dX12_core_157 : decode cX12_core 157 = .ok (.aload_n 0, 1) := by decide +kernel
theorem dX12_core_158 : decode cX12_core 158 = .ok (.iload_n 1, 1) := by decide +kernel
theorem dX12_core_159 : decode cX12_core 159 = .ok (.invokevirtual 481, 3) := by decide +kernel
theorem dX12_core_162 : decode cX12_core 162 = .ok (.goto 78, 3) := by decide +kernel
theorem dX12_core_165 : decode cX12_core 165 = .ok (.aload_n 0, 1) := by decide +kernel
theorem dX12_core_166 : decode cX12_core 166 = .ok (.ldc2_w 356, 3) := by decide +kernel
theorem dX12_core_169 : decode cX12_core 169 = .ok (.invokevirtual 334, 3) := by decide +kernel
theorem dX12_core_172 : decode cX12_core 172 = .ok (.ifCond .eq 11, 3) := by decide +kernel
theorem dX12_core_175 : decode cX12_core 175 = .ok (.aload_n 0, 1) := by decide +kernel
theorem dX12_core_176 : decode cX12_core 176 = .ok (.iload_n 1, 1) := by decide +kernel
theorem dX12_core_177 : decode cX12_core 177 = .ok (.invokevirtual 484, 3) := by decide +kernel
theorem dX12_core_180 : decode cX12_core 180 = .ok (.goto 60, 3) := by decide +kernel
theorem dX12_core_183 : decode cX12_core 183 = .ok (.aload_n 0, 1) := by decide +kernel
theorem dX12_core_184 : decode cX12_core 184 = .ok (.ldc2_w 364, 3) := by decide +kernel
theorem dX12_core_187 : decode cX12_core 187 = .ok (.invokevirtual 334, 3) := by decide +kernel
theorem dX12_core_190 : decode cX12_core 190 = .ok (.ifCond .eq 27, 3) := by decide +kernel
theorem dX12_core_193 : decode cX12_core 193 = .ok (.aload_n 0, 1) := by decide +kernel
theorem dX12_core_194 : decode cX12_core 194 = .ok (.invokevirtual 408, 3) := by decide +kernel
theorem dX12_core_197 : decode cX12_core 197 = .ok (.aload_n 0, 1) := by decide +kernel
theorem dX12_core_198 : decode cX12_core 198 = .ok (.getfield 98, 3) := by decide +kernel
theorem dX12_core_201 : decode cX12_core 201 = .ok (.iload_n 1, 1) := by decide +kernel
theorem dX12_core_202 : decode cX12_core 202 = .ok (.bipush 9, 2) := by decide +kernel
theorem dX12_core_204 : decode cX12_core 204 = .ok (.iastore, 1) := by decide +kernel
theorem dX12_core_205 : decode cX12_core 205 = .ok (.aload_n 0, 1) := by decide +kernel
theorem dX12_core_206 : decode cX12_core 206 = .ok (.iload_n 1, 1) := by decide +kernel
theorem dX12_core_207 : decode cX12_core 207 = .ok (.lconst 1, 1) := by decide +kernel
theorem dX12_core_208 : decode cX12_core 208 = .ok (.ldc2_w 487, 3) := by decide +kernel
theorem dX12_core_211 : decode cX12_core 211 = .ok (.invokevirtual 489, 3) := by decide +kernel
theorem dX12_core_214 : decode cX12_core 214 = .ok (.goto 26, 3) := by decide +kernel
theorem dX12_core_217 : decode cX12_core 217 = .ok (.aload_n 0, 1) := by decide +kernel
theorem dX12_core_218 : decode cX12_core 218 = .ok (.ldc2_w 366, 3) := by decide +kernel
theorem dX12_core_221 : decode cX12_core 221 = .ok (.invokevirtual 334, 3) := by decide +kernel
theorem dX12_core_224 : decode cX12_core 224 = .ok (.ifCond .eq 11, 3) := by decide +kernel
theorem dX12_core_227 : decode cX12_core 227 = .ok (.aload_n 0, 1) := by decide +kernel
theorem dX12_core_228 : decode cX12_core 228 = .ok (.iload_n 1, 1) := by decide +kernel
theorem dX12_core_229 : decode cX12_core 229 = .ok (.invokevirtual 493, 3) := by decide +kernel
theorem dX12_core_232 : decode cX12_core 232 = .ok (.goto 8, 3) := by decide +kernel
theorem dX12_core_235 : decode cX12_core 235 = .ok (.aload_n 0, 1) := by decide +kernel
theorem dX12_core_236 : decode cX12_core 236 = .ok (.iload_n 1, 1) := by decide +kernel
theorem dX12_core_237 : decode cX12_core 237 = .ok (.invokevirtual 496, 3) := by decide +kernel
theorem dX12_core_240 : decode cX12_core 240 = .ok (.return_, 1) := by decide +kernel
theorem dX12_count_0 : decode cX12_count 0 = .ok (.iconst 0, 1) := by decide +kernel
theorem dX12_count_1 : decode cX12_count 1 = .ok (.istore_n 2, 1) := by decide +kernel
theorem dX12_count_2 : decode cX12_count 2 = .ok (.iload_n 1, 1) := by decide +kernel
theorem dX12_count_3 : decode cX12_count 3 = .ok (.tableswitch 186 0 7 #[45, 50, 55, 65, 75, 80, 107, 134], 45) := by decide +kernel
theorem dX12_count_48 : decode cX12_count 48 = .ok (.aload_n 0, 1) := by decide +kernel
theorem dX12_count_49 : decode cX12_count 49 = .ok (.getfield 7, 3) := by decide +kernel
theorem dX12_count_52 : decode cX12_count 52 = .ok (.ireturn, 1) := by decide +kernel
theorem dX12_count_53 : decode cX12_count 53 = .ok (.aload_n 0, 1) := by decide +kernel
theorem dX12_count_54 : decode cX12_count 54 = .ok (.getfield 45, 3) := by decide +kernel
theorem dX12_count_57 : decode cX12_count 57 = .ok (.ireturn, 1) := by decide +kernel
theorem dX12_count_58 : decode cX12_count 58 = .ok (.aload_n 0, 1) := by decide +kernel
theorem dX12_count_59 : decode cX12_count 59 = .ok (.getfield 70, 3) := by decide +kernel
theorem dX12_count_62 : decode cX12_count 62 = .ok (.aload_n 0, 1) := by decide +kernel
theorem dX12_count_63 : decode cX12_count 63 = .ok (.getfield 67, 3) := by decide +kernel
theorem dX12_count_66 : decode cX12_count 66 = .ok (.iaload, 1) := by decide +kernel
theorem dX12_count_67 : decode cX12_count 67 = .ok (.ireturn, 1) := by decide +kernel
theorem dX12_count_68 : decode cX12_count 68 = .ok (.aload_n 0, 1) := by decide +kernel
theorem dX12_count_69 : decode cX12_count 69 = .ok (.getfield 73, 3) := by decide +kernel
theorem dX12_count_72 : decode cX12_count 72 = .ok (.aload_n 0, 1) := by decide +kernel
theorem dX12_count_73 : decode cX12_count 73 = .ok (.getfield 67, 3) := by decide +kernel
theorem dX12_count_76 : decode cX12_count 76 = .ok (.iaload, 1) := by decide +kernel
theorem dX12_count_77 : decode cX12_count 77 = .ok (.ireturn, 1) := by decide +kernel
theorem dX12_count_78 : decode cX12_count 78 = .ok (.aload_n 0, 1) := by decide +kernel
theorem dX12_count_79 : decode cX12_count 79 = .ok (.getfield 208, 3) := by decide +kernel
theorem dX12_count_82 : decode cX12_count 82 = .ok (.ireturn, 1) := by decide +kernel
theorem dX12_count_83 : decode cX12_count 83 = .ok (.iconst 0, 1) := by decide +kernel
theorem dX12_count_84 : decode cX12_count 84 = .ok (.istore_n 3, 1) := by decide +kernel
theorem dX12_count_85 : decode cX12_count 85 = .ok (.iload_n 3, 1) := by decide +kernel
theorem dX12_count_86 : decode cX12_count 86 = .ok (.aload_n 0, 1) := by decide +kernel
theorem dX12_count_87 : decode cX12_count 87 = .ok (.getfield 208, 3) := by decide +kernel
theorem dX12_count_90 : decode cX12_count 90 = .ok (.if_icmp .ge 18, 3) := by decide +kernel
theorem dX12_count_93 : decode cX12_count 93 = .ok (.iload_n 2, 1) := by decide +kernel
theorem dX12_count_94 : decode cX12_count 94 = .ok (.aload_n 0, 1) := by decide +kernel
theorem dX12_count_95 : decode cX12_count 95 = .ok (.getfield 214, 3) := by decide +kernel
theorem dX12_count_98 : decode cX12_count 98 = .ok (.iload_n 3, 1) := by decide +kernel
theorem dX12_count_99 : decode cX12_count 99 = .ok (.iaload, 1) := by decide +kernel
theorem dX12_count_100 : decode cX12_count 100 = .ok (.iadd, 1) := by decide +kernel
theorem dX12_count_101 : decode cX12_count 101 = .ok (.istore_n 2, 1) := by decide +kernel
theorem dX12_count_102 : decode cX12_count 102 = .ok (.iinc 3 1, 3) := by decide +kernel
theorem dX12_count_105 : decode cX12_count 105 = .ok (.goto (-20), 3) := by decide +kernel
theorem dX12_count_108 : decode cX12_count 108 = .ok (.iload_n 2, 1) := by decide +kernel
theorem dX12_count_109 : decode cX12_count 109 = .ok (.ireturn, 1) := by decide +kernel
theorem dX12_count_110 : decode cX12_count 110 = .ok (.iconst 0, 1) := by decide +kernel
theorem dX12_count_111 : decode cX12_count 111 = .ok (.istore_n 3, 1) := by decide +kernel
theorem dX12_count_112 : decode cX12_count 112 = .ok (.iload_n 3, 1) := by decide +kernel
theorem dX12_count_113 : decode cX12_count 113 = .ok (.aload_n 0, 1) := by decide +kernel
theorem dX12_count_114 : decode cX12_count 114 = .ok (.getfield 7, 3) := by decide +kernel
theorem dX12_count_117 : decode cX12_count 117 = .ok (.if_icmp .ge 18, 3) := by decide +kernel
theorem dX12_count_120 : decode cX12_count 120 = .ok (.iload_n 2, 1) := by decide +kernel
theorem dX12_count_121 : decode cX12_count 121 = .ok (.aload_n 0, 1) := by decide +kernel
theorem dX12_count_122 : decode cX12_count 122 = .ok (.getfield 17, 3) := by decide +kernel
theorem dX12_count_125 : decode cX12_count 125 = .ok (.iload_n 3, 1) := by decide +kernel
theorem dX12_count_126 : decode cX12_count 126 = .ok (.iaload, 1) := by decide +kernel
theorem dX12_count_127 : decode cX12_count 127 = .ok (.iadd, 1) := by decide +kernel
theorem dX12_count_128 : decode cX12_count 128 = .ok (.istore_n 2, 1) := by decide +kernel
theorem dX12_count_129 : decode cX12_count 129 = .ok (.iinc 3 1, 3) := by decide +kernel
theorem dX12_count_132 : decode cX12_count 132 = .ok (.goto (-20), 3) := by decide +kernel
theorem dX12_count_135 : decode cX12_count 135 = .ok (.iload_n 2, 1) := by decide +kernel
theorem dX12_count_136 : decode cX12_count 136 = .ok (.ireturn, 1) := by decide +kernel
theorem dX12_count_137 : decode cX12_count 137 = .ok (.iconst 0, 1) := by decide +kernel
theorem dX12_count_138 : decode cX12_count 138 = .ok (.istore_n 3, 1) := by decide +kernel
theorem dX12_count_139 : decode cX12_count 139 = .ok (.iload_n 3, 1) := by decide +kernel
theorem dX12_count_140 : decode cX12_count 140 = .ok (.aload_n 0, 1) := by decide +kernel
theorem dX12_count_141 : decode cX12_count 141 = .ok (.getfield 7, 3) := by decide +kernel
theorem dX12_count_144 : decode cX12_count 144 = .ok (.if_icmp .ge 43, 3) := by decide +kernel
theorem dX12_count_147 : decode cX12_count 147 = .ok (.iconst 0, 1) := by decide +kernel
theorem dX12_count_148 : decode cX12_count 148 = .ok (.istore 4, 2) := by decide +kernel
theorem dX12_count_150 : decode cX12_count 150 = .ok (.iload 4, 2) := by decide +kernel
theorem dX12_count_152 : decode cX12_count 152 = .ok (.aload_n 0, 1) := by decide +kernel
theorem dX12_count_153 : decode cX12_count 153 = .ok (.getfield 17, 3) := by decide +kernel
theorem dX12_count_156 : decode cX12_count 156 = .ok (.iload_n 3, 1) := by decide +kernel
theorem dX12_count_157 : decode cX12_count 157 = .ok (.iaload, 1) := by decide +kernel
theorem dX12_count_158 : decode cX12_count 158 = .ok (.if_icmp .ge 23, 3) := by decide +kernel
theorem dX12_count_161 : decode cX12_count 161 = .ok (.iload_n 2, 1) := by decide +kernel
theorem dX12_count_162 : decode cX12_count 162 = .ok (.aload_n 0, 1) := by decide +kernel
theorem dX12_count_163 : decode cX12_count 163 = .ok (.getfield 27, 3) := by decide +kernel
theorem dX12_count_166 : decode cX12_count 166 = .ok (.iconst 4, 1) := by decide +kernel
theorem dX12_count_167 : decode cX12_count 167 = .ok (.iload_n 3, 1) := by decide +kernel
theorem dX12_count_168 : decode cX12_count 168 = .ok (.imul, 1) := by decide +kernel
theorem dX12_count_169 : decode cX12_count 169 = .ok (.iload 4, 2) := by decide +kernel
theorem dX12_count_171 : decode cX12_count 171 = .ok (.iadd, 1) := by decide +kernel
theorem dX12_count_172 : decode cX12_count 172 = .ok (.iaload, 1) := by decide +kernel
theorem dX12_count_173 : decode cX12_count 173 = .ok (.iadd, 1) := by decide +kernel
theorem dX12_count_174 : decode cX12_count 174 = .ok (.istore_n 2, 1) := by decide +kernel
theorem dX12_count_175 : decode cX12_count 175 = .ok (.iinc 4 1, 3) := by decide +kernel
theorem dX12_count_178 : decode cX12_count 178 = .ok (.goto (-28), 3) := by decide +kernel
theorem dX12_count_181 : decode cX12_count 181 = .ok (.iinc 3 1, 3) := by decide +kernel
theorem dX12_count_184 : decode cX12_count 184 = .ok (.goto (-45), 3) := by decide +kernel
theorem dX12_count_187 : decode cX12_count 187 = .ok (.iload_n 2, 1) := by decide +kernel
theorem dX12_count_188 : decode cX12_count 188 = .ok (.ireturn, 1) := by decide +kernel
theorem dX12_count_189 : decode cX12_count 189 = .ok (.iconst (-1), 1) := by decide +kernel
theorem dX12_count_190 : decode cX12_count 190 = .ok (.ireturn, 1) := by decide +kernel
theorem dX12_covered_0 : decode cX12_covered 0 = .ok (.aload_n 0, 1) := by decide +kernel
theorem dX12_covered_1 : decode cX12_covered 1 = .ok (.iload_n 1, 1) := by decide +kernel
theorem dX12_covered_2 : decode cX12_covered 2 = .ok (.iconst 0, 1) := by decide +kernel
theorem dX12_covered_3 : decode cX12_covered 3 = .ok (.invokevirtual 688, 3) := by decide +kernel
theorem dX12_covered_6 : decode cX12_covered 6 = .ok (.ifCond .ne 5, 3) := by decide +kernel
theorem dX12_covered_9 : decode cX12_covered 9 = .ok (.iconst (-1), 1) := by decide +kernel
theorem dX12_covered_10 : decode cX12_covered 10 = .ok (.ireturn, 1) := by decide +kernel
theorem dX12_covered_11 : decode cX12_covered 11 = .ok (.iconst (-1), 1) := by decide +kernel
theorem dX12_covered_12 : decode cX12_covered 12 = .ok (.istore_n 3, 1) := by decide +kernel
theorem dX12_covered_13 : decode cX12_covered 13 = .ok (.iconst (-1), 1) := by decide +kernel
theorem dX12_covered_14 : decode cX12_covered 14 = .ok (.istore 4, 2) := by decide +kernel
theorem dX12_covered_16 : decode cX12_covered 16 = .ok (.sipush 400, 3) := by decide +kernel
theorem dX12_covered_19 : decode cX12_covered 19 = .ok (.iload_n 1, 1) := by decide +kernel
theorem dX12_covered_20 : decode cX12_covered 20 = .ok (.imul, 1) := by decide +kernel
theorem dX12_covered_21 : decode cX12_covered 21 = .ok (.istore 5, 2) := by decide +kernel
theorem dX12_covered_23 : decode cX12_covered 23 = .ok (.iload 5, 2) := by decide +kernel
theorem dX12_covered_25 : decode cX12_covered 25 = .ok (.sipush 400, 3) := by decide +kernel
theorem dX12_covered_28 : decode cX12_covered 28 = .ok (.iload_n 1, 1) := by decide +kernel
theorem dX12_covered_29 : decode cX12_covered 29 = .ok (.imul, 1) := by decide +kernel
theorem dX12_covered_30 : decode cX12_covered 30 = .ok (.aload_n 0, 1) := by decide +kernel
theorem dX12_covered_31 : decode cX12_covered 31 = .ok (.getfield 214, 3) := by decide +kernel
theorem dX12_covered_34 : decode cX12_covered 34 = .ok (.iload_n 1, 1) := by decide +kernel
theorem dX12_covered_35 : decode cX12_covered 35 = .ok (.iaload, 1) := by decide +kernel
theorem dX12_covered_36 : decode cX12_covered 36 = .ok (.iadd, 1) := by decide +kernel
theorem dX12_covered_37 : decode cX12_covered 37 = .ok (.if_icmp .ge 83, 3) := by decide +kernel
theorem dX12_covered_40 : decode cX12_covered 40 = .ok (.aload_n 0, 1) := by decide +kernel
theorem dX12_covered_41 : decode cX12_covered 41 = .ok (.getfield 220, 3) := by decide +kernel
theorem dX12_covered_44 : decode cX12_covered 44 = .ok (.iload 5, 2) := by decide +kernel
theorem dX12_covered_46 : decode cX12_covered 46 = .ok (.iaload, 1) := by decide +kernel
theorem dX12_covered_47 : decode cX12_covered 47 = .ok (.iload_n 2, 1) := by decide +kernel
theorem dX12_covered_48 : decode cX12_covered 48 = .ok (.if_icmp .gt 66, 3) := by decide +kernel
theorem dX12_covered_51 : decode cX12_covered 51 = .ok (.aload_n 0, 1) := by decide +kernel
theorem dX12_covered_52 : decode cX12_covered 52 = .ok (.getfield 223, 3) := by decide +kernel
theorem dX12_covered_55 : decode cX12_covered 55 = .ok (.iload 5, 2) := by decide +kernel
theorem dX12_covered_57 : decode cX12_covered 57 = .ok (.iaload, 1) := by decide +kernel
theorem dX12_covered_58 : decode cX12_covered 58 = .ok (.iload_n 2, 1) := by decide +kernel
theorem dX12_covered_59 : decode cX12_covered 59 = .ok (.if_icmp .gt 6, 3) := by decide +kernel
theorem dX12_covered_62 : decode cX12_covered 62 = .ok (.goto 52, 3) := by decide +kernel
theorem dX12_covered_65 : decode cX12_covered 65 = .ok (.iconst 0, 1) := by decide +kernel
theorem dX12_covered_66 : decode cX12_covered 66 = .ok (.istore 6, 2) := by decide +kernel
theorem dX12_covered_68 : decode cX12_covered 68 = .ok (.aload_n 0, 1) := by decide +kernel
theorem dX12_covered_69 : decode cX12_covered 69 = .ok (.getfield 226, 3) := by decide +kernel
theorem dX12_covered_72 : decode cX12_covered 72 = .ok (.iload 5, 2) := by decide +kernel
theorem dX12_covered_74 : decode cX12_covered 74 = .ok (.iaload, 1) := by decide +kernel
theorem dX12_covered_75 : decode cX12_covered 75 = .ok (.istore 7, 2) := by decide +kernel
theorem dX12_covered_77 : decode cX12_covered 77 = .ok (.iload 7, 2) := by decide +kernel
theorem dX12_covered_79 : decode cX12_covered 79 = .ok (.ifCond .lt 18, 3) := by decide +kernel
theorem dX12_covered_82 : decode cX12_covered 82 = .ok (.iinc 6 1, 3) := by decide +kernel
theorem dX12_covered_85 : decode cX12_covered 85 = .ok (.aload_n 0, 1) := by decide +kernel
theorem dX12_covered_86 : decode cX12_covered 86 = .ok (.getfield 226, 3) := by decide +kernel
theorem dX12_covered_89 : decode cX12_covered 89 = .ok (.iload 7, 2) := by decide +kernel
theorem dX12_covered_91 : decode cX12_covered 91 = .ok (.iaload, 1) := by decide +kernel
theorem dX12_covered_92 : decode cX12_covered 92 = .ok (.istore 7, 2) := by decide +kernel
theorem dX12_covered_94 : decode cX12_covered 94 = .ok (.goto (-17), 3) := by decide +kernel
theorem dX12_covered_97 : decode cX12_covered 97 = .ok (.iload 6, 2) := by decide +kernel
theorem dX12_covered_99 : decode cX12_covered 99 = .ok (.iload 4, 2) := by decide +kernel
theorem dX12_covered_101 : decode cX12_covered 101 = .ok (.if_icmp .gt 6, 3) := by decide +kernel
theorem dX12_covered_104 : decode cX12_covered 104 = .ok (.goto 10, 3) := by decide +kernel
theorem dX12_covered_107 : decode cX12_covered 107 = .ok (.iload 6, 2) := by decide +kernel
theorem dX12_covered_109 : decode cX12_covered 109 = .ok (.istore 4, 2) := by decide +kernel
theorem dX12_covered_111 : decode cX12_covered 111 = .ok (.iload 5, 2) := by decide +kernel
theorem dX12_covered_113 : decode cX12_covered 113 = .ok (.istore_n 3, 1) := by decide +kernel
theorem dX12_covered_114 : decode cX12_covered 114 = .ok (.iinc 5 1, 3) := by decide +kernel
theorem dX12_covered_117 : decode cX12_covered 117 = .ok (.goto (-94), 3) := by decide +kernel
theorem dX12_covered_120 : decode cX12_covered 120 = .ok (.aload_n 0, 1) := by decide +kernel
theorem dX12_covered_121 : decode cX12_covered 121 = .ok (.iload_n 3, 1) := by decide +kernel
theorem dX12_covered_122 : decode cX12_covered 122 = .ok (.invokevirtual 691, 3) := by decide +kernel
theorem dX12_covered_125 : decode cX12_covered 125 = .ok (.ireturn, 1) := by decide +kernel
theorem dX12_cut_0 : decode cX12_cut 0 = .ok (.iload_n 1, 1) := by decide +kernel
theorem dX12_cut_1 : decode cX12_cut 1 = .ok (.ifCond .lt 11, 3) := by decide +kernel
theorem dX12_cut_4 : decode cX12_cut 4 = .ok (.iload_n 1, 1) := by decide +kernel
theorem dX12_cut_5 : decode cX12_cut 5 = .ok (.aload_n 0, 1) := by decide +kernel
theorem dX12_cut_6 : decode cX12_cut 6 = .ok (.getfield 45, 3) := by decide +kernel
theorem dX12_cut_9 : decode cX12_cut 9 = .ok (.if_icmp .le 6, 3) := by decide +kernel
theorem dX12_cut_12 : decode cX12_cut 12 = .ok (.bipush (-3), 2) := by decide +kernel
theorem dX12_cut_14 : decode cX12_cut 14 = .ok (.ireturn, 1) := by decide +kernel
theorem dX12_cut_15 : decode cX12_cut 15 = .ok (.aload_n 0, 1) := by decide +kernel
theorem dX12_cut_16 : decode cX12_cut 16 = .ok (.iload_n 1, 1) := by decide +kernel
theorem dX12_cut_17 : decode cX12_cut 17 = .ok (.putfield 45, 3) := by decide +kernel
theorem dX12_cut_20 : decode cX12_cut 20 = .ok (.iload_n 1, 1) := by decide +kernel
theorem dX12_cut_21 : decode cX12_cut 21 = .ok (.ireturn, 1) := by decide +kernel
