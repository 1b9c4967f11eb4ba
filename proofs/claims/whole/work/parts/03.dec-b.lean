theorem dX7_init_0 : decode cX7_init 0 = .ok (.aload_n 0, 1) := by decide +kernel
theorem dX7_init_1 : decode cX7_init 1 = .ok (.invokespecial 1, 3) := by decide +kernel
theorem dX7_init_4 : decode cX7_init 4 = .ok (.aload_n 0, 1) := by decide +kernel
theorem dX7_init_5 : decode cX7_init 5 = .ok (.new 7, 3) := by decide +kernel
theorem dX7_init_8 : decode cX7_init 8 = .ok (.dup, 1) := by decide +kernel
theorem dX7_init_9 : decode cX7_init 9 = .ok (.invokespecial 9, 3) := by decide +kernel
theorem dX7_init_12 : decode cX7_init 12 = .ok (.putfield 10, 3) := by decide +kernel
theorem dX7_init_15 : decode cX7_init 15 = .ok (.aload_n 0, 1) := by decide +kernel
theorem dX7_init_16 : decode cX7_init 16 = .ok (.new 16, 3) := by decide +kernel
theorem dX7_init_19 : decode cX7_init 19 = .ok (.dup, 1) := by decide +kernel
theorem dX7_init_20 : decode cX7_init 20 = .ok (.invokespecial 18, 3) := by decide +kernel
theorem dX7_init_23 : decode cX7_init 23 = .ok (.putfield 19, 3) := by decide +kernel
theorem dX7_init_26 : decode cX7_init 26 = .ok (.aload_n 0, 1) := by decide +kernel
theorem dX7_init_27 : decode cX7_init 27 = .ok (.new 23, 3) := by decide +kernel
theorem dX7_init_30 : decode cX7_init 30 = .ok (.dup, 1) := by decide +kernel
theorem dX7_init_31 : decode cX7_init 31 = .ok (.invokespecial 25, 3) := by decide +kernel
theorem dX7_init_34 : decode cX7_init 34 = .ok (.putfield 26, 3) := by decide +kernel
theorem dX7_init_37 : decode cX7_init 37 = .ok (.aload_n 0, 1) := by decide +kernel
theorem dX7_init_38 : decode cX7_init 38 = .ok (.iconst 2, 1) := by decide +kernel
theorem dX7_init_39 : decode cX7_init 39 = .ok (.anewarray 23, 3) := by decide +kernel
theorem dX7_init_42 : decode cX7_init 42 = .ok (.dup, 1) := by decide +kernel
theorem dX7_init_43 : decode cX7_init 43 = .ok (.iconst 0, 1) := by decide +kernel
theorem dX7_init_44 : decode cX7_init 44 = .ok (.new 23, 3) := by decide +kernel
theorem dX7_init_47 : decode cX7_init 47 = .ok (.dup, 1) := by decide +kernel
theorem dX7_init_48 : decode cX7_init 48 = .ok (.invokespecial 25, 3) := by decide +kernel
theorem dX7_init_51 : decode cX7_init 51 = .ok (.aastore, 1) := by decide +kernel
theorem dX7_init_52 : decode cX7_init 52 = .ok (.dup, 1) := by decide +kernel
theorem dX7_init_53 : decode cX7_init 53 = .ok (.iconst 1, 1) := by decide +kernel
theorem dX7_init_54 : decode cX7_init 54 = .ok (.new 23, 3) := by decide +kernel
theorem dX7_init_57 : decode cX7_init 57 = .ok (.dup, 1) := by decide +kernel
theorem dX7_init_58 : decode cX7_init 58 = .ok (.invokespecial 25, 3) := by decide +kernel
theorem dX7_init_61 : decode cX7_init 61 = .ok (.aastore, 1) := by decide +kernel
theorem dX7_init_62 : decode cX7_init 62 = .ok (.putfield 30, 3) := by decide +kernel
theorem dX7_init_65 : decode cX7_init 65 = .ok (.aload_n 0, 1) := by decide +kernel
theorem dX7_init_66 : decode cX7_init 66 = .ok (.iconst 2, 1) := by decide +kernel
theorem dX7_init_67 : decode cX7_init 67 = .ok (.newarray .boolean, 2) := by decide +kernel
theorem dX7_init_69 : decode cX7_init 69 = .ok (.putfield 34, 3) := by decide +kernel
theorem dX7_init_72 : decode cX7_init 72 = .ok (.aload_n 0, 1) := by decide +kernel
theorem dX7_init_73 : decode cX7_init 73 = .ok (.new 38, 3) := by decide +kernel
theorem dX7_init_76 : decode cX7_init 76 = .ok (.dup, 1) := by decide +kernel
theorem dX7_init_77 : decode cX7_init 77 = .ok (.bipush 10, 2) := by decide +kernel
theorem dX7_init_79 : decode cX7_init 79 = .ok (.invokespecial 40, 3) := by decide +kernel
theorem dX7_init_82 : decode cX7_init 82 = .ok (.putfield 43, 3) := by decide +kernel
theorem dX7_init_85 : decode cX7_init 85 = .ok (.aload_n 0, 1) := by decide +kernel
theorem dX7_init_86 : decode cX7_init 86 = .ok (.new 38, 3) := by decide +kernel
theorem dX7_init_89 : decode cX7_init 89 = .ok (.dup, 1) := by decide +kernel
theorem dX7_init_90 : decode cX7_init 90 = .ok (.bipush 30, 2) := by decide +kernel
theorem dX7_init_92 : decode cX7_init 92 = .ok (.invokespecial 40, 3) := by decide +kernel
theorem dX7_init_95 : decode cX7_init 95 = .ok (.putfield 47, 3) := by decide +kernel
theorem dX7_init_98 : decode cX7_init 98 = .ok (.aload_n 0, 1) := by decide +kernel
theorem dX7_init_99 : decode cX7_init 99 = .ok (.new 50, 3) := by decide +kernel
theorem dX7_init_102 : decode cX7_init 102 = .ok (.dup, 1) := by decide +kernel
theorem dX7_init_103 : decode cX7_init 103 = .ok (.aload_n 0, 1) := by decide +kernel
theorem dX7_init_104 : decode cX7_init 104 = .ok (.getfield 10, 3) := by decide +kernel
theorem dX7_init_107 : decode cX7_init 107 = .ok (.invokespecial 52, 3) := by decide +kernel
theorem dX7_init_110 : decode cX7_init 110 = .ok (.putfield 55, 3) := by decide +kernel
theorem dX7_init_113 : decode cX7_init 113 = .ok (.aload_n 0, 1) := by decide +kernel
theorem dX7_init_114 : decode cX7_init 114 = .ok (.new 59, 3) := by decide +kernel
theorem dX7_init_117 : decode cX7_init 117 = .ok (.dup, 1) := by decide +kernel
theorem dX7_init_118 : decode cX7_init 118 = .ok (.aload_n 0, 1) := by decide +kernel
theorem dX7_init_119 : decode cX7_init 119 = .ok (.getfield 10, 3) := by decide +kernel
theorem dX7_init_122 : decode cX7_init 122 = .ok (.aload_n 0, 1) := by decide +kernel
theorem dX7_init_123 : decode cX7_init 123 = .ok (.getfield 55, 3) := by decide +kernel
theorem dX7_init_126 : decode cX7_init 126 = .ok (.invokespecial 61, 3) := by decide +kernel
theorem dX7_init_129 : decode cX7_init 129 = .ok (.putfield 64, 3) := by decide +kernel
theorem dX7_init_132 : decode cX7_init 132 = .ok (.aload_n 0, 1) := by decide +kernel
theorem dX7_init_133 : decode cX7_init 133 = .ok (.new 68, 3) := by decide +kernel
theorem dX7_init_136 : decode cX7_init 136 = .ok (.dup, 1) := by decide +kernel
theorem dX7_init_137 : decode cX7_init 137 = .ok (.aload_n 0, 1) := by decide +kernel
theorem dX7_init_138 : decode cX7_init 138 = .ok (.getfield 10, 3) := by decide +kernel
theorem dX7_init_141 : decode cX7_init 141 = .ok (.aload_n 0, 1) := by decide +kernel
theorem dX7_init_142 : decode cX7_init 142 = .ok (.getfield 55, 3) := by decide +kernel
theorem dX7_init_145 : decode cX7_init 145 = .ok (.invokespecial 70, 3) := by decide +kernel
theorem dX7_init_148 : decode cX7_init 148 = .ok (.putfield 71, 3) := by decide +kernel
theorem dX7_init_151 : decode cX7_init 151 = .ok (.return_, 1) := by decide +kernel
theorem dX7_feed_0 : decode cX7_feed 0 = .ok (.iload_n 1, 1) := by decide +kernel
theorem dX7_feed_1 : decode cX7_feed 1 = .ok (.iconst 1, 1) := by decide +kernel
theorem dX7_feed_2 : decode cX7_feed 2 = .ok (.if_icmp .lt 9, 3) := by decide +kernel
theorem dX7_feed_5 : decode cX7_feed 5 = .ok (.iload_n 1, 1) := by decide +kernel
theorem dX7_feed_6 : decode cX7_feed 6 = .ok (.bipush 8, 2) := by decide +kernel
theorem dX7_feed_8 : decode cX7_feed 8 = .ok (.if_icmp .le 6, 3) := by decide +kernel
theorem dX7_feed_11 : decode cX7_feed 11 = .ok (.ldc 75, 2) := by decide +kernel
theorem dX7_feed_13 : decode cX7_feed 13 = .ok (.ireturn, 1) := by decide +kernel
theorem dX7_feed_14 : decode cX7_feed 14 = .ok (.aload_n 0, 1) := by decide +kernel
theorem dX7_feed_15 : decode cX7_feed 15 = .ok (.getfield 19, 3) := by decide +kernel
theorem dX7_feed_18 : decode cX7_feed 18 = .ok (.getfield 76, 3) := by decide +kernel
theorem dX7_feed_21 : decode cX7_feed 21 = .ok (.iload_n 1, 1) := by decide +kernel
theorem dX7_feed_22 : decode cX7_feed 22 = .ok (.iadd, 1) := by decide +kernel
theorem dX7_feed_23 : decode cX7_feed 23 = .ok (.sipush 500, 3) := by decide +kernel
theorem dX7_feed_26 : decode cX7_feed 26 = .ok (.if_icmp .le 6, 3) := by decide +kernel
theorem dX7_feed_29 : decode cX7_feed 29 = .ok (.ldc 80, 2) := by decide +kernel
theorem dX7_feed_31 : decode cX7_feed 31 = .ok (.ireturn, 1) := by decide +kernel
theorem dX7_feed_32 : decode cX7_feed 32 = .ok (.aload_n 0, 1) := by decide +kernel
theorem dX7_feed_33 : decode cX7_feed 33 = .ok (.getfield 19, 3) := by decide +kernel
theorem dX7_feed_36 : decode cX7_feed 36 = .ok (.iload_n 1, 1) := by decide +kernel
theorem dX7_feed_37 : decode cX7_feed 37 = .ok (.lload_n 2, 1) := by decide +kernel
theorem dX7_feed_38 : decode cX7_feed 38 = .ok (.invokevirtual 81, 3) := by decide +kernel
theorem dX7_feed_41 : decode cX7_feed 41 = .ok (.aload_n 0, 1) := by decide +kernel
theorem dX7_feed_42 : decode cX7_feed 42 = .ok (.getfield 19, 3) := by decide +kernel
theorem dX7_feed_45 : decode cX7_feed 45 = .ok (.getfield 76, 3) := by decide +kernel
theorem dX7_feed_48 : decode cX7_feed 48 = .ok (.ireturn, 1) := by decide +kernel
theorem dX7_square_0 : decode cX7_square 0 = .ok (.aload_n 0, 1) := by decide +kernel
theorem dX7_square_1 : decode cX7_square 1 = .ok (.getfield 19, 3) := by decide +kernel
theorem dX7_square_4 : decode cX7_square 4 = .ok (.invokevirtual 85, 3) := by decide +kernel
theorem dX7_square_7 : decode cX7_square 7 = .ok (.aload_n 0, 1) := by decide +kernel
theorem dX7_square_8 : decode cX7_square 8 = .ok (.getfield 19, 3) := by decide +kernel
theorem dX7_square_11 : decode cX7_square 11 = .ok (.getfield 88, 3) := by decide +kernel
theorem dX7_square_14 : decode cX7_square 14 = .ok (.ifCond .eq 14, 3) := by decide +kernel
theorem dX7_square_17 : decode cX7_square 17 = .ok (.bipush (-10), 2) := by decide +kernel
theorem dX7_square_19 : decode cX7_square 19 = .ok (.aload_n 0, 1) := by decide +kernel
theorem dX7_square_20 : decode cX7_square 20 = .ok (.getfield 19, 3) := by decide +kernel
theorem dX7_square_23 : decode cX7_square 23 = .ok (.getfield 88, 3) := by decide +kernel
theorem dX7_square_26 : decode cX7_square 26 = .ok (.isub, 1) := by decide +kernel
theorem dX7_square_27 : decode cX7_square 27 = .ok (.ireturn, 1) := by decide +kernel
theorem dX7_square_28 : decode cX7_square 28 = .ok (.aload_n 0, 1) := by decide +kernel
theorem dX7_square_29 : decode cX7_square 29 = .ok (.getfield 10, 3) := by decide +kernel
theorem dX7_square_32 : decode cX7_square 32 = .ok (.aload_n 0, 1) := by decide +kernel
theorem dX7_square_33 : decode cX7_square 33 = .ok (.getfield 19, 3) := by decide +kernel
theorem dX7_square_36 : decode cX7_square 36 = .ok (.getfield 91, 3) := by decide +kernel
theorem dX7_square_39 : decode cX7_square 39 = .ok (.invokevirtual 94, 3) := by decide +kernel
theorem dX7_square_42 : decode cX7_square 42 = .ok (.aload_n 0, 1) := by decide +kernel
theorem dX7_square_43 : decode cX7_square 43 = .ok (.getfield 26, 3) := by decide +kernel
theorem dX7_square_46 : decode cX7_square 46 = .ok (.invokevirtual 97, 3) := by decide +kernel
theorem dX7_square_49 : decode cX7_square 49 = .ok (.aload_n 0, 1) := by decide +kernel
theorem dX7_square_50 : decode cX7_square 50 = .ok (.getfield 43, 3) := by decide +kernel
theorem dX7_square_53 : decode cX7_square 53 = .ok (.iconst 0, 1) := by decide +kernel
theorem dX7_square_54 : decode cX7_square 54 = .ok (.putfield 100, 3) := by decide +kernel
theorem dX7_square_57 : decode cX7_square 57 = .ok (.aload_n 0, 1) := by decide +kernel
theorem dX7_square_58 : decode cX7_square 58 = .ok (.getfield 47, 3) := by decide +kernel
theorem dX7_square_61 : decode cX7_square 61 = .ok (.iconst 0, 1) := by decide +kernel
theorem dX7_square_62 : decode cX7_square 62 = .ok (.putfield 100, 3) := by decide +kernel
theorem dX7_square_65 : decode cX7_square 65 = .ok (.aload_n 0, 1) := by decide +kernel
theorem dX7_square_66 : decode cX7_square 66 = .ok (.getfield 34, 3) := by decide +kernel
theorem dX7_square_69 : decode cX7_square 69 = .ok (.iconst 0, 1) := by decide +kernel
theorem dX7_square_70 : decode cX7_square 70 = .ok (.iconst 0, 1) := by decide +kernel
theorem dX7_square_71 : decode cX7_square 71 = .ok (.bastore, 1) := by decide +kernel
theorem dX7_square_72 : decode cX7_square 72 = .ok (.aload_n 0, 1) := by decide +kernel
theorem dX7_square_73 : decode cX7_square 73 = .ok (.getfield 34, 3) := by decide +kernel
theorem dX7_square_76 : decode cX7_square 76 = .ok (.iconst 1, 1) := by decide +kernel
theorem dX7_square_77 : decode cX7_square 77 = .ok (.iconst 0, 1) := by decide +kernel
theorem dX7_square_78 : decode cX7_square 78 = .ok (.bastore, 1) := by decide +kernel
theorem dX7_square_79 : decode cX7_square 79 = .ok (.aload_n 0, 1) := by decide +kernel
theorem dX7_square_80 : decode cX7_square 80 = .ok (.getfield 10, 3) := by decide +kernel
theorem dX7_square_83 : decode cX7_square 83 = .ok (.iconst 3, 1) := by decide +kernel
theorem dX7_square_84 : decode cX7_square 84 = .ok (.invokevirtual 103, 3) := by decide +kernel
theorem dX7_square_87 : decode cX7_square 87 = .ok (.ireturn, 1) := by decide +kernel
theorem dX7_fault_0 : decode cX7_fault 0 = .ok (.aload_n 0, 1) := by decide +kernel
theorem dX7_fault_1 : decode cX7_fault 1 = .ok (.getfield 19, 3) := by decide +kernel
theorem dX7_fault_4 : decode cX7_fault 4 = .ok (.getfield 106, 3) := by decide +kernel
theorem dX7_fault_7 : decode cX7_fault 7 = .ok (.ireturn, 1) := by decide +kernel
theorem dX7_told_0 : decode cX7_told 0 = .ok (.iload_n 1, 1) := by decide +kernel
theorem dX7_told_1 : decode cX7_told 1 = .ok (.tableswitch 151 0 10 #[59, 67, 76, 85, 94, 103, 111, 119, 127, 135, 143], 59) := by decide +kernel
theorem dX7_told_60 : decode cX7_told 60 = .ok (.aload_n 0, 1) := by decide +kernel
theorem dX7_told_61 : decode cX7_told 61 = .ok (.getfield 10, 3) := by decide +kernel
theorem dX7_told_64 : decode cX7_told 64 = .ok (.invokevirtual 109, 3) := by decide +kernel
theorem dX7_told_67 : decode cX7_told 67 = .ok (.ireturn, 1) := by decide +kernel
theorem dX7_told_68 : decode cX7_told 68 = .ok (.aload_n 0, 1) := by decide +kernel
theorem dX7_told_69 : decode cX7_told 69 = .ok (.getfield 10, 3) := by decide +kernel
theorem dX7_told_72 : decode cX7_told 72 = .ok (.iconst 1, 1) := by decide +kernel
theorem dX7_told_73 : decode cX7_told 73 = .ok (.invokevirtual 103, 3) := by decide +kernel
theorem dX7_told_76 : decode cX7_told 76 = .ok (.ireturn, 1) := by decide +kernel
theorem dX7_told_77 : decode cX7_told 77 = .ok (.aload_n 0, 1) := by decide +kernel
theorem dX7_told_78 : decode cX7_told 78 = .ok (.getfield 10, 3) := by decide +kernel
theorem dX7_told_81 : decode cX7_told 81 = .ok (.iconst 2, 1) := by decide +kernel
theorem dX7_told_82 : decode cX7_told 82 = .ok (.invokevirtual 103, 3) := by decide +kernel
theorem dX7_told_85 : decode cX7_told 85 = .ok (.ireturn, 1) := by decide +kernel
theorem dX7_told_86 : decode cX7_told 86 = .ok (.aload_n 0, 1) := by decide +kernel
theorem dX7_told_87 : decode cX7_told 87 = .ok (.getfield 10, 3) := by decide +kernel
theorem dX7_told_90 : decode cX7_told 90 = .ok (.iconst 3, 1) := by decide +kernel
theorem dX7_told_91 : decode cX7_told 91 = .ok (.invokevirtual 103, 3) := by decide +kernel
theorem dX7_told_94 : decode cX7_told 94 = .ok (.ireturn, 1) := by decide +kernel
theorem dX7_told_95 : decode cX7_told 95 = .ok (.aload_n 0, 1) := by decide +kernel
theorem dX7_told_96 : decode cX7_told 96 = .ok (.getfield 10, 3) := by decide +kernel
theorem dX7_told_99 : decode cX7_told 99 = .ok (.iconst 4, 1) := by decide +kernel
theorem dX7_told_100 : decode cX7_told 100 = .ok (.invokevirtual 103, 3) := by decide +kernel
theorem dX7_told_103 : decode cX7_told 103 = .ok (.ireturn, 1) := by decide +kernel
theorem dX7_told_104 : decode cX7_told 104 = .ok (.aload_n 0, 1) := by decide +kernel
theorem dX7_told_105 : decode cX7_told 105 = .ok (.getfield 19, 3) := by decide +kernel
theorem dX7_told_108 : decode cX7_told 108 = .ok (.getfield 76, 3) := by decide +kernel
theorem dX7_told_111 : decode cX7_told 111 = .ok (.ireturn, 1) := by decide +kernel
theorem dX7_told_112 : decode cX7_told 112 = .ok (.aload_n 0, 1) := by decide +kernel
theorem dX7_told_113 : decode cX7_told 113 = .ok (.getfield 26, 3) := by decide +kernel
theorem dX7_told_116 : decode cX7_told 116 = .ok (.getfield 113, 3) := by decide +kernel
theorem dX7_told_119 : decode cX7_told 119 = .ok (.ireturn, 1) := by decide +kernel
theorem dX7_told_120 : decode cX7_told 120 = .ok (.aload_n 0, 1) := by decide +kernel
theorem dX7_told_121 : decode cX7_told 121 = .ok (.getfield 26, 3) := by decide +kernel
theorem dX7_told_124 : decode cX7_told 124 = .ok (.getfield 116, 3) := by decide +kernel
theorem dX7_told_127 : decode cX7_told 127 = .ok (.ireturn, 1) := by decide +kernel
theorem dX7_told_128 : decode cX7_told 128 = .ok (.aload_n 0, 1) := by decide +kernel
theorem dX7_told_129 : decode cX7_told 129 = .ok (.getfield 26, 3) := by decide +kernel
theorem dX7_told_132 : decode cX7_told 132 = .ok (.getfield 119, 3) := by decide +kernel
theorem dX7_told_135 : decode cX7_told 135 = .ok (.ireturn, 1) := by decide +kernel
theorem dX7_told_136 : decode cX7_told 136 = .ok (.aload_n 0, 1) := by decide +kernel
theorem dX7_told_137 : decode cX7_told 137 = .ok (.getfield 43, 3) := by decide +kernel
theorem dX7_told_140 : decode cX7_told 140 = .ok (.getfield 100, 3) := by decide +kernel
theorem dX7_told_143 : decode cX7_told 143 = .ok (.ireturn, 1) := by decide +kernel
theorem dX7_told_144 : decode cX7_told 144 = .ok (.aload_n 0, 1) := by decide +kernel
theorem dX7_told_145 : decode cX7_told 145 = .ok (.getfield 47, 3) := by decide +kernel
theorem dX7_told_148 : decode cX7_told 148 = .ok (.getfield 100, 3) := by decide +kernel
theorem dX7_told_151 : decode cX7_told 151 = .ok (.ireturn, 1) := by decide +kernel
theorem dX7_told_152 : decode cX7_told 152 = .ok (.ldc 75, 2) := by decide +kernel
theorem dX7_told_154 : decode cX7_told 154 = .ok (.ireturn, 1) := by decide +kernel
theorem dX7_bell_0 : decode cX7_bell 0 = .ok (.aload_n 0, 1) := by decide +kernel
theorem dX7_bell_1 : decode cX7_bell 1 = .ok (.getfield 10, 3) := by decide +kernel
theorem dX7_bell_4 : decode cX7_bell 4 = .ok (.iconst 1, 1) := by decide +kernel
theorem dX7_bell_5 : decode cX7_bell 5 = .ok (.iload_n 1, 1) := by decide +kernel
theorem dX7_bell_6 : decode cX7_bell 6 = .ok (.invokevirtual 122, 3) := by decide +kernel
theorem dX7_bell_9 : decode cX7_bell 9 = .ok (.ifCond .ne 6, 3) := by decide +kernel
theorem dX7_bell_12 : decode cX7_bell 12 = .ok (.ldc 126, 2) := by decide +kernel
theorem dX7_bell_14 : decode cX7_bell 14 = .ok (.ireturn, 1) := by decide +kernel
theorem dX7_bell_15 : decode cX7_bell 15 = .ok (.iload_n 2, 1) := by decide +kernel
theorem dX7_bell_16 : decode cX7_bell 16 = .ok (.ifCond .lt 9, 3) := by decide +kernel
theorem dX7_bell_19 : decode cX7_bell 19 = .ok (.iload_n 2, 1) := by decide +kernel
theorem dX7_bell_20 : decode cX7_bell 20 = .ok (.ldc 127, 2) := by decide +kernel
theorem dX7_bell_22 : decode cX7_bell 22 = .ok (.if_icmp .le 6, 3) := by decide +kernel
theorem dX7_bell_25 : decode cX7_bell 25 = .ok (.ldc 75, 2) := by decide +kernel
theorem dX7_bell_27 : decode cX7_bell 27 = .ok (.ireturn, 1) := by decide +kernel
theorem dX7_bell_28 : decode cX7_bell 28 = .ok (.aload_n 0, 1) := by decide +kernel
theorem dX7_bell_29 : decode cX7_bell 29 = .ok (.getfield 10, 3) := by decide +kernel
theorem dX7_bell_32 : decode cX7_bell 32 = .ok (.iload_n 1, 1) := by decide +kernel
theorem dX7_bell_33 : decode cX7_bell 33 = .ok (.iload_n 2, 1) := by decide +kernel
theorem dX7_bell_34 : decode cX7_bell 34 = .ok (.invokevirtual 128, 3) := by decide +kernel
theorem dX7_bell_37 : decode cX7_bell 37 = .ok (.ireturn, 1) := by decide +kernel
theorem dX7_spot_0 : decode cX7_spot 0 = .ok (.aload_n 0, 1) := by decide +kernel
theorem dX7_spot_1 : decode cX7_spot 1 = .ok (.getfield 10, 3) := by decide +kernel
theorem dX7_spot_4 : decode cX7_spot 4 = .ok (.iconst 2, 1) := by decide +kernel
theorem dX7_spot_5 : decode cX7_spot 5 = .ok (.iload_n 1, 1) := by decide +kernel
theorem dX7_spot_6 : decode cX7_spot 6 = .ok (.invokevirtual 122, 3) := by decide +kernel
theorem dX7_spot_9 : decode cX7_spot 9 = .ok (.ifCond .ne 6, 3) := by decide +kernel
theorem dX7_spot_12 : decode cX7_spot 12 = .ok (.ldc 126, 2) := by decide +kernel
theorem dX7_spot_14 : decode cX7_spot 14 = .ok (.ireturn, 1) := by decide +kernel
theorem dX7_spot_15 : decode cX7_spot 15 = .ok (.iload_n 2, 1) := by decide +kernel
theorem dX7_spot_16 : decode cX7_spot 16 = .ok (.ifCond .lt 8, 3) := by decide +kernel
theorem dX7_spot_19 : decode cX7_spot 19 = .ok (.iload_n 2, 1) := by decide +kernel
theorem dX7_spot_20 : decode cX7_spot 20 = .ok (.iconst 3, 1) := by decide +kernel
theorem dX7_spot_21 : decode cX7_spot 21 = .ok (.if_icmp .le 6, 3) := by decide +kernel
theorem dX7_spot_24 : decode cX7_spot 24 = .ok (.ldc 75, 2) := by decide +kernel
theorem dX7_spot_26 : decode cX7_spot 26 = .ok (.ireturn, 1) := by decide +kernel
theorem dX7_spot_27 : decode cX7_spot 27 = .ok (.iload_n 2, 1) := by decide +kernel
theorem dX7_spot_28 : decode cX7_spot 28 = .ok (.iconst 3, 1) := by decide +kernel
theorem dX7_spot_29 : decode cX7_spot 29 = .ok (.if_icmp .ne 14, 3) := by decide +kernel
theorem dX7_spot_32 : decode cX7_spot 32 = .ok (.aload_n 0, 1) := by decide +kernel
theorem dX7_spot_33 : decode cX7_spot 33 = .ok (.getfield 26, 3) := by decide +kernel
theorem dX7_spot_36 : decode cX7_spot 36 = .ok (.iload_n 1, 1) := by decide +kernel
theorem dX7_spot_37 : decode cX7_spot 37 = .ok (.invokevirtual 132, 3) := by decide +kernel
theorem dX7_spot_40 : decode cX7_spot 40 = .ok (.goto 13, 3) := by decide +kernel
theorem dX7_spot_43 : decode cX7_spot 43 = .ok (.aload_n 0, 1) := by decide +kernel
theorem dX7_spot_44 : decode cX7_spot 44 = .ok (.getfield 10, 3) := by decide +kernel
theorem dX7_spot_47 : decode cX7_spot 47 = .ok (.iconst 2, 1) := by decide +kernel
theorem dX7_spot_48 : decode cX7_spot 48 = .ok (.iload_n 1, 1) := by decide +kernel
theorem dX7_spot_49 : decode cX7_spot 49 = .ok (.iload_n 2, 1) := by decide +kernel
theorem dX7_spot_50 : decode cX7_spot 50 = .ok (.invokevirtual 135, 3) := by decide +kernel
theorem dX7_spot_53 : decode cX7_spot 53 = .ok (.ireturn, 1) := by decide +kernel
theorem dX7_beggar_0 : decode cX7_beggar 0 = .ok (.aload_n 0, 1) := by decide +kernel
theorem dX7_beggar_1 : decode cX7_beggar 1 = .ok (.getfield 10, 3) := by decide +kernel
theorem dX7_beggar_4 : decode cX7_beggar 4 = .ok (.iconst 3, 1) := by decide +kernel
theorem dX7_beggar_5 : decode cX7_beggar 5 = .ok (.iload_n 1, 1) := by decide +kernel
theorem dX7_beggar_6 : decode cX7_beggar 6 = .ok (.invokevirtual 122, 3) := by decide +kernel
theorem dX7_beggar_9 : decode cX7_beggar 9 = .ok (.ifCond .ne 6, 3) := by decide +kernel
theorem dX7_beggar_12 : decode cX7_beggar 12 = .ok (.ldc 126, 2) := by decide +kernel
theorem dX7_beggar_14 : decode cX7_beggar 14 = .ok (.ireturn, 1) := by decide +kernel
theorem dX7_beggar_15 : decode cX7_beggar 15 = .ok (.iload_n 2, 1) := by decide +kernel
theorem dX7_beggar_16 : decode cX7_beggar 16 = .ok (.tableswitch 82 0 4 #[36, 47, 57, 66, 72], 36) := by decide +kernel
theorem dX7_beggar_52 : decode cX7_beggar 52 = .ok (.aload_n 0, 1) := by decide +kernel
theorem dX7_beggar_53 : decode cX7_beggar 53 = .ok (.getfield 10, 3) := by decide +kernel
theorem dX7_beggar_56 : decode cX7_beggar 56 = .ok (.iconst 3, 1) := by decide +kernel
theorem dX7_beggar_57 : decode cX7_beggar 57 = .ok (.iload_n 1, 1) := by decide +kernel
theorem dX7_beggar_58 : decode cX7_beggar 58 = .ok (.iconst 0, 1) := by decide +kernel
theorem dX7_beggar_59 : decode cX7_beggar 59 = .ok (.invokevirtual 135, 3) := by decide +kernel
theorem dX7_beggar_62 : decode cX7_beggar 62 = .ok (.ireturn, 1) := by decide +kernel
theorem dX7_beggar_63 : decode cX7_beggar 63 = .ok (.aload_n 0, 1) := by decide +kernel
theorem dX7_beggar_64 : decode cX7_beggar 64 = .ok (.getfield 26, 3) := by decide +kernel
theorem dX7_beggar_67 : decode cX7_beggar 67 = .ok (.getfield 139, 3) := by decide +kernel
theorem dX7_beggar_70 : decode cX7_beggar 70 = .ok (.iload_n 1, 1) := by decide +kernel
theorem dX7_beggar_71 : decode cX7_beggar 71 = .ok (.iaload, 1) := by decide +kernel
theorem dX7_beggar_72 : decode cX7_beggar 72 = .ok (.ireturn, 1) := by decide +kernel
theorem dX7_beggar_73 : decode cX7_beggar 73 = .ok (.aload_n 0, 1) := by decide +kernel
theorem dX7_beggar_74 : decode cX7_beggar 74 = .ok (.getfield 26, 3) := by decide +kernel
theorem dX7_beggar_77 : decode cX7_beggar 77 = .ok (.iload_n 1, 1) := by decide +kernel
theorem dX7_beggar_78 : decode cX7_beggar 78 = .ok (.invokevirtual 143, 3) := by decide +kernel
theorem dX7_beggar_81 : decode cX7_beggar 81 = .ok (.ireturn, 1) := by decide +kernel
theorem dX7_beggar_82 : decode cX7_beggar 82 = .ok (.aload_n 0, 1) := by decide +kernel
theorem dX7_beggar_83 : decode cX7_beggar 83 = .ok (.iload_n 1, 1) := by decide +kernel
theorem dX7_beggar_84 : decode cX7_beggar 84 = .ok (.invokevirtual 146, 3) := by decide +kernel
theorem dX7_beggar_87 : decode cX7_beggar 87 = .ok (.ireturn, 1) := by decide +kernel
theorem dX7_beggar_88 : decode cX7_beggar 88 = .ok (.aload_n 0, 1) := by decide +kernel
theorem dX7_beggar_89 : decode cX7_beggar 89 = .ok (.getfield 26, 3) := by decide +kernel
theorem dX7_beggar_92 : decode cX7_beggar 92 = .ok (.getfield 149, 3) := by decide +kernel
theorem dX7_beggar_95 : decode cX7_beggar 95 = .ok (.iload_n 1, 1) := by decide +kernel
theorem dX7_beggar_96 : decode cX7_beggar 96 = .ok (.iaload, 1) := by decide +kernel
theorem dX7_beggar_97 : decode cX7_beggar 97 = .ok (.ireturn, 1) := by decide +kernel
theorem dX7_beggar_98 : decode cX7_beggar 98 = .ok (.ldc 75, 2) := by decide +kernel
theorem dX7_beggar_100 : decode cX7_beggar 100 = .ok (.ireturn, 1) := by decide +kernel
theorem dX7_hat_0 : decode cX7_hat 0 = .ok (.aload_n 0, 1) := by decide +kernel
theorem dX7_hat_1 : decode cX7_hat 1 = .ok (.getfield 10, 3) := by decide +kernel
theorem dX7_hat_4 : decode cX7_hat 4 = .ok (.iconst 4, 1) := by decide +kernel
theorem dX7_hat_5 : decode cX7_hat 5 = .ok (.iload_n 1, 1) := by decide +kernel
theorem dX7_hat_6 : decode cX7_hat 6 = .ok (.invokevirtual 122, 3) := by decide +kernel
theorem dX7_hat_9 : decode cX7_hat 9 = .ok (.ifCond .ne 6, 3) := by decide +kernel
theorem dX7_hat_12 : decode cX7_hat 12 = .ok (.ldc 126, 2) := by decide +kernel
theorem dX7_hat_14 : decode cX7_hat 14 = .ok (.ireturn, 1) := by decide +kernel
theorem dX7_hat_15 : decode cX7_hat 15 = .ok (.iload_n 2, 1) := by decide +kernel
theorem dX7_hat_16 : decode cX7_hat 16 = .ok (.ifCond .lt 8, 3) := by decide +kernel
theorem dX7_hat_19 : decode cX7_hat 19 = .ok (.iload_n 2, 1) := by decide +kernel
theorem dX7_hat_20 : decode cX7_hat 20 = .ok (.iconst 2, 1) := by decide +kernel
theorem dX7_hat_21 : decode cX7_hat 21 = .ok (.if_icmp .le 6, 3) := by decide +kernel
theorem dX7_hat_24 : decode cX7_hat 24 = .ok (.ldc 75, 2) := by decide +kernel
theorem dX7_hat_26 : decode cX7_hat 26 = .ok (.ireturn, 1) := by decide +kernel
theorem dX7_hat_27 : decode cX7_hat 27 = .ok (.iload_n 2, 1) := by decide +kernel
theorem dX7_hat_28 : decode cX7_hat 28 = .ok (.iconst 2, 1) := by decide +kernel
theorem dX7_hat_29 : decode cX7_hat 29 = .ok (.if_icmp .ne 15, 3) := by decide +kernel
theorem dX7_hat_32 : decode cX7_hat 32 = .ok (.aload_n 0, 1) := by decide +kernel
theorem dX7_hat_33 : decode cX7_hat 33 = .ok (.getfield 26, 3) := by decide +kernel
theorem dX7_hat_36 : decode cX7_hat 36 = .ok (.getfield 152, 3) := by decide +kernel
theorem dX7_hat_39 : decode cX7_hat 39 = .ok (.iload_n 1, 1) := by decide +kernel
theorem dX7_hat_40 : decode cX7_hat 40 = .ok (.iaload, 1) := by decide +kernel
theorem dX7_hat_41 : decode cX7_hat 41 = .ok (.goto 13, 3) := by decide +kernel
theorem dX7_hat_44 : decode cX7_hat 44 = .ok (.aload_n 0, 1) := by decide +kernel
theorem dX7_hat_45 : decode cX7_hat 45 = .ok (.getfield 10, 3) := by decide +kernel
theorem dX7_hat_48 : decode cX7_hat 48 = .ok (.iconst 4, 1) := by decide +kernel
theorem dX7_hat_49 : decode cX7_hat 49 = .ok (.iload_n 1, 1) := by decide +kernel
theorem dX7_hat_50 : decode cX7_hat 50 = .ok (.iload_n 2, 1) := by decide +kernel
theorem dX7_hat_51 : decode cX7_hat 51 = .ok (.invokevirtual 135, 3) := by decide +kernel
theorem dX7_hat_54 : decode cX7_hat 54 = .ok (.ireturn, 1) := by decide +kernel
theorem dX7_shadow_0 : decode cX7_shadow 0 = .ok (.aload_n 0, 1) := by decide +kernel
theorem dX7_shadow_1 : decode cX7_shadow 1 = .ok (.getfield 10, 3) := by decide +kernel
theorem dX7_shadow_4 : decode cX7_shadow 4 = .ok (.iconst 1, 1) := by decide +kernel
theorem dX7_shadow_5 : decode cX7_shadow 5 = .ok (.iload_n 1, 1) := by decide +kernel
theorem dX7_shadow_6 : decode cX7_shadow 6 = .ok (.invokevirtual 122, 3) := by decide +kernel
theorem dX7_shadow_9 : decode cX7_shadow 9 = .ok (.ifCond .eq 15, 3) := by decide +kernel
theorem dX7_shadow_12 : decode cX7_shadow 12 = .ok (.aload_n 0, 1) := by decide +kernel
theorem dX7_shadow_13 : decode cX7_shadow 13 = .ok (.getfield 10, 3) := by decide +kernel
theorem dX7_shadow_16 : decode cX7_shadow 16 = .ok (.iconst 3, 1) := by decide +kernel
theorem dX7_shadow_17 : decode cX7_shadow 17 = .ok (.iload_n 2, 1) := by decide +kernel
theorem dX7_shadow_18 : decode cX7_shadow 18 = .ok (.invokevirtual 122, 3) := by decide +kernel
theorem dX7_shadow_21 : decode cX7_shadow 21 = .ok (.ifCond .ne 6, 3) := by decide +kernel
theorem dX7_shadow_24 : decode cX7_shadow 24 = .ok (.ldc 126, 2) := by decide +kernel
theorem dX7_shadow_26 : decode cX7_shadow 26 = .ok (.ireturn, 1) := by decide +kernel
theorem dX7_shadow_27 : decode cX7_shadow 27 = .ok (.iload_n 3, 1) := by decide +kernel
theorem dX7_shadow_28 : decode cX7_shadow 28 = .ok (.ifCond .lt 8, 3) := by decide +kernel
theorem dX7_shadow_31 : decode cX7_shadow 31 = .ok (.iload_n 3, 1) := by decide +kernel
theorem dX7_shadow_32 : decode cX7_shadow 32 = .ok (.iconst 1, 1) := by decide +kernel
theorem dX7_shadow_33 : decode cX7_shadow 33 = .ok (.if_icmp .le 6, 3) := by decide +kernel
theorem dX7_shadow_36 : decode cX7_shadow 36 = .ok (.ldc 75, 2) := by decide +kernel
theorem dX7_shadow_38 : decode cX7_shadow 38 = .ok (.ireturn, 1) := by decide +kernel
theorem dX7_shadow_39 : decode cX7_shadow 39 = .ok (.aload_n 0, 1) := by decide +kernel
theorem dX7_shadow_40 : decode cX7_shadow 40 = .ok (.iload_n 1, 1) := by decide +kernel
theorem dX7_shadow_41 : decode cX7_shadow 41 = .ok (.aload_n 0, 1) := by decide +kernel
theorem dX7_shadow_42 : decode cX7_shadow 42 = .ok (.getfield 26, 3) := by decide +kernel
theorem dX7_shadow_45 : decode cX7_shadow 45 = .ok (.getfield 113, 3) := by decide +kernel
theorem dX7_shadow_48 : decode cX7_shadow 48 = .ok (.invokevirtual 155, 3) := by decide +kernel
theorem dX7_shadow_51 : decode cX7_shadow 51 = .ok (.iload_n 3, 1) := by decide +kernel
theorem dX7_shadow_52 : decode cX7_shadow 52 = .ok (.ifCond .ne 15, 3) := by decide +kernel
theorem dX7_shadow_55 : decode cX7_shadow 55 = .ok (.aload_n 0, 1) := by decide +kernel
theorem dX7_shadow_56 : decode cX7_shadow 56 = .ok (.getfield 55, 3) := by decide +kernel
theorem dX7_shadow_59 : decode cX7_shadow 59 = .ok (.getfield 159, 3) := by decide +kernel
theorem dX7_shadow_62 : decode cX7_shadow 62 = .ok (.iload_n 2, 1) := by decide +kernel
theorem dX7_shadow_63 : decode cX7_shadow 63 = .ok (.iaload, 1) := by decide +kernel
theorem dX7_shadow_64 : decode cX7_shadow 64 = .ok (.goto 11, 3) := by decide +kernel
theorem dX7_shadow_67 : decode cX7_shadow 67 = .ok (.aload_n 0, 1) := by decide +kernel
theorem dX7_shadow_68 : decode cX7_shadow 68 = .ok (.getfield 55, 3) := by decide +kernel
theorem dX7_shadow_71 : decode cX7_shadow 71 = .ok (.iload_n 2, 1) := by decide +kernel
theorem dX7_shadow_72 : decode cX7_shadow 72 = .ok (.invokevirtual 162, 3) := by decide +kernel
theorem dX7_shadow_75 : decode cX7_shadow 75 = .ok (.ireturn, 1) := by decide +kernel
theorem dX7_go_0 : decode cX7_go 0 = .ok (.aload_n 0, 1) := by decide +kernel
theorem dX7_go_1 : decode cX7_go 1 = .ok (.getfield 10, 3) := by decide +kernel
theorem dX7_go_4 : decode cX7_go 4 = .ok (.iconst 3, 1) := by decide +kernel
theorem dX7_go_5 : decode cX7_go 5 = .ok (.iload_n 1, 1) := by decide +kernel
theorem dX7_go_6 : decode cX7_go 6 = .ok (.invokevirtual 122, 3) := by decide +kernel
theorem dX7_go_9 : decode cX7_go 9 = .ok (.ifCond .eq 20, 3) := by decide +kernel
theorem dX7_go_12 : decode cX7_go 12 = .ok (.iload_n 2, 1) := by decide +kernel
theorem dX7_go_13 : decode cX7_go 13 = .ok (.iconst (-1), 1) := by decide +kernel
theorem dX7_go_14 : decode cX7_go 14 = .ok (.if_icmp .eq 18, 3) := by decide +kernel
theorem dX7_go_17 : decode cX7_go 17 = .ok (.aload_n 0, 1) := by decide +kernel
theorem dX7_go_18 : decode cX7_go 18 = .ok (.getfield 10, 3) := by decide +kernel
theorem dX7_go_21 : decode cX7_go 21 = .ok (.iconst 2, 1) := by decide +kernel
theorem dX7_go_22 : decode cX7_go 22 = .ok (.iload_n 2, 1) := by decide +kernel
theorem dX7_go_23 : decode cX7_go 23 = .ok (.invokevirtual 122, 3) := by decide +kernel
theorem dX7_go_26 : decode cX7_go 26 = .ok (.ifCond .ne 6, 3) := by decide +kernel
theorem dX7_go_29 : decode cX7_go 29 = .ok (.ldc 126, 2) := by decide +kernel
theorem dX7_go_31 : decode cX7_go 31 = .ok (.ireturn, 1) := by decide +kernel
theorem dX7_go_32 : decode cX7_go 32 = .ok (.iload_n 2, 1) := by decide +kernel
theorem dX7_go_33 : decode cX7_go 33 = .ok (.iconst (-1), 1) := by decide +kernel
theorem dX7_go_34 : decode cX7_go 34 = .ok (.if_icmp .ne 7, 3) := by decide +kernel
theorem dX7_go_37 : decode cX7_go 37 = .ok (.iconst (-1), 1) := by decide +kernel
theorem dX7_go_38 : decode cX7_go 38 = .ok (.goto 11, 3) := by decide +kernel
theorem dX7_go_41 : decode cX7_go 41 = .ok (.aload_n 0, 1) := by decide +kernel
theorem dX7_go_42 : decode cX7_go 42 = .ok (.getfield 26, 3) := by decide +kernel
theorem dX7_go_45 : decode cX7_go 45 = .ok (.iload_n 2, 1) := by decide +kernel
theorem dX7_go_46 : decode cX7_go 46 = .ok (.invokevirtual 132, 3) := by decide +kernel
theorem dX7_go_49 : decode cX7_go 49 = .ok (.istore_n 3, 1) := by decide +kernel
theorem dX7_go_50 : decode cX7_go 50 = .ok (.iload_n 3, 1) := by decide +kernel
theorem dX7_go_51 : decode cX7_go 51 = .ok (.iconst (-1), 1) := by decide +kernel
theorem dX7_go_52 : decode cX7_go 52 = .ok (.if_icmp .eq 11, 3) := by decide +kernel
theorem dX7_go_55 : decode cX7_go 55 = .ok (.iload_n 3, 1) := by decide +kernel
theorem dX7_go_56 : decode cX7_go 56 = .ok (.iload_n 1, 1) := by decide +kernel
theorem dX7_go_57 : decode cX7_go 57 = .ok (.if_icmp .eq 6, 3) := by decide +kernel
theorem dX7_go_60 : decode cX7_go 60 = .ok (.ldc 165, 2) := by decide +kernel
theorem dX7_go_62 : decode cX7_go 62 = .ok (.ireturn, 1) := by decide +kernel
theorem dX7_go_63 : decode cX7_go 63 = .ok (.aload_n 0, 1) := by decide +kernel
theorem dX7_go_64 : decode cX7_go 64 = .ok (.getfield 26, 3) := by decide +kernel
theorem dX7_go_67 : decode cX7_go 67 = .ok (.getfield 139, 3) := by decide +kernel
theorem dX7_go_70 : decode cX7_go 70 = .ok (.iload_n 1, 1) := by decide +kernel
theorem dX7_go_71 : decode cX7_go 71 = .ok (.iaload, 1) := by decide +kernel
theorem dX7_go_72 : decode cX7_go 72 = .ok (.istore 4, 2) := by decide +kernel
theorem dX7_go_74 : decode cX7_go 74 = .ok (.aload_n 0, 1) := by decide +kernel
theorem dX7_go_75 : decode cX7_go 75 = .ok (.getfield 26, 3) := by decide +kernel
theorem dX7_go_78 : decode cX7_go 78 = .ok (.getfield 139, 3) := by decide +kernel
theorem dX7_go_81 : decode cX7_go 81 = .ok (.iload_n 1, 1) := by decide +kernel
theorem dX7_go_82 : decode cX7_go 82 = .ok (.iload_n 2, 1) := by decide +kernel
theorem dX7_go_83 : decode cX7_go 83 = .ok (.iastore, 1) := by decide +kernel
theorem dX7_go_84 : decode cX7_go 84 = .ok (.iload 4, 2) := by decide +kernel
theorem dX7_go_86 : decode cX7_go 86 = .ok (.ireturn, 1) := by decide +kernel
theorem dX7_lend_0 : decode cX7_lend 0 = .ok (.aload_n 0, 1) := by decide +kernel
theorem dX7_lend_1 : decode cX7_lend 1 = .ok (.getfield 10, 3) := by decide +kernel
theorem dX7_lend_4 : decode cX7_lend 4 = .ok (.iconst 4, 1) := by decide +kernel
theorem dX7_lend_5 : decode cX7_lend 5 = .ok (.iload_n 1, 1) := by decide +kernel
theorem dX7_lend_6 : decode cX7_lend 6 = .ok (.invokevirtual 122, 3) := by decide +kernel
theorem dX7_lend_9 : decode cX7_lend 9 = .ok (.ifCond .eq 20, 3) := by decide +kernel
theorem dX7_lend_12 : decode cX7_lend 12 = .ok (.iload_n 2, 1) := by decide +kernel
theorem dX7_lend_13 : decode cX7_lend 13 = .ok (.iconst (-1), 1) := by decide +kernel
theorem dX7_lend_14 : decode cX7_lend 14 = .ok (.if_icmp .eq 18, 3) := by decide +kernel
theorem dX7_lend_17 : decode cX7_lend 17 = .ok (.aload_n 0, 1) := by decide +kernel
theorem dX7_lend_18 : decode cX7_lend 18 = .ok (.getfield 10, 3) := by decide +kernel
theorem dX7_lend_21 : decode cX7_lend 21 = .ok (.iconst 3, 1) := by decide +kernel
theorem dX7_lend_22 : decode cX7_lend 22 = .ok (.iload_n 2, 1) := by decide +kernel
theorem dX7_lend_23 : decode cX7_lend 23 = .ok (.invokevirtual 122, 3) := by decide +kernel
theorem dX7_lend_26 : decode cX7_lend 26 = .ok (.ifCond .ne 6, 3) := by decide +kernel
theorem dX7_lend_29 : decode cX7_lend 29 = .ok (.ldc 126, 2) := by decide +kernel
theorem dX7_lend_31 : decode cX7_lend 31 = .ok (.ireturn, 1) := by decide +kernel
theorem dX7_lend_32 : decode cX7_lend 32 = .ok (.iload_n 2, 1) := by decide +kernel
theorem dX7_lend_33 : decode cX7_lend 33 = .ok (.iconst (-1), 1) := by decide +kernel
theorem dX7_lend_34 : decode cX7_lend 34 = .ok (.if_icmp .ne 7, 3) := by decide +kernel
theorem dX7_lend_37 : decode cX7_lend 37 = .ok (.iconst (-1), 1) := by decide +kernel
theorem dX7_lend_38 : decode cX7_lend 38 = .ok (.goto 11, 3) := by decide +kernel
theorem dX7_lend_41 : decode cX7_lend 41 = .ok (.aload_n 0, 1) := by decide +kernel
theorem dX7_lend_42 : decode cX7_lend 42 = .ok (.getfield 26, 3) := by decide +kernel
theorem dX7_lend_45 : decode cX7_lend 45 = .ok (.iload_n 2, 1) := by decide +kernel
theorem dX7_lend_46 : decode cX7_lend 46 = .ok (.invokevirtual 143, 3) := by decide +kernel
theorem dX7_lend_49 : decode cX7_lend 49 = .ok (.istore_n 3, 1) := by decide +kernel
theorem dX7_lend_50 : decode cX7_lend 50 = .ok (.iload_n 3, 1) := by decide +kernel
theorem dX7_lend_51 : decode cX7_lend 51 = .ok (.iconst (-1), 1) := by decide +kernel
theorem dX7_lend_52 : decode cX7_lend 52 = .ok (.if_icmp .eq 11, 3) := by decide +kernel
theorem dX7_lend_55 : decode cX7_lend 55 = .ok (.iload_n 3, 1) := by decide +kernel
theorem dX7_lend_56 : decode cX7_lend 56 = .ok (.iload_n 1, 1) := by decide +kernel
theorem dX7_lend_57 : decode cX7_lend 57 = .ok (.if_icmp .eq 6, 3) := by decide +kernel
theorem dX7_lend_60 : decode cX7_lend 60 = .ok (.ldc 165, 2) := by decide +kernel
theorem dX7_lend_62 : decode cX7_lend 62 = .ok (.ireturn, 1) := by decide +kernel
theorem dX7_lend_63 : decode cX7_lend 63 = .ok (.aload_n 0, 1) := by decide +kernel
theorem dX7_lend_64 : decode cX7_lend 64 = .ok (.getfield 26, 3) := by decide +kernel
theorem dX7_lend_67 : decode cX7_lend 67 = .ok (.getfield 152, 3) := by decide +kernel
theorem dX7_lend_70 : decode cX7_lend 70 = .ok (.iload_n 1, 1) := by decide +kernel
theorem dX7_lend_71 : decode cX7_lend 71 = .ok (.iaload, 1) := by decide +kernel
theorem dX7_lend_72 : decode cX7_lend 72 = .ok (.istore 4, 2) := by decide +kernel
theorem dX7_lend_74 : decode cX7_lend 74 = .ok (.aload_n 0, 1) := by decide +kernel
theorem dX7_lend_75 : decode cX7_lend 75 = .ok (.getfield 26, 3) := by decide +kernel
theorem dX7_lend_78 : decode cX7_lend 78 = .ok (.getfield 152, 3) := by decide +kernel
theorem dX7_lend_81 : decode cX7_lend 81 = .ok (.iload_n 1, 1) := by decide +kernel
theorem dX7_lend_82 : decode cX7_lend 82 = .ok (.iload_n 2, 1) := by decide +kernel
theorem dX7_lend_83 : decode cX7_lend 83 = .ok (.iastore, 1) := by decide +kernel
theorem dX7_lend_84 : decode cX7_lend 84 = .ok (.iload 4, 2) := by decide +kernel
theorem dX7_lend_86 : decode cX7_lend 86 = .ok (.ireturn, 1) := by decide +kernel
theorem dX7_law_0 : decode cX7_law 0 = .ok (.iload_n 1, 1) := by decide +kernel
theorem dX7_law_1 : decode cX7_law 1 = .ok (.ifCond .lt 8, 3) := by decide +kernel
theorem dX7_law_4 : decode cX7_law 4 = .ok (.iload_n 1, 1) := by decide +kernel
theorem dX7_law_5 : decode cX7_law 5 = .ok (.iconst 2, 1) := by decide +kernel
theorem dX7_law_6 : decode cX7_law 6 = .ok (.if_icmp .le 6, 3) := by decide +kernel
theorem dX7_law_9 : decode cX7_law 9 = .ok (.ldc 75, 2) := by decide +kernel
theorem dX7_law_11 : decode cX7_law 11 = .ok (.ireturn, 1) := by decide +kernel
theorem dX7_law_12 : decode cX7_law 12 = .ok (.aload_n 0, 1) := by decide +kernel
theorem dX7_law_13 : decode cX7_law 13 = .ok (.getfield 26, 3) := by decide +kernel
theorem dX7_law_16 : decode cX7_law 16 = .ok (.getfield 116, 3) := by decide +kernel
theorem dX7_law_19 : decode cX7_law 19 = .ok (.istore_n 2, 1) := by decide +kernel
theorem dX7_law_20 : decode cX7_law 20 = .ok (.aload_n 0, 1) := by decide +kernel
theorem dX7_law_21 : decode cX7_law 21 = .ok (.getfield 26, 3) := by decide +kernel
theorem dX7_law_24 : decode cX7_law 24 = .ok (.iload_n 1, 1) := by decide +kernel
theorem dX7_law_25 : decode cX7_law 25 = .ok (.putfield 116, 3) := by decide +kernel
theorem dX7_law_28 : decode cX7_law 28 = .ok (.iload_n 2, 1) := by decide +kernel
theorem dX7_law_29 : decode cX7_law 29 = .ok (.ireturn, 1) := by decide +kernel
theorem dX7_ring_0 : decode cX7_ring 0 = .ok (.aload_n 0, 1) := by decide +kernel
theorem dX7_ring_1 : decode cX7_ring 1 = .ok (.getfield 10, 3) := by decide +kernel
theorem dX7_ring_4 : decode cX7_ring 4 = .ok (.iconst 1, 1) := by decide +kernel
theorem dX7_ring_5 : decode cX7_ring 5 = .ok (.iload_n 1, 1) := by decide +kernel
theorem dX7_ring_6 : decode cX7_ring 6 = .ok (.invokevirtual 122, 3) := by decide +kernel
theorem dX7_ring_9 : decode cX7_ring 9 = .ok (.ifCond .eq 11, 3) := by decide +kernel
theorem dX7_ring_12 : decode cX7_ring 12 = .ok (.aload_n 0, 1) := by decide +kernel
theorem dX7_ring_13 : decode cX7_ring 13 = .ok (.iload_n 1, 1) := by decide +kernel
theorem dX7_ring_14 : decode cX7_ring 14 = .ok (.invokevirtual 166, 3) := by decide +kernel
theorem dX7_ring_17 : decode cX7_ring 17 = .ok (.goto 5, 3) := by decide +kernel
theorem dX7_ring_20 : decode cX7_ring 20 = .ok (.ldc 126, 2) := by decide +kernel
theorem dX7_ring_22 : decode cX7_ring 22 = .ok (.ireturn, 1) := by decide +kernel
theorem dX7_day_0 : decode cX7_day 0 = .ok (.iload_n 1, 1) := by decide +kernel
theorem dX7_day_1 : decode cX7_day 1 = .ok (.iconst 1, 1) := by decide +kernel
theorem dX7_day_2 : decode cX7_day 2 = .ok (.if_icmp .lt 9, 3) := by decide +kernel
theorem dX7_day_5 : decode cX7_day 5 = .ok (.iload_n 1, 1) := by decide +kernel
theorem dX7_day_6 : decode cX7_day 6 = .ok (.bipush 99, 2) := by decide +kernel
theorem dX7_day_8 : decode cX7_day 8 = .ok (.if_icmp .le 6, 3) := by decide +kernel
theorem dX7_day_11 : decode cX7_day 11 = .ok (.ldc 75, 2) := by decide +kernel
theorem dX7_day_13 : decode cX7_day 13 = .ok (.ireturn, 1) := by decide +kernel
theorem dX7_day_14 : decode cX7_day 14 = .ok (.aload_n 0, 1) := by decide +kernel
theorem dX7_day_15 : decode cX7_day 15 = .ok (.getfield 26, 3) := by decide +kernel
theorem dX7_day_18 : decode cX7_day 18 = .ok (.dup, 1) := by decide +kernel
theorem dX7_day_19 : decode cX7_day 19 = .ok (.getfield 113, 3) := by decide +kernel
theorem dX7_day_22 : decode cX7_day 22 = .ok (.iload_n 1, 1) := by decide +kernel
theorem dX7_day_23 : decode cX7_day 23 = .ok (.iadd, 1) := by decide +kernel
theorem dX7_day_24 : decode cX7_day 24 = .ok (.putfield 113, 3) := by decide +kernel
theorem dX7_day_27 : decode cX7_day 27 = .ok (.aload_n 0, 1) := by decide +kernel
theorem dX7_day_28 : decode cX7_day 28 = .ok (.getfield 26, 3) := by decide +kernel
theorem dX7_day_31 : decode cX7_day 31 = .ok (.getfield 113, 3) := by decide +kernel
theorem dX7_day_34 : decode cX7_day 34 = .ok (.ireturn, 1) := by decide +kernel
theorem dX7_drift_0 : decode cX7_drift 0 = .ok (.iload_n 1, 1) := by decide +kernel
theorem dX7_drift_1 : decode cX7_drift 1 = .ok (.iconst 1, 1) := by decide +kernel
theorem dX7_drift_2 : decode cX7_drift 2 = .ok (.if_icmp .lt 9, 3) := by decide +kernel
theorem dX7_drift_5 : decode cX7_drift 5 = .ok (.iload_n 1, 1) := by decide +kernel
theorem dX7_drift_6 : decode cX7_drift 6 = .ok (.bipush 99, 2) := by decide +kernel
theorem dX7_drift_8 : decode cX7_drift 8 = .ok (.if_icmp .le 6, 3) := by decide +kernel
theorem dX7_drift_11 : decode cX7_drift 11 = .ok (.ldc 75, 2) := by decide +kernel
theorem dX7_drift_13 : decode cX7_drift 13 = .ok (.ireturn, 1) := by decide +kernel
theorem dX7_drift_14 : decode cX7_drift 14 = .ok (.aload_n 0, 1) := by decide +kernel
theorem dX7_drift_15 : decode cX7_drift 15 = .ok (.getfield 10, 3) := by decide +kernel
theorem dX7_drift_18 : decode cX7_drift 18 = .ok (.iconst 3, 1) := by decide +kernel
theorem dX7_drift_19 : decode cX7_drift 19 = .ok (.invokevirtual 103, 3) := by decide +kernel
theorem dX7_drift_22 : decode cX7_drift 22 = .ok (.ifCond .eq 14, 3) := by decide +kernel
theorem dX7_drift_25 : decode cX7_drift 25 = .ok (.aload_n 0, 1) := by decide +kernel
theorem dX7_drift_26 : decode cX7_drift 26 = .ok (.getfield 10, 3) := by decide +kernel
theorem dX7_drift_29 : decode cX7_drift 29 = .ok (.iconst 2, 1) := by decide +kernel
theorem dX7_drift_30 : decode cX7_drift 30 = .ok (.invokevirtual 103, 3) := by decide +kernel
theorem dX7_drift_33 : decode cX7_drift 33 = .ok (.ifCond .ne 6, 3) := by decide +kernel
theorem dX7_drift_36 : decode cX7_drift 36 = .ok (.ldc 165, 2) := by decide +kernel
theorem dX7_drift_38 : decode cX7_drift 38 = .ok (.ireturn, 1) := by decide +kernel
theorem dX7_drift_39 : decode cX7_drift 39 = .ok (.iconst 0, 1) := by decide +kernel
theorem dX7_drift_40 : decode cX7_drift 40 = .ok (.istore_n 2, 1) := by decide +kernel
theorem dX7_drift_41 : decode cX7_drift 41 = .ok (.iconst 0, 1) := by decide +kernel
theorem dX7_drift_42 : decode cX7_drift 42 = .ok (.istore_n 3, 1) := by decide +kernel
theorem dX7_drift_43 : decode cX7_drift 43 = .ok (.iload_n 3, 1) := by decide +kernel
theorem dX7_drift_44 : decode cX7_drift 44 = .ok (.iload_n 1, 1) := by decide +kernel
theorem dX7_drift_45 : decode cX7_drift 45 = .ok (.if_icmp .ge 16, 3) := by decide +kernel
theorem dX7_drift_48 : decode cX7_drift 48 = .ok (.iload_n 2, 1) := by decide +kernel
theorem dX7_drift_49 : decode cX7_drift 49 = .ok (.aload_n 0, 1) := by decide +kernel
theorem dX7_drift_50 : decode cX7_drift 50 = .ok (.invokevirtual 169, 3) := by decide +kernel
theorem dX7_drift_53 : decode cX7_drift 53 = .ok (.iadd, 1) := by decide +kernel
theorem dX7_drift_54 : decode cX7_drift 54 = .ok (.istore_n 2, 1) := by decide +kernel
theorem dX7_drift_55 : decode cX7_drift 55 = .ok (.iinc 3 1, 3) := by decide +kernel
theorem dX7_drift_58 : decode cX7_drift 58 = .ok (.goto (-15), 3) := by decide +kernel
theorem dX7_drift_61 : decode cX7_drift 61 = .ok (.iload_n 2, 1) := by decide +kernel
theorem dX7_drift_62 : decode cX7_drift 62 = .ok (.ireturn, 1) := by decide +kernel
theorem dX7_standing_0 : decode cX7_standing 0 = .ok (.aload_n 0, 1) := by decide +kernel
theorem dX7_standing_1 : decode cX7_standing 1 = .ok (.getfield 10, 3) := by decide +kernel
theorem dX7_standing_4 : decode cX7_standing 4 = .ok (.iconst 1, 1) := by decide +kernel
theorem dX7_standing_5 : decode cX7_standing 5 = .ok (.iload_n 1, 1) := by decide +kernel
theorem dX7_standing_6 : decode cX7_standing 6 = .ok (.invokevirtual 122, 3) := by decide +kernel
theorem dX7_standing_9 : decode cX7_standing 9 = .ok (.ifCond .eq 37, 3) := by decide +kernel
theorem dX7_standing_12 : decode cX7_standing 12 = .ok (.iload_n 2, 1) := by decide +kernel
theorem dX7_standing_13 : decode cX7_standing 13 = .ok (.iconst (-1), 1) := by decide +kernel
theorem dX7_standing_14 : decode cX7_standing 14 = .ok (.if_icmp .eq 15, 3) := by decide +kernel
theorem dX7_standing_17 : decode cX7_standing 17 = .ok (.aload_n 0, 1) := by decide +kernel
theorem dX7_standing_18 : decode cX7_standing 18 = .ok (.getfield 10, 3) := by decide +kernel
theorem dX7_standing_21 : decode cX7_standing 21 = .ok (.iconst 3, 1) := by decide +kernel
theorem dX7_standing_22 : decode cX7_standing 22 = .ok (.iload_n 2, 1) := by decide +kernel
theorem dX7_standing_23 : decode cX7_standing 23 = .ok (.invokevirtual 122, 3) := by decide +kernel
theorem dX7_standing_26 : decode cX7_standing 26 = .ok (.ifCond .eq 20, 3) := by decide +kernel
theorem dX7_standing_29 : decode cX7_standing 29 = .ok (.iload_n 3, 1) := by decide +kernel
theorem dX7_standing_30 : decode cX7_standing 30 = .ok (.iconst (-1), 1) := by decide +kernel
theorem dX7_standing_31 : decode cX7_standing 31 = .ok (.if_icmp .eq 18, 3) := by decide +kernel
theorem dX7_standing_34 : decode cX7_standing 34 = .ok (.aload_n 0, 1) := by decide +kernel
theorem dX7_standing_35 : decode cX7_standing 35 = .ok (.getfield 10, 3) := by decide +kernel
theorem dX7_standing_38 : decode cX7_standing 38 = .ok (.iconst 2, 1) := by decide +kernel
theorem dX7_standing_39 : decode cX7_standing 39 = .ok (.iload_n 3, 1) := by decide +kernel
theorem dX7_standing_40 : decode cX7_standing 40 = .ok (.invokevirtual 122, 3) := by decide +kernel
theorem dX7_standing_43 : decode cX7_standing 43 = .ok (.ifCond .ne 6, 3) := by decide +kernel
theorem dX7_standing_46 : decode cX7_standing 46 = .ok (.ldc 126, 2) := by decide +kernel
theorem dX7_standing_48 : decode cX7_standing 48 = .ok (.ireturn, 1) := by decide +kernel
theorem dX7_standing_49 : decode cX7_standing 49 = .ok (.aload_n 0, 1) := by decide +kernel
theorem dX7_standing_50 : decode cX7_standing 50 = .ok (.getfield 55, 3) := by decide +kernel
theorem dX7_standing_53 : decode cX7_standing 53 = .ok (.aload_n 0, 1) := by decide +kernel
theorem dX7_standing_54 : decode cX7_standing 54 = .ok (.getfield 26, 3) := by decide +kernel
theorem dX7_standing_57 : decode cX7_standing 57 = .ok (.iconst 1, 1) := by decide +kernel
theorem dX7_standing_58 : decode cX7_standing 58 = .ok (.invokevirtual 172, 3) := by decide +kernel
theorem dX7_standing_61 : decode cX7_standing 61 = .ok (.aload_n 0, 1) := by decide +kernel
theorem dX7_standing_62 : decode cX7_standing 62 = .ok (.getfield 55, 3) := by decide +kernel
theorem dX7_standing_65 : decode cX7_standing 65 = .ok (.aload_n 0, 1) := by decide +kernel
theorem dX7_standing_66 : decode cX7_standing 66 = .ok (.getfield 10, 3) := by decide +kernel
theorem dX7_standing_69 : decode cX7_standing 69 = .ok (.iload_n 1, 1) := by decide +kernel
theorem dX7_standing_70 : decode cX7_standing 70 = .ok (.aload_n 0, 1) := by decide +kernel
theorem dX7_standing_71 : decode cX7_standing 71 = .ok (.getfield 26, 3) := by decide +kernel
theorem dX7_standing_74 : decode cX7_standing 74 = .ok (.getfield 113, 3) := by decide +kernel
theorem dX7_standing_77 : decode cX7_standing 77 = .ok (.invokevirtual 128, 3) := by decide +kernel
theorem dX7_standing_80 : decode cX7_standing 80 = .ok (.aload_n 0, 1) := by decide +kernel
theorem dX7_standing_81 : decode cX7_standing 81 = .ok (.getfield 26, 3) := by decide +kernel
theorem dX7_standing_84 : decode cX7_standing 84 = .ok (.getfield 116, 3) := by decide +kernel
theorem dX7_standing_87 : decode cX7_standing 87 = .ok (.invokevirtual 176, 3) := by decide +kernel
theorem dX7_standing_90 : decode cX7_standing 90 = .ok (.aload_n 0, 1) := by decide +kernel
theorem dX7_standing_91 : decode cX7_standing 91 = .ok (.getfield 64, 3) := by decide +kernel
theorem dX7_standing_94 : decode cX7_standing 94 = .ok (.iload_n 2, 1) := by decide +kernel
theorem dX7_standing_95 : decode cX7_standing 95 = .ok (.invokevirtual 179, 3) := by decide +kernel
theorem dX7_standing_98 : decode cX7_standing 98 = .ok (.iload_n 3, 1) := by decide +kernel
theorem dX7_standing_99 : decode cX7_standing 99 = .ok (.iconst (-1), 1) := by decide +kernel
theorem dX7_standing_100 : decode cX7_standing 100 = .ok (.if_icmp .ne 13, 3) := by decide +kernel
theorem dX7_standing_103 : decode cX7_standing 103 = .ok (.aload_n 0, 1) := by decide +kernel
theorem dX7_standing_104 : decode cX7_standing 104 = .ok (.getfield 64, 3) := by decide +kernel
theorem dX7_standing_107 : decode cX7_standing 107 = .ok (.getfield 182, 3) := by decide +kernel
theorem dX7_standing_110 : decode cX7_standing 110 = .ok (.goto 12, 3) := by decide +kernel
theorem dX7_standing_113 : decode cX7_standing 113 = .ok (.aload_n 0, 1) := by decide +kernel
theorem dX7_standing_114 : decode cX7_standing 114 = .ok (.getfield 64, 3) := by decide +kernel
theorem dX7_standing_117 : decode cX7_standing 117 = .ok (.getfield 185, 3) := by decide +kernel
theorem dX7_standing_120 : decode cX7_standing 120 = .ok (.iload_n 3, 1) := by decide +kernel
theorem dX7_standing_121 : decode cX7_standing 121 = .ok (.iaload, 1) := by decide +kernel
theorem dX7_standing_122 : decode cX7_standing 122 = .ok (.ireturn, 1) := by decide +kernel
theorem dX7_hats_0 : decode cX7_hats 0 = .ok (.aload_n 0, 1) := by decide +kernel
theorem dX7_hats_1 : decode cX7_hats 1 = .ok (.getfield 10, 3) := by decide +kernel
theorem dX7_hats_4 : decode cX7_hats 4 = .ok (.iconst 1, 1) := by decide +kernel
theorem dX7_hats_5 : decode cX7_hats 5 = .ok (.iload_n 1, 1) := by decide +kernel
theorem dX7_hats_6 : decode cX7_hats 6 = .ok (.invokevirtual 122, 3) := by decide +kernel
theorem dX7_hats_9 : decode cX7_hats 9 = .ok (.ifCond .eq 20, 3) := by decide +kernel
theorem dX7_hats_12 : decode cX7_hats 12 = .ok (.iload_n 2, 1) := by decide +kernel
theorem dX7_hats_13 : decode cX7_hats 13 = .ok (.iconst (-1), 1) := by decide +kernel
theorem dX7_hats_14 : decode cX7_hats 14 = .ok (.if_icmp .eq 18, 3) := by decide +kernel
theorem dX7_hats_17 : decode cX7_hats 17 = .ok (.aload_n 0, 1) := by decide +kernel
theorem dX7_hats_18 : decode cX7_hats 18 = .ok (.getfield 10, 3) := by decide +kernel
theorem dX7_hats_21 : decode cX7_hats 21 = .ok (.iconst 4, 1) := by decide +kernel
theorem dX7_hats_22 : decode cX7_hats 22 = .ok (.iload_n 2, 1) := by decide +kernel
theorem dX7_hats_23 : decode cX7_hats 23 = .ok (.invokevirtual 122, 3) := by decide +kernel
theorem dX7_hats_26 : decode cX7_hats 26 = .ok (.ifCond .ne 6, 3) := by decide +kernel
theorem dX7_hats_29 : decode cX7_hats 29 = .ok (.ldc 126, 2) := by decide +kernel
theorem dX7_hats_31 : decode cX7_hats 31 = .ok (.ireturn, 1) := by decide +kernel
theorem dX7_hats_32 : decode cX7_hats 32 = .ok (.aload_n 0, 1) := by decide +kernel
theorem dX7_hats_33 : decode cX7_hats 33 = .ok (.getfield 55, 3) := by decide +kernel
theorem dX7_hats_36 : decode cX7_hats 36 = .ok (.aload_n 0, 1) := by decide +kernel
theorem dX7_hats_37 : decode cX7_hats 37 = .ok (.getfield 26, 3) := by decide +kernel
theorem dX7_hats_40 : decode cX7_hats 40 = .ok (.iconst 0, 1) := by decide +kernel
theorem dX7_hats_41 : decode cX7_hats 41 = .ok (.invokevirtual 172, 3) := by decide +kernel
theorem dX7_hats_44 : decode cX7_hats 44 = .ok (.aload_n 0, 1) := by decide +kernel
theorem dX7_hats_45 : decode cX7_hats 45 = .ok (.getfield 55, 3) := by decide +kernel
theorem dX7_hats_48 : decode cX7_hats 48 = .ok (.aload_n 0, 1) := by decide +kernel
theorem dX7_hats_49 : decode cX7_hats 49 = .ok (.getfield 10, 3) := by decide +kernel
theorem dX7_hats_52 : decode cX7_hats 52 = .ok (.iload_n 1, 1) := by decide +kernel
theorem dX7_hats_53 : decode cX7_hats 53 = .ok (.aload_n 0, 1) := by decide +kernel
theorem dX7_hats_54 : decode cX7_hats 54 = .ok (.getfield 26, 3) := by decide +kernel
theorem dX7_hats_57 : decode cX7_hats 57 = .ok (.getfield 113, 3) := by decide +kernel
theorem dX7_hats_60 : decode cX7_hats 60 = .ok (.invokevirtual 128, 3) := by decide +kernel
theorem dX7_hats_63 : decode cX7_hats 63 = .ok (.aload_n 0, 1) := by decide +kernel
theorem dX7_hats_64 : decode cX7_hats 64 = .ok (.getfield 26, 3) := by decide +kernel
theorem dX7_hats_67 : decode cX7_hats 67 = .ok (.getfield 116, 3) := by decide +kernel
theorem dX7_hats_70 : decode cX7_hats 70 = .ok (.invokevirtual 176, 3) := by decide +kernel
theorem dX7_hats_73 : decode cX7_hats 73 = .ok (.aload_n 0, 1) := by decide +kernel
theorem dX7_hats_74 : decode cX7_hats 74 = .ok (.getfield 71, 3) := by decide +kernel
theorem dX7_hats_77 : decode cX7_hats 77 = .ok (.invokevirtual 188, 3) := by decide +kernel
theorem dX7_hats_80 : decode cX7_hats 80 = .ok (.iload_n 2, 1) := by decide +kernel
theorem dX7_hats_81 : decode cX7_hats 81 = .ok (.iconst (-1), 1) := by decide +kernel
theorem dX7_hats_82 : decode cX7_hats 82 = .ok (.if_icmp .ne 13, 3) := by decide +kernel
theorem dX7_hats_85 : decode cX7_hats 85 = .ok (.aload_n 0, 1) := by decide +kernel
theorem dX7_hats_86 : decode cX7_hats 86 = .ok (.getfield 71, 3) := by decide +kernel
theorem dX7_hats_89 : decode cX7_hats 89 = .ok (.getfield 190, 3) := by decide +kernel
theorem dX7_hats_92 : decode cX7_hats 92 = .ok (.goto 12, 3) := by decide +kernel
theorem dX7_hats_95 : decode cX7_hats 95 = .ok (.aload_n 0, 1) := by decide +kernel
theorem dX7_hats_96 : decode cX7_hats 96 = .ok (.getfield 71, 3) := by decide +kernel
theorem dX7_hats_99 : decode cX7_hats 99 = .ok (.getfield 191, 3) := by decide +kernel
theorem dX7_hats_102 : decode cX7_hats 102 = .ok (.iload_n 2, 1) := by decide +kernel
theorem dX7_hats_103 : decode cX7_hats 103 = .ok (.iaload, 1) := by decide +kernel
theorem dX7_hats_104 : decode cX7_hats 104 = .ok (.ireturn, 1) := by decide +kernel
theorem dX7_giant_0 : decode cX7_giant 0 = .ok (.aload_n 0, 1) := by decide +kernel
theorem dX7_giant_1 : decode cX7_giant 1 = .ok (.getfield 10, 3) := by decide +kernel
theorem dX7_giant_4 : decode cX7_giant 4 = .ok (.iconst 1, 1) := by decide +kernel
theorem dX7_giant_5 : decode cX7_giant 5 = .ok (.iload_n 1, 1) := by decide +kernel
theorem dX7_giant_6 : decode cX7_giant 6 = .ok (.invokevirtual 122, 3) := by decide +kernel
theorem dX7_giant_9 : decode cX7_giant 9 = .ok (.ifCond .ne 6, 3) := by decide +kernel
theorem dX7_giant_12 : decode cX7_giant 12 = .ok (.ldc 126, 2) := by decide +kernel
theorem dX7_giant_14 : decode cX7_giant 14 = .ok (.ireturn, 1) := by decide +kernel
theorem dX7_giant_15 : decode cX7_giant 15 = .ok (.iload_n 2, 1) := by decide +kernel
theorem dX7_giant_16 : decode cX7_giant 16 = .ok (.iconst 1, 1) := by decide +kernel
theorem dX7_giant_17 : decode cX7_giant 17 = .ok (.if_icmp .lt 32, 3) := by decide +kernel
theorem dX7_giant_20 : decode cX7_giant 20 = .ok (.iload_n 2, 1) := by decide +kernel
theorem dX7_giant_21 : decode cX7_giant 21 = .ok (.sipush 200, 3) := by decide +kernel
theorem dX7_giant_24 : decode cX7_giant 24 = .ok (.if_icmp .gt 25, 3) := by decide +kernel
theorem dX7_giant_27 : decode cX7_giant 27 = .ok (.iload_n 3, 1) := by decide +kernel
theorem dX7_giant_28 : decode cX7_giant 28 = .ok (.ifCond .lt 21, 3) := by decide +kernel
theorem dX7_giant_31 : decode cX7_giant 31 = .ok (.iload_n 3, 1) := by decide +kernel
theorem dX7_giant_32 : decode cX7_giant 32 = .ok (.sipush 999, 3) := by decide +kernel
theorem dX7_giant_35 : decode cX7_giant 35 = .ok (.if_icmp .gt 14, 3) := by decide +kernel
theorem dX7_giant_38 : decode cX7_giant 38 = .ok (.iload 4, 2) := by decide +kernel
theorem dX7_giant_40 : decode cX7_giant 40 = .ok (.ifCond .lt 9, 3) := by decide +kernel
theorem dX7_giant_43 : decode cX7_giant 43 = .ok (.iload 4, 2) := by decide +kernel
theorem dX7_giant_45 : decode cX7_giant 45 = .ok (.iconst 1, 1) := by decide +kernel
theorem dX7_giant_46 : decode cX7_giant 46 = .ok (.if_icmp .le 6, 3) := by decide +kernel
theorem dX7_giant_49 : decode cX7_giant 49 = .ok (.ldc 75, 2) := by decide +kernel
theorem dX7_giant_51 : decode cX7_giant 51 = .ok (.ireturn, 1) := by decide +kernel
theorem dX7_giant_52 : decode cX7_giant 52 = .ok (.aload_n 0, 1) := by decide +kernel
theorem dX7_giant_53 : decode cX7_giant 53 = .ok (.iload_n 1, 1) := by decide +kernel
theorem dX7_giant_54 : decode cX7_giant 54 = .ok (.aload_n 0, 1) := by decide +kernel
theorem dX7_giant_55 : decode cX7_giant 55 = .ok (.getfield 26, 3) := by decide +kernel
theorem dX7_giant_58 : decode cX7_giant 58 = .ok (.getfield 113, 3) := by decide +kernel
theorem dX7_giant_61 : decode cX7_giant 61 = .ok (.invokevirtual 155, 3) := by decide +kernel
theorem dX7_giant_64 : decode cX7_giant 64 = .ok (.aload_n 0, 1) := by decide +kernel
theorem dX7_giant_65 : decode cX7_giant 65 = .ok (.getfield 55, 3) := by decide +kernel
theorem dX7_giant_68 : decode cX7_giant 68 = .ok (.invokevirtual 192, 3) := by decide +kernel
theorem dX7_giant_71 : decode cX7_giant 71 = .ok (.istore 5, 2) := by decide +kernel
theorem dX7_giant_73 : decode cX7_giant 73 = .ok (.aload_n 0, 1) := by decide +kernel
theorem dX7_giant_74 : decode cX7_giant 74 = .ok (.getfield 55, 3) := by decide +kernel
theorem dX7_giant_77 : decode cX7_giant 77 = .ok (.iload_n 2, 1) := by decide +kernel
theorem dX7_giant_78 : decode cX7_giant 78 = .ok (.invokevirtual 195, 3) := by decide +kernel
theorem dX7_giant_81 : decode cX7_giant 81 = .ok (.istore 6, 2) := by decide +kernel
theorem dX7_giant_83 : decode cX7_giant 83 = .ok (.iconst (-1), 1) := by decide +kernel
theorem dX7_giant_84 : decode cX7_giant 84 = .ok (.istore 7, 2) := by decide +kernel
theorem dX7_giant_86 : decode cX7_giant 86 = .ok (.iconst 0, 1) := by decide +kernel
theorem dX7_giant_87 : decode cX7_giant 87 = .ok (.istore 8, 2) := by decide +kernel
theorem dX7_giant_89 : decode cX7_giant 89 = .ok (.iconst 0, 1) := by decide +kernel
theorem dX7_giant_90 : decode cX7_giant 90 = .ok (.istore 9, 2) := by decide +kernel
theorem dX7_giant_92 : decode cX7_giant 92 = .ok (.iload 9, 2) := by decide +kernel
theorem dX7_giant_94 : decode cX7_giant 94 = .ok (.aload_n 0, 1) := by decide +kernel
theorem dX7_giant_95 : decode cX7_giant 95 = .ok (.getfield 10, 3) := by decide +kernel
theorem dX7_giant_98 : decode cX7_giant 98 = .ok (.iconst 2, 1) := by decide +kernel
theorem dX7_giant_99 : decode cX7_giant 99 = .ok (.invokevirtual 103, 3) := by decide +kernel
theorem dX7_giant_102 : decode cX7_giant 102 = .ok (.if_icmp .ge 88, 3) := by decide +kernel
theorem dX7_giant_105 : decode cX7_giant 105 = .ok (.aload_n 0, 1) := by decide +kernel
theorem dX7_giant_106 : decode cX7_giant 106 = .ok (.getfield 55, 3) := by decide +kernel
theorem dX7_giant_109 : decode cX7_giant 109 = .ok (.getfield 198, 3) := by decide +kernel
theorem dX7_giant_112 : decode cX7_giant 112 = .ok (.iload 9, 2) := by decide +kernel
theorem dX7_giant_114 : decode cX7_giant 114 = .ok (.iaload, 1) := by decide +kernel
theorem dX7_giant_115 : decode cX7_giant 115 = .ok (.iconst (-1), 1) := by decide +kernel
theorem dX7_giant_116 : decode cX7_giant 116 = .ok (.if_icmp .ne 68, 3) := by decide +kernel
theorem dX7_giant_119 : decode cX7_giant 119 = .ok (.aload_n 0, 1) := by decide +kernel
theorem dX7_giant_120 : decode cX7_giant 120 = .ok (.getfield 55, 3) := by decide +kernel
theorem dX7_giant_123 : decode cX7_giant 123 = .ok (.getfield 198, 3) := by decide +kernel
theorem dX7_giant_126 : decode cX7_giant 126 = .ok (.iload 9, 2) := by decide +kernel
theorem dX7_giant_128 : decode cX7_giant 128 = .ok (.iload 6, 2) := by decide +kernel
theorem dX7_giant_130 : decode cX7_giant 130 = .ok (.iastore, 1) := by decide +kernel
theorem dX7_giant_131 : decode cX7_giant 131 = .ok (.aload_n 0, 1) := by decide +kernel
theorem dX7_giant_132 : decode cX7_giant 132 = .ok (.getfield 55, 3) := by decide +kernel
theorem dX7_giant_135 : decode cX7_giant 135 = .ok (.invokevirtual 201, 3) := by decide +kernel
theorem dX7_giant_138 : decode cX7_giant 138 = .ok (.aload_n 0, 1) := by decide +kernel
theorem dX7_giant_139 : decode cX7_giant 139 = .ok (.getfield 55, 3) := by decide +kernel
theorem dX7_giant_142 : decode cX7_giant 142 = .ok (.getfield 198, 3) := by decide +kernel
theorem dX7_giant_145 : decode cX7_giant 145 = .ok (.iload 9, 2) := by decide +kernel
theorem dX7_giant_147 : decode cX7_giant 147 = .ok (.iconst (-1), 1) := by decide +kernel
theorem dX7_giant_148 : decode cX7_giant 148 = .ok (.iastore, 1) := by decide +kernel
theorem dX7_giant_149 : decode cX7_giant 149 = .ok (.aload_n 0, 1) := by decide +kernel
theorem dX7_giant_150 : decode cX7_giant 150 = .ok (.getfield 55, 3) := by decide +kernel
theorem dX7_giant_153 : decode cX7_giant 153 = .ok (.invokevirtual 192, 3) := by decide +kernel
theorem dX7_giant_156 : decode cX7_giant 156 = .ok (.iload 5, 2) := by decide +kernel
theorem dX7_giant_158 : decode cX7_giant 158 = .ok (.isub, 1) := by decide +kernel
theorem dX7_giant_159 : decode cX7_giant 159 = .ok (.iload_n 3, 1) := by decide +kernel
theorem dX7_giant_160 : decode cX7_giant 160 = .ok (.isub, 1) := by decide +kernel
theorem dX7_giant_161 : decode cX7_giant 161 = .ok (.istore 10, 2) := by decide +kernel
theorem dX7_giant_163 : decode cX7_giant 163 = .ok (.iload 7, 2) := by decide +kernel
theorem dX7_giant_165 : decode cX7_giant 165 = .ok (.iconst (-1), 1) := by decide +kernel
theorem dX7_giant_166 : decode cX7_giant 166 = .ok (.if_icmp .eq 10, 3) := by decide +kernel
theorem dX7_giant_169 : decode cX7_giant 169 = .ok (.iload 10, 2) := by decide +kernel
theorem dX7_giant_171 : decode cX7_giant 171 = .ok (.iload 8, 2) := by decide +kernel
theorem dX7_giant_173 : decode cX7_giant 173 = .ok (.if_icmp .le 11, 3) := by decide +kernel
theorem dX7_giant_176 : decode cX7_giant 176 = .ok (.iload 9, 2) := by decide +kernel
theorem dX7_giant_178 : decode cX7_giant 178 = .ok (.istore 7, 2) := by decide +kernel
theorem dX7_giant_180 : decode cX7_giant 180 = .ok (.iload 10, 2) := by decide +kernel
theorem dX7_giant_182 : decode cX7_giant 182 = .ok (.istore 8, 2) := by decide +kernel
theorem dX7_giant_184 : decode cX7_giant 184 = .ok (.iinc 9 1, 3) := by decide +kernel
theorem dX7_giant_187 : decode cX7_giant 187 = .ok (.goto (-95), 3) := by decide +kernel
theorem dX7_giant_190 : decode cX7_giant 190 = .ok (.iload 4, 2) := by decide +kernel
theorem dX7_giant_192 : decode cX7_giant 192 = .ok (.ifCond .ne 8, 3) := by decide +kernel
theorem dX7_giant_195 : decode cX7_giant 195 = .ok (.iload 7, 2) := by decide +kernel
theorem dX7_giant_197 : decode cX7_giant 197 = .ok (.goto 5, 3) := by decide +kernel
theorem dX7_giant_200 : decode cX7_giant 200 = .ok (.iload 8, 2) := by decide +kernel
theorem dX7_giant_202 : decode cX7_giant 202 = .ok (.ireturn, 1) := by decide +kernel
theorem dX7_peace_0 : decode cX7_peace 0 = .ok (.aload_n 0, 1) := by decide +kernel
theorem dX7_peace_1 : decode cX7_peace 1 = .ok (.getfield 10, 3) := by decide +kernel
theorem dX7_peace_4 : decode cX7_peace 4 = .ok (.iconst 1, 1) := by decide +kernel
theorem dX7_peace_5 : decode cX7_peace 5 = .ok (.iload_n 1, 1) := by decide +kernel
theorem dX7_peace_6 : decode cX7_peace 6 = .ok (.invokevirtual 122, 3) := by decide +kernel
theorem dX7_peace_9 : decode cX7_peace 9 = .ok (.ifCond .ne 6, 3) := by decide +kernel
theorem dX7_peace_12 : decode cX7_peace 12 = .ok (.ldc 126, 2) := by decide +kernel
theorem dX7_peace_14 : decode cX7_peace 14 = .ok (.ireturn, 1) := by decide +kernel
theorem dX7_peace_15 : decode cX7_peace 15 = .ok (.iload_n 2, 1) := by decide +kernel
theorem dX7_peace_16 : decode cX7_peace 16 = .ok (.ifCond .lt 10, 3) := by decide +kernel
theorem dX7_peace_19 : decode cX7_peace 19 = .ok (.iload_n 2, 1) := by decide +kernel
theorem dX7_peace_20 : decode cX7_peace 20 = .ok (.sipush 999, 3) := by decide +kernel
theorem dX7_peace_23 : decode cX7_peace 23 = .ok (.if_icmp .le 6, 3) := by decide +kernel
theorem dX7_peace_26 : decode cX7_peace 26 = .ok (.ldc 75, 2) := by decide +kernel
theorem dX7_peace_28 : decode cX7_peace 28 = .ok (.ireturn, 1) := by decide +kernel
theorem dX7_peace_29 : decode cX7_peace 29 = .ok (.aload_n 0, 1) := by decide +kernel
theorem dX7_peace_30 : decode cX7_peace 30 = .ok (.iload_n 1, 1) := by decide +kernel
theorem dX7_peace_31 : decode cX7_peace 31 = .ok (.aload_n 0, 1) := by decide +kernel
theorem dX7_peace_32 : decode cX7_peace 32 = .ok (.getfield 26, 3) := by decide +kernel
theorem dX7_peace_35 : decode cX7_peace 35 = .ok (.getfield 113, 3) := by decide +kernel
theorem dX7_peace_38 : decode cX7_peace 38 = .ok (.invokevirtual 155, 3) := by decide +kernel
theorem dX7_peace_41 : decode cX7_peace 41 = .ok (.aload_n 0, 1) := by decide +kernel
theorem dX7_peace_42 : decode cX7_peace 42 = .ok (.getfield 55, 3) := by decide +kernel
theorem dX7_peace_45 : decode cX7_peace 45 = .ok (.iload_n 2, 1) := by decide +kernel
theorem dX7_peace_46 : decode cX7_peace 46 = .ok (.invokevirtual 204, 3) := by decide +kernel
theorem dX7_peace_49 : decode cX7_peace 49 = .ok (.ireturn, 1) := by decide +kernel
theorem dX7_bread_0 : decode cX7_bread 0 = .ok (.aload_n 0, 1) := by decide +kernel
theorem dX7_bread_1 : decode cX7_bread 1 = .ok (.getfield 10, 3) := by decide +kernel
theorem dX7_bread_4 : decode cX7_bread 4 = .ok (.iconst 1, 1) := by decide +kernel
theorem dX7_bread_5 : decode cX7_bread 5 = .ok (.iload_n 1, 1) := by decide +kernel
theorem dX7_bread_6 : decode cX7_bread 6 = .ok (.invokevirtual 122, 3) := by decide +kernel
theorem dX7_bread_9 : decode cX7_bread 9 = .ok (.ifCond .ne 6, 3) := by decide +kernel
theorem dX7_bread_12 : decode cX7_bread 12 = .ok (.ldc 126, 2) := by decide +kernel
theorem dX7_bread_14 : decode cX7_bread 14 = .ok (.ireturn, 1) := by decide +kernel
theorem dX7_bread_15 : decode cX7_bread 15 = .ok (.iload_n 2, 1) := by decide +kernel
theorem dX7_bread_16 : decode cX7_bread 16 = .ok (.ifCond .lt 10, 3) := by decide +kernel
theorem dX7_bread_19 : decode cX7_bread 19 = .ok (.iload_n 2, 1) := by decide +kernel
theorem dX7_bread_20 : decode cX7_bread 20 = .ok (.sipush 9999, 3) := by decide +kernel
theorem dX7_bread_23 : decode cX7_bread 23 = .ok (.if_icmp .le 6, 3) := by decide +kernel
theorem dX7_bread_26 : decode cX7_bread 26 = .ok (.ldc 75, 2) := by decide +kernel
theorem dX7_bread_28 : decode cX7_bread 28 = .ok (.ireturn, 1) := by decide +kernel
theorem dX7_bread_29 : decode cX7_bread 29 = .ok (.aload_n 0, 1) := by decide +kernel
theorem dX7_bread_30 : decode cX7_bread 30 = .ok (.iload_n 1, 1) := by decide +kernel
theorem dX7_bread_31 : decode cX7_bread 31 = .ok (.aload_n 0, 1) := by decide +kernel
theorem dX7_bread_32 : decode cX7_bread 32 = .ok (.getfield 26, 3) := by decide +kernel
theorem dX7_bread_35 : decode cX7_bread 35 = .ok (.getfield 113, 3) := by decide +kernel
theorem dX7_bread_38 : decode cX7_bread 38 = .ok (.invokevirtual 155, 3) := by decide +kernel
theorem dX7_bread_41 : decode cX7_bread 41 = .ok (.iconst (-1), 1) := by decide +kernel
theorem dX7_bread_42 : decode cX7_bread 42 = .ok (.istore_n 3, 1) := by decide +kernel
theorem dX7_bread_43 : decode cX7_bread 43 = .ok (.iconst 0, 1) := by decide +kernel
theorem dX7_bread_44 : decode cX7_bread 44 = .ok (.istore 4, 2) := by decide +kernel
theorem dX7_bread_46 : decode cX7_bread 46 = .ok (.iload 4, 2) := by decide +kernel
theorem dX7_bread_48 : decode cX7_bread 48 = .ok (.sipush 999, 3) := by decide +kernel
theorem dX7_bread_51 : decode cX7_bread 51 = .ok (.if_icmp .gt 25, 3) := by decide +kernel
theorem dX7_bread_54 : decode cX7_bread 54 = .ok (.aload_n 0, 1) := by decide +kernel
theorem dX7_bread_55 : decode cX7_bread 55 = .ok (.getfield 55, 3) := by decide +kernel
theorem dX7_bread_58 : decode cX7_bread 58 = .ok (.iload 4, 2) := by decide +kernel
theorem dX7_bread_60 : decode cX7_bread 60 = .ok (.invokevirtual 204, 3) := by decide +kernel
theorem dX7_bread_63 : decode cX7_bread 63 = .ok (.iload_n 2, 1) := by decide +kernel
theorem dX7_bread_64 : decode cX7_bread 64 = .ok (.if_icmp .gt 12, 3) := by decide +kernel
theorem dX7_bread_67 : decode cX7_bread 67 = .ok (.iload 4, 2) := by decide +kernel
theorem dX7_bread_69 : decode cX7_bread 69 = .ok (.istore_n 3, 1) := by decide +kernel
theorem dX7_bread_70 : decode cX7_bread 70 = .ok (.iinc 4 1, 3) := by decide +kernel
theorem dX7_bread_73 : decode cX7_bread 73 = .ok (.goto (-27), 3) := by decide +kernel
theorem dX7_bread_76 : decode cX7_bread 76 = .ok (.iload_n 3, 1) := by decide +kernel
theorem dX7_bread_77 : decode cX7_bread 77 = .ok (.ireturn, 1) := by decide +kernel
theorem dX7_best_0 : decode cX7_best 0 = .ok (.aload_n 0, 1) := by decide +kernel
theorem dX7_best_1 : decode cX7_best 1 = .ok (.getfield 10, 3) := by decide +kernel
theorem dX7_best_4 : decode cX7_best 4 = .ok (.iconst 3, 1) := by decide +kernel
theorem dX7_best_5 : decode cX7_best 5 = .ok (.iload_n 1, 1) := by decide +kernel
theorem dX7_best_6 : decode cX7_best 6 = .ok (.invokevirtual 122, 3) := by decide +kernel
theorem dX7_best_9 : decode cX7_best 9 = .ok (.ifCond .ne 6, 3) := by decide +kernel
theorem dX7_best_12 : decode cX7_best 12 = .ok (.ldc 126, 2) := by decide +kernel
theorem dX7_best_14 : decode cX7_best 14 = .ok (.ireturn, 1) := by decide +kernel
theorem dX7_best_15 : decode cX7_best 15 = .ok (.iload_n 2, 1) := by decide +kernel
theorem dX7_best_16 : decode cX7_best 16 = .ok (.ifCond .lt 8, 3) := by decide +kernel
theorem dX7_best_19 : decode cX7_best 19 = .ok (.iload_n 2, 1) := by decide +kernel
theorem dX7_best_20 : decode cX7_best 20 = .ok (.iconst 1, 1) := by decide +kernel
theorem dX7_best_21 : decode cX7_best 21 = .ok (.if_icmp .le 6, 3) := by decide +kernel
theorem dX7_best_24 : decode cX7_best 24 = .ok (.ldc 75, 2) := by decide +kernel
theorem dX7_best_26 : decode cX7_best 26 = .ok (.ireturn, 1) := by decide +kernel
theorem dX7_best_27 : decode cX7_best 27 = .ok (.iconst 0, 1) := by decide +kernel
theorem dX7_best_28 : decode cX7_best 28 = .ok (.istore_n 3, 1) := by decide +kernel
theorem dX7_best_29 : decode cX7_best 29 = .ok (.aload_n 0, 1) := by decide +kernel
theorem dX7_best_30 : decode cX7_best 30 = .ok (.iload_n 1, 1) := by decide +kernel
theorem dX7_best_31 : decode cX7_best 31 = .ok (.iconst 0, 1) := by decide +kernel
theorem dX7_best_32 : decode cX7_best 32 = .ok (.invokevirtual 207, 3) := by decide +kernel
theorem dX7_best_35 : decode cX7_best 35 = .ok (.istore 4, 2) := by decide +kernel
theorem dX7_best_37 : decode cX7_best 37 = .ok (.iconst 1, 1) := by decide +kernel
theorem dX7_best_38 : decode cX7_best 38 = .ok (.istore 5, 2) := by decide +kernel
theorem dX7_best_40 : decode cX7_best 40 = .ok (.iload 5, 2) := by decide +kernel
theorem dX7_best_42 : decode cX7_best 42 = .ok (.aload_n 0, 1) := by decide +kernel
theorem dX7_best_43 : decode cX7_best 43 = .ok (.getfield 10, 3) := by decide +kernel
theorem dX7_best_46 : decode cX7_best 46 = .ok (.invokevirtual 109, 3) := by decide +kernel
theorem dX7_best_49 : decode cX7_best 49 = .ok (.if_icmp .ge 32, 3) := by decide +kernel
theorem dX7_best_52 : decode cX7_best 52 = .ok (.aload_n 0, 1) := by decide +kernel
theorem dX7_best_53 : decode cX7_best 53 = .ok (.iload_n 1, 1) := by decide +kernel
theorem dX7_best_54 : decode cX7_best 54 = .ok (.iload 5, 2) := by decide +kernel
theorem dX7_best_56 : decode cX7_best 56 = .ok (.invokevirtual 207, 3) := by decide +kernel
theorem dX7_best_59 : decode cX7_best 59 = .ok (.istore 6, 2) := by decide +kernel
theorem dX7_best_61 : decode cX7_best 61 = .ok (.iload 6, 2) := by decide +kernel
theorem dX7_best_63 : decode cX7_best 63 = .ok (.iload 4, 2) := by decide +kernel
theorem dX7_best_65 : decode cX7_best 65 = .ok (.if_icmp .le 10, 3) := by decide +kernel
theorem dX7_best_68 : decode cX7_best 68 = .ok (.iload 5, 2) := by decide +kernel
theorem dX7_best_70 : decode cX7_best 70 = .ok (.istore_n 3, 1) := by decide +kernel
theorem dX7_best_71 : decode cX7_best 71 = .ok (.iload 6, 2) := by decide +kernel
theorem dX7_best_73 : decode cX7_best 73 = .ok (.istore 4, 2) := by decide +kernel
theorem dX7_best_75 : decode cX7_best 75 = .ok (.iinc 5 1, 3) := by decide +kernel
theorem dX7_best_78 : decode cX7_best 78 = .ok (.goto (-38), 3) := by decide +kernel
theorem dX7_best_81 : decode cX7_best 81 = .ok (.iload_n 2, 1) := by decide +kernel
theorem dX7_best_82 : decode cX7_best 82 = .ok (.ifCond .ne 7, 3) := by decide +kernel
theorem dX7_best_85 : decode cX7_best 85 = .ok (.iload_n 3, 1) := by decide +kernel
theorem dX7_best_86 : decode cX7_best 86 = .ok (.goto 5, 3) := by decide +kernel
theorem dX7_best_89 : decode cX7_best 89 = .ok (.iload 4, 2) := by decide +kernel
theorem dX7_best_91 : decode cX7_best 91 = .ok (.ireturn, 1) := by decide +kernel
theorem dX7_tell_0 : decode cX7_tell 0 = .ok (.aload_n 0, 1) := by decide +kernel
theorem dX7_tell_1 : decode cX7_tell 1 = .ok (.getfield 10, 3) := by decide +kernel
theorem dX7_tell_4 : decode cX7_tell 4 = .ok (.iconst 1, 1) := by decide +kernel
theorem dX7_tell_5 : decode cX7_tell 5 = .ok (.iload_n 1, 1) := by decide +kernel
theorem dX7_tell_6 : decode cX7_tell 6 = .ok (.invokevirtual 122, 3) := by decide +kernel
theorem dX7_tell_9 : decode cX7_tell 9 = .ok (.ifCond .eq 15, 3) := by decide +kernel
theorem dX7_tell_12 : decode cX7_tell 12 = .ok (.aload_n 0, 1) := by decide +kernel
theorem dX7_tell_13 : decode cX7_tell 13 = .ok (.getfield 10, 3) := by decide +kernel
theorem dX7_tell_16 : decode cX7_tell 16 = .ok (.iconst 2, 1) := by decide +kernel
theorem dX7_tell_17 : decode cX7_tell 17 = .ok (.iload_n 3, 1) := by decide +kernel
theorem dX7_tell_18 : decode cX7_tell 18 = .ok (.invokevirtual 122, 3) := by decide +kernel
theorem dX7_tell_21 : decode cX7_tell 21 = .ok (.ifCond .ne 6, 3) := by decide +kernel
theorem dX7_tell_24 : decode cX7_tell 24 = .ok (.ldc 126, 2) := by decide +kernel
theorem dX7_tell_26 : decode cX7_tell 26 = .ok (.ireturn, 1) := by decide +kernel
theorem dX7_tell_27 : decode cX7_tell 27 = .ok (.iload_n 2, 1) := by decide +kernel
theorem dX7_tell_28 : decode cX7_tell 28 = .ok (.ifCond .lt 23, 3) := by decide +kernel
theorem dX7_tell_31 : decode cX7_tell 31 = .ok (.iload_n 2, 1) := by decide +kernel
theorem dX7_tell_32 : decode cX7_tell 32 = .ok (.sipush 999, 3) := by decide +kernel
theorem dX7_tell_35 : decode cX7_tell 35 = .ok (.if_icmp .gt 16, 3) := by decide +kernel
theorem dX7_tell_38 : decode cX7_tell 38 = .ok (.iload 4, 2) := by decide +kernel
theorem dX7_tell_40 : decode cX7_tell 40 = .ok (.ifCond .lt 11, 3) := by decide +kernel
theorem dX7_tell_43 : decode cX7_tell 43 = .ok (.iload 4, 2) := by decide +kernel
theorem dX7_tell_45 : decode cX7_tell 45 = .ok (.sipush 999, 3) := by decide +kernel
theorem dX7_tell_48 : decode cX7_tell 48 = .ok (.if_icmp .le 6, 3) := by decide +kernel
theorem dX7_tell_51 : decode cX7_tell 51 = .ok (.ldc 75, 2) := by decide +kernel
theorem dX7_tell_53 : decode cX7_tell 53 = .ok (.ireturn, 1) := by decide +kernel
theorem dX7_tell_54 : decode cX7_tell 54 = .ok (.aload_n 0, 1) := by decide +kernel
theorem dX7_tell_55 : decode cX7_tell 55 = .ok (.getfield 43, 3) := by decide +kernel
theorem dX7_tell_58 : decode cX7_tell 58 = .ok (.invokevirtual 210, 3) := by decide +kernel
theorem dX7_tell_61 : decode cX7_tell 61 = .ok (.ifCond .eq 6, 3) := by decide +kernel
theorem dX7_tell_64 : decode cX7_tell 64 = .ok (.ldc 80, 2) := by decide +kernel
theorem dX7_tell_66 : decode cX7_tell 66 = .ok (.ireturn, 1) := by decide +kernel
theorem dX7_tell_67 : decode cX7_tell 67 = .ok (.aload_n 0, 1) := by decide +kernel
theorem dX7_tell_68 : decode cX7_tell 68 = .ok (.getfield 43, 3) := by decide +kernel
theorem dX7_tell_71 : decode cX7_tell 71 = .ok (.iload_n 1, 1) := by decide +kernel
theorem dX7_tell_72 : decode cX7_tell 72 = .ok (.iload_n 2, 1) := by decide +kernel
theorem dX7_tell_73 : decode cX7_tell 73 = .ok (.iload_n 3, 1) := by decide +kernel
theorem dX7_tell_74 : decode cX7_tell 74 = .ok (.iload 4, 2) := by decide +kernel
theorem dX7_tell_76 : decode cX7_tell 76 = .ok (.invokevirtual 214, 3) := by decide +kernel
theorem dX7_tell_79 : decode cX7_tell 79 = .ok (.aload_n 0, 1) := by decide +kernel
theorem dX7_tell_80 : decode cX7_tell 80 = .ok (.getfield 43, 3) := by decide +kernel
theorem dX7_tell_83 : decode cX7_tell 83 = .ok (.getfield 100, 3) := by decide +kernel
theorem dX7_tell_86 : decode cX7_tell 86 = .ok (.ireturn, 1) := by decide +kernel
theorem dX7_fits_0 : decode cX7_fits 0 = .ok (.iload_n 1, 1) := by decide +kernel
theorem dX7_fits_1 : decode cX7_fits 1 = .ok (.ifCond .lt 8, 3) := by decide +kernel
theorem dX7_fits_4 : decode cX7_fits 4 = .ok (.iload_n 1, 1) := by decide +kernel
theorem dX7_fits_5 : decode cX7_fits 5 = .ok (.iconst 2, 1) := by decide +kernel
theorem dX7_fits_6 : decode cX7_fits 6 = .ok (.if_icmp .le 6, 3) := by decide +kernel
theorem dX7_fits_9 : decode cX7_fits 9 = .ok (.ldc 75, 2) := by decide +kernel
theorem dX7_fits_11 : decode cX7_fits 11 = .ok (.ireturn, 1) := by decide +kernel
theorem dX7_fits_12 : decode cX7_fits 12 = .ok (.iconst 0, 1) := by decide +kernel
theorem dX7_fits_13 : decode cX7_fits 13 = .ok (.istore_n 2, 1) := by decide +kernel
theorem dX7_fits_14 : decode cX7_fits 14 = .ok (.iconst (-1), 1) := by decide +kernel
theorem dX7_fits_15 : decode cX7_fits 15 = .ok (.istore_n 3, 1) := by decide +kernel
theorem dX7_fits_16 : decode cX7_fits 16 = .ok (.iconst (-1), 1) := by decide +kernel
theorem dX7_fits_17 : decode cX7_fits 17 = .ok (.istore 4, 2) := by decide +kernel
theorem dX7_fits_19 : decode cX7_fits 19 = .ok (.iconst 1, 1) := by decide +kernel
theorem dX7_fits_20 : decode cX7_fits 20 = .ok (.istore 5, 2) := by decide +kernel
theorem dX7_fits_22 : decode cX7_fits 22 = .ok (.iload 5, 2) := by decide +kernel
theorem dX7_fits_24 : decode cX7_fits 24 = .ok (.bipush 110, 2) := by decide +kernel
theorem dX7_fits_26 : decode cX7_fits 26 = .ok (.if_icmp .gt 37, 3) := by decide +kernel
theorem dX7_fits_29 : decode cX7_fits 29 = .ok (.aload_n 0, 1) := by decide +kernel
theorem dX7_fits_30 : decode cX7_fits 30 = .ok (.iload 5, 2) := by decide +kernel
theorem dX7_fits_32 : decode cX7_fits 32 = .ok (.invokevirtual 218, 3) := by decide +kernel
theorem dX7_fits_35 : decode cX7_fits 35 = .ok (.ifCond .eq 22, 3) := by decide +kernel
theorem dX7_fits_38 : decode cX7_fits 38 = .ok (.iinc 2 1, 3) := by decide +kernel
theorem dX7_fits_41 : decode cX7_fits 41 = .ok (.iload_n 3, 1) := by decide +kernel
theorem dX7_fits_42 : decode cX7_fits 42 = .ok (.iconst (-1), 1) := by decide +kernel
theorem dX7_fits_43 : decode cX7_fits 43 = .ok (.if_icmp .ne 8, 3) := by decide +kernel
theorem dX7_fits_46 : decode cX7_fits 46 = .ok (.iload 5, 2) := by decide +kernel
theorem dX7_fits_48 : decode cX7_fits 48 = .ok (.goto 4, 3) := by decide +kernel
theorem dX7_fits_51 : decode cX7_fits 51 = .ok (.iload_n 3, 1) := by decide +kernel
theorem dX7_fits_52 : decode cX7_fits 52 = .ok (.istore_n 3, 1) := by decide +kernel
theorem dX7_fits_53 : decode cX7_fits 53 = .ok (.iload 5, 2) := by decide +kernel
theorem dX7_fits_55 : decode cX7_fits 55 = .ok (.istore 4, 2) := by decide +kernel
theorem dX7_fits_57 : decode cX7_fits 57 = .ok (.iinc 5 1, 3) := by decide +kernel
theorem dX7_fits_60 : decode cX7_fits 60 = .ok (.goto (-38), 3) := by decide +kernel
theorem dX7_fits_63 : decode cX7_fits 63 = .ok (.iload_n 1, 1) := by decide +kernel
theorem dX7_fits_64 : decode cX7_fits 64 = .ok (.ifCond .ne 5, 3) := by decide +kernel
theorem dX7_fits_67 : decode cX7_fits 67 = .ok (.iload_n 2, 1) := by decide +kernel
theorem dX7_fits_68 : decode cX7_fits 68 = .ok (.ireturn, 1) := by decide +kernel
theorem dX7_fits_69 : decode cX7_fits 69 = .ok (.iload_n 1, 1) := by decide +kernel
theorem dX7_fits_70 : decode cX7_fits 70 = .ok (.iconst 1, 1) := by decide +kernel
theorem dX7_fits_71 : decode cX7_fits 71 = .ok (.if_icmp .ne 7, 3) := by decide +kernel
theorem dX7_fits_74 : decode cX7_fits 74 = .ok (.iload_n 3, 1) := by decide +kernel
theorem dX7_fits_75 : decode cX7_fits 75 = .ok (.goto 5, 3) := by decide +kernel
theorem dX7_fits_78 : decode cX7_fits 78 = .ok (.iload 4, 2) := by decide +kernel
theorem dX7_fits_80 : decode cX7_fits 80 = .ok (.ireturn, 1) := by decide +kernel
theorem dX7_write_0 : decode cX7_write 0 = .ok (.aload_n 0, 1) := by decide +kernel
theorem dX7_write_1 : decode cX7_write 1 = .ok (.getfield 10, 3) := by decide +kernel
theorem dX7_write_4 : decode cX7_write 4 = .ok (.iconst 1, 1) := by decide +kernel
theorem dX7_write_5 : decode cX7_write 5 = .ok (.iload_n 1, 1) := by decide +kernel
theorem dX7_write_6 : decode cX7_write 6 = .ok (.invokevirtual 122, 3) := by decide +kernel
theorem dX7_write_9 : decode cX7_write 9 = .ok (.ifCond .eq 15, 3) := by decide +kernel
theorem dX7_write_12 : decode cX7_write 12 = .ok (.aload_n 0, 1) := by decide +kernel
theorem dX7_write_13 : decode cX7_write 13 = .ok (.getfield 10, 3) := by decide +kernel
theorem dX7_write_16 : decode cX7_write 16 = .ok (.iconst 3, 1) := by decide +kernel
theorem dX7_write_17 : decode cX7_write 17 = .ok (.iload_n 2, 1) := by decide +kernel
theorem dX7_write_18 : decode cX7_write 18 = .ok (.invokevirtual 122, 3) := by decide +kernel
theorem dX7_write_21 : decode cX7_write 21 = .ok (.ifCond .ne 6, 3) := by decide +kernel
theorem dX7_write_24 : decode cX7_write 24 = .ok (.ldc 126, 2) := by decide +kernel
theorem dX7_write_26 : decode cX7_write 26 = .ok (.ireturn, 1) := by decide +kernel
theorem dX7_write_27 : decode cX7_write 27 = .ok (.iload_n 3, 1) := by decide +kernel
theorem dX7_write_28 : decode cX7_write 28 = .ok (.sipush (-999), 3) := by decide +kernel
theorem dX7_write_31 : decode cX7_write 31 = .ok (.if_icmp .lt 9, 3) := by decide +kernel
theorem dX7_write_34 : decode cX7_write 34 = .ok (.iload_n 3, 1) := by decide +kernel
theorem dX7_write_35 : decode cX7_write 35 = .ok (.ldc 127, 2) := by decide +kernel
theorem dX7_write_37 : decode cX7_write 37 = .ok (.if_icmp .le 6, 3) := by decide +kernel
theorem dX7_write_40 : decode cX7_write 40 = .ok (.ldc 75, 2) := by decide +kernel
theorem dX7_write_42 : decode cX7_write 42 = .ok (.ireturn, 1) := by decide +kernel
theorem dX7_write_43 : decode cX7_write 43 = .ok (.aload_n 0, 1) := by decide +kernel
theorem dX7_write_44 : decode cX7_write 44 = .ok (.getfield 47, 3) := by decide +kernel
theorem dX7_write_47 : decode cX7_write 47 = .ok (.invokevirtual 210, 3) := by decide +kernel
theorem dX7_write_50 : decode cX7_write 50 = .ok (.ifCond .eq 6, 3) := by decide +kernel
theorem dX7_write_53 : decode cX7_write 53 = .ok (.ldc 80, 2) := by decide +kernel
theorem dX7_write_55 : decode cX7_write 55 = .ok (.ireturn, 1) := by decide +kernel
theorem dX7_write_56 : decode cX7_write 56 = .ok (.aload_n 0, 1) := by decide +kernel
theorem dX7_write_57 : decode cX7_write 57 = .ok (.getfield 47, 3) := by decide +kernel
theorem dX7_write_60 : decode cX7_write 60 = .ok (.iload_n 1, 1) := by decide +kernel
theorem dX7_write_61 : decode cX7_write 61 = .ok (.iload_n 2, 1) := by decide +kernel
theorem dX7_write_62 : decode cX7_write 62 = .ok (.iload_n 3, 1) := by decide +kernel
theorem dX7_write_63 : decode cX7_write 63 = .ok (.iconst 0, 1) := by decide +kernel
theorem dX7_write_64 : decode cX7_write 64 = .ok (.invokevirtual 214, 3) := by decide +kernel
theorem dX7_write_67 : decode cX7_write 67 = .ok (.aload_n 0, 1) := by decide +kernel
theorem dX7_write_68 : decode cX7_write 68 = .ok (.getfield 47, 3) := by decide +kernel
theorem dX7_write_71 : decode cX7_write 71 = .ok (.getfield 100, 3) := by decide +kernel
theorem dX7_write_74 : decode cX7_write 74 = .ok (.ireturn, 1) := by decide +kernel
theorem dX7_tear_0 : decode cX7_tear 0 = .ok (.aload_n 0, 1) := by decide +kernel
theorem dX7_tear_1 : decode cX7_tear 1 = .ok (.getfield 43, 3) := by decide +kernel
theorem dX7_tear_4 : decode cX7_tear 4 = .ok (.getfield 100, 3) := by decide +kernel
theorem dX7_tear_7 : decode cX7_tear 7 = .ok (.aload_n 0, 1) := by decide +kernel
theorem dX7_tear_8 : decode cX7_tear 8 = .ok (.getfield 47, 3) := by decide +kernel
theorem dX7_tear_11 : decode cX7_tear 11 = .ok (.getfield 100, 3) := by decide +kernel
theorem dX7_tear_14 : decode cX7_tear 14 = .ok (.iadd, 1) := by decide +kernel
theorem dX7_tear_15 : decode cX7_tear 15 = .ok (.istore_n 1, 1) := by decide +kernel
theorem dX7_tear_16 : decode cX7_tear 16 = .ok (.aload_n 0, 1) := by decide +kernel
theorem dX7_tear_17 : decode cX7_tear 17 = .ok (.getfield 43, 3) := by decide +kernel
theorem dX7_tear_20 : decode cX7_tear 20 = .ok (.iconst 0, 1) := by decide +kernel
theorem dX7_tear_21 : decode cX7_tear 21 = .ok (.putfield 100, 3) := by decide +kernel
theorem dX7_tear_24 : decode cX7_tear 24 = .ok (.aload_n 0, 1) := by decide +kernel
theorem dX7_tear_25 : decode cX7_tear 25 = .ok (.getfield 47, 3) := by decide +kernel
theorem dX7_tear_28 : decode cX7_tear 28 = .ok (.iconst 0, 1) := by decide +kernel
theorem dX7_tear_29 : decode cX7_tear 29 = .ok (.putfield 100, 3) := by decide +kernel
theorem dX7_tear_32 : decode cX7_tear 32 = .ok (.iload_n 1, 1) := by decide +kernel
theorem dX7_tear_33 : decode cX7_tear 33 = .ok (.ireturn, 1) := by decide +kernel
theorem dX7_judge_0 : decode cX7_judge 0 = .ok (.iconst 0, 1) := by decide +kernel
theorem dX7_judge_1 : decode cX7_judge 1 = .ok (.istore_n 1, 1) := by decide +kernel
theorem dX7_judge_2 : decode cX7_judge 2 = .ok (.iload_n 1, 1) := by decide +kernel
theorem dX7_judge_3 : decode cX7_judge 3 = .ok (.aload_n 0, 1) := by decide +kernel
theorem dX7_judge_4 : decode cX7_judge 4 = .ok (.getfield 47, 3) := by decide +kernel
theorem dX7_judge_7 : decode cX7_judge 7 = .ok (.getfield 100, 3) := by decide +kernel
theorem dX7_judge_10 : decode cX7_judge 10 = .ok (.if_icmp .ge 59, 3) := by decide +kernel
theorem dX7_judge_13 : decode cX7_judge 13 = .ok (.aload_n 0, 1) := by decide +kernel
theorem dX7_judge_14 : decode cX7_judge 14 = .ok (.aload_n 0, 1) := by decide +kernel
theorem dX7_judge_15 : decode cX7_judge 15 = .ok (.getfield 47, 3) := by decide +kernel
theorem dX7_judge_18 : decode cX7_judge 18 = .ok (.iload_n 1, 1) := by decide +kernel
theorem dX7_judge_19 : decode cX7_judge 19 = .ok (.iconst 0, 1) := by decide +kernel
theorem dX7_judge_20 : decode cX7_judge 20 = .ok (.invokevirtual 222, 3) := by decide +kernel
theorem dX7_judge_23 : decode cX7_judge 23 = .ok (.aload_n 0, 1) := by decide +kernel
theorem dX7_judge_24 : decode cX7_judge 24 = .ok (.getfield 26, 3) := by decide +kernel
theorem dX7_judge_27 : decode cX7_judge 27 = .ok (.getfield 113, 3) := by decide +kernel
theorem dX7_judge_30 : decode cX7_judge 30 = .ok (.invokevirtual 155, 3) := by decide +kernel
theorem dX7_judge_33 : decode cX7_judge 33 = .ok (.aload_n 0, 1) := by decide +kernel
theorem dX7_judge_34 : decode cX7_judge 34 = .ok (.getfield 55, 3) := by decide +kernel
theorem dX7_judge_37 : decode cX7_judge 37 = .ok (.aload_n 0, 1) := by decide +kernel
theorem dX7_judge_38 : decode cX7_judge 38 = .ok (.getfield 47, 3) := by decide +kernel
theorem dX7_judge_41 : decode cX7_judge 41 = .ok (.iload_n 1, 1) := by decide +kernel
theorem dX7_judge_42 : decode cX7_judge 42 = .ok (.iconst 1, 1) := by decide +kernel
theorem dX7_judge_43 : decode cX7_judge 43 = .ok (.invokevirtual 222, 3) := by decide +kernel
theorem dX7_judge_46 : decode cX7_judge 46 = .ok (.invokevirtual 162, 3) := by decide +kernel
theorem dX7_judge_49 : decode cX7_judge 49 = .ok (.aload_n 0, 1) := by decide +kernel
theorem dX7_judge_50 : decode cX7_judge 50 = .ok (.getfield 47, 3) := by decide +kernel
theorem dX7_judge_53 : decode cX7_judge 53 = .ok (.iload_n 1, 1) := by decide +kernel
theorem dX7_judge_54 : decode cX7_judge 54 = .ok (.iconst 2, 1) := by decide +kernel
theorem dX7_judge_55 : decode cX7_judge 55 = .ok (.invokevirtual 222, 3) := by decide +kernel
theorem dX7_judge_58 : decode cX7_judge 58 = .ok (.if_icmp .eq 5, 3) := by decide +kernel
theorem dX7_judge_61 : decode cX7_judge 61 = .ok (.iload_n 1, 1) := by decide +kernel
theorem dX7_judge_62 : decode cX7_judge 62 = .ok (.ireturn, 1) := by decide +kernel
theorem dX7_judge_63 : decode cX7_judge 63 = .ok (.iinc 1 1, 3) := by decide +kernel
theorem dX7_judge_66 : decode cX7_judge 66 = .ok (.goto (-64), 3) := by decide +kernel
theorem dX7_judge_69 : decode cX7_judge 69 = .ok (.iconst (-1), 1) := by decide +kernel
theorem dX7_judge_70 : decode cX7_judge 70 = .ok (.ireturn, 1) := by decide +kernel
theorem dX7_seed_0 : decode cX7_seed 0 = .ok (.iload_n 1, 1) := by decide +kernel
theorem dX7_seed_1 : decode cX7_seed 1 = .ok (.ifCond .ge 6, 3) := by decide +kernel
theorem dX7_seed_4 : decode cX7_seed 4 = .ok (.ldc 75, 2) := by decide +kernel
theorem dX7_seed_6 : decode cX7_seed 6 = .ok (.ireturn, 1) := by decide +kernel
theorem dX7_seed_7 : decode cX7_seed 7 = .ok (.aload_n 0, 1) := by decide +kernel
theorem dX7_seed_8 : decode cX7_seed 8 = .ok (.getfield 26, 3) := by decide +kernel
theorem dX7_seed_11 : decode cX7_seed 11 = .ok (.getfield 225, 3) := by decide +kernel
theorem dX7_seed_14 : decode cX7_seed 14 = .ok (.istore_n 2, 1) := by decide +kernel
theorem dX7_seed_15 : decode cX7_seed 15 = .ok (.aload_n 0, 1) := by decide +kernel
theorem dX7_seed_16 : decode cX7_seed 16 = .ok (.getfield 26, 3) := by decide +kernel
theorem dX7_seed_19 : decode cX7_seed 19 = .ok (.iload_n 1, 1) := by decide +kernel
theorem dX7_seed_20 : decode cX7_seed 20 = .ok (.putfield 225, 3) := by decide +kernel
theorem dX7_seed_23 : decode cX7_seed 23 = .ok (.iload_n 2, 1) := by decide +kernel
theorem dX7_seed_24 : decode cX7_seed 24 = .ok (.ireturn, 1) := by decide +kernel
theorem dX7_keep_0 : decode cX7_keep 0 = .ok (.iload_n 1, 1) := by decide +kernel
theorem dX7_keep_1 : decode cX7_keep 1 = .ok (.ifCond .lt 8, 3) := by decide +kernel
theorem dX7_keep_4 : decode cX7_keep 4 = .ok (.iload_n 1, 1) := by decide +kernel
theorem dX7_keep_5 : decode cX7_keep 5 = .ok (.iconst 2, 1) := by decide +kernel
theorem dX7_keep_6 : decode cX7_keep 6 = .ok (.if_icmp .lt 6, 3) := by decide +kernel
theorem dX7_keep_9 : decode cX7_keep 9 = .ok (.ldc 126, 2) := by decide +kernel
theorem dX7_keep_11 : decode cX7_keep 11 = .ok (.ireturn, 1) := by decide +kernel
theorem dX7_keep_12 : decode cX7_keep 12 = .ok (.aload_n 0, 1) := by decide +kernel
theorem dX7_keep_13 : decode cX7_keep 13 = .ok (.getfield 30, 3) := by decide +kernel
theorem dX7_keep_16 : decode cX7_keep 16 = .ok (.iload_n 1, 1) := by decide +kernel
theorem dX7_keep_17 : decode cX7_keep 17 = .ok (.aaload, 1) := by decide +kernel
theorem dX7_keep_18 : decode cX7_keep 18 = .ok (.aload_n 0, 1) := by decide +kernel
theorem dX7_keep_19 : decode cX7_keep 19 = .ok (.getfield 26, 3) := by decide +kernel
theorem dX7_keep_22 : decode cX7_keep 22 = .ok (.invokevirtual 228, 3) := by decide +kernel
theorem dX7_keep_25 : decode cX7_keep 25 = .ok (.aload_n 0, 1) := by decide +kernel
theorem dX7_keep_26 : decode cX7_keep 26 = .ok (.getfield 34, 3) := by decide +kernel
theorem dX7_keep_29 : decode cX7_keep 29 = .ok (.iload_n 1, 1) := by decide +kernel
theorem dX7_keep_30 : decode cX7_keep 30 = .ok (.iconst 1, 1) := by decide +kernel
theorem dX7_keep_31 : decode cX7_keep 31 = .ok (.bastore, 1) := by decide +kernel
theorem dX7_keep_32 : decode cX7_keep 32 = .ok (.iconst 1, 1) := by decide +kernel
theorem dX7_keep_33 : decode cX7_keep 33 = .ok (.ireturn, 1) := by decide +kernel
theorem dX7_goBack_0 : decode cX7_goBack 0 = .ok (.iload_n 1, 1) := by decide +kernel
theorem dX7_goBack_1 : decode cX7_goBack 1 = .ok (.ifCond .lt 8, 3) := by decide +kernel
theorem dX7_goBack_4 : decode cX7_goBack 4 = .ok (.iload_n 1, 1) := by decide +kernel
theorem dX7_goBack_5 : decode cX7_goBack 5 = .ok (.iconst 2, 1) := by decide +kernel
theorem dX7_goBack_6 : decode cX7_goBack 6 = .ok (.if_icmp .lt 6, 3) := by decide +kernel
theorem dX7_goBack_9 : decode cX7_goBack 9 = .ok (.ldc 126, 2) := by decide +kernel
theorem dX7_goBack_11 : decode cX7_goBack 11 = .ok (.ireturn, 1) := by decide +kernel
theorem dX7_goBack_12 : decode cX7_goBack 12 = .ok (.aload_n 0, 1) := by decide +kernel
theorem dX7_goBack_13 : decode cX7_goBack 13 = .ok (.getfield 34, 3) := by decide +kernel
theorem dX7_goBack_16 : decode cX7_goBack 16 = .ok (.iload_n 1, 1) := by decide +kernel
theorem dX7_goBack_17 : decode cX7_goBack 17 = .ok (.baload, 1) := by decide +kernel
theorem dX7_goBack_18 : decode cX7_goBack 18 = .ok (.ifCond .ne 6, 3) := by decide +kernel
theorem dX7_goBack_21 : decode cX7_goBack 21 = .ok (.ldc 165, 2) := by decide +kernel
theorem dX7_goBack_23 : decode cX7_goBack 23 = .ok (.ireturn, 1) := by decide +kernel
theorem dX7_goBack_24 : decode cX7_goBack 24 = .ok (.aload_n 0, 1) := by decide +kernel
theorem dX7_goBack_25 : decode cX7_goBack 25 = .ok (.getfield 26, 3) := by decide +kernel
theorem dX7_goBack_28 : decode cX7_goBack 28 = .ok (.aload_n 0, 1) := by decide +kernel
theorem dX7_goBack_29 : decode cX7_goBack 29 = .ok (.getfield 30, 3) := by decide +kernel
theorem dX7_goBack_32 : decode cX7_goBack 32 = .ok (.iload_n 1, 1) := by decide +kernel
theorem dX7_goBack_33 : decode cX7_goBack 33 = .ok (.aaload, 1) := by decide +kernel
theorem dX7_goBack_34 : decode cX7_goBack 34 = .ok (.invokevirtual 228, 3) := by decide +kernel
theorem dX7_goBack_37 : decode cX7_goBack 37 = .ok (.iconst 1, 1) := by decide +kernel
theorem dX7_goBack_38 : decode cX7_goBack 38 = .ok (.ireturn, 1) := by decide +kernel
theorem dX7_tallOf_0 : decode cX7_tallOf 0 = .ok (.aload_n 0, 1) := by decide +kernel
theorem dX7_tallOf_1 : decode cX7_tallOf 1 = .ok (.getfield 10, 3) := by decide +kernel
theorem dX7_tallOf_4 : decode cX7_tallOf 4 = .ok (.iconst 3, 1) := by decide +kernel
theorem dX7_tallOf_5 : decode cX7_tallOf 5 = .ok (.iload_n 1, 1) := by decide +kernel
theorem dX7_tallOf_6 : decode cX7_tallOf 6 = .ok (.iconst 0, 1) := by decide +kernel
theorem dX7_tallOf_7 : decode cX7_tallOf 7 = .ok (.invokevirtual 135, 3) := by decide +kernel
theorem dX7_tallOf_10 : decode cX7_tallOf 10 = .ok (.istore_n 2, 1) := by decide +kernel
theorem dX7_tallOf_11 : decode cX7_tallOf 11 = .ok (.aload_n 0, 1) := by decide +kernel
theorem dX7_tallOf_12 : decode cX7_tallOf 12 = .ok (.getfield 26, 3) := by decide +kernel
theorem dX7_tallOf_15 : decode cX7_tallOf 15 = .ok (.iload_n 1, 1) := by decide +kernel
theorem dX7_tallOf_16 : decode cX7_tallOf 16 = .ok (.invokevirtual 143, 3) := by decide +kernel
theorem dX7_tallOf_19 : decode cX7_tallOf 19 = .ok (.istore_n 3, 1) := by decide +kernel
theorem dX7_tallOf_20 : decode cX7_tallOf 20 = .ok (.aload_n 0, 1) := by decide +kernel
theorem dX7_tallOf_21 : decode cX7_tallOf 21 = .ok (.getfield 26, 3) := by decide +kernel
theorem dX7_tallOf_24 : decode cX7_tallOf 24 = .ok (.getfield 139, 3) := by decide +kernel
theorem dX7_tallOf_27 : decode cX7_tallOf 27 = .ok (.iload_n 1, 1) := by decide +kernel
theorem dX7_tallOf_28 : decode cX7_tallOf 28 = .ok (.iaload, 1) := by decide +kernel
theorem dX7_tallOf_29 : decode cX7_tallOf 29 = .ok (.istore 4, 2) := by decide +kernel
theorem dX7_tallOf_31 : decode cX7_tallOf 31 = .ok (.iload_n 3, 1) := by decide +kernel
theorem dX7_tallOf_32 : decode cX7_tallOf 32 = .ok (.iconst (-1), 1) := by decide +kernel
theorem dX7_tallOf_33 : decode cX7_tallOf 33 = .ok (.if_icmp .eq 16, 3) := by decide +kernel
theorem dX7_tallOf_36 : decode cX7_tallOf 36 = .ok (.iload_n 2, 1) := by decide +kernel
theorem dX7_tallOf_37 : decode cX7_tallOf 37 = .ok (.aload_n 0, 1) := by decide +kernel
theorem dX7_tallOf_38 : decode cX7_tallOf 38 = .ok (.getfield 10, 3) := by decide +kernel
theorem dX7_tallOf_41 : decode cX7_tallOf 41 = .ok (.iconst 4, 1) := by decide +kernel
theorem dX7_tallOf_42 : decode cX7_tallOf 42 = .ok (.iload_n 3, 1) := by decide +kernel
theorem dX7_tallOf_43 : decode cX7_tallOf 43 = .ok (.iconst 0, 1) := by decide +kernel
theorem dX7_tallOf_44 : decode cX7_tallOf 44 = .ok (.invokevirtual 135, 3) := by decide +kernel
theorem dX7_tallOf_47 : decode cX7_tallOf 47 = .ok (.iadd, 1) := by decide +kernel
theorem dX7_tallOf_48 : decode cX7_tallOf 48 = .ok (.istore_n 2, 1) := by decide +kernel
theorem dX7_tallOf_49 : decode cX7_tallOf 49 = .ok (.iload 4, 2) := by decide +kernel
theorem dX7_tallOf_51 : decode cX7_tallOf 51 = .ok (.iconst (-1), 1) := by decide +kernel
theorem dX7_tallOf_52 : decode cX7_tallOf 52 = .ok (.if_icmp .eq 17, 3) := by decide +kernel
theorem dX7_tallOf_55 : decode cX7_tallOf 55 = .ok (.iload_n 2, 1) := by decide +kernel
theorem dX7_tallOf_56 : decode cX7_tallOf 56 = .ok (.aload_n 0, 1) := by decide +kernel
theorem dX7_tallOf_57 : decode cX7_tallOf 57 = .ok (.getfield 10, 3) := by decide +kernel
theorem dX7_tallOf_60 : decode cX7_tallOf 60 = .ok (.iconst 2, 1) := by decide +kernel
theorem dX7_tallOf_61 : decode cX7_tallOf 61 = .ok (.iload 4, 2) := by decide +kernel
theorem dX7_tallOf_63 : decode cX7_tallOf 63 = .ok (.iconst 0, 1) := by decide +kernel
theorem dX7_tallOf_64 : decode cX7_tallOf 64 = .ok (.invokevirtual 135, 3) := by decide +kernel
theorem dX7_tallOf_67 : decode cX7_tallOf 67 = .ok (.iadd, 1) := by decide +kernel
theorem dX7_tallOf_68 : decode cX7_tallOf 68 = .ok (.istore_n 2, 1) := by decide +kernel
theorem dX7_tallOf_69 : decode cX7_tallOf 69 = .ok (.iload_n 2, 1) := by decide +kernel
theorem dX7_tallOf_70 : decode cX7_tallOf 70 = .ok (.ireturn, 1) := by decide +kernel
theorem dX7_showAt_0 : decode cX7_showAt 0 = .ok (.aload_n 0, 1) := by decide +kernel
theorem dX7_showAt_1 : decode cX7_showAt 1 = .ok (.getfield 55, 3) := by decide +kernel
theorem dX7_showAt_4 : decode cX7_showAt 4 = .ok (.aload_n 0, 1) := by decide +kernel
theorem dX7_showAt_5 : decode cX7_showAt 5 = .ok (.getfield 26, 3) := by decide +kernel
theorem dX7_showAt_8 : decode cX7_showAt 8 = .ok (.iconst 1, 1) := by decide +kernel
theorem dX7_showAt_9 : decode cX7_showAt 9 = .ok (.invokevirtual 172, 3) := by decide +kernel
theorem dX7_showAt_12 : decode cX7_showAt 12 = .ok (.aload_n 0, 1) := by decide +kernel
theorem dX7_showAt_13 : decode cX7_showAt 13 = .ok (.getfield 55, 3) := by decide +kernel
theorem dX7_showAt_16 : decode cX7_showAt 16 = .ok (.aload_n 0, 1) := by decide +kernel
theorem dX7_showAt_17 : decode cX7_showAt 17 = .ok (.getfield 10, 3) := by decide +kernel
theorem dX7_showAt_20 : decode cX7_showAt 20 = .ok (.iload_n 1, 1) := by decide +kernel
theorem dX7_showAt_21 : decode cX7_showAt 21 = .ok (.iload_n 2, 1) := by decide +kernel
theorem dX7_showAt_22 : decode cX7_showAt 22 = .ok (.invokevirtual 128, 3) := by decide +kernel
theorem dX7_showAt_25 : decode cX7_showAt 25 = .ok (.aload_n 0, 1) := by decide +kernel
theorem dX7_showAt_26 : decode cX7_showAt 26 = .ok (.getfield 26, 3) := by decide +kernel
theorem dX7_showAt_29 : decode cX7_showAt 29 = .ok (.getfield 116, 3) := by decide +kernel
theorem dX7_showAt_32 : decode cX7_showAt 32 = .ok (.invokevirtual 176, 3) := by decide +kernel
theorem dX7_showAt_35 : decode cX7_showAt 35 = .ok (.aload_n 0, 1) := by decide +kernel
theorem dX7_showAt_36 : decode cX7_showAt 36 = .ok (.getfield 55, 3) := by decide +kernel
theorem dX7_showAt_39 : decode cX7_showAt 39 = .ok (.invokevirtual 201, 3) := by decide +kernel
theorem dX7_showAt_42 : decode cX7_showAt 42 = .ok (.return_, 1) := by decide +kernel
theorem dX7_giveAt_0 : decode cX7_giveAt 0 = .ok (.aload_n 0, 1) := by decide +kernel
theorem dX7_giveAt_1 : decode cX7_giveAt 1 = .ok (.iload_n 1, 1) := by decide +kernel
theorem dX7_giveAt_2 : decode cX7_giveAt 2 = .ok (.aload_n 0, 1) := by decide +kernel
theorem dX7_giveAt_3 : decode cX7_giveAt 3 = .ok (.getfield 26, 3) := by decide +kernel
theorem dX7_giveAt_6 : decode cX7_giveAt 6 = .ok (.getfield 113, 3) := by decide +kernel
theorem dX7_giveAt_9 : decode cX7_giveAt 9 = .ok (.invokevirtual 155, 3) := by decide +kernel
theorem dX7_giveAt_12 : decode cX7_giveAt 12 = .ok (.iconst 0, 1) := by decide +kernel
theorem dX7_giveAt_13 : decode cX7_giveAt 13 = .ok (.istore_n 2, 1) := by decide +kernel
theorem dX7_giveAt_14 : decode cX7_giveAt 14 = .ok (.iconst 0, 1) := by decide +kernel
theorem dX7_giveAt_15 : decode cX7_giveAt 15 = .ok (.istore_n 3, 1) := by decide +kernel
theorem dX7_giveAt_16 : decode cX7_giveAt 16 = .ok (.iload_n 3, 1) := by decide +kernel
theorem dX7_giveAt_17 : decode cX7_giveAt 17 = .ok (.aload_n 0, 1) := by decide +kernel
theorem dX7_giveAt_18 : decode cX7_giveAt 18 = .ok (.getfield 10, 3) := by decide +kernel
theorem dX7_giveAt_21 : decode cX7_giveAt 21 = .ok (.iconst 3, 1) := by decide +kernel
theorem dX7_giveAt_22 : decode cX7_giveAt 22 = .ok (.invokevirtual 103, 3) := by decide +kernel
theorem dX7_giveAt_25 : decode cX7_giveAt 25 = .ok (.if_icmp .ge 53, 3) := by decide +kernel
theorem dX7_giveAt_28 : decode cX7_giveAt 28 = .ok (.aload_n 0, 1) := by decide +kernel
theorem dX7_giveAt_29 : decode cX7_giveAt 29 = .ok (.getfield 26, 3) := by decide +kernel
theorem dX7_giveAt_32 : decode cX7_giveAt 32 = .ok (.getfield 149, 3) := by decide +kernel
theorem dX7_giveAt_35 : decode cX7_giveAt 35 = .ok (.iload_n 3, 1) := by decide +kernel
theorem dX7_giveAt_36 : decode cX7_giveAt 36 = .ok (.ldc 231, 2) := by decide +kernel
theorem dX7_giveAt_38 : decode cX7_giveAt 38 = .ok (.aload_n 0, 1) := by decide +kernel
theorem dX7_giveAt_39 : decode cX7_giveAt 39 = .ok (.getfield 26, 3) := by decide +kernel
theorem dX7_giveAt_42 : decode cX7_giveAt 42 = .ok (.getfield 149, 3) := by decide +kernel
theorem dX7_giveAt_45 : decode cX7_giveAt 45 = .ok (.iload_n 3, 1) := by decide +kernel
theorem dX7_giveAt_46 : decode cX7_giveAt 46 = .ok (.iaload, 1) := by decide +kernel
theorem dX7_giveAt_47 : decode cX7_giveAt 47 = .ok (.aload_n 0, 1) := by decide +kernel
theorem dX7_giveAt_48 : decode cX7_giveAt 48 = .ok (.getfield 55, 3) := by decide +kernel
theorem dX7_giveAt_51 : decode cX7_giveAt 51 = .ok (.iload_n 3, 1) := by decide +kernel
theorem dX7_giveAt_52 : decode cX7_giveAt 52 = .ok (.invokevirtual 162, 3) := by decide +kernel
theorem dX7_giveAt_55 : decode cX7_giveAt 55 = .ok (.iadd, 1) := by decide +kernel
theorem dX7_giveAt_56 : decode cX7_giveAt 56 = .ok (.invokestatic 232, 3) := by decide +kernel
theorem dX7_giveAt_59 : decode cX7_giveAt 59 = .ok (.iastore, 1) := by decide +kernel
theorem dX7_giveAt_60 : decode cX7_giveAt 60 = .ok (.iload_n 2, 1) := by decide +kernel
theorem dX7_giveAt_61 : decode cX7_giveAt 61 = .ok (.aload_n 0, 1) := by decide +kernel
theorem dX7_giveAt_62 : decode cX7_giveAt 62 = .ok (.getfield 55, 3) := by decide +kernel
theorem dX7_giveAt_65 : decode cX7_giveAt 65 = .ok (.getfield 237, 3) := by decide +kernel
theorem dX7_giveAt_68 : decode cX7_giveAt 68 = .ok (.iload_n 3, 1) := by decide +kernel
theorem dX7_giveAt_69 : decode cX7_giveAt 69 = .ok (.iaload, 1) := by decide +kernel
theorem dX7_giveAt_70 : decode cX7_giveAt 70 = .ok (.iadd, 1) := by decide +kernel
theorem dX7_giveAt_71 : decode cX7_giveAt 71 = .ok (.istore_n 2, 1) := by decide +kernel
theorem dX7_giveAt_72 : decode cX7_giveAt 72 = .ok (.iinc 3 1, 3) := by decide +kernel
theorem dX7_giveAt_75 : decode cX7_giveAt 75 = .ok (.goto (-59), 3) := by decide +kernel
theorem dX7_giveAt_78 : decode cX7_giveAt 78 = .ok (.aload_n 0, 1) := by decide +kernel
theorem dX7_giveAt_79 : decode cX7_giveAt 79 = .ok (.getfield 26, 3) := by decide +kernel
theorem dX7_giveAt_82 : decode cX7_giveAt 82 = .ok (.ldc 231, 2) := by decide +kernel
theorem dX7_giveAt_84 : decode cX7_giveAt 84 = .ok (.aload_n 0, 1) := by decide +kernel
theorem dX7_giveAt_85 : decode cX7_giveAt 85 = .ok (.getfield 26, 3) := by decide +kernel
theorem dX7_giveAt_88 : decode cX7_giveAt 88 = .ok (.getfield 119, 3) := by decide +kernel
theorem dX7_giveAt_91 : decode cX7_giveAt 91 = .ok (.iload_n 2, 1) := by decide +kernel
theorem dX7_giveAt_92 : decode cX7_giveAt 92 = .ok (.iadd, 1) := by decide +kernel
theorem dX7_giveAt_93 : decode cX7_giveAt 93 = .ok (.invokestatic 232, 3) := by decide +kernel
theorem dX7_giveAt_96 : decode cX7_giveAt 96 = .ok (.putfield 119, 3) := by decide +kernel
theorem dX7_giveAt_99 : decode cX7_giveAt 99 = .ok (.iload_n 2, 1) := by decide +kernel
theorem dX7_giveAt_100 : decode cX7_giveAt 100 = .ok (.ireturn, 1) := by decide +kernel
theorem dX7_passDayByDraws_0 : decode cX7_passDayByDraws 0 = .ok (.iconst 0, 1) := by decide +kernel
theorem dX7_passDayByDraws_1 : decode cX7_passDayByDraws 1 = .ok (.istore_n 1, 1) := by decide +kernel
theorem dX7_passDayByDraws_2 : decode cX7_passDayByDraws 2 = .ok (.iconst 0, 1) := by decide +kernel
theorem dX7_passDayByDraws_3 : decode cX7_passDayByDraws 3 = .ok (.istore_n 2, 1) := by decide +kernel
theorem dX7_passDayByDraws_4 : decode cX7_passDayByDraws 4 = .ok (.iload_n 2, 1) := by decide +kernel
theorem dX7_passDayByDraws_5 : decode cX7_passDayByDraws 5 = .ok (.aload_n 0, 1) := by decide +kernel
theorem dX7_passDayByDraws_6 : decode cX7_passDayByDraws 6 = .ok (.getfield 10, 3) := by decide +kernel
theorem dX7_passDayByDraws_9 : decode cX7_passDayByDraws 9 = .ok (.iconst 1, 1) := by decide +kernel
theorem dX7_passDayByDraws_10 : decode cX7_passDayByDraws 10 = .ok (.invokevirtual 103, 3) := by decide +kernel
theorem dX7_passDayByDraws_13 : decode cX7_passDayByDraws 13 = .ok (.if_icmp .ge 28, 3) := by decide +kernel
theorem dX7_passDayByDraws_16 : decode cX7_passDayByDraws 16 = .ok (.aload_n 0, 1) := by decide +kernel
theorem dX7_passDayByDraws_17 : decode cX7_passDayByDraws 17 = .ok (.getfield 26, 3) := by decide +kernel
theorem dX7_passDayByDraws_20 : decode cX7_passDayByDraws 20 = .ok (.iconst 4, 1) := by decide +kernel
theorem dX7_passDayByDraws_21 : decode cX7_passDayByDraws 21 = .ok (.invokevirtual 240, 3) := by decide +kernel
theorem dX7_passDayByDraws_24 : decode cX7_passDayByDraws 24 = .ok (.ifCond .eq 11, 3) := by decide +kernel
theorem dX7_passDayByDraws_27 : decode cX7_passDayByDraws 27 = .ok (.iload_n 1, 1) := by decide +kernel
theorem dX7_passDayByDraws_28 : decode cX7_passDayByDraws 28 = .ok (.aload_n 0, 1) := by decide +kernel
theorem dX7_passDayByDraws_29 : decode cX7_passDayByDraws 29 = .ok (.iload_n 2, 1) := by decide +kernel
theorem dX7_passDayByDraws_30 : decode cX7_passDayByDraws 30 = .ok (.invokevirtual 166, 3) := by decide +kernel
theorem dX7_passDayByDraws_33 : decode cX7_passDayByDraws 33 = .ok (.iadd, 1) := by decide +kernel
theorem dX7_passDayByDraws_34 : decode cX7_passDayByDraws 34 = .ok (.istore_n 1, 1) := by decide +kernel
theorem dX7_passDayByDraws_35 : decode cX7_passDayByDraws 35 = .ok (.iinc 2 1, 3) := by decide +kernel
theorem dX7_passDayByDraws_38 : decode cX7_passDayByDraws 38 = .ok (.goto (-34), 3) := by decide +kernel
theorem dX7_passDayByDraws_41 : decode cX7_passDayByDraws 41 = .ok (.aload_n 0, 1) := by decide +kernel
theorem dX7_passDayByDraws_42 : decode cX7_passDayByDraws 42 = .ok (.getfield 26, 3) := by decide +kernel
theorem dX7_passDayByDraws_45 : decode cX7_passDayByDraws 45 = .ok (.dup, 1) := by decide +kernel
theorem dX7_passDayByDraws_46 : decode cX7_passDayByDraws 46 = .ok (.getfield 113, 3) := by decide +kernel
theorem dX7_passDayByDraws_49 : decode cX7_passDayByDraws 49 = .ok (.iconst 1, 1) := by decide +kernel
theorem dX7_passDayByDraws_50 : decode cX7_passDayByDraws 50 = .ok (.iadd, 1) := by decide +kernel
theorem dX7_passDayByDraws_51 : decode cX7_passDayByDraws 51 = .ok (.putfield 113, 3) := by decide +kernel
theorem dX7_passDayByDraws_54 : decode cX7_passDayByDraws 54 = .ok (.aload_n 0, 1) := by decide +kernel
theorem dX7_passDayByDraws_55 : decode cX7_passDayByDraws 55 = .ok (.getfield 26, 3) := by decide +kernel
theorem dX7_passDayByDraws_58 : decode cX7_passDayByDraws 58 = .ok (.aload_n 0, 1) := by decide +kernel
theorem dX7_passDayByDraws_59 : decode cX7_passDayByDraws 59 = .ok (.getfield 10, 3) := by decide +kernel
theorem dX7_passDayByDraws_62 : decode cX7_passDayByDraws 62 = .ok (.iconst 3, 1) := by decide +kernel
theorem dX7_passDayByDraws_63 : decode cX7_passDayByDraws 63 = .ok (.invokevirtual 103, 3) := by decide +kernel
theorem dX7_passDayByDraws_66 : decode cX7_passDayByDraws 66 = .ok (.invokevirtual 240, 3) := by decide +kernel
theorem dX7_passDayByDraws_69 : decode cX7_passDayByDraws 69 = .ok (.istore_n 2, 1) := by decide +kernel
theorem dX7_passDayByDraws_70 : decode cX7_passDayByDraws 70 = .ok (.aload_n 0, 1) := by decide +kernel
theorem dX7_passDayByDraws_71 : decode cX7_passDayByDraws 71 = .ok (.getfield 26, 3) := by decide +kernel
theorem dX7_passDayByDraws_74 : decode cX7_passDayByDraws 74 = .ok (.aload_n 0, 1) := by decide +kernel
theorem dX7_passDayByDraws_75 : decode cX7_passDayByDraws 75 = .ok (.getfield 10, 3) := by decide +kernel
theorem dX7_passDayByDraws_78 : decode cX7_passDayByDraws 78 = .ok (.iconst 2, 1) := by decide +kernel
theorem dX7_passDayByDraws_79 : decode cX7_passDayByDraws 79 = .ok (.invokevirtual 103, 3) := by decide +kernel
theorem dX7_passDayByDraws_82 : decode cX7_passDayByDraws 82 = .ok (.invokevirtual 240, 3) := by decide +kernel
theorem dX7_passDayByDraws_85 : decode cX7_passDayByDraws 85 = .ok (.istore_n 3, 1) := by decide +kernel
theorem dX7_passDayByDraws_86 : decode cX7_passDayByDraws 86 = .ok (.aload_n 0, 1) := by decide +kernel
theorem dX7_passDayByDraws_87 : decode cX7_passDayByDraws 87 = .ok (.getfield 10, 3) := by decide +kernel
theorem dX7_passDayByDraws_90 : decode cX7_passDayByDraws 90 = .ok (.iconst 3, 1) := by decide +kernel
theorem dX7_passDayByDraws_91 : decode cX7_passDayByDraws 91 = .ok (.iload_n 2, 1) := by decide +kernel
theorem dX7_passDayByDraws_92 : decode cX7_passDayByDraws 92 = .ok (.invokevirtual 122, 3) := by decide +kernel
theorem dX7_passDayByDraws_95 : decode cX7_passDayByDraws 95 = .ok (.ifCond .eq 25, 3) := by decide +kernel
theorem dX7_passDayByDraws_98 : decode cX7_passDayByDraws 98 = .ok (.aload_n 0, 1) := by decide +kernel
theorem dX7_passDayByDraws_99 : decode cX7_passDayByDraws 99 = .ok (.getfield 26, 3) := by decide +kernel
theorem dX7_passDayByDraws_102 : decode cX7_passDayByDraws 102 = .ok (.iload_n 3, 1) := by decide +kernel
theorem dX7_passDayByDraws_103 : decode cX7_passDayByDraws 103 = .ok (.invokevirtual 132, 3) := by decide +kernel
theorem dX7_passDayByDraws_106 : decode cX7_passDayByDraws 106 = .ok (.iconst (-1), 1) := by decide +kernel
theorem dX7_passDayByDraws_107 : decode cX7_passDayByDraws 107 = .ok (.if_icmp .ne 13, 3) := by decide +kernel
theorem dX7_passDayByDraws_110 : decode cX7_passDayByDraws 110 = .ok (.aload_n 0, 1) := by decide +kernel
theorem dX7_passDayByDraws_111 : decode cX7_passDayByDraws 111 = .ok (.getfield 26, 3) := by decide +kernel
theorem dX7_passDayByDraws_114 : decode cX7_passDayByDraws 114 = .ok (.getfield 139, 3) := by decide +kernel
theorem dX7_passDayByDraws_117 : decode cX7_passDayByDraws 117 = .ok (.iload_n 2, 1) := by decide +kernel
theorem dX7_passDayByDraws_118 : decode cX7_passDayByDraws 118 = .ok (.iload_n 3, 1) := by decide +kernel
theorem dX7_passDayByDraws_119 : decode cX7_passDayByDraws 119 = .ok (.iastore, 1) := by decide +kernel
theorem dX7_passDayByDraws_120 : decode cX7_passDayByDraws 120 = .ok (.iload_n 1, 1) := by decide +kernel
theorem dX7_passDayByDraws_121 : decode cX7_passDayByDraws 121 = .ok (.ireturn, 1) := by decide +kernel
theorem dX7_almsOnDay_0 : decode cX7_almsOnDay 0 = .ok (.iconst 0, 1) := by decide +kernel
theorem dX7_almsOnDay_1 : decode cX7_almsOnDay 1 = .ok (.istore_n 3, 1) := by decide +kernel
theorem dX7_almsOnDay_2 : decode cX7_almsOnDay 2 = .ok (.iconst 0, 1) := by decide +kernel
theorem dX7_almsOnDay_3 : decode cX7_almsOnDay 3 = .ok (.istore 4, 2) := by decide +kernel
theorem dX7_almsOnDay_5 : decode cX7_almsOnDay 5 = .ok (.iload 4, 2) := by decide +kernel
theorem dX7_almsOnDay_7 : decode cX7_almsOnDay 7 = .ok (.aload_n 0, 1) := by decide +kernel
theorem dX7_almsOnDay_8 : decode cX7_almsOnDay 8 = .ok (.getfield 10, 3) := by decide +kernel
theorem dX7_almsOnDay_11 : decode cX7_almsOnDay 11 = .ok (.iconst 1, 1) := by decide +kernel
theorem dX7_almsOnDay_12 : decode cX7_almsOnDay 12 = .ok (.invokevirtual 103, 3) := by decide +kernel
theorem dX7_almsOnDay_15 : decode cX7_almsOnDay 15 = .ok (.if_icmp .ge 27, 3) := by decide +kernel
theorem dX7_almsOnDay_18 : decode cX7_almsOnDay 18 = .ok (.aload_n 0, 1) := by decide +kernel
theorem dX7_almsOnDay_19 : decode cX7_almsOnDay 19 = .ok (.iload 4, 2) := by decide +kernel
theorem dX7_almsOnDay_21 : decode cX7_almsOnDay 21 = .ok (.iload_n 2, 1) := by decide +kernel
theorem dX7_almsOnDay_22 : decode cX7_almsOnDay 22 = .ok (.invokevirtual 155, 3) := by decide +kernel
theorem dX7_almsOnDay_25 : decode cX7_almsOnDay 25 = .ok (.iload_n 3, 1) := by decide +kernel
theorem dX7_almsOnDay_26 : decode cX7_almsOnDay 26 = .ok (.aload_n 0, 1) := by decide +kernel
theorem dX7_almsOnDay_27 : decode cX7_almsOnDay 27 = .ok (.getfield 55, 3) := by decide +kernel
theorem dX7_almsOnDay_30 : decode cX7_almsOnDay 30 = .ok (.iload_n 1, 1) := by decide +kernel
theorem dX7_almsOnDay_31 : decode cX7_almsOnDay 31 = .ok (.invokevirtual 162, 3) := by decide +kernel
theorem dX7_almsOnDay_34 : decode cX7_almsOnDay 34 = .ok (.iadd, 1) := by decide +kernel
theorem dX7_almsOnDay_35 : decode cX7_almsOnDay 35 = .ok (.istore_n 3, 1) := by decide +kernel
theorem dX7_almsOnDay_36 : decode cX7_almsOnDay 36 = .ok (.iinc 4 1, 3) := by decide +kernel
theorem dX7_almsOnDay_39 : decode cX7_almsOnDay 39 = .ok (.goto (-34), 3) := by decide +kernel
theorem dX7_almsOnDay_42 : decode cX7_almsOnDay 42 = .ok (.iload_n 3, 1) := by decide +kernel
theorem dX7_almsOnDay_43 : decode cX7_almsOnDay 43 = .ok (.ireturn, 1) := by decide +kernel
theorem dX7_fitsAllTales_0 : decode cX7_fitsAllTales 0 = .ok (.iconst 0, 1) := by decide +kernel
theorem dX7_fitsAllTales_1 : decode cX7_fitsAllTales 1 = .ok (.istore_n 2, 1) := by decide +kernel
theorem dX7_fitsAllTales_2 : decode cX7_fitsAllTales 2 = .ok (.iload_n 2, 1) := by decide +kernel
theorem dX7_fitsAllTales_3 : decode cX7_fitsAllTales 3 = .ok (.aload_n 0, 1) := by decide +kernel
theorem dX7_fitsAllTales_4 : decode cX7_fitsAllTales 4 = .ok (.getfield 43, 3) := by decide +kernel
theorem dX7_fitsAllTales_7 : decode cX7_fitsAllTales 7 = .ok (.getfield 100, 3) := by decide +kernel
theorem dX7_fitsAllTales_10 : decode cX7_fitsAllTales 10 = .ok (.if_icmp .ge 86, 3) := by decide +kernel
theorem dX7_fitsAllTales_13 : decode cX7_fitsAllTales 13 = .ok (.aload_n 0, 1) := by decide +kernel
theorem dX7_fitsAllTales_14 : decode cX7_fitsAllTales 14 = .ok (.getfield 43, 3) := by decide +kernel
theorem dX7_fitsAllTales_17 : decode cX7_fitsAllTales 17 = .ok (.iload_n 2, 1) := by decide +kernel
theorem dX7_fitsAllTales_18 : decode cX7_fitsAllTales 18 = .ok (.iconst 2, 1) := by decide +kernel
theorem dX7_fitsAllTales_19 : decode cX7_fitsAllTales 19 = .ok (.invokevirtual 222, 3) := by decide +kernel
theorem dX7_fitsAllTales_22 : decode cX7_fitsAllTales 22 = .ok (.istore_n 3, 1) := by decide +kernel
theorem dX7_fitsAllTales_23 : decode cX7_fitsAllTales 23 = .ok (.iload_n 1, 1) := by decide +kernel
theorem dX7_fitsAllTales_24 : decode cX7_fitsAllTales 24 = .ok (.aload_n 0, 1) := by decide +kernel
theorem dX7_fitsAllTales_25 : decode cX7_fitsAllTales 25 = .ok (.getfield 10, 3) := by decide +kernel
theorem dX7_fitsAllTales_28 : decode cX7_fitsAllTales 28 = .ok (.iconst 2, 1) := by decide +kernel
theorem dX7_fitsAllTales_29 : decode cX7_fitsAllTales 29 = .ok (.iload_n 3, 1) := by decide +kernel
theorem dX7_fitsAllTales_30 : decode cX7_fitsAllTales 30 = .ok (.iconst 0, 1) := by decide +kernel
theorem dX7_fitsAllTales_31 : decode cX7_fitsAllTales 31 = .ok (.invokevirtual 135, 3) := by decide +kernel
theorem dX7_fitsAllTales_34 : decode cX7_fitsAllTales 34 = .ok (.iadd, 1) := by decide +kernel
theorem dX7_fitsAllTales_35 : decode cX7_fitsAllTales 35 = .ok (.istore 4, 2) := by decide +kernel
theorem dX7_fitsAllTales_37 : decode cX7_fitsAllTales 37 = .ok (.aload_n 0, 1) := by decide +kernel
theorem dX7_fitsAllTales_38 : decode cX7_fitsAllTales 38 = .ok (.getfield 10, 3) := by decide +kernel
theorem dX7_fitsAllTales_41 : decode cX7_fitsAllTales 41 = .ok (.aload_n 0, 1) := by decide +kernel
theorem dX7_fitsAllTales_42 : decode cX7_fitsAllTales 42 = .ok (.getfield 43, 3) := by decide +kernel
theorem dX7_fitsAllTales_45 : decode cX7_fitsAllTales 45 = .ok (.iload_n 2, 1) := by decide +kernel
theorem dX7_fitsAllTales_46 : decode cX7_fitsAllTales 46 = .ok (.iconst 0, 1) := by decide +kernel
theorem dX7_fitsAllTales_47 : decode cX7_fitsAllTales 47 = .ok (.invokevirtual 222, 3) := by decide +kernel
theorem dX7_fitsAllTales_50 : decode cX7_fitsAllTales 50 = .ok (.aload_n 0, 1) := by decide +kernel
theorem dX7_fitsAllTales_51 : decode cX7_fitsAllTales 51 = .ok (.getfield 43, 3) := by decide +kernel
theorem dX7_fitsAllTales_54 : decode cX7_fitsAllTales 54 = .ok (.iload_n 2, 1) := by decide +kernel
theorem dX7_fitsAllTales_55 : decode cX7_fitsAllTales 55 = .ok (.iconst 1, 1) := by decide +kernel
theorem dX7_fitsAllTales_56 : decode cX7_fitsAllTales 56 = .ok (.invokevirtual 222, 3) := by decide +kernel
theorem dX7_fitsAllTales_59 : decode cX7_fitsAllTales 59 = .ok (.invokevirtual 128, 3) := by decide +kernel
theorem dX7_fitsAllTales_62 : decode cX7_fitsAllTales 62 = .ok (.istore 5, 2) := by decide +kernel
theorem dX7_fitsAllTales_64 : decode cX7_fitsAllTales 64 = .ok (.aload_n 0, 1) := by decide +kernel
theorem dX7_fitsAllTales_65 : decode cX7_fitsAllTales 65 = .ok (.getfield 10, 3) := by decide +kernel
theorem dX7_fitsAllTales_68 : decode cX7_fitsAllTales 68 = .ok (.iload_n 3, 1) := by decide +kernel
theorem dX7_fitsAllTales_69 : decode cX7_fitsAllTales 69 = .ok (.iload 4, 2) := by decide +kernel
theorem dX7_fitsAllTales_71 : decode cX7_fitsAllTales 71 = .ok (.iload 5, 2) := by decide +kernel
theorem dX7_fitsAllTales_73 : decode cX7_fitsAllTales 73 = .ok (.invokevirtual 243, 3) := by decide +kernel
theorem dX7_fitsAllTales_76 : decode cX7_fitsAllTales 76 = .ok (.aload_n 0, 1) := by decide +kernel
theorem dX7_fitsAllTales_77 : decode cX7_fitsAllTales 77 = .ok (.getfield 43, 3) := by decide +kernel
theorem dX7_fitsAllTales_80 : decode cX7_fitsAllTales 80 = .ok (.iload_n 2, 1) := by decide +kernel
theorem dX7_fitsAllTales_81 : decode cX7_fitsAllTales 81 = .ok (.iconst 3, 1) := by decide +kernel
theorem dX7_fitsAllTales_82 : decode cX7_fitsAllTales 82 = .ok (.invokevirtual 222, 3) := by decide +kernel
theorem dX7_fitsAllTales_85 : decode cX7_fitsAllTales 85 = .ok (.if_icmp .eq 5, 3) := by decide +kernel
theorem dX7_fitsAllTales_88 : decode cX7_fitsAllTales 88 = .ok (.iconst 0, 1) := by decide +kernel
theorem dX7_fitsAllTales_89 : decode cX7_fitsAllTales 89 = .ok (.ireturn, 1) := by decide +kernel
theorem dX7_fitsAllTales_90 : decode cX7_fitsAllTales 90 = .ok (.iinc 2 1, 3) := by decide +kernel
theorem dX7_fitsAllTales_93 : decode cX7_fitsAllTales 93 = .ok (.goto (-91), 3) := by decide +kernel
theorem dX7_fitsAllTales_96 : decode cX7_fitsAllTales 96 = .ok (.iconst 1, 1) := by decide +kernel
theorem dX7_fitsAllTales_97 : decode cX7_fitsAllTales 97 = .ok (.ireturn, 1) := by decide +kernel
