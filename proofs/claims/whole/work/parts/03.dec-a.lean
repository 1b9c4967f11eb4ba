theorem dX0_init_0 : decode cX0_init 0 = .ok (.aload_n 0, 1) := by decide +kernel
theorem dX0_init_1 : decode cX0_init 1 = .ok (.invokespecial 3, 3) := by decide +kernel
theorem dX0_init_4 : decode cX0_init 4 = .ok (.aload_n 0, 1) := by decide +kernel
theorem dX0_init_5 : decode cX0_init 5 = .ok (.iconst 4, 1) := by decide +kernel
theorem dX0_init_6 : decode cX0_init 6 = .ok (.newarray .int, 2) := by decide +kernel
theorem dX0_init_8 : decode cX0_init 8 = .ok (.putfield 9, 3) := by decide +kernel
theorem dX0_init_11 : decode cX0_init 11 = .ok (.aload_n 0, 1) := by decide +kernel
theorem dX0_init_12 : decode cX0_init 12 = .ok (.iconst 4, 1) := by decide +kernel
theorem dX0_init_13 : decode cX0_init 13 = .ok (.newarray .int, 2) := by decide +kernel
theorem dX0_init_15 : decode cX0_init 15 = .ok (.putfield 15, 3) := by decide +kernel
theorem dX0_init_18 : decode cX0_init 18 = .ok (.aload_n 0, 1) := by decide +kernel
theorem dX0_init_19 : decode cX0_init 19 = .ok (.aload_n 1, 1) := by decide +kernel
theorem dX0_init_20 : decode cX0_init 20 = .ok (.putfield 18, 3) := by decide +kernel
theorem dX0_init_23 : decode cX0_init 23 = .ok (.aload_n 0, 1) := by decide +kernel
theorem dX0_init_24 : decode cX0_init 24 = .ok (.aload_n 2, 1) := by decide +kernel
theorem dX0_init_25 : decode cX0_init 25 = .ok (.putfield 22, 3) := by decide +kernel
theorem dX0_init_28 : decode cX0_init 28 = .ok (.return_, 1) := by decide +kernel
theorem dX0_seek_0 : decode cX0_seek 0 = .ok (.aload_n 0, 1) := by decide +kernel
theorem dX0_seek_1 : decode cX0_seek 1 = .ok (.iconst 0, 1) := by decide +kernel
theorem dX0_seek_2 : decode cX0_seek 2 = .ok (.putfield 26, 3) := by decide +kernel
theorem dX0_seek_5 : decode cX0_seek 5 = .ok (.iconst 0, 1) := by decide +kernel
theorem dX0_seek_6 : decode cX0_seek 6 = .ok (.istore_n 1, 1) := by decide +kernel
theorem dX0_seek_7 : decode cX0_seek 7 = .ok (.iconst 0, 1) := by decide +kernel
theorem dX0_seek_8 : decode cX0_seek 8 = .ok (.istore_n 2, 1) := by decide +kernel
theorem dX0_seek_9 : decode cX0_seek 9 = .ok (.iload_n 2, 1) := by decide +kernel
theorem dX0_seek_10 : decode cX0_seek 10 = .ok (.aload_n 0, 1) := by decide +kernel
theorem dX0_seek_11 : decode cX0_seek 11 = .ok (.getfield 18, 3) := by decide +kernel
theorem dX0_seek_14 : decode cX0_seek 14 = .ok (.iconst 2, 1) := by decide +kernel
theorem dX0_seek_15 : decode cX0_seek 15 = .ok (.invokevirtual 30, 3) := by decide +kernel
theorem dX0_seek_18 : decode cX0_seek 18 = .ok (.if_icmp .ge 36, 3) := by decide +kernel
theorem dX0_seek_21 : decode cX0_seek 21 = .ok (.aload_n 0, 1) := by decide +kernel
theorem dX0_seek_22 : decode cX0_seek 22 = .ok (.getfield 22, 3) := by decide +kernel
theorem dX0_seek_25 : decode cX0_seek 25 = .ok (.getfield 36, 3) := by decide +kernel
theorem dX0_seek_28 : decode cX0_seek 28 = .ok (.iload_n 2, 1) := by decide +kernel
theorem dX0_seek_29 : decode cX0_seek 29 = .ok (.iaload, 1) := by decide +kernel
theorem dX0_seek_30 : decode cX0_seek 30 = .ok (.iconst (-1), 1) := by decide +kernel
theorem dX0_seek_31 : decode cX0_seek 31 = .ok (.if_icmp .eq 17, 3) := by decide +kernel
theorem dX0_seek_34 : decode cX0_seek 34 = .ok (.iload_n 1, 1) := by decide +kernel
theorem dX0_seek_35 : decode cX0_seek 35 = .ok (.iconst 1, 1) := by decide +kernel
theorem dX0_seek_36 : decode cX0_seek 36 = .ok (.aload_n 0, 1) := by decide +kernel
theorem dX0_seek_37 : decode cX0_seek 37 = .ok (.getfield 22, 3) := by decide +kernel
theorem dX0_seek_40 : decode cX0_seek 40 = .ok (.getfield 36, 3) := by decide +kernel
theorem dX0_seek_43 : decode cX0_seek 43 = .ok (.iload_n 2, 1) := by decide +kernel
theorem dX0_seek_44 : decode cX0_seek 44 = .ok (.iaload, 1) := by decide +kernel
theorem dX0_seek_45 : decode cX0_seek 45 = .ok (.ishl, 1) := by decide +kernel
theorem dX0_seek_46 : decode cX0_seek 46 = .ok (.ior, 1) := by decide +kernel
theorem dX0_seek_47 : decode cX0_seek 47 = .ok (.istore_n 1, 1) := by decide +kernel
theorem dX0_seek_48 : decode cX0_seek 48 = .ok (.iinc 2 1, 3) := by decide +kernel
theorem dX0_seek_51 : decode cX0_seek 51 = .ok (.goto (-42), 3) := by decide +kernel
theorem dX0_seek_54 : decode cX0_seek 54 = .ok (.aload_n 0, 1) := by decide +kernel
theorem dX0_seek_55 : decode cX0_seek 55 = .ok (.iconst 0, 1) := by decide +kernel
theorem dX0_seek_56 : decode cX0_seek 56 = .ok (.iload_n 1, 1) := by decide +kernel
theorem dX0_seek_57 : decode cX0_seek 57 = .ok (.invokevirtual 41, 3) := by decide +kernel
theorem dX0_seek_60 : decode cX0_seek 60 = .ok (.return_, 1) := by decide +kernel
theorem dX0_handOut_0 : decode cX0_handOut 0 = .ok (.iload_n 1, 1) := by decide +kernel
theorem dX0_handOut_1 : decode cX0_handOut 1 = .ok (.aload_n 0, 1) := by decide +kernel
theorem dX0_handOut_2 : decode cX0_handOut 2 = .ok (.getfield 18, 3) := by decide +kernel
theorem dX0_handOut_5 : decode cX0_handOut 5 = .ok (.iconst 4, 1) := by decide +kernel
theorem dX0_handOut_6 : decode cX0_handOut 6 = .ok (.invokevirtual 30, 3) := by decide +kernel
theorem dX0_handOut_9 : decode cX0_handOut 9 = .ok (.if_icmp .ge 8, 3) := by decide +kernel
theorem dX0_handOut_12 : decode cX0_handOut 12 = .ok (.iload_n 1, 1) := by decide +kernel
theorem dX0_handOut_13 : decode cX0_handOut 13 = .ok (.iconst 4, 1) := by decide +kernel
theorem dX0_handOut_14 : decode cX0_handOut 14 = .ok (.if_icmp .lt 8, 3) := by decide +kernel
theorem dX0_handOut_17 : decode cX0_handOut 17 = .ok (.aload_n 0, 1) := by decide +kernel
theorem dX0_handOut_18 : decode cX0_handOut 18 = .ok (.invokevirtual 45, 3) := by decide +kernel
theorem dX0_handOut_21 : decode cX0_handOut 21 = .ok (.return_, 1) := by decide +kernel
theorem dX0_handOut_22 : decode cX0_handOut 22 = .ok (.aload_n 0, 1) := by decide +kernel
theorem dX0_handOut_23 : decode cX0_handOut 23 = .ok (.getfield 9, 3) := by decide +kernel
theorem dX0_handOut_26 : decode cX0_handOut 26 = .ok (.iload_n 1, 1) := by decide +kernel
theorem dX0_handOut_27 : decode cX0_handOut 27 = .ok (.iconst (-1), 1) := by decide +kernel
theorem dX0_handOut_28 : decode cX0_handOut 28 = .ok (.iastore, 1) := by decide +kernel
theorem dX0_handOut_29 : decode cX0_handOut 29 = .ok (.aload_n 0, 1) := by decide +kernel
theorem dX0_handOut_30 : decode cX0_handOut 30 = .ok (.iload_n 1, 1) := by decide +kernel
theorem dX0_handOut_31 : decode cX0_handOut 31 = .ok (.iconst 1, 1) := by decide +kernel
theorem dX0_handOut_32 : decode cX0_handOut 32 = .ok (.iadd, 1) := by decide +kernel
theorem dX0_handOut_33 : decode cX0_handOut 33 = .ok (.iload_n 2, 1) := by decide +kernel
theorem dX0_handOut_34 : decode cX0_handOut 34 = .ok (.invokevirtual 41, 3) := by decide +kernel
theorem dX0_handOut_37 : decode cX0_handOut 37 = .ok (.iconst 0, 1) := by decide +kernel
theorem dX0_handOut_38 : decode cX0_handOut 38 = .ok (.istore_n 3, 1) := by decide +kernel
theorem dX0_handOut_39 : decode cX0_handOut 39 = .ok (.iload_n 3, 1) := by decide +kernel
theorem dX0_handOut_40 : decode cX0_handOut 40 = .ok (.aload_n 0, 1) := by decide +kernel
theorem dX0_handOut_41 : decode cX0_handOut 41 = .ok (.getfield 18, 3) := by decide +kernel
theorem dX0_handOut_44 : decode cX0_handOut 44 = .ok (.iconst 3, 1) := by decide +kernel
theorem dX0_handOut_45 : decode cX0_handOut 45 = .ok (.invokevirtual 30, 3) := by decide +kernel
theorem dX0_handOut_48 : decode cX0_handOut 48 = .ok (.if_icmp .ge 57, 3) := by decide +kernel
theorem dX0_handOut_51 : decode cX0_handOut 51 = .ok (.iload_n 2, 1) := by decide +kernel
theorem dX0_handOut_52 : decode cX0_handOut 52 = .ok (.iload_n 3, 1) := by decide +kernel
theorem dX0_handOut_53 : decode cX0_handOut 53 = .ok (.ishr, 1) := by decide +kernel
theorem dX0_handOut_54 : decode cX0_handOut 54 = .ok (.iconst 1, 1) := by decide +kernel
theorem dX0_handOut_55 : decode cX0_handOut 55 = .ok (.iand, 1) := by decide +kernel
theorem dX0_handOut_56 : decode cX0_handOut 56 = .ok (.iconst 1, 1) := by decide +kernel
theorem dX0_handOut_57 : decode cX0_handOut 57 = .ok (.if_icmp .ne 42, 3) := by decide +kernel
theorem dX0_handOut_60 : decode cX0_handOut 60 = .ok (.aload_n 0, 1) := by decide +kernel
theorem dX0_handOut_61 : decode cX0_handOut 61 = .ok (.getfield 9, 3) := by decide +kernel
theorem dX0_handOut_64 : decode cX0_handOut 64 = .ok (.iload_n 1, 1) := by decide +kernel
theorem dX0_handOut_65 : decode cX0_handOut 65 = .ok (.iload_n 3, 1) := by decide +kernel
theorem dX0_handOut_66 : decode cX0_handOut 66 = .ok (.iastore, 1) := by decide +kernel
theorem dX0_handOut_67 : decode cX0_handOut 67 = .ok (.aload_n 0, 1) := by decide +kernel
theorem dX0_handOut_68 : decode cX0_handOut 68 = .ok (.getfield 22, 3) := by decide +kernel
theorem dX0_handOut_71 : decode cX0_handOut 71 = .ok (.iload_n 1, 1) := by decide +kernel
theorem dX0_handOut_72 : decode cX0_handOut 72 = .ok (.iload_n 3, 1) := by decide +kernel
theorem dX0_handOut_73 : decode cX0_handOut 73 = .ok (.invokevirtual 48, 3) := by decide +kernel
theorem dX0_handOut_76 : decode cX0_handOut 76 = .ok (.aload_n 0, 1) := by decide +kernel
theorem dX0_handOut_77 : decode cX0_handOut 77 = .ok (.iload_n 1, 1) := by decide +kernel
theorem dX0_handOut_78 : decode cX0_handOut 78 = .ok (.iconst 1, 1) := by decide +kernel
theorem dX0_handOut_79 : decode cX0_handOut 79 = .ok (.iadd, 1) := by decide +kernel
theorem dX0_handOut_80 : decode cX0_handOut 80 = .ok (.iload_n 2, 1) := by decide +kernel
theorem dX0_handOut_81 : decode cX0_handOut 81 = .ok (.iconst 1, 1) := by decide +kernel
theorem dX0_handOut_82 : decode cX0_handOut 82 = .ok (.iload_n 3, 1) := by decide +kernel
theorem dX0_handOut_83 : decode cX0_handOut 83 = .ok (.ishl, 1) := by decide +kernel
theorem dX0_handOut_84 : decode cX0_handOut 84 = .ok (.iconst (-1), 1) := by decide +kernel
theorem dX0_handOut_85 : decode cX0_handOut 85 = .ok (.ixor, 1) := by decide +kernel
theorem dX0_handOut_86 : decode cX0_handOut 86 = .ok (.iand, 1) := by decide +kernel
theorem dX0_handOut_87 : decode cX0_handOut 87 = .ok (.invokevirtual 41, 3) := by decide +kernel
theorem dX0_handOut_90 : decode cX0_handOut 90 = .ok (.aload_n 0, 1) := by decide +kernel
theorem dX0_handOut_91 : decode cX0_handOut 91 = .ok (.getfield 22, 3) := by decide +kernel
theorem dX0_handOut_94 : decode cX0_handOut 94 = .ok (.iload_n 1, 1) := by decide +kernel
theorem dX0_handOut_95 : decode cX0_handOut 95 = .ok (.iload_n 3, 1) := by decide +kernel
theorem dX0_handOut_96 : decode cX0_handOut 96 = .ok (.invokevirtual 51, 3) := by decide +kernel
theorem dX0_handOut_99 : decode cX0_handOut 99 = .ok (.iinc 3 1, 3) := by decide +kernel
theorem dX0_handOut_102 : decode cX0_handOut 102 = .ok (.goto (-63), 3) := by decide +kernel
theorem dX0_handOut_105 : decode cX0_handOut 105 = .ok (.return_, 1) := by decide +kernel
theorem dX0_weigh_0 : decode cX0_weigh 0 = .ok (.aload_n 0, 1) := by decide +kernel
theorem dX0_weigh_1 : decode cX0_weigh 1 = .ok (.getfield 22, 3) := by decide +kernel
theorem dX0_weigh_4 : decode cX0_weigh 4 = .ok (.invokevirtual 54, 3) := by decide +kernel
theorem dX0_weigh_7 : decode cX0_weigh 7 = .ok (.aload_n 0, 1) := by decide +kernel
theorem dX0_weigh_8 : decode cX0_weigh 8 = .ok (.getfield 22, 3) := by decide +kernel
theorem dX0_weigh_11 : decode cX0_weigh 11 = .ok (.invokevirtual 57, 3) := by decide +kernel
theorem dX0_weigh_14 : decode cX0_weigh 14 = .ok (.istore_n 1, 1) := by decide +kernel
theorem dX0_weigh_15 : decode cX0_weigh 15 = .ok (.aload_n 0, 1) := by decide +kernel
theorem dX0_weigh_16 : decode cX0_weigh 16 = .ok (.getfield 26, 3) := by decide +kernel
theorem dX0_weigh_19 : decode cX0_weigh 19 = .ok (.ifCond .eq 11, 3) := by decide +kernel
theorem dX0_weigh_22 : decode cX0_weigh 22 = .ok (.iload_n 1, 1) := by decide +kernel
theorem dX0_weigh_23 : decode cX0_weigh 23 = .ok (.aload_n 0, 1) := by decide +kernel
theorem dX0_weigh_24 : decode cX0_weigh 24 = .ok (.getfield 61, 3) := by decide +kernel
theorem dX0_weigh_27 : decode cX0_weigh 27 = .ok (.if_icmp .le 27, 3) := by decide +kernel
theorem dX0_weigh_30 : decode cX0_weigh 30 = .ok (.aload_n 0, 1) := by decide +kernel
theorem dX0_weigh_31 : decode cX0_weigh 31 = .ok (.iconst 1, 1) := by decide +kernel
theorem dX0_weigh_32 : decode cX0_weigh 32 = .ok (.putfield 26, 3) := by decide +kernel
theorem dX0_weigh_35 : decode cX0_weigh 35 = .ok (.aload_n 0, 1) := by decide +kernel
theorem dX0_weigh_36 : decode cX0_weigh 36 = .ok (.iload_n 1, 1) := by decide +kernel
theorem dX0_weigh_37 : decode cX0_weigh 37 = .ok (.putfield 61, 3) := by decide +kernel
theorem dX0_weigh_40 : decode cX0_weigh 40 = .ok (.aload_n 0, 1) := by decide +kernel
theorem dX0_weigh_41 : decode cX0_weigh 41 = .ok (.getfield 9, 3) := by decide +kernel
theorem dX0_weigh_44 : decode cX0_weigh 44 = .ok (.iconst 0, 1) := by decide +kernel
theorem dX0_weigh_45 : decode cX0_weigh 45 = .ok (.aload_n 0, 1) := by decide +kernel
theorem dX0_weigh_46 : decode cX0_weigh 46 = .ok (.getfield 15, 3) := by decide +kernel
theorem dX0_weigh_49 : decode cX0_weigh 49 = .ok (.iconst 0, 1) := by decide +kernel
theorem dX0_weigh_50 : decode cX0_weigh 50 = .ok (.iconst 4, 1) := by decide +kernel
theorem dX0_weigh_51 : decode cX0_weigh 51 = .ok (.invokestatic 65, 3) := by decide +kernel
theorem dX0_weigh_54 : decode cX0_weigh 54 = .ok (.return_, 1) := by decide +kernel
theorem dX1_init_0 : decode cX1_init 0 = .ok (.aload_n 0, 1) := by decide +kernel
theorem dX1_init_1 : decode cX1_init 1 = .ok (.invokespecial 3, 3) := by decide +kernel
theorem dX1_init_4 : decode cX1_init 4 = .ok (.aload_n 0, 1) := by decide +kernel
theorem dX1_init_5 : decode cX1_init 5 = .ok (.bipush 6, 2) := by decide +kernel
theorem dX1_init_7 : decode cX1_init 7 = .ok (.newarray .int, 2) := by decide +kernel
theorem dX1_init_9 : decode cX1_init 9 = .ok (.putfield 9, 3) := by decide +kernel
theorem dX1_init_12 : decode cX1_init 12 = .ok (.aload_n 0, 1) := by decide +kernel
theorem dX1_init_13 : decode cX1_init 13 = .ok (.aload_n 1, 1) := by decide +kernel
theorem dX1_init_14 : decode cX1_init 14 = .ok (.putfield 15, 3) := by decide +kernel
theorem dX1_init_17 : decode cX1_init 17 = .ok (.aload_n 0, 1) := by decide +kernel
theorem dX1_init_18 : decode cX1_init 18 = .ok (.aload_n 2, 1) := by decide +kernel
theorem dX1_init_19 : decode cX1_init 19 = .ok (.putfield 19, 3) := by decide +kernel
theorem dX1_init_22 : decode cX1_init 22 = .ok (.return_, 1) := by decide +kernel
theorem dX1_seek_0 : decode cX1_seek 0 = .ok (.aload_n 0, 1) := by decide +kernel
theorem dX1_seek_1 : decode cX1_seek 1 = .ok (.iload_n 1, 1) := by decide +kernel
theorem dX1_seek_2 : decode cX1_seek 2 = .ok (.putfield 23, 3) := by decide +kernel
theorem dX1_seek_5 : decode cX1_seek 5 = .ok (.aload_n 0, 1) := by decide +kernel
theorem dX1_seek_6 : decode cX1_seek 6 = .ok (.iconst 0, 1) := by decide +kernel
theorem dX1_seek_7 : decode cX1_seek 7 = .ok (.putfield 27, 3) := by decide +kernel
theorem dX1_seek_10 : decode cX1_seek 10 = .ok (.aload_n 0, 1) := by decide +kernel
theorem dX1_seek_11 : decode cX1_seek 11 = .ok (.iconst 0, 1) := by decide +kernel
theorem dX1_seek_12 : decode cX1_seek 12 = .ok (.aload_n 0, 1) := by decide +kernel
theorem dX1_seek_13 : decode cX1_seek 13 = .ok (.getfield 15, 3) := by decide +kernel
theorem dX1_seek_16 : decode cX1_seek 16 = .ok (.iconst 3, 1) := by decide +kernel
theorem dX1_seek_17 : decode cX1_seek 17 = .ok (.invokevirtual 31, 3) := by decide +kernel
theorem dX1_seek_20 : decode cX1_seek 20 = .ok (.aload_n 0, 1) := by decide +kernel
theorem dX1_seek_21 : decode cX1_seek 21 = .ok (.getfield 15, 3) := by decide +kernel
theorem dX1_seek_24 : decode cX1_seek 24 = .ok (.iconst 2, 1) := by decide +kernel
theorem dX1_seek_25 : decode cX1_seek 25 = .ok (.invokevirtual 31, 3) := by decide +kernel
theorem dX1_seek_28 : decode cX1_seek 28 = .ok (.invokestatic 37, 3) := by decide +kernel
theorem dX1_seek_31 : decode cX1_seek 31 = .ok (.iconst 0, 1) := by decide +kernel
theorem dX1_seek_32 : decode cX1_seek 32 = .ok (.invokevirtual 43, 3) := by decide +kernel
theorem dX1_seek_35 : decode cX1_seek 35 = .ok (.return_, 1) := by decide +kernel
theorem dX1_fill_0 : decode cX1_fill 0 = .ok (.aload_n 0, 1) := by decide +kernel
theorem dX1_fill_1 : decode cX1_fill 1 = .ok (.getfield 15, 3) := by decide +kernel
theorem dX1_fill_4 : decode cX1_fill 4 = .ok (.iconst 2, 1) := by decide +kernel
theorem dX1_fill_5 : decode cX1_fill 5 = .ok (.invokevirtual 31, 3) := by decide +kernel
theorem dX1_fill_8 : decode cX1_fill 8 = .ok (.istore 4, 2) := by decide +kernel
theorem dX1_fill_10 : decode cX1_fill 10 = .ok (.iload_n 1, 1) := by decide +kernel
theorem dX1_fill_11 : decode cX1_fill 11 = .ok (.iload 4, 2) := by decide +kernel
theorem dX1_fill_13 : decode cX1_fill 13 = .ok (.if_icmp .ge 9, 3) := by decide +kernel
theorem dX1_fill_16 : decode cX1_fill 16 = .ok (.iload_n 1, 1) := by decide +kernel
theorem dX1_fill_17 : decode cX1_fill 17 = .ok (.bipush 6, 2) := by decide +kernel
theorem dX1_fill_19 : decode cX1_fill 19 = .ok (.if_icmp .lt 8, 3) := by decide +kernel
theorem dX1_fill_22 : decode cX1_fill 22 = .ok (.aload_n 0, 1) := by decide +kernel
theorem dX1_fill_23 : decode cX1_fill 23 = .ok (.invokevirtual 47, 3) := by decide +kernel
theorem dX1_fill_26 : decode cX1_fill 26 = .ok (.return_, 1) := by decide +kernel
theorem dX1_fill_27 : decode cX1_fill 27 = .ok (.iconst 0, 1) := by decide +kernel
theorem dX1_fill_28 : decode cX1_fill 28 = .ok (.istore 5, 2) := by decide +kernel
theorem dX1_fill_30 : decode cX1_fill 30 = .ok (.iload 5, 2) := by decide +kernel
theorem dX1_fill_32 : decode cX1_fill 32 = .ok (.aload_n 0, 1) := by decide +kernel
theorem dX1_fill_33 : decode cX1_fill 33 = .ok (.getfield 15, 3) := by decide +kernel
theorem dX1_fill_36 : decode cX1_fill 36 = .ok (.iconst 3, 1) := by decide +kernel
theorem dX1_fill_37 : decode cX1_fill 37 = .ok (.invokevirtual 31, 3) := by decide +kernel
theorem dX1_fill_40 : decode cX1_fill 40 = .ok (.if_icmp .ge 49, 3) := by decide +kernel
theorem dX1_fill_43 : decode cX1_fill 43 = .ok (.iload_n 2, 1) := by decide +kernel
theorem dX1_fill_44 : decode cX1_fill 44 = .ok (.ifCond .le 45, 3) := by decide +kernel
theorem dX1_fill_47 : decode cX1_fill 47 = .ok (.iload_n 3, 1) := by decide +kernel
theorem dX1_fill_48 : decode cX1_fill 48 = .ok (.iload 5, 2) := by decide +kernel
theorem dX1_fill_50 : decode cX1_fill 50 = .ok (.ishr, 1) := by decide +kernel
theorem dX1_fill_51 : decode cX1_fill 51 = .ok (.iconst 1, 1) := by decide +kernel
theorem dX1_fill_52 : decode cX1_fill 52 = .ok (.iand, 1) := by decide +kernel
theorem dX1_fill_53 : decode cX1_fill 53 = .ok (.ifCond .ne 30, 3) := by decide +kernel
theorem dX1_fill_56 : decode cX1_fill 56 = .ok (.aload_n 0, 1) := by decide +kernel
theorem dX1_fill_57 : decode cX1_fill 57 = .ok (.getfield 19, 3) := by decide +kernel
theorem dX1_fill_60 : decode cX1_fill 60 = .ok (.getfield 50, 3) := by decide +kernel
theorem dX1_fill_63 : decode cX1_fill 63 = .ok (.iload_n 1, 1) := by decide +kernel
theorem dX1_fill_64 : decode cX1_fill 64 = .ok (.iload 5, 2) := by decide +kernel
theorem dX1_fill_66 : decode cX1_fill 66 = .ok (.iastore, 1) := by decide +kernel
theorem dX1_fill_67 : decode cX1_fill 67 = .ok (.aload_n 0, 1) := by decide +kernel
theorem dX1_fill_68 : decode cX1_fill 68 = .ok (.iload_n 1, 1) := by decide +kernel
theorem dX1_fill_69 : decode cX1_fill 69 = .ok (.iconst 1, 1) := by decide +kernel
theorem dX1_fill_70 : decode cX1_fill 70 = .ok (.iadd, 1) := by decide +kernel
theorem dX1_fill_71 : decode cX1_fill 71 = .ok (.iload_n 2, 1) := by decide +kernel
theorem dX1_fill_72 : decode cX1_fill 72 = .ok (.iconst 1, 1) := by decide +kernel
theorem dX1_fill_73 : decode cX1_fill 73 = .ok (.isub, 1) := by decide +kernel
theorem dX1_fill_74 : decode cX1_fill 74 = .ok (.iload_n 3, 1) := by decide +kernel
theorem dX1_fill_75 : decode cX1_fill 75 = .ok (.iconst 1, 1) := by decide +kernel
theorem dX1_fill_76 : decode cX1_fill 76 = .ok (.iload 5, 2) := by decide +kernel
theorem dX1_fill_78 : decode cX1_fill 78 = .ok (.ishl, 1) := by decide +kernel
theorem dX1_fill_79 : decode cX1_fill 79 = .ok (.ior, 1) := by decide +kernel
theorem dX1_fill_80 : decode cX1_fill 80 = .ok (.invokevirtual 43, 3) := by decide +kernel
theorem dX1_fill_83 : decode cX1_fill 83 = .ok (.iinc 5 1, 3) := by decide +kernel
theorem dX1_fill_86 : decode cX1_fill 86 = .ok (.goto (-56), 3) := by decide +kernel
theorem dX1_fill_89 : decode cX1_fill 89 = .ok (.iload_n 2, 1) := by decide +kernel
theorem dX1_fill_90 : decode cX1_fill 90 = .ok (.iload 4, 2) := by decide +kernel
theorem dX1_fill_92 : decode cX1_fill 92 = .ok (.iload_n 1, 1) := by decide +kernel
theorem dX1_fill_93 : decode cX1_fill 93 = .ok (.isub, 1) := by decide +kernel
theorem dX1_fill_94 : decode cX1_fill 94 = .ok (.if_icmp .ge 22, 3) := by decide +kernel
theorem dX1_fill_97 : decode cX1_fill 97 = .ok (.aload_n 0, 1) := by decide +kernel
theorem dX1_fill_98 : decode cX1_fill 98 = .ok (.getfield 19, 3) := by decide +kernel
theorem dX1_fill_101 : decode cX1_fill 101 = .ok (.getfield 50, 3) := by decide +kernel
theorem dX1_fill_104 : decode cX1_fill 104 = .ok (.iload_n 1, 1) := by decide +kernel
theorem dX1_fill_105 : decode cX1_fill 105 = .ok (.iconst (-1), 1) := by decide +kernel
theorem dX1_fill_106 : decode cX1_fill 106 = .ok (.iastore, 1) := by decide +kernel
theorem dX1_fill_107 : decode cX1_fill 107 = .ok (.aload_n 0, 1) := by decide +kernel
theorem dX1_fill_108 : decode cX1_fill 108 = .ok (.iload_n 1, 1) := by decide +kernel
theorem dX1_fill_109 : decode cX1_fill 109 = .ok (.iconst 1, 1) := by decide +kernel
theorem dX1_fill_110 : decode cX1_fill 110 = .ok (.iadd, 1) := by decide +kernel
theorem dX1_fill_111 : decode cX1_fill 111 = .ok (.iload_n 2, 1) := by decide +kernel
theorem dX1_fill_112 : decode cX1_fill 112 = .ok (.iload_n 3, 1) := by decide +kernel
theorem dX1_fill_113 : decode cX1_fill 113 = .ok (.invokevirtual 43, 3) := by decide +kernel
theorem dX1_fill_116 : decode cX1_fill 116 = .ok (.return_, 1) := by decide +kernel
theorem dX1_weigh_0 : decode cX1_weigh 0 = .ok (.aload_n 0, 1) := by decide +kernel
theorem dX1_weigh_1 : decode cX1_weigh 1 = .ok (.getfield 19, 3) := by decide +kernel
theorem dX1_weigh_4 : decode cX1_weigh 4 = .ok (.invokevirtual 55, 3) := by decide +kernel
theorem dX1_weigh_7 : decode cX1_weigh 7 = .ok (.aload_n 0, 1) := by decide +kernel
theorem dX1_weigh_8 : decode cX1_weigh 8 = .ok (.getfield 23, 3) := by decide +kernel
theorem dX1_weigh_11 : decode cX1_weigh 11 = .ok (.iconst (-1), 1) := by decide +kernel
theorem dX1_weigh_12 : decode cX1_weigh 12 = .ok (.if_icmp .ne 13, 3) := by decide +kernel
theorem dX1_weigh_15 : decode cX1_weigh 15 = .ok (.aload_n 0, 1) := by decide +kernel
theorem dX1_weigh_16 : decode cX1_weigh 16 = .ok (.getfield 19, 3) := by decide +kernel
theorem dX1_weigh_19 : decode cX1_weigh 19 = .ok (.invokevirtual 58, 3) := by decide +kernel
theorem dX1_weigh_22 : decode cX1_weigh 22 = .ok (.goto 14, 3) := by decide +kernel
theorem dX1_weigh_25 : decode cX1_weigh 25 = .ok (.aload_n 0, 1) := by decide +kernel
theorem dX1_weigh_26 : decode cX1_weigh 26 = .ok (.getfield 19, 3) := by decide +kernel
theorem dX1_weigh_29 : decode cX1_weigh 29 = .ok (.aload_n 0, 1) := by decide +kernel
theorem dX1_weigh_30 : decode cX1_weigh 30 = .ok (.getfield 23, 3) := by decide +kernel
theorem dX1_weigh_33 : decode cX1_weigh 33 = .ok (.invokevirtual 62, 3) := by decide +kernel
theorem dX1_weigh_36 : decode cX1_weigh 36 = .ok (.istore_n 1, 1) := by decide +kernel
theorem dX1_weigh_37 : decode cX1_weigh 37 = .ok (.aload_n 0, 1) := by decide +kernel
theorem dX1_weigh_38 : decode cX1_weigh 38 = .ok (.getfield 27, 3) := by decide +kernel
theorem dX1_weigh_41 : decode cX1_weigh 41 = .ok (.ifCond .eq 11, 3) := by decide +kernel
theorem dX1_weigh_44 : decode cX1_weigh 44 = .ok (.iload_n 1, 1) := by decide +kernel
theorem dX1_weigh_45 : decode cX1_weigh 45 = .ok (.aload_n 0, 1) := by decide +kernel
theorem dX1_weigh_46 : decode cX1_weigh 46 = .ok (.getfield 65, 3) := by decide +kernel
theorem dX1_weigh_49 : decode cX1_weigh 49 = .ok (.if_icmp .le 31, 3) := by decide +kernel
theorem dX1_weigh_52 : decode cX1_weigh 52 = .ok (.aload_n 0, 1) := by decide +kernel
theorem dX1_weigh_53 : decode cX1_weigh 53 = .ok (.iconst 1, 1) := by decide +kernel
theorem dX1_weigh_54 : decode cX1_weigh 54 = .ok (.putfield 27, 3) := by decide +kernel
theorem dX1_weigh_57 : decode cX1_weigh 57 = .ok (.aload_n 0, 1) := by decide +kernel
theorem dX1_weigh_58 : decode cX1_weigh 58 = .ok (.iload_n 1, 1) := by decide +kernel
theorem dX1_weigh_59 : decode cX1_weigh 59 = .ok (.putfield 65, 3) := by decide +kernel
theorem dX1_weigh_62 : decode cX1_weigh 62 = .ok (.aload_n 0, 1) := by decide +kernel
theorem dX1_weigh_63 : decode cX1_weigh 63 = .ok (.getfield 19, 3) := by decide +kernel
theorem dX1_weigh_66 : decode cX1_weigh 66 = .ok (.getfield 50, 3) := by decide +kernel
theorem dX1_weigh_69 : decode cX1_weigh 69 = .ok (.iconst 0, 1) := by decide +kernel
theorem dX1_weigh_70 : decode cX1_weigh 70 = .ok (.aload_n 0, 1) := by decide +kernel
theorem dX1_weigh_71 : decode cX1_weigh 71 = .ok (.getfield 9, 3) := by decide +kernel
theorem dX1_weigh_74 : decode cX1_weigh 74 = .ok (.iconst 0, 1) := by decide +kernel
theorem dX1_weigh_75 : decode cX1_weigh 75 = .ok (.bipush 6, 2) := by decide +kernel
theorem dX1_weigh_77 : decode cX1_weigh 77 = .ok (.invokestatic 68, 3) := by decide +kernel
theorem dX1_weigh_80 : decode cX1_weigh 80 = .ok (.return_, 1) := by decide +kernel
theorem dX2_init_0 : decode cX2_init 0 = .ok (.aload_n 0, 1) := by decide +kernel
theorem dX2_init_1 : decode cX2_init 1 = .ok (.invokespecial 3, 3) := by decide +kernel
theorem dX2_init_4 : decode cX2_init 4 = .ok (.aload_n 0, 1) := by decide +kernel
theorem dX2_init_5 : decode cX2_init 5 = .ok (.iconst 5, 1) := by decide +kernel
theorem dX2_init_6 : decode cX2_init 6 = .ok (.newarray .int, 2) := by decide +kernel
theorem dX2_init_8 : decode cX2_init 8 = .ok (.putfield 9, 3) := by decide +kernel
theorem dX2_init_11 : decode cX2_init 11 = .ok (.aload_n 0, 1) := by decide +kernel
theorem dX2_init_12 : decode cX2_init 12 = .ok (.bipush 90, 2) := by decide +kernel
theorem dX2_init_14 : decode cX2_init 14 = .ok (.newarray .int, 2) := by decide +kernel
theorem dX2_init_16 : decode cX2_init 16 = .ok (.putfield 15, 3) := by decide +kernel
theorem dX2_init_19 : decode cX2_init 19 = .ok (.return_, 1) := by decide +kernel
theorem dX2_count_0 : decode cX2_count 0 = .ok (.aload_n 0, 1) := by decide +kernel
theorem dX2_count_1 : decode cX2_count 1 = .ok (.getfield 9, 3) := by decide +kernel
theorem dX2_count_4 : decode cX2_count 4 = .ok (.iload_n 1, 1) := by decide +kernel
theorem dX2_count_5 : decode cX2_count 5 = .ok (.iaload, 1) := by decide +kernel
theorem dX2_count_6 : decode cX2_count 6 = .ok (.ireturn, 1) := by decide +kernel
theorem dX2_has_0 : decode cX2_has 0 = .ok (.iload_n 2, 1) := by decide +kernel
theorem dX2_has_1 : decode cX2_has 1 = .ok (.ifCond .lt 17, 3) := by decide +kernel
theorem dX2_has_4 : decode cX2_has 4 = .ok (.iload_n 2, 1) := by decide +kernel
theorem dX2_has_5 : decode cX2_has 5 = .ok (.aload_n 0, 1) := by decide +kernel
theorem dX2_has_6 : decode cX2_has 6 = .ok (.getfield 9, 3) := by decide +kernel
theorem dX2_has_9 : decode cX2_has 9 = .ok (.iload_n 1, 1) := by decide +kernel
theorem dX2_has_10 : decode cX2_has 10 = .ok (.iaload, 1) := by decide +kernel
theorem dX2_has_11 : decode cX2_has 11 = .ok (.if_icmp .ge 7, 3) := by decide +kernel
theorem dX2_has_14 : decode cX2_has 14 = .ok (.iconst 1, 1) := by decide +kernel
theorem dX2_has_15 : decode cX2_has 15 = .ok (.goto 4, 3) := by decide +kernel
theorem dX2_has_18 : decode cX2_has 18 = .ok (.iconst 0, 1) := by decide +kernel
theorem dX2_has_19 : decode cX2_has 19 = .ok (.ireturn, 1) := by decide +kernel
theorem dX2_number_0 : decode cX2_number 0 = .ok (.iload_n 2, 1) := by decide +kernel
theorem dX2_number_1 : decode cX2_number 1 = .ok (.ifCond .lt 13, 3) := by decide +kernel
theorem dX2_number_4 : decode cX2_number 4 = .ok (.iload_n 2, 1) := by decide +kernel
theorem dX2_number_5 : decode cX2_number 5 = .ok (.aload_n 0, 1) := by decide +kernel
theorem dX2_number_6 : decode cX2_number 6 = .ok (.getfield 9, 3) := by decide +kernel
theorem dX2_number_9 : decode cX2_number 9 = .ok (.iload_n 1, 1) := by decide +kernel
theorem dX2_number_10 : decode cX2_number 10 = .ok (.iaload, 1) := by decide +kernel
theorem dX2_number_11 : decode cX2_number 11 = .ok (.if_icmp .lt 5, 3) := by decide +kernel
theorem dX2_number_14 : decode cX2_number 14 = .ok (.iconst 0, 1) := by decide +kernel
theorem dX2_number_15 : decode cX2_number 15 = .ok (.ireturn, 1) := by decide +kernel
theorem dX2_number_16 : decode cX2_number 16 = .ok (.aload_n 0, 1) := by decide +kernel
theorem dX2_number_17 : decode cX2_number 17 = .ok (.getfield 15, 3) := by decide +kernel
theorem dX2_number_20 : decode cX2_number 20 = .ok (.iload_n 1, 1) := by decide +kernel
theorem dX2_number_21 : decode cX2_number 21 = .ok (.bipush 6, 2) := by decide +kernel
theorem dX2_number_23 : decode cX2_number 23 = .ok (.imul, 1) := by decide +kernel
theorem dX2_number_24 : decode cX2_number 24 = .ok (.iload_n 2, 1) := by decide +kernel
theorem dX2_number_25 : decode cX2_number 25 = .ok (.iadd, 1) := by decide +kernel
theorem dX2_number_26 : decode cX2_number 26 = .ok (.iconst 3, 1) := by decide +kernel
theorem dX2_number_27 : decode cX2_number 27 = .ok (.imul, 1) := by decide +kernel
theorem dX2_number_28 : decode cX2_number 28 = .ok (.iload_n 3, 1) := by decide +kernel
theorem dX2_number_29 : decode cX2_number 29 = .ok (.iadd, 1) := by decide +kernel
theorem dX2_number_30 : decode cX2_number 30 = .ok (.iaload, 1) := by decide +kernel
theorem dX2_number_31 : decode cX2_number 31 = .ok (.ireturn, 1) := by decide +kernel
theorem dX2_clear_0 : decode cX2_clear 0 = .ok (.aload_n 0, 1) := by decide +kernel
theorem dX2_clear_1 : decode cX2_clear 1 = .ok (.getfield 9, 3) := by decide +kernel
theorem dX2_clear_4 : decode cX2_clear 4 = .ok (.iconst 0, 1) := by decide +kernel
theorem dX2_clear_5 : decode cX2_clear 5 = .ok (.invokestatic 18, 3) := by decide +kernel
theorem dX2_clear_8 : decode cX2_clear 8 = .ok (.return_, 1) := by decide +kernel
theorem dX2_become_0 : decode cX2_become 0 = .ok (.aload_n 1, 1) := by decide +kernel
theorem dX2_become_1 : decode cX2_become 1 = .ok (.getfield 9, 3) := by decide +kernel
theorem dX2_become_4 : decode cX2_become 4 = .ok (.iconst 0, 1) := by decide +kernel
theorem dX2_become_5 : decode cX2_become 5 = .ok (.aload_n 0, 1) := by decide +kernel
theorem dX2_become_6 : decode cX2_become 6 = .ok (.getfield 9, 3) := by decide +kernel
theorem dX2_become_9 : decode cX2_become 9 = .ok (.iconst 0, 1) := by decide +kernel
theorem dX2_become_10 : decode cX2_become 10 = .ok (.iconst 5, 1) := by decide +kernel
theorem dX2_become_11 : decode cX2_become 11 = .ok (.invokestatic 24, 3) := by decide +kernel
theorem dX2_become_14 : decode cX2_become 14 = .ok (.aload_n 1, 1) := by decide +kernel
theorem dX2_become_15 : decode cX2_become 15 = .ok (.getfield 15, 3) := by decide +kernel
theorem dX2_become_18 : decode cX2_become 18 = .ok (.iconst 0, 1) := by decide +kernel
theorem dX2_become_19 : decode cX2_become 19 = .ok (.aload_n 0, 1) := by decide +kernel
theorem dX2_become_20 : decode cX2_become 20 = .ok (.getfield 15, 3) := by decide +kernel
theorem dX2_become_23 : decode cX2_become 23 = .ok (.iconst 0, 1) := by decide +kernel
theorem dX2_become_24 : decode cX2_become 24 = .ok (.aload_n 0, 1) := by decide +kernel
theorem dX2_become_25 : decode cX2_become 25 = .ok (.getfield 15, 3) := by decide +kernel
theorem dX2_become_28 : decode cX2_become 28 = .ok (.arraylength, 1) := by decide +kernel
theorem dX2_become_29 : decode cX2_become 29 = .ok (.invokestatic 24, 3) := by decide +kernel
theorem dX2_become_32 : decode cX2_become 32 = .ok (.return_, 1) := by decide +kernel
theorem dX2_add_0 : decode cX2_add 0 = .ok (.aload_n 0, 1) := by decide +kernel
theorem dX2_add_1 : decode cX2_add 1 = .ok (.getfield 9, 3) := by decide +kernel
theorem dX2_add_4 : decode cX2_add 4 = .ok (.iload_n 1, 1) := by decide +kernel
theorem dX2_add_5 : decode cX2_add 5 = .ok (.iaload, 1) := by decide +kernel
theorem dX2_add_6 : decode cX2_add 6 = .ok (.getstatic 30, 3) := by decide +kernel
theorem dX2_add_9 : decode cX2_add 9 = .ok (.iload_n 1, 1) := by decide +kernel
theorem dX2_add_10 : decode cX2_add 10 = .ok (.iaload, 1) := by decide +kernel
theorem dX2_add_11 : decode cX2_add 11 = .ok (.if_icmp .ge 38, 3) := by decide +kernel
theorem dX2_add_14 : decode cX2_add 14 = .ok (.iload_n 1, 1) := by decide +kernel
theorem dX2_add_15 : decode cX2_add 15 = .ok (.bipush 6, 2) := by decide +kernel
theorem dX2_add_17 : decode cX2_add 17 = .ok (.imul, 1) := by decide +kernel
theorem dX2_add_18 : decode cX2_add 18 = .ok (.aload_n 0, 1) := by decide +kernel
theorem dX2_add_19 : decode cX2_add 19 = .ok (.getfield 9, 3) := by decide +kernel
theorem dX2_add_22 : decode cX2_add 22 = .ok (.iload_n 1, 1) := by decide +kernel
theorem dX2_add_23 : decode cX2_add 23 = .ok (.iaload, 1) := by decide +kernel
theorem dX2_add_24 : decode cX2_add 24 = .ok (.iadd, 1) := by decide +kernel
theorem dX2_add_25 : decode cX2_add 25 = .ok (.iconst 3, 1) := by decide +kernel
theorem dX2_add_26 : decode cX2_add 26 = .ok (.imul, 1) := by decide +kernel
theorem dX2_add_27 : decode cX2_add 27 = .ok (.istore_n 3, 1) := by decide +kernel
theorem dX2_add_28 : decode cX2_add 28 = .ok (.aload_n 2, 1) := by decide +kernel
theorem dX2_add_29 : decode cX2_add 29 = .ok (.iconst 0, 1) := by decide +kernel
theorem dX2_add_30 : decode cX2_add 30 = .ok (.aload_n 0, 1) := by decide +kernel
theorem dX2_add_31 : decode cX2_add 31 = .ok (.getfield 15, 3) := by decide +kernel
theorem dX2_add_34 : decode cX2_add 34 = .ok (.iload_n 3, 1) := by decide +kernel
theorem dX2_add_35 : decode cX2_add 35 = .ok (.iconst 3, 1) := by decide +kernel
theorem dX2_add_36 : decode cX2_add 36 = .ok (.invokestatic 24, 3) := by decide +kernel
theorem dX2_add_39 : decode cX2_add 39 = .ok (.aload_n 0, 1) := by decide +kernel
theorem dX2_add_40 : decode cX2_add 40 = .ok (.getfield 9, 3) := by decide +kernel
theorem dX2_add_43 : decode cX2_add 43 = .ok (.iload_n 1, 1) := by decide +kernel
theorem dX2_add_44 : decode cX2_add 44 = .ok (.dup2, 1) := by decide +kernel
theorem dX2_add_45 : decode cX2_add 45 = .ok (.iaload, 1) := by decide +kernel
theorem dX2_add_46 : decode cX2_add 46 = .ok (.iconst 1, 1) := by decide +kernel
theorem dX2_add_47 : decode cX2_add 47 = .ok (.iadd, 1) := by decide +kernel
theorem dX2_add_48 : decode cX2_add 48 = .ok (.iastore, 1) := by decide +kernel
theorem dX2_add_49 : decode cX2_add 49 = .ok (.return_, 1) := by decide +kernel
theorem dX2_hasMoreThanYear_0 : decode cX2_hasMoreThanYear 0 = .ok (.aload_n 0, 1) := by decide +kernel
theorem dX2_hasMoreThanYear_1 : decode cX2_hasMoreThanYear 1 = .ok (.getfield 9, 3) := by decide +kernel
theorem dX2_hasMoreThanYear_4 : decode cX2_hasMoreThanYear 4 = .ok (.iconst 1, 1) := by decide +kernel
theorem dX2_hasMoreThanYear_5 : decode cX2_hasMoreThanYear 5 = .ok (.iaload, 1) := by decide +kernel
theorem dX2_hasMoreThanYear_6 : decode cX2_hasMoreThanYear 6 = .ok (.aload_n 0, 1) := by decide +kernel
theorem dX2_hasMoreThanYear_7 : decode cX2_hasMoreThanYear 7 = .ok (.getfield 9, 3) := by decide +kernel
theorem dX2_hasMoreThanYear_10 : decode cX2_hasMoreThanYear 10 = .ok (.iconst 2, 1) := by decide +kernel
theorem dX2_hasMoreThanYear_11 : decode cX2_hasMoreThanYear 11 = .ok (.iaload, 1) := by decide +kernel
theorem dX2_hasMoreThanYear_12 : decode cX2_hasMoreThanYear 12 = .ok (.iadd, 1) := by decide +kernel
theorem dX2_hasMoreThanYear_13 : decode cX2_hasMoreThanYear 13 = .ok (.aload_n 0, 1) := by decide +kernel
theorem dX2_hasMoreThanYear_14 : decode cX2_hasMoreThanYear 14 = .ok (.getfield 9, 3) := by decide +kernel
theorem dX2_hasMoreThanYear_17 : decode cX2_hasMoreThanYear 17 = .ok (.iconst 3, 1) := by decide +kernel
theorem dX2_hasMoreThanYear_18 : decode cX2_hasMoreThanYear 18 = .ok (.iaload, 1) := by decide +kernel
theorem dX2_hasMoreThanYear_19 : decode cX2_hasMoreThanYear 19 = .ok (.iadd, 1) := by decide +kernel
theorem dX2_hasMoreThanYear_20 : decode cX2_hasMoreThanYear 20 = .ok (.aload_n 0, 1) := by decide +kernel
theorem dX2_hasMoreThanYear_21 : decode cX2_hasMoreThanYear 21 = .ok (.getfield 9, 3) := by decide +kernel
theorem dX2_hasMoreThanYear_24 : decode cX2_hasMoreThanYear 24 = .ok (.iconst 4, 1) := by decide +kernel
theorem dX2_hasMoreThanYear_25 : decode cX2_hasMoreThanYear 25 = .ok (.iaload, 1) := by decide +kernel
theorem dX2_hasMoreThanYear_26 : decode cX2_hasMoreThanYear 26 = .ok (.iadd, 1) := by decide +kernel
theorem dX2_hasMoreThanYear_27 : decode cX2_hasMoreThanYear 27 = .ok (.ifCond .le 7, 3) := by decide +kernel
theorem dX2_hasMoreThanYear_30 : decode cX2_hasMoreThanYear 30 = .ok (.iconst 1, 1) := by decide +kernel
theorem dX2_hasMoreThanYear_31 : decode cX2_hasMoreThanYear 31 = .ok (.goto 4, 3) := by decide +kernel
theorem dX2_hasMoreThanYear_34 : decode cX2_hasMoreThanYear 34 = .ok (.iconst 0, 1) := by decide +kernel
theorem dX2_hasMoreThanYear_35 : decode cX2_hasMoreThanYear 35 = .ok (.ireturn, 1) := by decide +kernel
theorem dX2_days_0 : decode cX2_days 0 = .ok (.aload_n 0, 1) := by decide +kernel
theorem dX2_days_1 : decode cX2_days 1 = .ok (.getfield 9, 3) := by decide +kernel
theorem dX2_days_4 : decode cX2_days 4 = .ok (.iconst 0, 1) := by decide +kernel
theorem dX2_days_5 : decode cX2_days 5 = .ok (.iaload, 1) := by decide +kernel
theorem dX2_days_6 : decode cX2_days 6 = .ok (.ifCond .ne 8, 3) := by decide +kernel
theorem dX2_days_9 : decode cX2_days 9 = .ok (.bipush 12, 2) := by decide +kernel
theorem dX2_days_11 : decode cX2_days 11 = .ok (.goto 14, 3) := by decide +kernel
theorem dX2_days_14 : decode cX2_days 14 = .ok (.iconst 1, 1) := by decide +kernel
theorem dX2_days_15 : decode cX2_days 15 = .ok (.aload_n 0, 1) := by decide +kernel
theorem dX2_days_16 : decode cX2_days 16 = .ok (.iconst 0, 1) := by decide +kernel
theorem dX2_days_17 : decode cX2_days 17 = .ok (.iconst 0, 1) := by decide +kernel
theorem dX2_days_18 : decode cX2_days 18 = .ok (.iconst 0, 1) := by decide +kernel
theorem dX2_days_19 : decode cX2_days 19 = .ok (.invokevirtual 33, 3) := by decide +kernel
theorem dX2_days_22 : decode cX2_days 22 = .ok (.invokestatic 37, 3) := by decide +kernel
theorem dX2_days_25 : decode cX2_days 25 = .ok (.ireturn, 1) := by decide +kernel
theorem dX2_longOf_0 : decode cX2_longOf 0 = .ok (.aload_n 0, 1) := by decide +kernel
theorem dX2_longOf_1 : decode cX2_longOf 1 = .ok (.invokevirtual 43, 3) := by decide +kernel
theorem dX2_longOf_4 : decode cX2_longOf 4 = .ok (.istore_n 3, 1) := by decide +kernel
theorem dX2_longOf_5 : decode cX2_longOf 5 = .ok (.iload_n 3, 1) := by decide +kernel
theorem dX2_longOf_6 : decode cX2_longOf 6 = .ok (.iconst 1, 1) := by decide +kernel
theorem dX2_longOf_7 : decode cX2_longOf 7 = .ok (.if_icmp .ge 7, 3) := by decide +kernel
theorem dX2_longOf_10 : decode cX2_longOf 10 = .ok (.iconst 0, 1) := by decide +kernel
theorem dX2_longOf_11 : decode cX2_longOf 11 = .ok (.goto 6, 3) := by decide +kernel
theorem dX2_longOf_14 : decode cX2_longOf 14 = .ok (.iload_n 2, 1) := by decide +kernel
theorem dX2_longOf_15 : decode cX2_longOf 15 = .ok (.iload_n 3, 1) := by decide +kernel
theorem dX2_longOf_16 : decode cX2_longOf 16 = .ok (.irem, 1) := by decide +kernel
theorem dX2_longOf_17 : decode cX2_longOf 17 = .ok (.istore 4, 2) := by decide +kernel
theorem dX2_longOf_19 : decode cX2_longOf 19 = .ok (.iload 4, 2) := by decide +kernel
theorem dX2_longOf_21 : decode cX2_longOf 21 = .ok (.iload_n 3, 1) := by decide +kernel
theorem dX2_longOf_22 : decode cX2_longOf 22 = .ok (.iload 4, 2) := by decide +kernel
theorem dX2_longOf_24 : decode cX2_longOf 24 = .ok (.isub, 1) := by decide +kernel
theorem dX2_longOf_25 : decode cX2_longOf 25 = .ok (.invokestatic 47, 3) := by decide +kernel
theorem dX2_longOf_28 : decode cX2_longOf 28 = .ok (.istore 5, 2) := by decide +kernel
theorem dX2_longOf_30 : decode cX2_longOf 30 = .ok (.aload_n 0, 1) := by decide +kernel
theorem dX2_longOf_31 : decode cX2_longOf 31 = .ok (.iconst 1, 1) := by decide +kernel
theorem dX2_longOf_32 : decode cX2_longOf 32 = .ok (.iload_n 1, 1) := by decide +kernel
theorem dX2_longOf_33 : decode cX2_longOf 33 = .ok (.iconst 0, 1) := by decide +kernel
theorem dX2_longOf_34 : decode cX2_longOf 34 = .ok (.invokevirtual 33, 3) := by decide +kernel
theorem dX2_longOf_37 : decode cX2_longOf 37 = .ok (.aload_n 0, 1) := by decide +kernel
theorem dX2_longOf_38 : decode cX2_longOf 38 = .ok (.iconst 1, 1) := by decide +kernel
theorem dX2_longOf_39 : decode cX2_longOf 39 = .ok (.iload_n 1, 1) := by decide +kernel
theorem dX2_longOf_40 : decode cX2_longOf 40 = .ok (.iconst 1, 1) := by decide +kernel
theorem dX2_longOf_41 : decode cX2_longOf 41 = .ok (.invokevirtual 33, 3) := by decide +kernel
theorem dX2_longOf_44 : decode cX2_longOf 44 = .ok (.iload 5, 2) := by decide +kernel
theorem dX2_longOf_46 : decode cX2_longOf 46 = .ok (.imul, 1) := by decide +kernel
theorem dX2_longOf_47 : decode cX2_longOf 47 = .ok (.iadd, 1) := by decide +kernel
theorem dX2_longOf_48 : decode cX2_longOf 48 = .ok (.ireturn, 1) := by decide +kernel
theorem dX2_shadeOn_0 : decode cX2_shadeOn 0 = .ok (.iload_n 2, 1) := by decide +kernel
theorem dX2_shadeOn_1 : decode cX2_shadeOn 1 = .ok (.iload_n 3, 1) := by decide +kernel
theorem dX2_shadeOn_2 : decode cX2_shadeOn 2 = .ok (.imul, 1) := by decide +kernel
theorem dX2_shadeOn_3 : decode cX2_shadeOn 3 = .ok (.bipush 10, 2) := by decide +kernel
theorem dX2_shadeOn_5 : decode cX2_shadeOn 5 = .ok (.idiv, 1) := by decide +kernel
theorem dX2_shadeOn_6 : decode cX2_shadeOn 6 = .ok (.istore 4, 2) := by decide +kernel
theorem dX2_shadeOn_8 : decode cX2_shadeOn 8 = .ok (.iload 4, 2) := by decide +kernel
theorem dX2_shadeOn_10 : decode cX2_shadeOn 10 = .ok (.bipush 10, 2) := by decide +kernel
theorem dX2_shadeOn_12 : decode cX2_shadeOn 12 = .ok (.aload_n 0, 1) := by decide +kernel
theorem dX2_shadeOn_13 : decode cX2_shadeOn 13 = .ok (.iconst 2, 1) := by decide +kernel
theorem dX2_shadeOn_14 : decode cX2_shadeOn 14 = .ok (.iload_n 1, 1) := by decide +kernel
theorem dX2_shadeOn_15 : decode cX2_shadeOn 15 = .ok (.iconst 1, 1) := by decide +kernel
theorem dX2_shadeOn_16 : decode cX2_shadeOn 16 = .ok (.invokevirtual 33, 3) := by decide +kernel
theorem dX2_shadeOn_19 : decode cX2_shadeOn 19 = .ok (.isub, 1) := by decide +kernel
theorem dX2_shadeOn_20 : decode cX2_shadeOn 20 = .ok (.imul, 1) := by decide +kernel
theorem dX2_shadeOn_21 : decode cX2_shadeOn 21 = .ok (.bipush 10, 2) := by decide +kernel
theorem dX2_shadeOn_23 : decode cX2_shadeOn 23 = .ok (.idiv, 1) := by decide +kernel
theorem dX2_shadeOn_24 : decode cX2_shadeOn 24 = .ok (.istore 4, 2) := by decide +kernel
theorem dX2_shadeOn_26 : decode cX2_shadeOn 26 = .ok (.aload_n 0, 1) := by decide +kernel
theorem dX2_shadeOn_27 : decode cX2_shadeOn 27 = .ok (.iconst 2, 1) := by decide +kernel
theorem dX2_shadeOn_28 : decode cX2_shadeOn 28 = .ok (.iload_n 1, 1) := by decide +kernel
theorem dX2_shadeOn_29 : decode cX2_shadeOn 29 = .ok (.iconst 2, 1) := by decide +kernel
theorem dX2_shadeOn_30 : decode cX2_shadeOn 30 = .ok (.invokevirtual 33, 3) := by decide +kernel
theorem dX2_shadeOn_33 : decode cX2_shadeOn 33 = .ok (.istore 5, 2) := by decide +kernel
theorem dX2_shadeOn_35 : decode cX2_shadeOn 35 = .ok (.iload 5, 2) := by decide +kernel
theorem dX2_shadeOn_37 : decode cX2_shadeOn 37 = .ok (.ifCond .ne 8, 3) := by decide +kernel
theorem dX2_shadeOn_40 : decode cX2_shadeOn 40 = .ok (.iload 4, 2) := by decide +kernel
theorem dX2_shadeOn_42 : decode cX2_shadeOn 42 = .ok (.goto 10, 3) := by decide +kernel
theorem dX2_shadeOn_45 : decode cX2_shadeOn 45 = .ok (.iload 4, 2) := by decide +kernel
theorem dX2_shadeOn_47 : decode cX2_shadeOn 47 = .ok (.iload 5, 2) := by decide +kernel
theorem dX2_shadeOn_49 : decode cX2_shadeOn 49 = .ok (.invokestatic 47, 3) := by decide +kernel
theorem dX2_shadeOn_52 : decode cX2_shadeOn 52 = .ok (.ireturn, 1) := by decide +kernel
theorem dX3_init_0 : decode cX3_init 0 = .ok (.aload_n 0, 1) := by decide +kernel
theorem dX3_init_1 : decode cX3_init 1 = .ok (.invokespecial 3, 3) := by decide +kernel
theorem dX3_init_4 : decode cX3_init 4 = .ok (.aload_n 0, 1) := by decide +kernel
theorem dX3_init_5 : decode cX3_init 5 = .ok (.sipush 500, 3) := by decide +kernel
theorem dX3_init_8 : decode cX3_init 8 = .ok (.newarray .char, 2) := by decide +kernel
theorem dX3_init_10 : decode cX3_init 10 = .ok (.putfield 9, 3) := by decide +kernel
theorem dX3_init_13 : decode cX3_init 13 = .ok (.aload_n 0, 1) := by decide +kernel
theorem dX3_init_14 : decode cX3_init 14 = .ok (.iconst 3, 1) := by decide +kernel
theorem dX3_init_15 : decode cX3_init 15 = .ok (.newarray .int, 2) := by decide +kernel
theorem dX3_init_17 : decode cX3_init 17 = .ok (.putfield 15, 3) := by decide +kernel
theorem dX3_init_20 : decode cX3_init 20 = .ok (.aload_n 0, 1) := by decide +kernel
theorem dX3_init_21 : decode cX3_init 21 = .ok (.new 19, 3) := by decide +kernel
theorem dX3_init_24 : decode cX3_init 24 = .ok (.dup, 1) := by decide +kernel
theorem dX3_init_25 : decode cX3_init 25 = .ok (.invokespecial 21, 3) := by decide +kernel
theorem dX3_init_28 : decode cX3_init 28 = .ok (.putfield 22, 3) := by decide +kernel
theorem dX3_init_31 : decode cX3_init 31 = .ok (.aload_n 0, 1) := by decide +kernel
theorem dX3_init_32 : decode cX3_init 32 = .ok (.iconst (-1), 1) := by decide +kernel
theorem dX3_init_33 : decode cX3_init 33 = .ok (.putfield 26, 3) := by decide +kernel
theorem dX3_init_36 : decode cX3_init 36 = .ok (.return_, 1) := by decide +kernel
theorem dX3_take_0 : decode cX3_take 0 = .ok (.iload_n 1, 1) := by decide +kernel
theorem dX3_take_1 : decode cX3_take 1 = .ok (.iconst 1, 1) := by decide +kernel
theorem dX3_take_2 : decode cX3_take 2 = .ok (.isub, 1) := by decide +kernel
theorem dX3_take_3 : decode cX3_take 3 = .ok (.istore 4, 2) := by decide +kernel
theorem dX3_take_5 : decode cX3_take 5 = .ok (.iload 4, 2) := by decide +kernel
theorem dX3_take_7 : decode cX3_take 7 = .ok (.ifCond .lt 51, 3) := by decide +kernel
theorem dX3_take_10 : decode cX3_take 10 = .ok (.aload_n 0, 1) := by decide +kernel
theorem dX3_take_11 : decode cX3_take 11 = .ok (.getfield 30, 3) := by decide +kernel
theorem dX3_take_14 : decode cX3_take 14 = .ok (.sipush 500, 3) := by decide +kernel
theorem dX3_take_17 : decode cX3_take 17 = .ok (.if_icmp .ge 41, 3) := by decide +kernel
theorem dX3_take_20 : decode cX3_take 20 = .ok (.aload_n 0, 1) := by decide +kernel
theorem dX3_take_21 : decode cX3_take 21 = .ok (.getfield 9, 3) := by decide +kernel
theorem dX3_take_24 : decode cX3_take 24 = .ok (.aload_n 0, 1) := by decide +kernel
theorem dX3_take_25 : decode cX3_take 25 = .ok (.getfield 30, 3) := by decide +kernel
theorem dX3_take_28 : decode cX3_take 28 = .ok (.lload_n 2, 1) := by decide +kernel
theorem dX3_take_29 : decode cX3_take 29 = .ok (.bipush 8, 2) := by decide +kernel
theorem dX3_take_31 : decode cX3_take 31 = .ok (.iload 4, 2) := by decide +kernel
theorem dX3_take_33 : decode cX3_take 33 = .ok (.imul, 1) := by decide +kernel
theorem dX3_take_34 : decode cX3_take 34 = .ok (.lushr, 1) := by decide +kernel
theorem dX3_take_35 : decode cX3_take 35 = .ok (.ldc2_w 33, 3) := by decide +kernel
theorem dX3_take_38 : decode cX3_take 38 = .ok (.land, 1) := by decide +kernel
theorem dX3_take_39 : decode cX3_take 39 = .ok (.l2i, 1) := by decide +kernel
theorem dX3_take_40 : decode cX3_take 40 = .ok (.i2c, 1) := by decide +kernel
theorem dX3_take_41 : decode cX3_take 41 = .ok (.castore, 1) := by decide +kernel
theorem dX3_take_42 : decode cX3_take 42 = .ok (.aload_n 0, 1) := by decide +kernel
theorem dX3_take_43 : decode cX3_take 43 = .ok (.dup, 1) := by decide +kernel
theorem dX3_take_44 : decode cX3_take 44 = .ok (.getfield 30, 3) := by decide +kernel
theorem dX3_take_47 : decode cX3_take 47 = .ok (.iconst 1, 1) := by decide +kernel
theorem dX3_take_48 : decode cX3_take 48 = .ok (.iadd, 1) := by decide +kernel
theorem dX3_take_49 : decode cX3_take 49 = .ok (.putfield 30, 3) := by decide +kernel
theorem dX3_take_52 : decode cX3_take 52 = .ok (.iinc 4 (-1), 3) := by decide +kernel
theorem dX3_take_55 : decode cX3_take 55 = .ok (.goto (-50), 3) := by decide +kernel
theorem dX3_take_58 : decode cX3_take 58 = .ok (.return_, 1) := by decide +kernel
theorem dX3_read_0 : decode cX3_read 0 = .ok (.aload_n 0, 1) := by decide +kernel
theorem dX3_read_1 : decode cX3_read 1 = .ok (.getfield 22, 3) := by decide +kernel
theorem dX3_read_4 : decode cX3_read 4 = .ok (.invokevirtual 35, 3) := by decide +kernel
theorem dX3_read_7 : decode cX3_read 7 = .ok (.aload_n 0, 1) := by decide +kernel
theorem dX3_read_8 : decode cX3_read 8 = .ok (.iconst 0, 1) := by decide +kernel
theorem dX3_read_9 : decode cX3_read 9 = .ok (.putfield 38, 3) := by decide +kernel
theorem dX3_read_12 : decode cX3_read 12 = .ok (.aload_n 0, 1) := by decide +kernel
theorem dX3_read_13 : decode cX3_read 13 = .ok (.iconst (-1), 1) := by decide +kernel
theorem dX3_read_14 : decode cX3_read 14 = .ok (.putfield 26, 3) := by decide +kernel
theorem dX3_read_17 : decode cX3_read 17 = .ok (.aload_n 0, 1) := by decide +kernel
theorem dX3_read_18 : decode cX3_read 18 = .ok (.iconst 0, 1) := by decide +kernel
theorem dX3_read_19 : decode cX3_read 19 = .ok (.putfield 41, 3) := by decide +kernel
theorem dX3_read_22 : decode cX3_read 22 = .ok (.aload_n 0, 1) := by decide +kernel
theorem dX3_read_23 : decode cX3_read 23 = .ok (.invokevirtual 44, 3) := by decide +kernel
theorem dX3_read_26 : decode cX3_read 26 = .ok (.iconst 0, 1) := by decide +kernel
theorem dX3_read_27 : decode cX3_read 27 = .ok (.istore_n 1, 1) := by decide +kernel
theorem dX3_read_28 : decode cX3_read 28 = .ok (.iload_n 1, 1) := by decide +kernel
theorem dX3_read_29 : decode cX3_read 29 = .ok (.sipush 500, 3) := by decide +kernel
theorem dX3_read_32 : decode cX3_read 32 = .ok (.if_icmp .ge 35, 3) := by decide +kernel
theorem dX3_read_35 : decode cX3_read 35 = .ok (.aload_n 0, 1) := by decide +kernel
theorem dX3_read_36 : decode cX3_read 36 = .ok (.getfield 41, 3) := by decide +kernel
theorem dX3_read_39 : decode cX3_read 39 = .ok (.aload_n 0, 1) := by decide +kernel
theorem dX3_read_40 : decode cX3_read 40 = .ok (.getfield 30, 3) := by decide +kernel
theorem dX3_read_43 : decode cX3_read 43 = .ok (.if_icmp .ge 24, 3) := by decide +kernel
theorem dX3_read_46 : decode cX3_read 46 = .ok (.aload_n 0, 1) := by decide +kernel
theorem dX3_read_47 : decode cX3_read 47 = .ok (.getfield 38, 3) := by decide +kernel
theorem dX3_read_50 : decode cX3_read 50 = .ok (.ifCond .ne 17, 3) := by decide +kernel
theorem dX3_read_53 : decode cX3_read 53 = .ok (.aload_n 0, 1) := by decide +kernel
theorem dX3_read_54 : decode cX3_read 54 = .ok (.invokevirtual 47, 3) := by decide +kernel
theorem dX3_read_57 : decode cX3_read 57 = .ok (.aload_n 0, 1) := by decide +kernel
theorem dX3_read_58 : decode cX3_read 58 = .ok (.invokevirtual 44, 3) := by decide +kernel
theorem dX3_read_61 : decode cX3_read 61 = .ok (.iinc 1 1, 3) := by decide +kernel
theorem dX3_read_64 : decode cX3_read 64 = .ok (.goto (-36), 3) := by decide +kernel
theorem dX3_read_67 : decode cX3_read 67 = .ok (.aload_n 0, 1) := by decide +kernel
theorem dX3_read_68 : decode cX3_read 68 = .ok (.iconst 0, 1) := by decide +kernel
theorem dX3_read_69 : decode cX3_read 69 = .ok (.putfield 30, 3) := by decide +kernel
theorem dX3_read_72 : decode cX3_read 72 = .ok (.return_, 1) := by decide +kernel
theorem dX3_readClause_0 : decode cX3_readClause 0 = .ok (.aload_n 0, 1) := by decide +kernel
theorem dX3_readClause_1 : decode cX3_readClause 1 = .ok (.getfield 41, 3) := by decide +kernel
theorem dX3_readClause_4 : decode cX3_readClause 4 = .ok (.istore_n 1, 1) := by decide +kernel
theorem dX3_readClause_5 : decode cX3_readClause 5 = .ok (.aload_n 0, 1) := by decide +kernel
theorem dX3_readClause_6 : decode cX3_readClause 6 = .ok (.invokevirtual 50, 3) := by decide +kernel
theorem dX3_readClause_9 : decode cX3_readClause 9 = .ok (.aload_n 0, 1) := by decide +kernel
theorem dX3_readClause_10 : decode cX3_readClause 10 = .ok (.iload_n 1, 1) := by decide +kernel
theorem dX3_readClause_11 : decode cX3_readClause 11 = .ok (.aload_n 0, 1) := by decide +kernel
theorem dX3_readClause_12 : decode cX3_readClause 12 = .ok (.getfield 41, 3) := by decide +kernel
theorem dX3_readClause_15 : decode cX3_readClause 15 = .ok (.invokevirtual 53, 3) := by decide +kernel
theorem dX3_readClause_18 : decode cX3_readClause 18 = .ok (.istore_n 2, 1) := by decide +kernel
theorem dX3_readClause_19 : decode cX3_readClause 19 = .ok (.aload_n 0, 1) := by decide +kernel
theorem dX3_readClause_20 : decode cX3_readClause 20 = .ok (.iload_n 2, 1) := by decide +kernel
theorem dX3_readClause_21 : decode cX3_readClause 21 = .ok (.invokevirtual 57, 3) := by decide +kernel
theorem dX3_readClause_24 : decode cX3_readClause 24 = .ok (.istore_n 3, 1) := by decide +kernel
theorem dX3_readClause_25 : decode cX3_readClause 25 = .ok (.iload_n 3, 1) := by decide +kernel
theorem dX3_readClause_26 : decode cX3_readClause 26 = .ok (.ifCond .eq 10, 3) := by decide +kernel
theorem dX3_readClause_29 : decode cX3_readClause 29 = .ok (.aload_n 0, 1) := by decide +kernel
theorem dX3_readClause_30 : decode cX3_readClause 30 = .ok (.iload_n 3, 1) := by decide +kernel
theorem dX3_readClause_31 : decode cX3_readClause 31 = .ok (.iload_n 1, 1) := by decide +kernel
theorem dX3_readClause_32 : decode cX3_readClause 32 = .ok (.invokevirtual 61, 3) := by decide +kernel
theorem dX3_readClause_35 : decode cX3_readClause 35 = .ok (.return_, 1) := by decide +kernel
theorem dX3_readClause_36 : decode cX3_readClause 36 = .ok (.iconst 0, 1) := by decide +kernel
theorem dX3_readClause_37 : decode cX3_readClause 37 = .ok (.istore 4, 2) := by decide +kernel
theorem dX3_readClause_39 : decode cX3_readClause 39 = .ok (.iload 4, 2) := by decide +kernel
theorem dX3_readClause_41 : decode cX3_readClause 41 = .ok (.getstatic 65, 3) := by decide +kernel
theorem dX3_readClause_44 : decode cX3_readClause 44 = .ok (.iload_n 2, 1) := by decide +kernel
theorem dX3_readClause_45 : decode cX3_readClause 45 = .ok (.iaload, 1) := by decide +kernel
theorem dX3_readClause_46 : decode cX3_readClause 46 = .ok (.if_icmp .ge 47, 3) := by decide +kernel
theorem dX3_readClause_49 : decode cX3_readClause 49 = .ok (.aload_n 0, 1) := by decide +kernel
theorem dX3_readClause_50 : decode cX3_readClause 50 = .ok (.getfield 38, 3) := by decide +kernel
theorem dX3_readClause_53 : decode cX3_readClause 53 = .ok (.ifCond .ne 40, 3) := by decide +kernel
theorem dX3_readClause_56 : decode cX3_readClause 56 = .ok (.iload_n 2, 1) := by decide +kernel
theorem dX3_readClause_57 : decode cX3_readClause 57 = .ok (.iconst 3, 1) := by decide +kernel
theorem dX3_readClause_58 : decode cX3_readClause 58 = .ok (.imul, 1) := by decide +kernel
theorem dX3_readClause_59 : decode cX3_readClause 59 = .ok (.iload 4, 2) := by decide +kernel
theorem dX3_readClause_61 : decode cX3_readClause 61 = .ok (.iadd, 1) := by decide +kernel
theorem dX3_readClause_62 : decode cX3_readClause 62 = .ok (.istore 5, 2) := by decide +kernel
theorem dX3_readClause_64 : decode cX3_readClause 64 = .ok (.aload_n 0, 1) := by decide +kernel
theorem dX3_readClause_65 : decode cX3_readClause 65 = .ok (.getfield 15, 3) := by decide +kernel
theorem dX3_readClause_68 : decode cX3_readClause 68 = .ok (.iload 4, 2) := by decide +kernel
theorem dX3_readClause_70 : decode cX3_readClause 70 = .ok (.aload_n 0, 1) := by decide +kernel
theorem dX3_readClause_71 : decode cX3_readClause 71 = .ok (.getstatic 68, 3) := by decide +kernel
theorem dX3_readClause_74 : decode cX3_readClause 74 = .ok (.iload 5, 2) := by decide +kernel
theorem dX3_readClause_76 : decode cX3_readClause 76 = .ok (.iaload, 1) := by decide +kernel
theorem dX3_readClause_77 : decode cX3_readClause 77 = .ok (.getstatic 71, 3) := by decide +kernel
theorem dX3_readClause_80 : decode cX3_readClause 80 = .ok (.iload 5, 2) := by decide +kernel
theorem dX3_readClause_82 : decode cX3_readClause 82 = .ok (.iaload, 1) := by decide +kernel
theorem dX3_readClause_83 : decode cX3_readClause 83 = .ok (.invokevirtual 74, 3) := by decide +kernel
theorem dX3_readClause_86 : decode cX3_readClause 86 = .ok (.iastore, 1) := by decide +kernel
theorem dX3_readClause_87 : decode cX3_readClause 87 = .ok (.iinc 4 1, 3) := by decide +kernel
theorem dX3_readClause_90 : decode cX3_readClause 90 = .ok (.goto (-51), 3) := by decide +kernel
theorem dX3_readClause_93 : decode cX3_readClause 93 = .ok (.aload_n 0, 1) := by decide +kernel
theorem dX3_readClause_94 : decode cX3_readClause 94 = .ok (.getfield 38, 3) := by decide +kernel
theorem dX3_readClause_97 : decode cX3_readClause 97 = .ok (.ifCond .ne 19, 3) := by decide +kernel
theorem dX3_readClause_100 : decode cX3_readClause 100 = .ok (.aload_n 0, 1) := by decide +kernel
theorem dX3_readClause_101 : decode cX3_readClause 101 = .ok (.invokevirtual 77, 3) := by decide +kernel
theorem dX3_readClause_104 : decode cX3_readClause 104 = .ok (.aload_n 0, 1) := by decide +kernel
theorem dX3_readClause_105 : decode cX3_readClause 105 = .ok (.getfield 22, 3) := by decide +kernel
theorem dX3_readClause_108 : decode cX3_readClause 108 = .ok (.iload_n 2, 1) := by decide +kernel
theorem dX3_readClause_109 : decode cX3_readClause 109 = .ok (.aload_n 0, 1) := by decide +kernel
theorem dX3_readClause_110 : decode cX3_readClause 110 = .ok (.getfield 15, 3) := by decide +kernel
theorem dX3_readClause_113 : decode cX3_readClause 113 = .ok (.invokevirtual 80, 3) := by decide +kernel
theorem dX3_readClause_116 : decode cX3_readClause 116 = .ok (.return_, 1) := by decide +kernel
theorem dX3_faultOfKind_0 : decode cX3_faultOfKind 0 = .ok (.iload_n 1, 1) := by decide +kernel
theorem dX3_faultOfKind_1 : decode cX3_faultOfKind 1 = .ok (.iconst (-1), 1) := by decide +kernel
theorem dX3_faultOfKind_2 : decode cX3_faultOfKind 2 = .ok (.if_icmp .eq 17, 3) := by decide +kernel
theorem dX3_faultOfKind_5 : decode cX3_faultOfKind 5 = .ok (.iload_n 1, 1) := by decide +kernel
theorem dX3_faultOfKind_6 : decode cX3_faultOfKind 6 = .ok (.ifCond .ne 15, 3) := by decide +kernel
theorem dX3_faultOfKind_9 : decode cX3_faultOfKind 9 = .ok (.aload_n 0, 1) := by decide +kernel
theorem dX3_faultOfKind_10 : decode cX3_faultOfKind 10 = .ok (.getfield 22, 3) := by decide +kernel
theorem dX3_faultOfKind_13 : decode cX3_faultOfKind 13 = .ok (.invokevirtual 84, 3) := by decide +kernel
theorem dX3_faultOfKind_16 : decode cX3_faultOfKind 16 = .ok (.ifCond .eq 5, 3) := by decide +kernel
theorem dX3_faultOfKind_19 : decode cX3_faultOfKind 19 = .ok (.iconst 1, 1) := by decide +kernel
theorem dX3_faultOfKind_20 : decode cX3_faultOfKind 20 = .ok (.ireturn, 1) := by decide +kernel
theorem dX3_faultOfKind_21 : decode cX3_faultOfKind 21 = .ok (.aload_n 0, 1) := by decide +kernel
theorem dX3_faultOfKind_22 : decode cX3_faultOfKind 22 = .ok (.getfield 22, 3) := by decide +kernel
theorem dX3_faultOfKind_25 : decode cX3_faultOfKind 25 = .ok (.iload_n 1, 1) := by decide +kernel
theorem dX3_faultOfKind_26 : decode cX3_faultOfKind 26 = .ok (.invokevirtual 88, 3) := by decide +kernel
theorem dX3_faultOfKind_29 : decode cX3_faultOfKind 29 = .ok (.getstatic 91, 3) := by decide +kernel
theorem dX3_faultOfKind_32 : decode cX3_faultOfKind 32 = .ok (.iload_n 1, 1) := by decide +kernel
theorem dX3_faultOfKind_33 : decode cX3_faultOfKind 33 = .ok (.iaload, 1) := by decide +kernel
theorem dX3_faultOfKind_34 : decode cX3_faultOfKind 34 = .ok (.if_icmp .lt 7, 3) := by decide +kernel
theorem dX3_faultOfKind_37 : decode cX3_faultOfKind 37 = .ok (.iconst 3, 1) := by decide +kernel
theorem dX3_faultOfKind_38 : decode cX3_faultOfKind 38 = .ok (.goto 4, 3) := by decide +kernel
theorem dX3_faultOfKind_41 : decode cX3_faultOfKind 41 = .ok (.iconst 0, 1) := by decide +kernel
theorem dX3_faultOfKind_42 : decode cX3_faultOfKind 42 = .ok (.ireturn, 1) := by decide +kernel
theorem dX3_readNumber_0 : decode cX3_readNumber 0 = .ok (.aload_n 0, 1) := by decide +kernel
theorem dX3_readNumber_1 : decode cX3_readNumber 1 = .ok (.invokevirtual 44, 3) := by decide +kernel
theorem dX3_readNumber_4 : decode cX3_readNumber 4 = .ok (.aload_n 0, 1) := by decide +kernel
theorem dX3_readNumber_5 : decode cX3_readNumber 5 = .ok (.getfield 41, 3) := by decide +kernel
theorem dX3_readNumber_8 : decode cX3_readNumber 8 = .ok (.istore_n 3, 1) := by decide +kernel
theorem dX3_readNumber_9 : decode cX3_readNumber 9 = .ok (.iconst 0, 1) := by decide +kernel
theorem dX3_readNumber_10 : decode cX3_readNumber 10 = .ok (.istore 4, 2) := by decide +kernel
theorem dX3_readNumber_12 : decode cX3_readNumber 12 = .ok (.aload_n 0, 1) := by decide +kernel
theorem dX3_readNumber_13 : decode cX3_readNumber 13 = .ok (.getfield 41, 3) := by decide +kernel
theorem dX3_readNumber_16 : decode cX3_readNumber 16 = .ok (.aload_n 0, 1) := by decide +kernel
theorem dX3_readNumber_17 : decode cX3_readNumber 17 = .ok (.getfield 30, 3) := by decide +kernel
theorem dX3_readNumber_20 : decode cX3_readNumber 20 = .ok (.if_icmp .ge 79, 3) := by decide +kernel
theorem dX3_readNumber_23 : decode cX3_readNumber 23 = .ok (.aload_n 0, 1) := by decide +kernel
theorem dX3_readNumber_24 : decode cX3_readNumber 24 = .ok (.getfield 9, 3) := by decide +kernel
theorem dX3_readNumber_27 : decode cX3_readNumber 27 = .ok (.aload_n 0, 1) := by decide +kernel
theorem dX3_readNumber_28 : decode cX3_readNumber 28 = .ok (.getfield 41, 3) := by decide +kernel
theorem dX3_readNumber_31 : decode cX3_readNumber 31 = .ok (.caload, 1) := by decide +kernel
theorem dX3_readNumber_32 : decode cX3_readNumber 32 = .ok (.bipush 48, 2) := by decide +kernel
theorem dX3_readNumber_34 : decode cX3_readNumber 34 = .ok (.if_icmp .lt 65, 3) := by decide +kernel
theorem dX3_readNumber_37 : decode cX3_readNumber 37 = .ok (.aload_n 0, 1) := by decide +kernel
theorem dX3_readNumber_38 : decode cX3_readNumber 38 = .ok (.getfield 9, 3) := by decide +kernel
theorem dX3_readNumber_41 : decode cX3_readNumber 41 = .ok (.aload_n 0, 1) := by decide +kernel
theorem dX3_readNumber_42 : decode cX3_readNumber 42 = .ok (.getfield 41, 3) := by decide +kernel
theorem dX3_readNumber_45 : decode cX3_readNumber 45 = .ok (.caload, 1) := by decide +kernel
theorem dX3_readNumber_46 : decode cX3_readNumber 46 = .ok (.bipush 57, 2) := by decide +kernel
theorem dX3_readNumber_48 : decode cX3_readNumber 48 = .ok (.if_icmp .gt 51, 3) := by decide +kernel
theorem dX3_readNumber_51 : decode cX3_readNumber 51 = .ok (.aload_n 0, 1) := by decide +kernel
theorem dX3_readNumber_52 : decode cX3_readNumber 52 = .ok (.getfield 41, 3) := by decide +kernel
theorem dX3_readNumber_55 : decode cX3_readNumber 55 = .ok (.iload_n 3, 1) := by decide +kernel
theorem dX3_readNumber_56 : decode cX3_readNumber 56 = .ok (.isub, 1) := by decide +kernel
theorem dX3_readNumber_57 : decode cX3_readNumber 57 = .ok (.iconst 3, 1) := by decide +kernel
theorem dX3_readNumber_58 : decode cX3_readNumber 58 = .ok (.if_icmp .ge 24, 3) := by decide +kernel
theorem dX3_readNumber_61 : decode cX3_readNumber 61 = .ok (.iload 4, 2) := by decide +kernel
theorem dX3_readNumber_63 : decode cX3_readNumber 63 = .ok (.bipush 10, 2) := by decide +kernel
theorem dX3_readNumber_65 : decode cX3_readNumber 65 = .ok (.imul, 1) := by decide +kernel
theorem dX3_readNumber_66 : decode cX3_readNumber 66 = .ok (.aload_n 0, 1) := by decide +kernel
theorem dX3_readNumber_67 : decode cX3_readNumber 67 = .ok (.getfield 9, 3) := by decide +kernel
theorem dX3_readNumber_70 : decode cX3_readNumber 70 = .ok (.aload_n 0, 1) := by decide +kernel
theorem dX3_readNumber_71 : decode cX3_readNumber 71 = .ok (.getfield 41, 3) := by decide +kernel
theorem dX3_readNumber_74 : decode cX3_readNumber 74 = .ok (.caload, 1) := by decide +kernel
theorem dX3_readNumber_75 : decode cX3_readNumber 75 = .ok (.bipush 48, 2) := by decide +kernel
theorem dX3_readNumber_77 : decode cX3_readNumber 77 = .ok (.isub, 1) := by decide +kernel
theorem dX3_readNumber_78 : decode cX3_readNumber 78 = .ok (.iadd, 1) := by decide +kernel
theorem dX3_readNumber_79 : decode cX3_readNumber 79 = .ok (.goto 5, 3) := by decide +kernel
theorem dX3_readNumber_82 : decode cX3_readNumber 82 = .ok (.iload 4, 2) := by decide +kernel
theorem dX3_readNumber_84 : decode cX3_readNumber 84 = .ok (.istore 4, 2) := by decide +kernel
theorem dX3_readNumber_86 : decode cX3_readNumber 86 = .ok (.aload_n 0, 1) := by decide +kernel
theorem dX3_readNumber_87 : decode cX3_readNumber 87 = .ok (.dup, 1) := by decide +kernel
theorem dX3_readNumber_88 : decode cX3_readNumber 88 = .ok (.getfield 41, 3) := by decide +kernel
theorem dX3_readNumber_91 : decode cX3_readNumber 91 = .ok (.iconst 1, 1) := by decide +kernel
theorem dX3_readNumber_92 : decode cX3_readNumber 92 = .ok (.iadd, 1) := by decide +kernel
theorem dX3_readNumber_93 : decode cX3_readNumber 93 = .ok (.putfield 41, 3) := by decide +kernel
theorem dX3_readNumber_96 : decode cX3_readNumber 96 = .ok (.goto (-84), 3) := by decide +kernel
theorem dX3_readNumber_99 : decode cX3_readNumber 99 = .ok (.aload_n 0, 1) := by decide +kernel
theorem dX3_readNumber_100 : decode cX3_readNumber 100 = .ok (.getfield 41, 3) := by decide +kernel
theorem dX3_readNumber_103 : decode cX3_readNumber 103 = .ok (.iload_n 3, 1) := by decide +kernel
theorem dX3_readNumber_104 : decode cX3_readNumber 104 = .ok (.if_icmp .ne 12, 3) := by decide +kernel
theorem dX3_readNumber_107 : decode cX3_readNumber 107 = .ok (.aload_n 0, 1) := by decide +kernel
theorem dX3_readNumber_108 : decode cX3_readNumber 108 = .ok (.iconst 1, 1) := by decide +kernel
theorem dX3_readNumber_109 : decode cX3_readNumber 109 = .ok (.iload_n 3, 1) := by decide +kernel
theorem dX3_readNumber_110 : decode cX3_readNumber 110 = .ok (.invokevirtual 61, 3) := by decide +kernel
theorem dX3_readNumber_113 : decode cX3_readNumber 113 = .ok (.goto 31, 3) := by decide +kernel
theorem dX3_readNumber_116 : decode cX3_readNumber 116 = .ok (.aload_n 0, 1) := by decide +kernel
theorem dX3_readNumber_117 : decode cX3_readNumber 117 = .ok (.getfield 41, 3) := by decide +kernel
theorem dX3_readNumber_120 : decode cX3_readNumber 120 = .ok (.iload_n 3, 1) := by decide +kernel
theorem dX3_readNumber_121 : decode cX3_readNumber 121 = .ok (.isub, 1) := by decide +kernel
theorem dX3_readNumber_122 : decode cX3_readNumber 122 = .ok (.iconst 3, 1) := by decide +kernel
theorem dX3_readNumber_123 : decode cX3_readNumber 123 = .ok (.if_icmp .gt 15, 3) := by decide +kernel
theorem dX3_readNumber_126 : decode cX3_readNumber 126 = .ok (.iload 4, 2) := by decide +kernel
theorem dX3_readNumber_128 : decode cX3_readNumber 128 = .ok (.iload_n 1, 1) := by decide +kernel
theorem dX3_readNumber_129 : decode cX3_readNumber 129 = .ok (.if_icmp .lt 9, 3) := by decide +kernel
theorem dX3_readNumber_132 : decode cX3_readNumber 132 = .ok (.iload 4, 2) := by decide +kernel
theorem dX3_readNumber_134 : decode cX3_readNumber 134 = .ok (.iload_n 2, 1) := by decide +kernel
theorem dX3_readNumber_135 : decode cX3_readNumber 135 = .ok (.if_icmp .le 9, 3) := by decide +kernel
theorem dX3_readNumber_138 : decode cX3_readNumber 138 = .ok (.aload_n 0, 1) := by decide +kernel
theorem dX3_readNumber_139 : decode cX3_readNumber 139 = .ok (.iconst 2, 1) := by decide +kernel
theorem dX3_readNumber_140 : decode cX3_readNumber 140 = .ok (.iload_n 3, 1) := by decide +kernel
theorem dX3_readNumber_141 : decode cX3_readNumber 141 = .ok (.invokevirtual 61, 3) := by decide +kernel
theorem dX3_readNumber_144 : decode cX3_readNumber 144 = .ok (.iload 4, 2) := by decide +kernel
theorem dX3_readNumber_146 : decode cX3_readNumber 146 = .ok (.ireturn, 1) := by decide +kernel
theorem dX3_readEndOfClause_0 : decode cX3_readEndOfClause 0 = .ok (.aload_n 0, 1) := by decide +kernel
theorem dX3_readEndOfClause_1 : decode cX3_readEndOfClause 1 = .ok (.invokevirtual 44, 3) := by decide +kernel
theorem dX3_readEndOfClause_4 : decode cX3_readEndOfClause 4 = .ok (.aload_n 0, 1) := by decide +kernel
theorem dX3_readEndOfClause_5 : decode cX3_readEndOfClause 5 = .ok (.getfield 41, 3) := by decide +kernel
theorem dX3_readEndOfClause_8 : decode cX3_readEndOfClause 8 = .ok (.aload_n 0, 1) := by decide +kernel
theorem dX3_readEndOfClause_9 : decode cX3_readEndOfClause 9 = .ok (.getfield 30, 3) := by decide +kernel
theorem dX3_readEndOfClause_12 : decode cX3_readEndOfClause 12 = .ok (.if_icmp .ge 30, 3) := by decide +kernel
theorem dX3_readEndOfClause_15 : decode cX3_readEndOfClause 15 = .ok (.aload_n 0, 1) := by decide +kernel
theorem dX3_readEndOfClause_16 : decode cX3_readEndOfClause 16 = .ok (.getfield 9, 3) := by decide +kernel
theorem dX3_readEndOfClause_19 : decode cX3_readEndOfClause 19 = .ok (.aload_n 0, 1) := by decide +kernel
theorem dX3_readEndOfClause_20 : decode cX3_readEndOfClause 20 = .ok (.getfield 41, 3) := by decide +kernel
theorem dX3_readEndOfClause_23 : decode cX3_readEndOfClause 23 = .ok (.caload, 1) := by decide +kernel
theorem dX3_readEndOfClause_24 : decode cX3_readEndOfClause 24 = .ok (.bipush 59, 2) := by decide +kernel
theorem dX3_readEndOfClause_26 : decode cX3_readEndOfClause 26 = .ok (.if_icmp .ne 16, 3) := by decide +kernel
theorem dX3_readEndOfClause_29 : decode cX3_readEndOfClause 29 = .ok (.aload_n 0, 1) := by decide +kernel
theorem dX3_readEndOfClause_30 : decode cX3_readEndOfClause 30 = .ok (.dup, 1) := by decide +kernel
theorem dX3_readEndOfClause_31 : decode cX3_readEndOfClause 31 = .ok (.getfield 41, 3) := by decide +kernel
theorem dX3_readEndOfClause_34 : decode cX3_readEndOfClause 34 = .ok (.iconst 1, 1) := by decide +kernel
theorem dX3_readEndOfClause_35 : decode cX3_readEndOfClause 35 = .ok (.iadd, 1) := by decide +kernel
theorem dX3_readEndOfClause_36 : decode cX3_readEndOfClause 36 = .ok (.putfield 41, 3) := by decide +kernel
theorem dX3_readEndOfClause_39 : decode cX3_readEndOfClause 39 = .ok (.goto 12, 3) := by decide +kernel
theorem dX3_readEndOfClause_42 : decode cX3_readEndOfClause 42 = .ok (.aload_n 0, 1) := by decide +kernel
theorem dX3_readEndOfClause_43 : decode cX3_readEndOfClause 43 = .ok (.iconst 1, 1) := by decide +kernel
theorem dX3_readEndOfClause_44 : decode cX3_readEndOfClause 44 = .ok (.aload_n 0, 1) := by decide +kernel
theorem dX3_readEndOfClause_45 : decode cX3_readEndOfClause 45 = .ok (.getfield 41, 3) := by decide +kernel
theorem dX3_readEndOfClause_48 : decode cX3_readEndOfClause 48 = .ok (.invokevirtual 61, 3) := by decide +kernel
theorem dX3_readEndOfClause_51 : decode cX3_readEndOfClause 51 = .ok (.return_, 1) := by decide +kernel
theorem dX3_skipBlanks_0 : decode cX3_skipBlanks 0 = .ok (.aload_n 0, 1) := by decide +kernel
theorem dX3_skipBlanks_1 : decode cX3_skipBlanks 1 = .ok (.getfield 41, 3) := by decide +kernel
theorem dX3_skipBlanks_4 : decode cX3_skipBlanks 4 = .ok (.aload_n 0, 1) := by decide +kernel
theorem dX3_skipBlanks_5 : decode cX3_skipBlanks 5 = .ok (.getfield 30, 3) := by decide +kernel
theorem dX3_skipBlanks_8 : decode cX3_skipBlanks 8 = .ok (.if_icmp .ge 30, 3) := by decide +kernel
theorem dX3_skipBlanks_11 : decode cX3_skipBlanks 11 = .ok (.aload_n 0, 1) := by decide +kernel
theorem dX3_skipBlanks_12 : decode cX3_skipBlanks 12 = .ok (.getfield 9, 3) := by decide +kernel
theorem dX3_skipBlanks_15 : decode cX3_skipBlanks 15 = .ok (.aload_n 0, 1) := by decide +kernel
theorem dX3_skipBlanks_16 : decode cX3_skipBlanks 16 = .ok (.getfield 41, 3) := by decide +kernel
theorem dX3_skipBlanks_19 : decode cX3_skipBlanks 19 = .ok (.caload, 1) := by decide +kernel
theorem dX3_skipBlanks_20 : decode cX3_skipBlanks 20 = .ok (.bipush 32, 2) := by decide +kernel
theorem dX3_skipBlanks_22 : decode cX3_skipBlanks 22 = .ok (.if_icmp .ne 16, 3) := by decide +kernel
theorem dX3_skipBlanks_25 : decode cX3_skipBlanks 25 = .ok (.aload_n 0, 1) := by decide +kernel
theorem dX3_skipBlanks_26 : decode cX3_skipBlanks 26 = .ok (.dup, 1) := by decide +kernel
theorem dX3_skipBlanks_27 : decode cX3_skipBlanks 27 = .ok (.getfield 41, 3) := by decide +kernel
theorem dX3_skipBlanks_30 : decode cX3_skipBlanks 30 = .ok (.iconst 1, 1) := by decide +kernel
theorem dX3_skipBlanks_31 : decode cX3_skipBlanks 31 = .ok (.iadd, 1) := by decide +kernel
theorem dX3_skipBlanks_32 : decode cX3_skipBlanks 32 = .ok (.putfield 41, 3) := by decide +kernel
theorem dX3_skipBlanks_35 : decode cX3_skipBlanks 35 = .ok (.goto (-35), 3) := by decide +kernel
theorem dX3_skipBlanks_38 : decode cX3_skipBlanks 38 = .ok (.return_, 1) := by decide +kernel
theorem dX3_skipLetters_0 : decode cX3_skipLetters 0 = .ok (.aload_n 0, 1) := by decide +kernel
theorem dX3_skipLetters_1 : decode cX3_skipLetters 1 = .ok (.getfield 41, 3) := by decide +kernel
theorem dX3_skipLetters_4 : decode cX3_skipLetters 4 = .ok (.aload_n 0, 1) := by decide +kernel
theorem dX3_skipLetters_5 : decode cX3_skipLetters 5 = .ok (.getfield 30, 3) := by decide +kernel
theorem dX3_skipLetters_8 : decode cX3_skipLetters 8 = .ok (.if_icmp .ge 44, 3) := by decide +kernel
theorem dX3_skipLetters_11 : decode cX3_skipLetters 11 = .ok (.aload_n 0, 1) := by decide +kernel
theorem dX3_skipLetters_12 : decode cX3_skipLetters 12 = .ok (.getfield 9, 3) := by decide +kernel
theorem dX3_skipLetters_15 : decode cX3_skipLetters 15 = .ok (.aload_n 0, 1) := by decide +kernel
theorem dX3_skipLetters_16 : decode cX3_skipLetters 16 = .ok (.getfield 41, 3) := by decide +kernel
theorem dX3_skipLetters_19 : decode cX3_skipLetters 19 = .ok (.caload, 1) := by decide +kernel
theorem dX3_skipLetters_20 : decode cX3_skipLetters 20 = .ok (.bipush 97, 2) := by decide +kernel
theorem dX3_skipLetters_22 : decode cX3_skipLetters 22 = .ok (.if_icmp .lt 30, 3) := by decide +kernel
theorem dX3_skipLetters_25 : decode cX3_skipLetters 25 = .ok (.aload_n 0, 1) := by decide +kernel
theorem dX3_skipLetters_26 : decode cX3_skipLetters 26 = .ok (.getfield 9, 3) := by decide +kernel
theorem dX3_skipLetters_29 : decode cX3_skipLetters 29 = .ok (.aload_n 0, 1) := by decide +kernel
theorem dX3_skipLetters_30 : decode cX3_skipLetters 30 = .ok (.getfield 41, 3) := by decide +kernel
theorem dX3_skipLetters_33 : decode cX3_skipLetters 33 = .ok (.caload, 1) := by decide +kernel
theorem dX3_skipLetters_34 : decode cX3_skipLetters 34 = .ok (.bipush 122, 2) := by decide +kernel
theorem dX3_skipLetters_36 : decode cX3_skipLetters 36 = .ok (.if_icmp .gt 16, 3) := by decide +kernel
theorem dX3_skipLetters_39 : decode cX3_skipLetters 39 = .ok (.aload_n 0, 1) := by decide +kernel
theorem dX3_skipLetters_40 : decode cX3_skipLetters 40 = .ok (.dup, 1) := by decide +kernel
theorem dX3_skipLetters_41 : decode cX3_skipLetters 41 = .ok (.getfield 41, 3) := by decide +kernel
theorem dX3_skipLetters_44 : decode cX3_skipLetters 44 = .ok (.iconst 1, 1) := by decide +kernel
theorem dX3_skipLetters_45 : decode cX3_skipLetters 45 = .ok (.iadd, 1) := by decide +kernel
theorem dX3_skipLetters_46 : decode cX3_skipLetters 46 = .ok (.putfield 41, 3) := by decide +kernel
theorem dX3_skipLetters_49 : decode cX3_skipLetters 49 = .ok (.goto (-49), 3) := by decide +kernel
theorem dX3_skipLetters_52 : decode cX3_skipLetters 52 = .ok (.return_, 1) := by decide +kernel
theorem dX3_kindOfWord_0 : decode cX3_kindOfWord 0 = .ok (.iconst 0, 1) := by decide +kernel
theorem dX3_kindOfWord_1 : decode cX3_kindOfWord 1 = .ok (.istore_n 3, 1) := by decide +kernel
theorem dX3_kindOfWord_2 : decode cX3_kindOfWord 2 = .ok (.iload_n 3, 1) := by decide +kernel
theorem dX3_kindOfWord_3 : decode cX3_kindOfWord 3 = .ok (.iconst 5, 1) := by decide +kernel
theorem dX3_kindOfWord_4 : decode cX3_kindOfWord 4 = .ok (.if_icmp .ge 24, 3) := by decide +kernel
theorem dX3_kindOfWord_7 : decode cX3_kindOfWord 7 = .ok (.aload_n 0, 1) := by decide +kernel
theorem dX3_kindOfWord_8 : decode cX3_kindOfWord 8 = .ok (.iload_n 3, 1) := by decide +kernel
theorem dX3_kindOfWord_9 : decode cX3_kindOfWord 9 = .ok (.invokestatic 94, 3) := by decide +kernel
theorem dX3_kindOfWord_12 : decode cX3_kindOfWord 12 = .ok (.iload_n 1, 1) := by decide +kernel
theorem dX3_kindOfWord_13 : decode cX3_kindOfWord 13 = .ok (.iload_n 2, 1) := by decide +kernel
theorem dX3_kindOfWord_14 : decode cX3_kindOfWord 14 = .ok (.invokevirtual 98, 3) := by decide +kernel
theorem dX3_kindOfWord_17 : decode cX3_kindOfWord 17 = .ok (.ifCond .eq 5, 3) := by decide +kernel
theorem dX3_kindOfWord_20 : decode cX3_kindOfWord 20 = .ok (.iload_n 3, 1) := by decide +kernel
theorem dX3_kindOfWord_21 : decode cX3_kindOfWord 21 = .ok (.ireturn, 1) := by decide +kernel
theorem dX3_kindOfWord_22 : decode cX3_kindOfWord 22 = .ok (.iinc 3 1, 3) := by decide +kernel
theorem dX3_kindOfWord_25 : decode cX3_kindOfWord 25 = .ok (.goto (-23), 3) := by decide +kernel
theorem dX3_kindOfWord_28 : decode cX3_kindOfWord 28 = .ok (.iconst (-1), 1) := by decide +kernel
theorem dX3_kindOfWord_29 : decode cX3_kindOfWord 29 = .ok (.ireturn, 1) := by decide +kernel
theorem dX3_isWord_0 : decode cX3_isWord 0 = .ok (.iload_n 3, 1) := by decide +kernel
theorem dX3_isWord_1 : decode cX3_isWord 1 = .ok (.iload_n 2, 1) := by decide +kernel
theorem dX3_isWord_2 : decode cX3_isWord 2 = .ok (.isub, 1) := by decide +kernel
theorem dX3_isWord_3 : decode cX3_isWord 3 = .ok (.aload_n 1, 1) := by decide +kernel
theorem dX3_isWord_4 : decode cX3_isWord 4 = .ok (.invokevirtual 102, 3) := by decide +kernel
theorem dX3_isWord_7 : decode cX3_isWord 7 = .ok (.if_icmp .eq 5, 3) := by decide +kernel
theorem dX3_isWord_10 : decode cX3_isWord 10 = .ok (.iconst 0, 1) := by decide +kernel
theorem dX3_isWord_11 : decode cX3_isWord 11 = .ok (.ireturn, 1) := by decide +kernel
theorem dX3_isWord_12 : decode cX3_isWord 12 = .ok (.iload_n 2, 1) := by decide +kernel
theorem dX3_isWord_13 : decode cX3_isWord 13 = .ok (.istore 4, 2) := by decide +kernel
theorem dX3_isWord_15 : decode cX3_isWord 15 = .ok (.iload 4, 2) := by decide +kernel
theorem dX3_isWord_17 : decode cX3_isWord 17 = .ok (.iload_n 3, 1) := by decide +kernel
theorem dX3_isWord_18 : decode cX3_isWord 18 = .ok (.if_icmp .ge 29, 3) := by decide +kernel
theorem dX3_isWord_21 : decode cX3_isWord 21 = .ok (.aload_n 0, 1) := by decide +kernel
theorem dX3_isWord_22 : decode cX3_isWord 22 = .ok (.getfield 9, 3) := by decide +kernel
theorem dX3_isWord_25 : decode cX3_isWord 25 = .ok (.iload 4, 2) := by decide +kernel
theorem dX3_isWord_27 : decode cX3_isWord 27 = .ok (.caload, 1) := by decide +kernel
theorem dX3_isWord_28 : decode cX3_isWord 28 = .ok (.aload_n 1, 1) := by decide +kernel
theorem dX3_isWord_29 : decode cX3_isWord 29 = .ok (.iload 4, 2) := by decide +kernel
theorem dX3_isWord_31 : decode cX3_isWord 31 = .ok (.iload_n 2, 1) := by decide +kernel
theorem dX3_isWord_32 : decode cX3_isWord 32 = .ok (.isub, 1) := by decide +kernel
theorem dX3_isWord_33 : decode cX3_isWord 33 = .ok (.invokevirtual 107, 3) := by decide +kernel
theorem dX3_isWord_36 : decode cX3_isWord 36 = .ok (.if_icmp .eq 5, 3) := by decide +kernel
theorem dX3_isWord_39 : decode cX3_isWord 39 = .ok (.iconst 0, 1) := by decide +kernel
theorem dX3_isWord_40 : decode cX3_isWord 40 = .ok (.ireturn, 1) := by decide +kernel
theorem dX3_isWord_41 : decode cX3_isWord 41 = .ok (.iinc 4 1, 3) := by decide +kernel
theorem dX3_isWord_44 : decode cX3_isWord 44 = .ok (.goto (-29), 3) := by decide +kernel
theorem dX3_isWord_47 : decode cX3_isWord 47 = .ok (.iconst 1, 1) := by decide +kernel
theorem dX3_isWord_48 : decode cX3_isWord 48 = .ok (.ireturn, 1) := by decide +kernel
theorem dX3_wordOf_0 : decode cX3_wordOf 0 = .ok (.iload_n 0, 1) := by decide +kernel
theorem dX3_wordOf_1 : decode cX3_wordOf 1 = .ok (.tableswitch 43 0 3 #[31, 34, 37, 40], 31) := by decide +kernel
theorem dX3_wordOf_32 : decode cX3_wordOf 32 = .ok (.ldc 111, 2) := by decide +kernel
theorem dX3_wordOf_34 : decode cX3_wordOf 34 = .ok (.areturn, 1) := by decide +kernel
theorem dX3_wordOf_35 : decode cX3_wordOf 35 = .ok (.ldc 113, 2) := by decide +kernel
theorem dX3_wordOf_37 : decode cX3_wordOf 37 = .ok (.areturn, 1) := by decide +kernel
theorem dX3_wordOf_38 : decode cX3_wordOf 38 = .ok (.ldc 115, 2) := by decide +kernel
theorem dX3_wordOf_40 : decode cX3_wordOf 40 = .ok (.areturn, 1) := by decide +kernel
theorem dX3_wordOf_41 : decode cX3_wordOf 41 = .ok (.ldc 117, 2) := by decide +kernel
theorem dX3_wordOf_43 : decode cX3_wordOf 43 = .ok (.areturn, 1) := by decide +kernel
theorem dX3_wordOf_44 : decode cX3_wordOf 44 = .ok (.ldc 119, 2) := by decide +kernel
theorem dX3_wordOf_46 : decode cX3_wordOf 46 = .ok (.areturn, 1) := by decide +kernel
theorem dX3_noteFault_0 : decode cX3_noteFault 0 = .ok (.aload_n 0, 1) := by decide +kernel
theorem dX3_noteFault_1 : decode cX3_noteFault 1 = .ok (.iload_n 1, 1) := by decide +kernel
theorem dX3_noteFault_2 : decode cX3_noteFault 2 = .ok (.putfield 38, 3) := by decide +kernel
theorem dX3_noteFault_5 : decode cX3_noteFault 5 = .ok (.aload_n 0, 1) := by decide +kernel
theorem dX3_noteFault_6 : decode cX3_noteFault 6 = .ok (.iload_n 2, 1) := by decide +kernel
theorem dX3_noteFault_7 : decode cX3_noteFault 7 = .ok (.putfield 26, 3) := by decide +kernel
theorem dX3_noteFault_10 : decode cX3_noteFault 10 = .ok (.return_, 1) := by decide +kernel
theorem dX4_init_0 : decode cX4_init 0 = .ok (.aload_n 0, 1) := by decide +kernel
theorem dX4_init_1 : decode cX4_init 1 = .ok (.invokespecial 3, 3) := by decide +kernel
theorem dX4_init_4 : decode cX4_init 4 = .ok (.aload_n 0, 1) := by decide +kernel
theorem dX4_init_5 : decode cX4_init 5 = .ok (.iload_n 1, 1) := by decide +kernel
theorem dX4_init_6 : decode cX4_init 6 = .ok (.putfield 9, 3) := by decide +kernel
theorem dX4_init_9 : decode cX4_init 9 = .ok (.aload_n 0, 1) := by decide +kernel
theorem dX4_init_10 : decode cX4_init 10 = .ok (.iconst 4, 1) := by decide +kernel
theorem dX4_init_11 : decode cX4_init 11 = .ok (.iload_n 1, 1) := by decide +kernel
theorem dX4_init_12 : decode cX4_init 12 = .ok (.imul, 1) := by decide +kernel
theorem dX4_init_13 : decode cX4_init 13 = .ok (.newarray .int, 2) := by decide +kernel
theorem dX4_init_15 : decode cX4_init 15 = .ok (.putfield 15, 3) := by decide +kernel
theorem dX4_init_18 : decode cX4_init 18 = .ok (.return_, 1) := by decide +kernel
theorem dX4_isFull_0 : decode cX4_isFull 0 = .ok (.aload_n 0, 1) := by decide +kernel
theorem dX4_isFull_1 : decode cX4_isFull 1 = .ok (.getfield 19, 3) := by decide +kernel
theorem dX4_isFull_4 : decode cX4_isFull 4 = .ok (.aload_n 0, 1) := by decide +kernel
theorem dX4_isFull_5 : decode cX4_isFull 5 = .ok (.getfield 9, 3) := by decide +kernel
theorem dX4_isFull_8 : decode cX4_isFull 8 = .ok (.if_icmp .lt 7, 3) := by decide +kernel
theorem dX4_isFull_11 : decode cX4_isFull 11 = .ok (.iconst 1, 1) := by decide +kernel
theorem dX4_isFull_12 : decode cX4_isFull 12 = .ok (.goto 4, 3) := by decide +kernel
theorem dX4_isFull_15 : decode cX4_isFull 15 = .ok (.iconst 0, 1) := by decide +kernel
theorem dX4_isFull_16 : decode cX4_isFull 16 = .ok (.ireturn, 1) := by decide +kernel
theorem dX4_add_0 : decode cX4_add 0 = .ok (.aload_n 0, 1) := by decide +kernel
theorem dX4_add_1 : decode cX4_add 1 = .ok (.getfield 19, 3) := by decide +kernel
theorem dX4_add_4 : decode cX4_add 4 = .ok (.aload_n 0, 1) := by decide +kernel
theorem dX4_add_5 : decode cX4_add 5 = .ok (.getfield 9, 3) := by decide +kernel
theorem dX4_add_8 : decode cX4_add 8 = .ok (.if_icmp .ge 68, 3) := by decide +kernel
theorem dX4_add_11 : decode cX4_add 11 = .ok (.aload_n 0, 1) := by decide +kernel
theorem dX4_add_12 : decode cX4_add 12 = .ok (.getfield 15, 3) := by decide +kernel
theorem dX4_add_15 : decode cX4_add 15 = .ok (.iconst 4, 1) := by decide +kernel
theorem dX4_add_16 : decode cX4_add 16 = .ok (.aload_n 0, 1) := by decide +kernel
theorem dX4_add_17 : decode cX4_add 17 = .ok (.getfield 19, 3) := by decide +kernel
theorem dX4_add_20 : decode cX4_add 20 = .ok (.imul, 1) := by decide +kernel
theorem dX4_add_21 : decode cX4_add 21 = .ok (.iload_n 1, 1) := by decide +kernel
theorem dX4_add_22 : decode cX4_add 22 = .ok (.iastore, 1) := by decide +kernel
theorem dX4_add_23 : decode cX4_add 23 = .ok (.aload_n 0, 1) := by decide +kernel
theorem dX4_add_24 : decode cX4_add 24 = .ok (.getfield 15, 3) := by decide +kernel
theorem dX4_add_27 : decode cX4_add 27 = .ok (.iconst 4, 1) := by decide +kernel
theorem dX4_add_28 : decode cX4_add 28 = .ok (.aload_n 0, 1) := by decide +kernel
theorem dX4_add_29 : decode cX4_add 29 = .ok (.getfield 19, 3) := by decide +kernel
theorem dX4_add_32 : decode cX4_add 32 = .ok (.imul, 1) := by decide +kernel
theorem dX4_add_33 : decode cX4_add 33 = .ok (.iconst 1, 1) := by decide +kernel
theorem dX4_add_34 : decode cX4_add 34 = .ok (.iadd, 1) := by decide +kernel
theorem dX4_add_35 : decode cX4_add 35 = .ok (.iload_n 2, 1) := by decide +kernel
theorem dX4_add_36 : decode cX4_add 36 = .ok (.iastore, 1) := by decide +kernel
theorem dX4_add_37 : decode cX4_add 37 = .ok (.aload_n 0, 1) := by decide +kernel
theorem dX4_add_38 : decode cX4_add 38 = .ok (.getfield 15, 3) := by decide +kernel
theorem dX4_add_41 : decode cX4_add 41 = .ok (.iconst 4, 1) := by decide +kernel
theorem dX4_add_42 : decode cX4_add 42 = .ok (.aload_n 0, 1) := by decide +kernel
theorem dX4_add_43 : decode cX4_add 43 = .ok (.getfield 19, 3) := by decide +kernel
theorem dX4_add_46 : decode cX4_add 46 = .ok (.imul, 1) := by decide +kernel
theorem dX4_add_47 : decode cX4_add 47 = .ok (.iconst 2, 1) := by decide +kernel
theorem dX4_add_48 : decode cX4_add 48 = .ok (.iadd, 1) := by decide +kernel
theorem dX4_add_49 : decode cX4_add 49 = .ok (.iload_n 3, 1) := by decide +kernel
theorem dX4_add_50 : decode cX4_add 50 = .ok (.iastore, 1) := by decide +kernel
theorem dX4_add_51 : decode cX4_add 51 = .ok (.aload_n 0, 1) := by decide +kernel
theorem dX4_add_52 : decode cX4_add 52 = .ok (.getfield 15, 3) := by decide +kernel
theorem dX4_add_55 : decode cX4_add 55 = .ok (.iconst 4, 1) := by decide +kernel
theorem dX4_add_56 : decode cX4_add 56 = .ok (.aload_n 0, 1) := by decide +kernel
theorem dX4_add_57 : decode cX4_add 57 = .ok (.getfield 19, 3) := by decide +kernel
theorem dX4_add_60 : decode cX4_add 60 = .ok (.imul, 1) := by decide +kernel
theorem dX4_add_61 : decode cX4_add 61 = .ok (.iconst 3, 1) := by decide +kernel
theorem dX4_add_62 : decode cX4_add 62 = .ok (.iadd, 1) := by decide +kernel
theorem dX4_add_63 : decode cX4_add 63 = .ok (.iload 4, 2) := by decide +kernel
theorem dX4_add_65 : decode cX4_add 65 = .ok (.iastore, 1) := by decide +kernel
theorem dX4_add_66 : decode cX4_add 66 = .ok (.aload_n 0, 1) := by decide +kernel
theorem dX4_add_67 : decode cX4_add 67 = .ok (.dup, 1) := by decide +kernel
theorem dX4_add_68 : decode cX4_add 68 = .ok (.getfield 19, 3) := by decide +kernel
theorem dX4_add_71 : decode cX4_add 71 = .ok (.iconst 1, 1) := by decide +kernel
theorem dX4_add_72 : decode cX4_add 72 = .ok (.iadd, 1) := by decide +kernel
theorem dX4_add_73 : decode cX4_add 73 = .ok (.putfield 19, 3) := by decide +kernel
theorem dX4_add_76 : decode cX4_add 76 = .ok (.return_, 1) := by decide +kernel
theorem dX4_cell_0 : decode cX4_cell 0 = .ok (.iload_n 1, 1) := by decide +kernel
theorem dX4_cell_1 : decode cX4_cell 1 = .ok (.ifCond .lt 20, 3) := by decide +kernel
theorem dX4_cell_4 : decode cX4_cell 4 = .ok (.iload_n 1, 1) := by decide +kernel
theorem dX4_cell_5 : decode cX4_cell 5 = .ok (.aload_n 0, 1) := by decide +kernel
theorem dX4_cell_6 : decode cX4_cell 6 = .ok (.getfield 19, 3) := by decide +kernel
theorem dX4_cell_9 : decode cX4_cell 9 = .ok (.if_icmp .ge 12, 3) := by decide +kernel
theorem dX4_cell_12 : decode cX4_cell 12 = .ok (.iload_n 2, 1) := by decide +kernel
theorem dX4_cell_13 : decode cX4_cell 13 = .ok (.ifCond .lt 8, 3) := by decide +kernel
theorem dX4_cell_16 : decode cX4_cell 16 = .ok (.iload_n 2, 1) := by decide +kernel
theorem dX4_cell_17 : decode cX4_cell 17 = .ok (.iconst 4, 1) := by decide +kernel
theorem dX4_cell_18 : decode cX4_cell 18 = .ok (.if_icmp .lt 7, 3) := by decide +kernel
theorem dX4_cell_21 : decode cX4_cell 21 = .ok (.iconst 0, 1) := by decide +kernel
theorem dX4_cell_22 : decode cX4_cell 22 = .ok (.goto 13, 3) := by decide +kernel
theorem dX4_cell_25 : decode cX4_cell 25 = .ok (.aload_n 0, 1) := by decide +kernel
theorem dX4_cell_26 : decode cX4_cell 26 = .ok (.getfield 15, 3) := by decide +kernel
theorem dX4_cell_29 : decode cX4_cell 29 = .ok (.iconst 4, 1) := by decide +kernel
theorem dX4_cell_30 : decode cX4_cell 30 = .ok (.iload_n 1, 1) := by decide +kernel
theorem dX4_cell_31 : decode cX4_cell 31 = .ok (.imul, 1) := by decide +kernel
theorem dX4_cell_32 : decode cX4_cell 32 = .ok (.iload_n 2, 1) := by decide +kernel
theorem dX4_cell_33 : decode cX4_cell 33 = .ok (.iadd, 1) := by decide +kernel
theorem dX4_cell_34 : decode cX4_cell 34 = .ok (.iaload, 1) := by decide +kernel
theorem dX4_cell_35 : decode cX4_cell 35 = .ok (.ireturn, 1) := by decide +kernel
theorem dX5_init_0 : decode cX5_init 0 = .ok (.aload_n 0, 1) := by decide +kernel
theorem dX5_init_1 : decode cX5_init 1 = .ok (.invokespecial 3, 3) := by decide +kernel
theorem dX5_init_4 : decode cX5_init 4 = .ok (.aload_n 0, 1) := by decide +kernel
theorem dX5_init_5 : decode cX5_init 5 = .ok (.bipush 7, 2) := by decide +kernel
theorem dX5_init_7 : decode cX5_init 7 = .ok (.newarray .int, 2) := by decide +kernel
theorem dX5_init_9 : decode cX5_init 9 = .ok (.putfield 9, 3) := by decide +kernel
theorem dX5_init_12 : decode cX5_init 12 = .ok (.aload_n 0, 1) := by decide +kernel
theorem dX5_init_13 : decode cX5_init 13 = .ok (.bipush 7, 2) := by decide +kernel
theorem dX5_init_15 : decode cX5_init 15 = .ok (.newarray .int, 2) := by decide +kernel
theorem dX5_init_17 : decode cX5_init 17 = .ok (.putfield 15, 3) := by decide +kernel
theorem dX5_init_20 : decode cX5_init 20 = .ok (.aload_n 0, 1) := by decide +kernel
theorem dX5_init_21 : decode cX5_init 21 = .ok (.bipush 7, 2) := by decide +kernel
theorem dX5_init_23 : decode cX5_init 23 = .ok (.newarray .int, 2) := by decide +kernel
theorem dX5_init_25 : decode cX5_init 25 = .ok (.putfield 18, 3) := by decide +kernel
theorem dX5_init_28 : decode cX5_init 28 = .ok (.aload_n 0, 1) := by decide +kernel
theorem dX5_init_29 : decode cX5_init 29 = .ok (.bipush 7, 2) := by decide +kernel
theorem dX5_init_31 : decode cX5_init 31 = .ok (.newarray .int, 2) := by decide +kernel
theorem dX5_init_33 : decode cX5_init 33 = .ok (.putfield 21, 3) := by decide +kernel
theorem dX5_init_36 : decode cX5_init 36 = .ok (.aload_n 0, 1) := by decide +kernel
theorem dX5_init_37 : decode cX5_init 37 = .ok (.bipush 6, 2) := by decide +kernel
theorem dX5_init_39 : decode cX5_init 39 = .ok (.newarray .int, 2) := by decide +kernel
theorem dX5_init_41 : decode cX5_init 41 = .ok (.putfield 24, 3) := by decide +kernel
theorem dX5_init_44 : decode cX5_init 44 = .ok (.aload_n 0, 1) := by decide +kernel
theorem dX5_init_45 : decode cX5_init 45 = .ok (.aload_n 1, 1) := by decide +kernel
theorem dX5_init_46 : decode cX5_init 46 = .ok (.putfield 27, 3) := by decide +kernel
theorem dX5_init_49 : decode cX5_init 49 = .ok (.return_, 1) := by decide +kernel
theorem dX5_dress_0 : decode cX5_dress 0 = .ok (.aload_n 0, 1) := by decide +kernel
theorem dX5_dress_1 : decode cX5_dress 1 = .ok (.aload_n 0, 1) := by decide +kernel
theorem dX5_dress_2 : decode cX5_dress 2 = .ok (.getfield 27, 3) := by decide +kernel
theorem dX5_dress_5 : decode cX5_dress 5 = .ok (.iconst 3, 1) := by decide +kernel
theorem dX5_dress_6 : decode cX5_dress 6 = .ok (.invokevirtual 31, 3) := by decide +kernel
theorem dX5_dress_9 : decode cX5_dress 9 = .ok (.putfield 37, 3) := by decide +kernel
theorem dX5_dress_12 : decode cX5_dress 12 = .ok (.aload_n 0, 1) := by decide +kernel
theorem dX5_dress_13 : decode cX5_dress 13 = .ok (.getfield 24, 3) := by decide +kernel
theorem dX5_dress_16 : decode cX5_dress 16 = .ok (.iconst (-1), 1) := by decide +kernel
theorem dX5_dress_17 : decode cX5_dress 17 = .ok (.invokestatic 41, 3) := by decide +kernel
theorem dX5_dress_20 : decode cX5_dress 20 = .ok (.iconst 0, 1) := by decide +kernel
theorem dX5_dress_21 : decode cX5_dress 21 = .ok (.istore_n 3, 1) := by decide +kernel
theorem dX5_dress_22 : decode cX5_dress 22 = .ok (.iload_n 3, 1) := by decide +kernel
theorem dX5_dress_23 : decode cX5_dress 23 = .ok (.aload_n 0, 1) := by decide +kernel
theorem dX5_dress_24 : decode cX5_dress 24 = .ok (.getfield 37, 3) := by decide +kernel
theorem dX5_dress_27 : decode cX5_dress 27 = .ok (.if_icmp .ge 61, 3) := by decide +kernel
theorem dX5_dress_30 : decode cX5_dress 30 = .ok (.aload_n 0, 1) := by decide +kernel
theorem dX5_dress_31 : decode cX5_dress 31 = .ok (.getfield 9, 3) := by decide +kernel
theorem dX5_dress_34 : decode cX5_dress 34 = .ok (.iload_n 3, 1) := by decide +kernel
theorem dX5_dress_35 : decode cX5_dress 35 = .ok (.aload_n 0, 1) := by decide +kernel
theorem dX5_dress_36 : decode cX5_dress 36 = .ok (.getfield 27, 3) := by decide +kernel
theorem dX5_dress_39 : decode cX5_dress 39 = .ok (.iconst 3, 1) := by decide +kernel
theorem dX5_dress_40 : decode cX5_dress 40 = .ok (.iload_n 3, 1) := by decide +kernel
theorem dX5_dress_41 : decode cX5_dress 41 = .ok (.iconst 0, 1) := by decide +kernel
theorem dX5_dress_42 : decode cX5_dress 42 = .ok (.invokevirtual 47, 3) := by decide +kernel
theorem dX5_dress_45 : decode cX5_dress 45 = .ok (.iastore, 1) := by decide +kernel
theorem dX5_dress_46 : decode cX5_dress 46 = .ok (.aload_n 0, 1) := by decide +kernel
theorem dX5_dress_47 : decode cX5_dress 47 = .ok (.getfield 15, 3) := by decide +kernel
theorem dX5_dress_50 : decode cX5_dress 50 = .ok (.iload_n 3, 1) := by decide +kernel
theorem dX5_dress_51 : decode cX5_dress 51 = .ok (.iconst 0, 1) := by decide +kernel
theorem dX5_dress_52 : decode cX5_dress 52 = .ok (.iastore, 1) := by decide +kernel
theorem dX5_dress_53 : decode cX5_dress 53 = .ok (.aload_n 0, 1) := by decide +kernel
theorem dX5_dress_54 : decode cX5_dress 54 = .ok (.getfield 27, 3) := by decide +kernel
theorem dX5_dress_57 : decode cX5_dress 57 = .ok (.iconst 2, 1) := by decide +kernel
theorem dX5_dress_58 : decode cX5_dress 58 = .ok (.aload_n 1, 1) := by decide +kernel
theorem dX5_dress_59 : decode cX5_dress 59 = .ok (.getfield 51, 3) := by decide +kernel
theorem dX5_dress_62 : decode cX5_dress 62 = .ok (.iload_n 3, 1) := by decide +kernel
theorem dX5_dress_63 : decode cX5_dress 63 = .ok (.iaload, 1) := by decide +kernel
theorem dX5_dress_64 : decode cX5_dress 64 = .ok (.invokevirtual 56, 3) := by decide +kernel
theorem dX5_dress_67 : decode cX5_dress 67 = .ok (.ifCond .eq 15, 3) := by decide +kernel
theorem dX5_dress_70 : decode cX5_dress 70 = .ok (.aload_n 0, 1) := by decide +kernel
theorem dX5_dress_71 : decode cX5_dress 71 = .ok (.getfield 24, 3) := by decide +kernel
theorem dX5_dress_74 : decode cX5_dress 74 = .ok (.aload_n 1, 1) := by decide +kernel
theorem dX5_dress_75 : decode cX5_dress 75 = .ok (.getfield 51, 3) := by decide +kernel
theorem dX5_dress_78 : decode cX5_dress 78 = .ok (.iload_n 3, 1) := by decide +kernel
theorem dX5_dress_79 : decode cX5_dress 79 = .ok (.iaload, 1) := by decide +kernel
theorem dX5_dress_80 : decode cX5_dress 80 = .ok (.iload_n 3, 1) := by decide +kernel
theorem dX5_dress_81 : decode cX5_dress 81 = .ok (.iastore, 1) := by decide +kernel
theorem dX5_dress_82 : decode cX5_dress 82 = .ok (.iinc 3 1, 3) := by decide +kernel
theorem dX5_dress_85 : decode cX5_dress 85 = .ok (.goto (-63), 3) := by decide +kernel
theorem dX5_dress_88 : decode cX5_dress 88 = .ok (.iconst 0, 1) := by decide +kernel
theorem dX5_dress_89 : decode cX5_dress 89 = .ok (.istore_n 3, 1) := by decide +kernel
theorem dX5_dress_90 : decode cX5_dress 90 = .ok (.iload_n 2, 1) := by decide +kernel
theorem dX5_dress_91 : decode cX5_dress 91 = .ok (.ifCond .eq 49, 3) := by decide +kernel
theorem dX5_dress_94 : decode cX5_dress 94 = .ok (.iload_n 3, 1) := by decide +kernel
theorem dX5_dress_95 : decode cX5_dress 95 = .ok (.aload_n 0, 1) := by decide +kernel
theorem dX5_dress_96 : decode cX5_dress 96 = .ok (.getfield 27, 3) := by decide +kernel
theorem dX5_dress_99 : decode cX5_dress 99 = .ok (.iconst 4, 1) := by decide +kernel
theorem dX5_dress_100 : decode cX5_dress 100 = .ok (.invokevirtual 31, 3) := by decide +kernel
theorem dX5_dress_103 : decode cX5_dress 103 = .ok (.if_icmp .ge 37, 3) := by decide +kernel
theorem dX5_dress_106 : decode cX5_dress 106 = .ok (.aload_n 0, 1) := by decide +kernel
theorem dX5_dress_107 : decode cX5_dress 107 = .ok (.getfield 27, 3) := by decide +kernel
theorem dX5_dress_110 : decode cX5_dress 110 = .ok (.iconst 3, 1) := by decide +kernel
theorem dX5_dress_111 : decode cX5_dress 111 = .ok (.aload_n 1, 1) := by decide +kernel
theorem dX5_dress_112 : decode cX5_dress 112 = .ok (.getfield 60, 3) := by decide +kernel
theorem dX5_dress_115 : decode cX5_dress 115 = .ok (.iload_n 3, 1) := by decide +kernel
theorem dX5_dress_116 : decode cX5_dress 116 = .ok (.iaload, 1) := by decide +kernel
theorem dX5_dress_117 : decode cX5_dress 117 = .ok (.invokevirtual 56, 3) := by decide +kernel
theorem dX5_dress_120 : decode cX5_dress 120 = .ok (.ifCond .eq 14, 3) := by decide +kernel
theorem dX5_dress_123 : decode cX5_dress 123 = .ok (.aload_n 0, 1) := by decide +kernel
theorem dX5_dress_124 : decode cX5_dress 124 = .ok (.iload_n 3, 1) := by decide +kernel
theorem dX5_dress_125 : decode cX5_dress 125 = .ok (.aload_n 1, 1) := by decide +kernel
theorem dX5_dress_126 : decode cX5_dress 126 = .ok (.getfield 60, 3) := by decide +kernel
theorem dX5_dress_129 : decode cX5_dress 129 = .ok (.iload_n 3, 1) := by decide +kernel
theorem dX5_dress_130 : decode cX5_dress 130 = .ok (.iaload, 1) := by decide +kernel
theorem dX5_dress_131 : decode cX5_dress 131 = .ok (.invokevirtual 63, 3) := by decide +kernel
theorem dX5_dress_134 : decode cX5_dress 134 = .ok (.iinc 3 1, 3) := by decide +kernel
theorem dX5_dress_137 : decode cX5_dress 137 = .ok (.goto (-47), 3) := by decide +kernel
theorem dX5_dress_140 : decode cX5_dress 140 = .ok (.return_, 1) := by decide +kernel
theorem dX5_light_0 : decode cX5_light 0 = .ok (.aload_n 0, 1) := by decide +kernel
theorem dX5_light_1 : decode cX5_light 1 = .ok (.iload_n 1, 1) := by decide +kernel
theorem dX5_light_2 : decode cX5_light 2 = .ok (.putfield 67, 3) := by decide +kernel
theorem dX5_light_5 : decode cX5_light 5 = .ok (.aload_n 0, 1) := by decide +kernel
theorem dX5_light_6 : decode cX5_light 6 = .ok (.iload_n 2, 1) := by decide +kernel
theorem dX5_light_7 : decode cX5_light 7 = .ok (.putfield 70, 3) := by decide +kernel
theorem dX5_light_10 : decode cX5_light 10 = .ok (.return_, 1) := by decide +kernel
theorem dX5_putHat_0 : decode cX5_putHat 0 = .ok (.aload_n 0, 1) := by decide +kernel
theorem dX5_putHat_1 : decode cX5_putHat 1 = .ok (.getfield 9, 3) := by decide +kernel
theorem dX5_putHat_4 : decode cX5_putHat 4 = .ok (.iload_n 2, 1) := by decide +kernel
theorem dX5_putHat_5 : decode cX5_putHat 5 = .ok (.dup2, 1) := by decide +kernel
theorem dX5_putHat_6 : decode cX5_putHat 6 = .ok (.iaload, 1) := by decide +kernel
theorem dX5_putHat_7 : decode cX5_putHat 7 = .ok (.aload_n 0, 1) := by decide +kernel
theorem dX5_putHat_8 : decode cX5_putHat 8 = .ok (.getfield 27, 3) := by decide +kernel
theorem dX5_putHat_11 : decode cX5_putHat 11 = .ok (.iconst 4, 1) := by decide +kernel
theorem dX5_putHat_12 : decode cX5_putHat 12 = .ok (.iload_n 1, 1) := by decide +kernel
theorem dX5_putHat_13 : decode cX5_putHat 13 = .ok (.iconst 0, 1) := by decide +kernel
theorem dX5_putHat_14 : decode cX5_putHat 14 = .ok (.invokevirtual 47, 3) := by decide +kernel
theorem dX5_putHat_17 : decode cX5_putHat 17 = .ok (.iadd, 1) := by decide +kernel
theorem dX5_putHat_18 : decode cX5_putHat 18 = .ok (.iastore, 1) := by decide +kernel
theorem dX5_putHat_19 : decode cX5_putHat 19 = .ok (.aload_n 0, 1) := by decide +kernel
theorem dX5_putHat_20 : decode cX5_putHat 20 = .ok (.getfield 15, 3) := by decide +kernel
theorem dX5_putHat_23 : decode cX5_putHat 23 = .ok (.iload_n 2, 1) := by decide +kernel
theorem dX5_putHat_24 : decode cX5_putHat 24 = .ok (.dup2, 1) := by decide +kernel
theorem dX5_putHat_25 : decode cX5_putHat 25 = .ok (.iaload, 1) := by decide +kernel
theorem dX5_putHat_26 : decode cX5_putHat 26 = .ok (.aload_n 0, 1) := by decide +kernel
theorem dX5_putHat_27 : decode cX5_putHat 27 = .ok (.getfield 27, 3) := by decide +kernel
theorem dX5_putHat_30 : decode cX5_putHat 30 = .ok (.iconst 4, 1) := by decide +kernel
theorem dX5_putHat_31 : decode cX5_putHat 31 = .ok (.iload_n 1, 1) := by decide +kernel
theorem dX5_putHat_32 : decode cX5_putHat 32 = .ok (.iconst 1, 1) := by decide +kernel
theorem dX5_putHat_33 : decode cX5_putHat 33 = .ok (.invokevirtual 47, 3) := by decide +kernel
theorem dX5_putHat_36 : decode cX5_putHat 36 = .ok (.iadd, 1) := by decide +kernel
theorem dX5_putHat_37 : decode cX5_putHat 37 = .ok (.iastore, 1) := by decide +kernel
theorem dX5_putHat_38 : decode cX5_putHat 38 = .ok (.return_, 1) := by decide +kernel
theorem dX5_takeHat_0 : decode cX5_takeHat 0 = .ok (.aload_n 0, 1) := by decide +kernel
theorem dX5_takeHat_1 : decode cX5_takeHat 1 = .ok (.getfield 9, 3) := by decide +kernel
theorem dX5_takeHat_4 : decode cX5_takeHat 4 = .ok (.iload_n 2, 1) := by decide +kernel
theorem dX5_takeHat_5 : decode cX5_takeHat 5 = .ok (.dup2, 1) := by decide +kernel
theorem dX5_takeHat_6 : decode cX5_takeHat 6 = .ok (.iaload, 1) := by decide +kernel
theorem dX5_takeHat_7 : decode cX5_takeHat 7 = .ok (.aload_n 0, 1) := by decide +kernel
theorem dX5_takeHat_8 : decode cX5_takeHat 8 = .ok (.getfield 27, 3) := by decide +kernel
theorem dX5_takeHat_11 : decode cX5_takeHat 11 = .ok (.iconst 4, 1) := by decide +kernel
theorem dX5_takeHat_12 : decode cX5_takeHat 12 = .ok (.iload_n 1, 1) := by decide +kernel
theorem dX5_takeHat_13 : decode cX5_takeHat 13 = .ok (.iconst 0, 1) := by decide +kernel
theorem dX5_takeHat_14 : decode cX5_takeHat 14 = .ok (.invokevirtual 47, 3) := by decide +kernel
theorem dX5_takeHat_17 : decode cX5_takeHat 17 = .ok (.isub, 1) := by decide +kernel
theorem dX5_takeHat_18 : decode cX5_takeHat 18 = .ok (.iastore, 1) := by decide +kernel
theorem dX5_takeHat_19 : decode cX5_takeHat 19 = .ok (.aload_n 0, 1) := by decide +kernel
theorem dX5_takeHat_20 : decode cX5_takeHat 20 = .ok (.getfield 15, 3) := by decide +kernel
theorem dX5_takeHat_23 : decode cX5_takeHat 23 = .ok (.iload_n 2, 1) := by decide +kernel
theorem dX5_takeHat_24 : decode cX5_takeHat 24 = .ok (.dup2, 1) := by decide +kernel
theorem dX5_takeHat_25 : decode cX5_takeHat 25 = .ok (.iaload, 1) := by decide +kernel
theorem dX5_takeHat_26 : decode cX5_takeHat 26 = .ok (.aload_n 0, 1) := by decide +kernel
theorem dX5_takeHat_27 : decode cX5_takeHat 27 = .ok (.getfield 27, 3) := by decide +kernel
theorem dX5_takeHat_30 : decode cX5_takeHat 30 = .ok (.iconst 4, 1) := by decide +kernel
theorem dX5_takeHat_31 : decode cX5_takeHat 31 = .ok (.iload_n 1, 1) := by decide +kernel
theorem dX5_takeHat_32 : decode cX5_takeHat 32 = .ok (.iconst 1, 1) := by decide +kernel
theorem dX5_takeHat_33 : decode cX5_takeHat 33 = .ok (.invokevirtual 47, 3) := by decide +kernel
theorem dX5_takeHat_36 : decode cX5_takeHat 36 = .ok (.isub, 1) := by decide +kernel
theorem dX5_takeHat_37 : decode cX5_takeHat 37 = .ok (.iastore, 1) := by decide +kernel
theorem dX5_takeHat_38 : decode cX5_takeHat 38 = .ok (.return_, 1) := by decide +kernel
theorem dX5_addGiant_0 : decode cX5_addGiant 0 = .ok (.aload_n 0, 1) := by decide +kernel
theorem dX5_addGiant_1 : decode cX5_addGiant 1 = .ok (.getfield 27, 3) := by decide +kernel
theorem dX5_addGiant_4 : decode cX5_addGiant 4 = .ok (.iconst 3, 1) := by decide +kernel
theorem dX5_addGiant_5 : decode cX5_addGiant 5 = .ok (.invokevirtual 31, 3) := by decide +kernel
theorem dX5_addGiant_8 : decode cX5_addGiant 8 = .ok (.istore_n 2, 1) := by decide +kernel
theorem dX5_addGiant_9 : decode cX5_addGiant 9 = .ok (.aload_n 0, 1) := by decide +kernel
theorem dX5_addGiant_10 : decode cX5_addGiant 10 = .ok (.getfield 9, 3) := by decide +kernel
theorem dX5_addGiant_13 : decode cX5_addGiant 13 = .ok (.iload_n 2, 1) := by decide +kernel
theorem dX5_addGiant_14 : decode cX5_addGiant 14 = .ok (.iload_n 1, 1) := by decide +kernel
theorem dX5_addGiant_15 : decode cX5_addGiant 15 = .ok (.iastore, 1) := by decide +kernel
theorem dX5_addGiant_16 : decode cX5_addGiant 16 = .ok (.aload_n 0, 1) := by decide +kernel
theorem dX5_addGiant_17 : decode cX5_addGiant 17 = .ok (.getfield 15, 3) := by decide +kernel
theorem dX5_addGiant_20 : decode cX5_addGiant 20 = .ok (.iload_n 2, 1) := by decide +kernel
theorem dX5_addGiant_21 : decode cX5_addGiant 21 = .ok (.iconst 0, 1) := by decide +kernel
theorem dX5_addGiant_22 : decode cX5_addGiant 22 = .ok (.iastore, 1) := by decide +kernel
theorem dX5_addGiant_23 : decode cX5_addGiant 23 = .ok (.aload_n 0, 1) := by decide +kernel
theorem dX5_addGiant_24 : decode cX5_addGiant 24 = .ok (.iload_n 2, 1) := by decide +kernel
theorem dX5_addGiant_25 : decode cX5_addGiant 25 = .ok (.iconst 1, 1) := by decide +kernel
theorem dX5_addGiant_26 : decode cX5_addGiant 26 = .ok (.iadd, 1) := by decide +kernel
theorem dX5_addGiant_27 : decode cX5_addGiant 27 = .ok (.putfield 37, 3) := by decide +kernel
theorem dX5_addGiant_30 : decode cX5_addGiant 30 = .ok (.iload_n 2, 1) := by decide +kernel
theorem dX5_addGiant_31 : decode cX5_addGiant 31 = .ok (.ireturn, 1) := by decide +kernel
theorem dX5_cast_0 : decode cX5_cast 0 = .ok (.aload_n 0, 1) := by decide +kernel
theorem dX5_cast_1 : decode cX5_cast 1 = .ok (.invokevirtual 73, 3) := by decide +kernel
theorem dX5_cast_4 : decode cX5_cast 4 = .ok (.aload_n 0, 1) := by decide +kernel
theorem dX5_cast_5 : decode cX5_cast 5 = .ok (.getfield 70, 3) := by decide +kernel
theorem dX5_cast_8 : decode cX5_cast 8 = .ok (.iconst 1, 1) := by decide +kernel
theorem dX5_cast_9 : decode cX5_cast 9 = .ok (.if_icmp .ne 8, 3) := by decide +kernel
theorem dX5_cast_12 : decode cX5_cast 12 = .ok (.aload_n 0, 1) := by decide +kernel
theorem dX5_cast_13 : decode cX5_cast 13 = .ok (.invokevirtual 76, 3) := by decide +kernel
theorem dX5_cast_16 : decode cX5_cast 16 = .ok (.return_, 1) := by decide +kernel
theorem dX5_cast_17 : decode cX5_cast 17 = .ok (.iconst 0, 1) := by decide +kernel
theorem dX5_cast_18 : decode cX5_cast 18 = .ok (.istore_n 1, 1) := by decide +kernel
theorem dX5_cast_19 : decode cX5_cast 19 = .ok (.iload_n 1, 1) := by decide +kernel
theorem dX5_cast_20 : decode cX5_cast 20 = .ok (.aload_n 0, 1) := by decide +kernel
theorem dX5_cast_21 : decode cX5_cast 21 = .ok (.getfield 37, 3) := by decide +kernel
theorem dX5_cast_24 : decode cX5_cast 24 = .ok (.if_icmp .ge 43, 3) := by decide +kernel
theorem dX5_cast_27 : decode cX5_cast 27 = .ok (.aload_n 0, 1) := by decide +kernel
theorem dX5_cast_28 : decode cX5_cast 28 = .ok (.getfield 21, 3) := by decide +kernel
theorem dX5_cast_31 : decode cX5_cast 31 = .ok (.iload_n 1, 1) := by decide +kernel
theorem dX5_cast_32 : decode cX5_cast 32 = .ok (.aload_n 0, 1) := by decide +kernel
theorem dX5_cast_33 : decode cX5_cast 33 = .ok (.getfield 70, 3) := by decide +kernel
theorem dX5_cast_36 : decode cX5_cast 36 = .ok (.iconst 2, 1) := by decide +kernel
theorem dX5_cast_37 : decode cX5_cast 37 = .ok (.if_icmp .ne 17, 3) := by decide +kernel
theorem dX5_cast_40 : decode cX5_cast 40 = .ok (.aload_n 0, 1) := by decide +kernel
theorem dX5_cast_41 : decode cX5_cast 41 = .ok (.getfield 18, 3) := by decide +kernel
theorem dX5_cast_44 : decode cX5_cast 44 = .ok (.iload_n 1, 1) := by decide +kernel
theorem dX5_cast_45 : decode cX5_cast 45 = .ok (.iaload, 1) := by decide +kernel
theorem dX5_cast_46 : decode cX5_cast 46 = .ok (.bipush 50, 2) := by decide +kernel
theorem dX5_cast_48 : decode cX5_cast 48 = .ok (.invokestatic 79, 3) := by decide +kernel
theorem dX5_cast_51 : decode cX5_cast 51 = .ok (.goto 9, 3) := by decide +kernel
theorem dX5_cast_54 : decode cX5_cast 54 = .ok (.aload_n 0, 1) := by decide +kernel
theorem dX5_cast_55 : decode cX5_cast 55 = .ok (.getfield 18, 3) := by decide +kernel
theorem dX5_cast_58 : decode cX5_cast 58 = .ok (.iload_n 1, 1) := by decide +kernel
theorem dX5_cast_59 : decode cX5_cast 59 = .ok (.iaload, 1) := by decide +kernel
theorem dX5_cast_60 : decode cX5_cast 60 = .ok (.iastore, 1) := by decide +kernel
theorem dX5_cast_61 : decode cX5_cast 61 = .ok (.iinc 1 1, 3) := by decide +kernel
theorem dX5_cast_64 : decode cX5_cast 64 = .ok (.goto (-45), 3) := by decide +kernel
theorem dX5_cast_67 : decode cX5_cast 67 = .ok (.return_, 1) := by decide +kernel
theorem dX5_castShades_0 : decode cX5_castShades 0 = .ok (.aload_n 0, 1) := by decide +kernel
theorem dX5_castShades_1 : decode cX5_castShades 1 = .ok (.getfield 18, 3) := by decide +kernel
theorem dX5_castShades_4 : decode cX5_castShades 4 = .ok (.iconst 0, 1) := by decide +kernel
theorem dX5_castShades_5 : decode cX5_castShades 5 = .ok (.invokestatic 41, 3) := by decide +kernel
theorem dX5_castShades_8 : decode cX5_castShades 8 = .ok (.iconst 0, 1) := by decide +kernel
theorem dX5_castShades_9 : decode cX5_castShades 9 = .ok (.istore_n 1, 1) := by decide +kernel
theorem dX5_castShades_10 : decode cX5_castShades 10 = .ok (.iconst 0, 1) := by decide +kernel
theorem dX5_castShades_11 : decode cX5_castShades 11 = .ok (.istore_n 2, 1) := by decide +kernel
theorem dX5_castShades_12 : decode cX5_castShades 12 = .ok (.iload_n 2, 1) := by decide +kernel
theorem dX5_castShades_13 : decode cX5_castShades 13 = .ok (.aload_n 0, 1) := by decide +kernel
theorem dX5_castShades_14 : decode cX5_castShades 14 = .ok (.getfield 27, 3) := by decide +kernel
theorem dX5_castShades_17 : decode cX5_castShades 17 = .ok (.iconst 2, 1) := by decide +kernel
theorem dX5_castShades_18 : decode cX5_castShades 18 = .ok (.invokevirtual 31, 3) := by decide +kernel
theorem dX5_castShades_21 : decode cX5_castShades 21 = .ok (.if_icmp .ge 79, 3) := by decide +kernel
theorem dX5_castShades_24 : decode cX5_castShades 24 = .ok (.aload_n 0, 1) := by decide +kernel
theorem dX5_castShades_25 : decode cX5_castShades 25 = .ok (.getfield 24, 3) := by decide +kernel
theorem dX5_castShades_28 : decode cX5_castShades 28 = .ok (.iload_n 2, 1) := by decide +kernel
theorem dX5_castShades_29 : decode cX5_castShades 29 = .ok (.iaload, 1) := by decide +kernel
theorem dX5_castShades_30 : decode cX5_castShades 30 = .ok (.istore_n 3, 1) := by decide +kernel
theorem dX5_castShades_31 : decode cX5_castShades 31 = .ok (.iconst 0, 1) := by decide +kernel
theorem dX5_castShades_32 : decode cX5_castShades 32 = .ok (.istore 4, 2) := by decide +kernel
theorem dX5_castShades_34 : decode cX5_castShades 34 = .ok (.aload_n 0, 1) := by decide +kernel
theorem dX5_castShades_35 : decode cX5_castShades 35 = .ok (.iload_n 3, 1) := by decide +kernel
theorem dX5_castShades_36 : decode cX5_castShades 36 = .ok (.invokevirtual 85, 3) := by decide +kernel
theorem dX5_castShades_39 : decode cX5_castShades 39 = .ok (.ifCond .eq 52, 3) := by decide +kernel
theorem dX5_castShades_42 : decode cX5_castShades 42 = .ok (.aload_n 0, 1) := by decide +kernel
theorem dX5_castShades_43 : decode cX5_castShades 43 = .ok (.getfield 9, 3) := by decide +kernel
theorem dX5_castShades_46 : decode cX5_castShades 46 = .ok (.iload_n 3, 1) := by decide +kernel
theorem dX5_castShades_47 : decode cX5_castShades 47 = .ok (.iaload, 1) := by decide +kernel
theorem dX5_castShades_48 : decode cX5_castShades 48 = .ok (.aload_n 0, 1) := by decide +kernel
theorem dX5_castShades_49 : decode cX5_castShades 49 = .ok (.getfield 27, 3) := by decide +kernel
theorem dX5_castShades_52 : decode cX5_castShades 52 = .ok (.iconst 2, 1) := by decide +kernel
theorem dX5_castShades_53 : decode cX5_castShades 53 = .ok (.iload_n 2, 1) := by decide +kernel
theorem dX5_castShades_54 : decode cX5_castShades 54 = .ok (.iconst 0, 1) := by decide +kernel
theorem dX5_castShades_55 : decode cX5_castShades 55 = .ok (.invokevirtual 47, 3) := by decide +kernel
theorem dX5_castShades_58 : decode cX5_castShades 58 = .ok (.iadd, 1) := by decide +kernel
theorem dX5_castShades_59 : decode cX5_castShades 59 = .ok (.istore 4, 2) := by decide +kernel
theorem dX5_castShades_61 : decode cX5_castShades 61 = .ok (.aload_n 0, 1) := by decide +kernel
theorem dX5_castShades_62 : decode cX5_castShades 62 = .ok (.getfield 18, 3) := by decide +kernel
theorem dX5_castShades_65 : decode cX5_castShades 65 = .ok (.iload_n 3, 1) := by decide +kernel
theorem dX5_castShades_66 : decode cX5_castShades 66 = .ok (.iload_n 1, 1) := by decide +kernel
theorem dX5_castShades_67 : decode cX5_castShades 67 = .ok (.iload 4, 2) := by decide +kernel
theorem dX5_castShades_69 : decode cX5_castShades 69 = .ok (.if_icmp .le 7, 3) := by decide +kernel
theorem dX5_castShades_72 : decode cX5_castShades 72 = .ok (.iconst 0, 1) := by decide +kernel
theorem dX5_castShades_73 : decode cX5_castShades 73 = .ok (.goto 17, 3) := by decide +kernel
theorem dX5_castShades_76 : decode cX5_castShades 76 = .ok (.aload_n 0, 1) := by decide +kernel
theorem dX5_castShades_77 : decode cX5_castShades 77 = .ok (.getfield 27, 3) := by decide +kernel
theorem dX5_castShades_80 : decode cX5_castShades 80 = .ok (.iload_n 2, 1) := by decide +kernel
theorem dX5_castShades_81 : decode cX5_castShades 81 = .ok (.iload 4, 2) := by decide +kernel
theorem dX5_castShades_83 : decode cX5_castShades 83 = .ok (.aload_n 0, 1) := by decide +kernel
theorem dX5_castShades_84 : decode cX5_castShades 84 = .ok (.getfield 67, 3) := by decide +kernel
theorem dX5_castShades_87 : decode cX5_castShades 87 = .ok (.invokevirtual 89, 3) := by decide +kernel
theorem dX5_castShades_90 : decode cX5_castShades 90 = .ok (.iastore, 1) := by decide +kernel
theorem dX5_castShades_91 : decode cX5_castShades 91 = .ok (.iload 4, 2) := by decide +kernel
theorem dX5_castShades_93 : decode cX5_castShades 93 = .ok (.istore_n 1, 1) := by decide +kernel
theorem dX5_castShades_94 : decode cX5_castShades 94 = .ok (.iinc 2 1, 3) := by decide +kernel
theorem dX5_castShades_97 : decode cX5_castShades 97 = .ok (.goto (-85), 3) := by decide +kernel
theorem dX5_castShades_100 : decode cX5_castShades 100 = .ok (.return_, 1) := by decide +kernel
theorem dX5_giveAllToLongest_0 : decode cX5_giveAllToLongest 0 = .ok (.iconst 0, 1) := by decide +kernel
theorem dX5_giveAllToLongest_1 : decode cX5_giveAllToLongest 1 = .ok (.istore_n 1, 1) := by decide +kernel
theorem dX5_giveAllToLongest_2 : decode cX5_giveAllToLongest 2 = .ok (.iconst 0, 1) := by decide +kernel
theorem dX5_giveAllToLongest_3 : decode cX5_giveAllToLongest 3 = .ok (.istore_n 2, 1) := by decide +kernel
theorem dX5_giveAllToLongest_4 : decode cX5_giveAllToLongest 4 = .ok (.iconst 0, 1) := by decide +kernel
theorem dX5_giveAllToLongest_5 : decode cX5_giveAllToLongest 5 = .ok (.istore_n 3, 1) := by decide +kernel
theorem dX5_giveAllToLongest_6 : decode cX5_giveAllToLongest 6 = .ok (.iload_n 3, 1) := by decide +kernel
theorem dX5_giveAllToLongest_7 : decode cX5_giveAllToLongest 7 = .ok (.aload_n 0, 1) := by decide +kernel
theorem dX5_giveAllToLongest_8 : decode cX5_giveAllToLongest 8 = .ok (.getfield 37, 3) := by decide +kernel
theorem dX5_giveAllToLongest_11 : decode cX5_giveAllToLongest 11 = .ok (.if_icmp .ge 39, 3) := by decide +kernel
theorem dX5_giveAllToLongest_14 : decode cX5_giveAllToLongest 14 = .ok (.aload_n 0, 1) := by decide +kernel
theorem dX5_giveAllToLongest_15 : decode cX5_giveAllToLongest 15 = .ok (.getfield 18, 3) := by decide +kernel
theorem dX5_giveAllToLongest_18 : decode cX5_giveAllToLongest 18 = .ok (.iload_n 3, 1) := by decide +kernel
theorem dX5_giveAllToLongest_19 : decode cX5_giveAllToLongest 19 = .ok (.iaload, 1) := by decide +kernel
theorem dX5_giveAllToLongest_20 : decode cX5_giveAllToLongest 20 = .ok (.aload_n 0, 1) := by decide +kernel
theorem dX5_giveAllToLongest_21 : decode cX5_giveAllToLongest 21 = .ok (.getfield 18, 3) := by decide +kernel
theorem dX5_giveAllToLongest_24 : decode cX5_giveAllToLongest 24 = .ok (.iload_n 1, 1) := by decide +kernel
theorem dX5_giveAllToLongest_25 : decode cX5_giveAllToLongest 25 = .ok (.iaload, 1) := by decide +kernel
theorem dX5_giveAllToLongest_26 : decode cX5_giveAllToLongest 26 = .ok (.if_icmp .le 7, 3) := by decide +kernel
theorem dX5_giveAllToLongest_29 : decode cX5_giveAllToLongest 29 = .ok (.iload_n 3, 1) := by decide +kernel
theorem dX5_giveAllToLongest_30 : decode cX5_giveAllToLongest 30 = .ok (.goto 4, 3) := by decide +kernel
theorem dX5_giveAllToLongest_33 : decode cX5_giveAllToLongest 33 = .ok (.iload_n 1, 1) := by decide +kernel
theorem dX5_giveAllToLongest_34 : decode cX5_giveAllToLongest 34 = .ok (.istore_n 1, 1) := by decide +kernel
theorem dX5_giveAllToLongest_35 : decode cX5_giveAllToLongest 35 = .ok (.iload_n 2, 1) := by decide +kernel
theorem dX5_giveAllToLongest_36 : decode cX5_giveAllToLongest 36 = .ok (.aload_n 0, 1) := by decide +kernel
theorem dX5_giveAllToLongest_37 : decode cX5_giveAllToLongest 37 = .ok (.getfield 18, 3) := by decide +kernel
theorem dX5_giveAllToLongest_40 : decode cX5_giveAllToLongest 40 = .ok (.iload_n 3, 1) := by decide +kernel
theorem dX5_giveAllToLongest_41 : decode cX5_giveAllToLongest 41 = .ok (.iaload, 1) := by decide +kernel
theorem dX5_giveAllToLongest_42 : decode cX5_giveAllToLongest 42 = .ok (.iadd, 1) := by decide +kernel
theorem dX5_giveAllToLongest_43 : decode cX5_giveAllToLongest 43 = .ok (.istore_n 2, 1) := by decide +kernel
theorem dX5_giveAllToLongest_44 : decode cX5_giveAllToLongest 44 = .ok (.iinc 3 1, 3) := by decide +kernel
theorem dX5_giveAllToLongest_47 : decode cX5_giveAllToLongest 47 = .ok (.goto (-41), 3) := by decide +kernel
theorem dX5_giveAllToLongest_50 : decode cX5_giveAllToLongest 50 = .ok (.aload_n 0, 1) := by decide +kernel
theorem dX5_giveAllToLongest_51 : decode cX5_giveAllToLongest 51 = .ok (.getfield 21, 3) := by decide +kernel
theorem dX5_giveAllToLongest_54 : decode cX5_giveAllToLongest 54 = .ok (.iconst 0, 1) := by decide +kernel
theorem dX5_giveAllToLongest_55 : decode cX5_giveAllToLongest 55 = .ok (.invokestatic 41, 3) := by decide +kernel
theorem dX5_giveAllToLongest_58 : decode cX5_giveAllToLongest 58 = .ok (.aload_n 0, 1) := by decide +kernel
theorem dX5_giveAllToLongest_59 : decode cX5_giveAllToLongest 59 = .ok (.getfield 21, 3) := by decide +kernel
theorem dX5_giveAllToLongest_62 : decode cX5_giveAllToLongest 62 = .ok (.iload_n 1, 1) := by decide +kernel
theorem dX5_giveAllToLongest_63 : decode cX5_giveAllToLongest 63 = .ok (.iload_n 2, 1) := by decide +kernel
theorem dX5_giveAllToLongest_64 : decode cX5_giveAllToLongest 64 = .ok (.iastore, 1) := by decide +kernel
theorem dX5_giveAllToLongest_65 : decode cX5_giveAllToLongest 65 = .ok (.return_, 1) := by decide +kernel
theorem dX5_isHere_0 : decode cX5_isHere 0 = .ok (.iload_n 1, 1) := by decide +kernel
theorem dX5_isHere_1 : decode cX5_isHere 1 = .ok (.ifCond .lt 15, 3) := by decide +kernel
theorem dX5_isHere_4 : decode cX5_isHere 4 = .ok (.iload_n 1, 1) := by decide +kernel
theorem dX5_isHere_5 : decode cX5_isHere 5 = .ok (.aload_n 0, 1) := by decide +kernel
theorem dX5_isHere_6 : decode cX5_isHere 6 = .ok (.getfield 37, 3) := by decide +kernel
theorem dX5_isHere_9 : decode cX5_isHere 9 = .ok (.if_icmp .ge 7, 3) := by decide +kernel
theorem dX5_isHere_12 : decode cX5_isHere 12 = .ok (.iconst 1, 1) := by decide +kernel
theorem dX5_isHere_13 : decode cX5_isHere 13 = .ok (.goto 4, 3) := by decide +kernel
theorem dX5_isHere_16 : decode cX5_isHere 16 = .ok (.iconst 0, 1) := by decide +kernel
theorem dX5_isHere_17 : decode cX5_isHere 17 = .ok (.ireturn, 1) := by decide +kernel
theorem dX5_almsOf_0 : decode cX5_almsOf 0 = .ok (.aload_n 0, 1) := by decide +kernel
theorem dX5_almsOf_1 : decode cX5_almsOf 1 = .ok (.iload_n 1, 1) := by decide +kernel
theorem dX5_almsOf_2 : decode cX5_almsOf 2 = .ok (.invokevirtual 85, 3) := by decide +kernel
theorem dX5_almsOf_5 : decode cX5_almsOf 5 = .ok (.ifCond .eq 19, 3) := by decide +kernel
theorem dX5_almsOf_8 : decode cX5_almsOf 8 = .ok (.aload_n 0, 1) := by decide +kernel
theorem dX5_almsOf_9 : decode cX5_almsOf 9 = .ok (.getfield 21, 3) := by decide +kernel
theorem dX5_almsOf_12 : decode cX5_almsOf 12 = .ok (.iload_n 1, 1) := by decide +kernel
theorem dX5_almsOf_13 : decode cX5_almsOf 13 = .ok (.iaload, 1) := by decide +kernel
theorem dX5_almsOf_14 : decode cX5_almsOf 14 = .ok (.aload_n 0, 1) := by decide +kernel
theorem dX5_almsOf_15 : decode cX5_almsOf 15 = .ok (.getfield 15, 3) := by decide +kernel
theorem dX5_almsOf_18 : decode cX5_almsOf 18 = .ok (.iload_n 1, 1) := by decide +kernel
theorem dX5_almsOf_19 : decode cX5_almsOf 19 = .ok (.iaload, 1) := by decide +kernel
theorem dX5_almsOf_20 : decode cX5_almsOf 20 = .ok (.isub, 1) := by decide +kernel
theorem dX5_almsOf_21 : decode cX5_almsOf 21 = .ok (.goto 4, 3) := by decide +kernel
theorem dX5_almsOf_24 : decode cX5_almsOf 24 = .ok (.iconst 0, 1) := by decide +kernel
theorem dX5_almsOf_25 : decode cX5_almsOf 25 = .ok (.ireturn, 1) := by decide +kernel
theorem dX5_sumOfAlms_0 : decode cX5_sumOfAlms 0 = .ok (.iconst 0, 1) := by decide +kernel
theorem dX5_sumOfAlms_1 : decode cX5_sumOfAlms 1 = .ok (.istore_n 1, 1) := by decide +kernel
theorem dX5_sumOfAlms_2 : decode cX5_sumOfAlms 2 = .ok (.iconst 0, 1) := by decide +kernel
theorem dX5_sumOfAlms_3 : decode cX5_sumOfAlms 3 = .ok (.istore_n 2, 1) := by decide +kernel
theorem dX5_sumOfAlms_4 : decode cX5_sumOfAlms 4 = .ok (.iload_n 2, 1) := by decide +kernel
theorem dX5_sumOfAlms_5 : decode cX5_sumOfAlms 5 = .ok (.aload_n 0, 1) := by decide +kernel
theorem dX5_sumOfAlms_6 : decode cX5_sumOfAlms 6 = .ok (.getfield 37, 3) := by decide +kernel
theorem dX5_sumOfAlms_9 : decode cX5_sumOfAlms 9 = .ok (.if_icmp .ge 25, 3) := by decide +kernel
theorem dX5_sumOfAlms_12 : decode cX5_sumOfAlms 12 = .ok (.iload_n 1, 1) := by decide +kernel
theorem dX5_sumOfAlms_13 : decode cX5_sumOfAlms 13 = .ok (.aload_n 0, 1) := by decide +kernel
theorem dX5_sumOfAlms_14 : decode cX5_sumOfAlms 14 = .ok (.getfield 21, 3) := by decide +kernel
theorem dX5_sumOfAlms_17 : decode cX5_sumOfAlms 17 = .ok (.iload_n 2, 1) := by decide +kernel
theorem dX5_sumOfAlms_18 : decode cX5_sumOfAlms 18 = .ok (.iaload, 1) := by decide +kernel
theorem dX5_sumOfAlms_19 : decode cX5_sumOfAlms 19 = .ok (.aload_n 0, 1) := by decide +kernel
theorem dX5_sumOfAlms_20 : decode cX5_sumOfAlms 20 = .ok (.getfield 15, 3) := by decide +kernel
theorem dX5_sumOfAlms_23 : decode cX5_sumOfAlms 23 = .ok (.iload_n 2, 1) := by decide +kernel
theorem dX5_sumOfAlms_24 : decode cX5_sumOfAlms 24 = .ok (.iaload, 1) := by decide +kernel
theorem dX5_sumOfAlms_25 : decode cX5_sumOfAlms 25 = .ok (.isub, 1) := by decide +kernel
theorem dX5_sumOfAlms_26 : decode cX5_sumOfAlms 26 = .ok (.iadd, 1) := by decide +kernel
theorem dX5_sumOfAlms_27 : decode cX5_sumOfAlms 27 = .ok (.istore_n 1, 1) := by decide +kernel
theorem dX5_sumOfAlms_28 : decode cX5_sumOfAlms 28 = .ok (.iinc 2 1, 3) := by decide +kernel
theorem dX5_sumOfAlms_31 : decode cX5_sumOfAlms 31 = .ok (.goto (-27), 3) := by decide +kernel
theorem dX5_sumOfAlms_34 : decode cX5_sumOfAlms 34 = .ok (.iload_n 1, 1) := by decide +kernel
theorem dX5_sumOfAlms_35 : decode cX5_sumOfAlms 35 = .ok (.ireturn, 1) := by decide +kernel
theorem dX5_lackOf_0 : decode cX5_lackOf 0 = .ok (.iconst 0, 1) := by decide +kernel
theorem dX5_lackOf_1 : decode cX5_lackOf 1 = .ok (.istore_n 2, 1) := by decide +kernel
theorem dX5_lackOf_2 : decode cX5_lackOf 2 = .ok (.iconst 0, 1) := by decide +kernel
theorem dX5_lackOf_3 : decode cX5_lackOf 3 = .ok (.istore_n 3, 1) := by decide +kernel
theorem dX5_lackOf_4 : decode cX5_lackOf 4 = .ok (.iload_n 3, 1) := by decide +kernel
theorem dX5_lackOf_5 : decode cX5_lackOf 5 = .ok (.aload_n 0, 1) := by decide +kernel
theorem dX5_lackOf_6 : decode cX5_lackOf 6 = .ok (.getfield 37, 3) := by decide +kernel
theorem dX5_lackOf_9 : decode cX5_lackOf 9 = .ok (.if_icmp .ge 31, 3) := by decide +kernel
theorem dX5_lackOf_12 : decode cX5_lackOf 12 = .ok (.iload_n 2, 1) := by decide +kernel
theorem dX5_lackOf_13 : decode cX5_lackOf 13 = .ok (.iconst 0, 1) := by decide +kernel
theorem dX5_lackOf_14 : decode cX5_lackOf 14 = .ok (.iload_n 1, 1) := by decide +kernel
theorem dX5_lackOf_15 : decode cX5_lackOf 15 = .ok (.aload_n 0, 1) := by decide +kernel
theorem dX5_lackOf_16 : decode cX5_lackOf 16 = .ok (.getfield 21, 3) := by decide +kernel
theorem dX5_lackOf_19 : decode cX5_lackOf 19 = .ok (.iload_n 3, 1) := by decide +kernel
theorem dX5_lackOf_20 : decode cX5_lackOf 20 = .ok (.iaload, 1) := by decide +kernel
theorem dX5_lackOf_21 : decode cX5_lackOf 21 = .ok (.aload_n 0, 1) := by decide +kernel
theorem dX5_lackOf_22 : decode cX5_lackOf 22 = .ok (.getfield 15, 3) := by decide +kernel
theorem dX5_lackOf_25 : decode cX5_lackOf 25 = .ok (.iload_n 3, 1) := by decide +kernel
theorem dX5_lackOf_26 : decode cX5_lackOf 26 = .ok (.iaload, 1) := by decide +kernel
theorem dX5_lackOf_27 : decode cX5_lackOf 27 = .ok (.isub, 1) := by decide +kernel
theorem dX5_lackOf_28 : decode cX5_lackOf 28 = .ok (.isub, 1) := by decide +kernel
theorem dX5_lackOf_29 : decode cX5_lackOf 29 = .ok (.invokestatic 92, 3) := by decide +kernel
theorem dX5_lackOf_32 : decode cX5_lackOf 32 = .ok (.iadd, 1) := by decide +kernel
theorem dX5_lackOf_33 : decode cX5_lackOf 33 = .ok (.istore_n 2, 1) := by decide +kernel
theorem dX5_lackOf_34 : decode cX5_lackOf 34 = .ok (.iinc 3 1, 3) := by decide +kernel
theorem dX5_lackOf_37 : decode cX5_lackOf 37 = .ok (.goto (-33), 3) := by decide +kernel
theorem dX5_lackOf_40 : decode cX5_lackOf 40 = .ok (.iload_n 2, 1) := by decide +kernel
theorem dX5_lackOf_41 : decode cX5_lackOf 41 = .ok (.ireturn, 1) := by decide +kernel
theorem dX6_init_0 : decode cX6_init 0 = .ok (.aload_n 0, 1) := by decide +kernel
theorem dX6_init_1 : decode cX6_init 1 = .ok (.invokespecial 3, 3) := by decide +kernel
theorem dX6_init_4 : decode cX6_init 4 = .ok (.aload_n 0, 1) := by decide +kernel
theorem dX6_init_5 : decode cX6_init 5 = .ok (.bipush 6, 2) := by decide +kernel
theorem dX6_init_7 : decode cX6_init 7 = .ok (.newarray .int, 2) := by decide +kernel
theorem dX6_init_9 : decode cX6_init 9 = .ok (.putfield 9, 3) := by decide +kernel
theorem dX6_init_12 : decode cX6_init 12 = .ok (.aload_n 0, 1) := by decide +kernel
theorem dX6_init_13 : decode cX6_init 13 = .ok (.iconst 4, 1) := by decide +kernel
theorem dX6_init_14 : decode cX6_init 14 = .ok (.newarray .int, 2) := by decide +kernel
theorem dX6_init_16 : decode cX6_init 16 = .ok (.putfield 15, 3) := by decide +kernel
theorem dX6_init_19 : decode cX6_init 19 = .ok (.aload_n 0, 1) := by decide +kernel
theorem dX6_init_20 : decode cX6_init 20 = .ok (.bipush 6, 2) := by decide +kernel
theorem dX6_init_22 : decode cX6_init 22 = .ok (.newarray .int, 2) := by decide +kernel
theorem dX6_init_24 : decode cX6_init 24 = .ok (.putfield 18, 3) := by decide +kernel
theorem dX6_init_27 : decode cX6_init 27 = .ok (.aload_n 0, 1) := by decide +kernel
theorem dX6_init_28 : decode cX6_init 28 = .ok (.invokevirtual 21, 3) := by decide +kernel
theorem dX6_init_31 : decode cX6_init 31 = .ok (.return_, 1) := by decide +kernel
theorem dX6_startAnew_0 : decode cX6_startAnew 0 = .ok (.aload_n 0, 1) := by decide +kernel
theorem dX6_startAnew_1 : decode cX6_startAnew 1 = .ok (.getfield 9, 3) := by decide +kernel
theorem dX6_startAnew_4 : decode cX6_startAnew 4 = .ok (.iconst (-1), 1) := by decide +kernel
theorem dX6_startAnew_5 : decode cX6_startAnew 5 = .ok (.invokestatic 24, 3) := by decide +kernel
theorem dX6_startAnew_8 : decode cX6_startAnew 8 = .ok (.aload_n 0, 1) := by decide +kernel
theorem dX6_startAnew_9 : decode cX6_startAnew 9 = .ok (.getfield 15, 3) := by decide +kernel
theorem dX6_startAnew_12 : decode cX6_startAnew 12 = .ok (.iconst (-1), 1) := by decide +kernel
theorem dX6_startAnew_13 : decode cX6_startAnew 13 = .ok (.invokestatic 24, 3) := by decide +kernel
theorem dX6_startAnew_16 : decode cX6_startAnew 16 = .ok (.aload_n 0, 1) := by decide +kernel
theorem dX6_startAnew_17 : decode cX6_startAnew 17 = .ok (.getfield 18, 3) := by decide +kernel
theorem dX6_startAnew_20 : decode cX6_startAnew 20 = .ok (.iconst 0, 1) := by decide +kernel
theorem dX6_startAnew_21 : decode cX6_startAnew 21 = .ok (.invokestatic 24, 3) := by decide +kernel
theorem dX6_startAnew_24 : decode cX6_startAnew 24 = .ok (.aload_n 0, 1) := by decide +kernel
theorem dX6_startAnew_25 : decode cX6_startAnew 25 = .ok (.iconst 0, 1) := by decide +kernel
theorem dX6_startAnew_26 : decode cX6_startAnew 26 = .ok (.putfield 30, 3) := by decide +kernel
theorem dX6_startAnew_29 : decode cX6_startAnew 29 = .ok (.aload_n 0, 1) := by decide +kernel
theorem dX6_startAnew_30 : decode cX6_startAnew 30 = .ok (.iconst 0, 1) := by decide +kernel
theorem dX6_startAnew_31 : decode cX6_startAnew 31 = .ok (.putfield 34, 3) := by decide +kernel
theorem dX6_startAnew_34 : decode cX6_startAnew 34 = .ok (.return_, 1) := by decide +kernel
theorem dX6_become_0 : decode cX6_become 0 = .ok (.aload_n 1, 1) := by decide +kernel
theorem dX6_become_1 : decode cX6_become 1 = .ok (.getfield 9, 3) := by decide +kernel
theorem dX6_become_4 : decode cX6_become 4 = .ok (.iconst 0, 1) := by decide +kernel
theorem dX6_become_5 : decode cX6_become 5 = .ok (.aload_n 0, 1) := by decide +kernel
theorem dX6_become_6 : decode cX6_become 6 = .ok (.getfield 9, 3) := by decide +kernel
theorem dX6_become_9 : decode cX6_become 9 = .ok (.iconst 0, 1) := by decide +kernel
theorem dX6_become_10 : decode cX6_become 10 = .ok (.bipush 6, 2) := by decide +kernel
theorem dX6_become_12 : decode cX6_become 12 = .ok (.invokestatic 37, 3) := by decide +kernel
theorem dX6_become_15 : decode cX6_become 15 = .ok (.aload_n 1, 1) := by decide +kernel
theorem dX6_become_16 : decode cX6_become 16 = .ok (.getfield 15, 3) := by decide +kernel
theorem dX6_become_19 : decode cX6_become 19 = .ok (.iconst 0, 1) := by decide +kernel
theorem dX6_become_20 : decode cX6_become 20 = .ok (.aload_n 0, 1) := by decide +kernel
theorem dX6_become_21 : decode cX6_become 21 = .ok (.getfield 15, 3) := by decide +kernel
theorem dX6_become_24 : decode cX6_become 24 = .ok (.iconst 0, 1) := by decide +kernel
theorem dX6_become_25 : decode cX6_become 25 = .ok (.iconst 4, 1) := by decide +kernel
theorem dX6_become_26 : decode cX6_become 26 = .ok (.invokestatic 37, 3) := by decide +kernel
theorem dX6_become_29 : decode cX6_become 29 = .ok (.aload_n 1, 1) := by decide +kernel
theorem dX6_become_30 : decode cX6_become 30 = .ok (.getfield 18, 3) := by decide +kernel
theorem dX6_become_33 : decode cX6_become 33 = .ok (.iconst 0, 1) := by decide +kernel
theorem dX6_become_34 : decode cX6_become 34 = .ok (.aload_n 0, 1) := by decide +kernel
theorem dX6_become_35 : decode cX6_become 35 = .ok (.getfield 18, 3) := by decide +kernel
theorem dX6_become_38 : decode cX6_become 38 = .ok (.iconst 0, 1) := by decide +kernel
theorem dX6_become_39 : decode cX6_become 39 = .ok (.bipush 6, 2) := by decide +kernel
theorem dX6_become_41 : decode cX6_become 41 = .ok (.invokestatic 37, 3) := by decide +kernel
theorem dX6_become_44 : decode cX6_become 44 = .ok (.aload_n 0, 1) := by decide +kernel
theorem dX6_become_45 : decode cX6_become 45 = .ok (.aload_n 1, 1) := by decide +kernel
theorem dX6_become_46 : decode cX6_become 46 = .ok (.getfield 30, 3) := by decide +kernel
theorem dX6_become_49 : decode cX6_become 49 = .ok (.putfield 30, 3) := by decide +kernel
theorem dX6_become_52 : decode cX6_become 52 = .ok (.aload_n 0, 1) := by decide +kernel
theorem dX6_become_53 : decode cX6_become 53 = .ok (.aload_n 1, 1) := by decide +kernel
theorem dX6_become_54 : decode cX6_become 54 = .ok (.getfield 34, 3) := by decide +kernel
theorem dX6_become_57 : decode cX6_become 57 = .ok (.putfield 34, 3) := by decide +kernel
theorem dX6_become_60 : decode cX6_become 60 = .ok (.aload_n 0, 1) := by decide +kernel
theorem dX6_become_61 : decode cX6_become 61 = .ok (.aload_n 1, 1) := by decide +kernel
theorem dX6_become_62 : decode cX6_become 62 = .ok (.getfield 43, 3) := by decide +kernel
theorem dX6_become_65 : decode cX6_become 65 = .ok (.putfield 43, 3) := by decide +kernel
theorem dX6_become_68 : decode cX6_become 68 = .ok (.aload_n 0, 1) := by decide +kernel
theorem dX6_become_69 : decode cX6_become 69 = .ok (.aload_n 1, 1) := by decide +kernel
theorem dX6_become_70 : decode cX6_become 70 = .ok (.getfield 46, 3) := by decide +kernel
theorem dX6_become_73 : decode cX6_become 73 = .ok (.putfield 46, 3) := by decide +kernel
theorem dX6_become_76 : decode cX6_become 76 = .ok (.return_, 1) := by decide +kernel
theorem dX6_whoIsOn_0 : decode cX6_whoIsOn 0 = .ok (.iconst 0, 1) := by decide +kernel
theorem dX6_whoIsOn_1 : decode cX6_whoIsOn 1 = .ok (.istore_n 2, 1) := by decide +kernel
theorem dX6_whoIsOn_2 : decode cX6_whoIsOn 2 = .ok (.iload_n 2, 1) := by decide +kernel
theorem dX6_whoIsOn_3 : decode cX6_whoIsOn 3 = .ok (.bipush 6, 2) := by decide +kernel
theorem dX6_whoIsOn_5 : decode cX6_whoIsOn 5 = .ok (.if_icmp .ge 21, 3) := by decide +kernel
theorem dX6_whoIsOn_8 : decode cX6_whoIsOn 8 = .ok (.aload_n 0, 1) := by decide +kernel
theorem dX6_whoIsOn_9 : decode cX6_whoIsOn 9 = .ok (.getfield 9, 3) := by decide +kernel
theorem dX6_whoIsOn_12 : decode cX6_whoIsOn 12 = .ok (.iload_n 2, 1) := by decide +kernel
theorem dX6_whoIsOn_13 : decode cX6_whoIsOn 13 = .ok (.iaload, 1) := by decide +kernel
theorem dX6_whoIsOn_14 : decode cX6_whoIsOn 14 = .ok (.iload_n 1, 1) := by decide +kernel
theorem dX6_whoIsOn_15 : decode cX6_whoIsOn 15 = .ok (.if_icmp .ne 5, 3) := by decide +kernel
theorem dX6_whoIsOn_18 : decode cX6_whoIsOn 18 = .ok (.iload_n 2, 1) := by decide +kernel
theorem dX6_whoIsOn_19 : decode cX6_whoIsOn 19 = .ok (.ireturn, 1) := by decide +kernel
theorem dX6_whoIsOn_20 : decode cX6_whoIsOn 20 = .ok (.iinc 2 1, 3) := by decide +kernel
theorem dX6_whoIsOn_23 : decode cX6_whoIsOn 23 = .ok (.goto (-21), 3) := by decide +kernel
theorem dX6_whoIsOn_26 : decode cX6_whoIsOn 26 = .ok (.iconst (-1), 1) := by decide +kernel
theorem dX6_whoIsOn_27 : decode cX6_whoIsOn 27 = .ok (.ireturn, 1) := by decide +kernel
theorem dX6_hatOf_0 : decode cX6_hatOf 0 = .ok (.iconst 0, 1) := by decide +kernel
theorem dX6_hatOf_1 : decode cX6_hatOf 1 = .ok (.istore_n 2, 1) := by decide +kernel
theorem dX6_hatOf_2 : decode cX6_hatOf 2 = .ok (.iload_n 2, 1) := by decide +kernel
theorem dX6_hatOf_3 : decode cX6_hatOf 3 = .ok (.iconst 4, 1) := by decide +kernel
theorem dX6_hatOf_4 : decode cX6_hatOf 4 = .ok (.if_icmp .ge 21, 3) := by decide +kernel
theorem dX6_hatOf_7 : decode cX6_hatOf 7 = .ok (.aload_n 0, 1) := by decide +kernel
theorem dX6_hatOf_8 : decode cX6_hatOf 8 = .ok (.getfield 15, 3) := by decide +kernel
theorem dX6_hatOf_11 : decode cX6_hatOf 11 = .ok (.iload_n 2, 1) := by decide +kernel
theorem dX6_hatOf_12 : decode cX6_hatOf 12 = .ok (.iaload, 1) := by decide +kernel
theorem dX6_hatOf_13 : decode cX6_hatOf 13 = .ok (.iload_n 1, 1) := by decide +kernel
theorem dX6_hatOf_14 : decode cX6_hatOf 14 = .ok (.if_icmp .ne 5, 3) := by decide +kernel
theorem dX6_hatOf_17 : decode cX6_hatOf 17 = .ok (.iload_n 2, 1) := by decide +kernel
theorem dX6_hatOf_18 : decode cX6_hatOf 18 = .ok (.ireturn, 1) := by decide +kernel
theorem dX6_hatOf_19 : decode cX6_hatOf 19 = .ok (.iinc 2 1, 3) := by decide +kernel
theorem dX6_hatOf_22 : decode cX6_hatOf 22 = .ok (.goto (-20), 3) := by decide +kernel
theorem dX6_hatOf_25 : decode cX6_hatOf 25 = .ok (.iconst (-1), 1) := by decide +kernel
theorem dX6_hatOf_26 : decode cX6_hatOf 26 = .ok (.ireturn, 1) := by decide +kernel
theorem dX6_draw_0 : decode cX6_draw 0 = .ok (.aload_n 0, 1) := by decide +kernel
theorem dX6_draw_1 : decode cX6_draw 1 = .ok (.aload_n 0, 1) := by decide +kernel
theorem dX6_draw_2 : decode cX6_draw 2 = .ok (.getfield 46, 3) := by decide +kernel
theorem dX6_draw_5 : decode cX6_draw 5 = .ok (.i2l, 1) := by decide +kernel
theorem dX6_draw_6 : decode cX6_draw 6 = .ok (.ldc2_w 49, 3) := by decide +kernel
theorem dX6_draw_9 : decode cX6_draw 9 = .ok (.lmul, 1) := by decide +kernel
theorem dX6_draw_10 : decode cX6_draw 10 = .ok (.ldc2_w 51, 3) := by decide +kernel
theorem dX6_draw_13 : decode cX6_draw 13 = .ok (.ladd, 1) := by decide +kernel
theorem dX6_draw_14 : decode cX6_draw 14 = .ok (.ldc2_w 53, 3) := by decide +kernel
theorem dX6_draw_17 : decode cX6_draw 17 = .ok (.land, 1) := by decide +kernel
theorem dX6_draw_18 : decode cX6_draw 18 = .ok (.l2i, 1) := by decide +kernel
theorem dX6_draw_19 : decode cX6_draw 19 = .ok (.putfield 46, 3) := by decide +kernel
theorem dX6_draw_22 : decode cX6_draw 22 = .ok (.iload_n 1, 1) := by decide +kernel
theorem dX6_draw_23 : decode cX6_draw 23 = .ok (.iconst 1, 1) := by decide +kernel
theorem dX6_draw_24 : decode cX6_draw 24 = .ok (.if_icmp .ge 7, 3) := by decide +kernel
theorem dX6_draw_27 : decode cX6_draw 27 = .ok (.iconst 0, 1) := by decide +kernel
theorem dX6_draw_28 : decode cX6_draw 28 = .ok (.goto 12, 3) := by decide +kernel
theorem dX6_draw_31 : decode cX6_draw 31 = .ok (.aload_n 0, 1) := by decide +kernel
theorem dX6_draw_32 : decode cX6_draw 32 = .ok (.getfield 46, 3) := by decide +kernel
theorem dX6_draw_35 : decode cX6_draw 35 = .ok (.ldc 55, 2) := by decide +kernel
theorem dX6_draw_37 : decode cX6_draw 37 = .ok (.idiv, 1) := by decide +kernel
theorem dX6_draw_38 : decode cX6_draw 38 = .ok (.iload_n 1, 1) := by decide +kernel
theorem dX6_draw_39 : decode cX6_draw 39 = .ok (.irem, 1) := by decide +kernel
theorem dX6_draw_40 : decode cX6_draw 40 = .ok (.ireturn, 1) := by decide +kernel
theorem dJ9_max_7cf53_0 : decode cJ9_max_7cf53 0 = .ok (.iload_n 0, 1) := by decide +kernel
theorem dJ9_max_7cf53_1 : decode cJ9_max_7cf53 1 = .ok (.iload_n 1, 1) := by decide +kernel
theorem dJ9_max_7cf53_2 : decode cJ9_max_7cf53 2 = .ok (.if_icmp .lt 7, 3) := by decide +kernel
theorem dJ9_max_7cf53_5 : decode cJ9_max_7cf53 5 = .ok (.iload_n 0, 1) := by decide +kernel
theorem dJ9_max_7cf53_6 : decode cJ9_max_7cf53 6 = .ok (.goto 4, 3) := by decide +kernel
theorem dJ9_max_7cf53_9 : decode cJ9_max_7cf53 9 = .ok (.iload_n 1, 1) := by decide +kernel
theorem dJ9_max_7cf53_10 : decode cJ9_max_7cf53 10 = .ok (.ireturn, 1) := by decide +kernel
theorem dJ9_min_7cf53_0 : decode cJ9_min_7cf53 0 = .ok (.iload_n 0, 1) := by decide +kernel
theorem dJ9_min_7cf53_1 : decode cJ9_min_7cf53 1 = .ok (.iload_n 1, 1) := by decide +kernel
theorem dJ9_min_7cf53_2 : decode cJ9_min_7cf53 2 = .ok (.if_icmp .gt 7, 3) := by decide +kernel
theorem dJ9_min_7cf53_5 : decode cJ9_min_7cf53 5 = .ok (.iload_n 0, 1) := by decide +kernel
theorem dJ9_min_7cf53_6 : decode cJ9_min_7cf53 6 = .ok (.goto 4, 3) := by decide +kernel
theorem dJ9_min_7cf53_9 : decode cJ9_min_7cf53 9 = .ok (.iload_n 1, 1) := by decide +kernel
theorem dJ9_min_7cf53_10 : decode cJ9_min_7cf53 10 = .ok (.ireturn, 1) := by decide +kernel
theorem dJ0_length_8abf5_0 : decode cJ0_length_8abf5 0 = .ok (.aload_n 0, 1) := by decide +kernel
theorem dJ0_length_8abf5_1 : decode cJ0_length_8abf5 1 = .ok (.getfield 9, 3) := by decide +kernel
theorem dJ0_length_8abf5_4 : decode cJ0_length_8abf5 4 = .ok (.arraylength, 1) := by decide +kernel
theorem dJ0_length_8abf5_5 : decode cJ0_length_8abf5 5 = .ok (.aload_n 0, 1) := by decide +kernel
theorem dJ0_length_8abf5_6 : decode cJ0_length_8abf5 6 = .ok (.invokevirtual 335, 3) := by decide +kernel
theorem dJ0_length_8abf5_9 : decode cJ0_length_8abf5 9 = .ok (.ishr, 1) := by decide +kernel
theorem dJ0_length_8abf5_10 : decode cJ0_length_8abf5 10 = .ok (.ireturn, 1) := by decide +kernel
theorem dJ0_charAt_5068e_0 : decode cJ0_charAt_5068e 0 = .ok (.aload_n 0, 1) := by decide +kernel
theorem dJ0_charAt_5068e_1 : decode cJ0_charAt_5068e 1 = .ok (.invokevirtual 492, 3) := by decide +kernel
theorem dJ0_charAt_5068e_4 : decode cJ0_charAt_5068e 4 = .ok (.ifCond .eq 12, 3) := by decide +kernel
theorem dJ0_charAt_5068e_7 : decode cJ0_charAt_5068e 7 = .ok (.aload_n 0, 1) := by decide +kernel
theorem dJ0_charAt_5068e_8 : decode cJ0_charAt_5068e 8 = .ok (.getfield 9, 3) := by decide +kernel
theorem dJ0_charAt_5068e_11 : decode cJ0_charAt_5068e 11 = .ok (.iload_n 1, 1) := by decide +kernel
theorem dJ0_charAt_5068e_12 : decode cJ0_charAt_5068e 12 = .ok (.invokestatic 495, 3) := by decide +kernel
theorem dJ0_charAt_5068e_15 : decode cJ0_charAt_5068e 15 = .ok (.ireturn, 1) := by decide +kernel
theorem dJ0_charAt_5068e_16 : decode cJ0_charAt_5068e 16 = .ok (.aload_n 0, 1) := by decide +kernel
theorem dJ0_charAt_5068e_17 : decode cJ0_charAt_5068e 17 = .ok (.getfield 9, 3) := by decide +kernel
theorem dJ0_charAt_5068e_20 : decode cJ0_charAt_5068e 20 = .ok (.iload_n 1, 1) := by decide +kernel
theorem dJ0_charAt_5068e_21 : decode cJ0_charAt_5068e 21 = .ok (.invokestatic 498, 3) := by decide +kernel
theorem dJ0_charAt_5068e_24 : decode cJ0_charAt_5068e 24 = .ok (.ireturn, 1) := by decide +kernel
theorem dJ0_coder_7d493_0 : decode cJ0_coder_7d493 0 = .ok (.getstatic 38, 3) := by decide +kernel
theorem dJ0_coder_7d493_3 : decode cJ0_coder_7d493 3 = .ok (.ifCond .eq 10, 3) := by decide +kernel
theorem dJ0_coder_7d493_6 : decode cJ0_coder_7d493 6 = .ok (.aload_n 0, 1) := by decide +kernel
theorem dJ0_coder_7d493_7 : decode cJ0_coder_7d493 7 = .ok (.getfield 15, 3) := by decide +kernel
theorem dJ0_coder_7d493_10 : decode cJ0_coder_7d493 10 = .ok (.goto 4, 3) := by decide +kernel
theorem dJ0_coder_7d493_13 : decode cJ0_coder_7d493 13 = .ok (.iconst 1, 1) := by decide +kernel
theorem dJ0_coder_7d493_14 : decode cJ0_coder_7d493 14 = .ok (.ireturn, 1) := by decide +kernel
theorem dJ0_isLatin1_aae02_0 : decode cJ0_isLatin1_aae02 0 = .ok (.getstatic 38, 3) := by decide +kernel
theorem dJ0_isLatin1_aae02_3 : decode cJ0_isLatin1_aae02 3 = .ok (.ifCond .eq 14, 3) := by decide +kernel
theorem dJ0_isLatin1_aae02_6 : decode cJ0_isLatin1_aae02 6 = .ok (.aload_n 0, 1) := by decide +kernel
theorem dJ0_isLatin1_aae02_7 : decode cJ0_isLatin1_aae02 7 = .ok (.getfield 15, 3) := by decide +kernel
theorem dJ0_isLatin1_aae02_10 : decode cJ0_isLatin1_aae02 10 = .ok (.ifCond .ne 7, 3) := by decide +kernel
theorem dJ0_isLatin1_aae02_13 : decode cJ0_isLatin1_aae02 13 = .ok (.iconst 1, 1) := by decide +kernel
theorem dJ0_isLatin1_aae02_14 : decode cJ0_isLatin1_aae02 14 = .ok (.goto 4, 3) := by decide +kernel
theorem dJ0_isLatin1_aae02_17 : decode cJ0_isLatin1_aae02 17 = .ok (.iconst 0, 1) := by decide +kernel
theorem dJ0_isLatin1_aae02_18 : decode cJ0_isLatin1_aae02 18 = .ok (.ireturn, 1) := by decide +kernel
theorem dJ0_checkIndex_df160_0 : decode cJ0_checkIndex_df160 0 = .ok (.iload_n 0, 1) := by decide +kernel
theorem dJ0_checkIndex_df160_1 : decode cJ0_checkIndex_df160 1 = .ok (.iload_n 1, 1) := by decide +kernel
theorem dJ0_checkIndex_df160_2 : decode cJ0_checkIndex_df160 2 = .ok (.getstatic 1053, 3) := by decide +kernel
theorem dJ0_checkIndex_df160_5 : decode cJ0_checkIndex_df160 5 = .ok (.invokestatic 1059, 3) := by decide +kernel
theorem dJ0_checkIndex_df160_8 : decode cJ0_checkIndex_df160 8 = .ok (.pop, 1) := by decide +kernel
theorem dJ0_checkIndex_df160_9 : decode cJ0_checkIndex_df160 9 = .ok (.return_, 1) := by decide +kernel
theorem dJ1_charAt_3b067_0 : decode cJ1_charAt_3b067 0 = .ok (.iload_n 1, 1) := by decide +kernel
theorem dJ1_charAt_3b067_1 : decode cJ1_charAt_3b067 1 = .ok (.aload_n 0, 1) := by decide +kernel
theorem dJ1_charAt_3b067_2 : decode cJ1_charAt_3b067 2 = .ok (.arraylength, 1) := by decide +kernel
theorem dJ1_charAt_3b067_3 : decode cJ1_charAt_3b067 3 = .ok (.invokestatic 9, 3) := by decide +kernel
theorem dJ1_charAt_3b067_6 : decode cJ1_charAt_3b067 6 = .ok (.aload_n 0, 1) := by decide +kernel
theorem dJ1_charAt_3b067_7 : decode cJ1_charAt_3b067 7 = .ok (.iload_n 1, 1) := by decide +kernel
theorem dJ1_charAt_3b067_8 : decode cJ1_charAt_3b067 8 = .ok (.baload, 1) := by decide +kernel
theorem dJ1_charAt_3b067_9 : decode cJ1_charAt_3b067 9 = .ok (.sipush 255, 3) := by decide +kernel
theorem dJ1_charAt_3b067_12 : decode cJ1_charAt_3b067 12 = .ok (.iand, 1) := by decide +kernel
theorem dJ1_charAt_3b067_13 : decode cJ1_charAt_3b067 13 = .ok (.i2c, 1) := by decide +kernel
theorem dJ1_charAt_3b067_14 : decode cJ1_charAt_3b067 14 = .ok (.ireturn, 1) := by decide +kernel
theorem dJ2_getChar_3b067_0 : decode cJ2_getChar_3b067 0 = .ok (.getstatic 44, 3) := by decide +kernel
theorem dJ2_getChar_3b067_3 : decode cJ2_getChar_3b067 3 = .ok (.ifCond .ne 25, 3) := by decide +kernel
theorem dJ2_getChar_3b067_6 : decode cJ2_getChar_3b067 6 = .ok (.iload_n 1, 1) := by decide +kernel
theorem dJ2_getChar_3b067_7 : decode cJ2_getChar_3b067 7 = .ok (.ifCond .lt 11, 3) := by decide +kernel
theorem dJ2_getChar_3b067_10 : decode cJ2_getChar_3b067 10 = .ok (.iload_n 1, 1) := by decide +kernel
theorem dJ2_getChar_3b067_11 : decode cJ2_getChar_3b067 11 = .ok (.aload_n 0, 1) := by decide +kernel
theorem dJ2_getChar_3b067_12 : decode cJ2_getChar_3b067 12 = .ok (.invokestatic 48, 3) := by decide +kernel
theorem dJ2_getChar_3b067_15 : decode cJ2_getChar_3b067 15 = .ok (.if_icmp .lt 13, 3) := by decide +kernel
theorem dJ2_getChar_3b067_18 : decode cJ2_getChar_3b067 18 = .ok (.new 52, 3) := by decide +kernel
theorem dJ2_getChar_3b067_21 : decode cJ2_getChar_3b067 21 = .ok (.dup, 1) := by decide +kernel
theorem dJ2_getChar_3b067_22 : decode cJ2_getChar_3b067 22 = .ok (.ldc 54, 2) := by decide +kernel
theorem dJ2_getChar_3b067_24 : decode cJ2_getChar_3b067 24 = .ok (.invokespecial 56, 3) := by decide +kernel
theorem dJ2_getChar_3b067_27 : decode cJ2_getChar_3b067 27 = .ok (.athrow, 1) := by decide +kernel
theorem dJ2_getChar_3b067_28 : decode cJ2_getChar_3b067 28 = .ok (.iload_n 1, 1) := by decide +kernel
theorem dJ2_getChar_3b067_29 : decode cJ2_getChar_3b067 29 = .ok (.iconst 1, 1) := by decide +kernel
theorem dJ2_getChar_3b067_30 : decode cJ2_getChar_3b067 30 = .ok (.ishl, 1) := by decide +kernel
theorem dJ2_getChar_3b067_31 : decode cJ2_getChar_3b067 31 = .ok (.istore_n 1, 1) := by decide +kernel
theorem dJ2_getChar_3b067_32 : decode cJ2_getChar_3b067 32 = .ok (.aload_n 0, 1) := by decide +kernel
theorem dJ2_getChar_3b067_33 : decode cJ2_getChar_3b067 33 = .ok (.iload_n 1, 1) := by decide +kernel
theorem dJ2_getChar_3b067_34 : decode cJ2_getChar_3b067 34 = .ok (.iinc 1 1, 3) := by decide +kernel
theorem dJ2_getChar_3b067_37 : decode cJ2_getChar_3b067 37 = .ok (.baload, 1) := by decide +kernel
theorem dJ2_getChar_3b067_38 : decode cJ2_getChar_3b067 38 = .ok (.sipush 255, 3) := by decide +kernel
theorem dJ2_getChar_3b067_41 : decode cJ2_getChar_3b067 41 = .ok (.iand, 1) := by decide +kernel
theorem dJ2_getChar_3b067_42 : decode cJ2_getChar_3b067 42 = .ok (.getstatic 59, 3) := by decide +kernel
theorem dJ2_getChar_3b067_45 : decode cJ2_getChar_3b067 45 = .ok (.ishl, 1) := by decide +kernel
theorem dJ2_getChar_3b067_46 : decode cJ2_getChar_3b067 46 = .ok (.aload_n 0, 1) := by decide +kernel
theorem dJ2_getChar_3b067_47 : decode cJ2_getChar_3b067 47 = .ok (.iload_n 1, 1) := by decide +kernel
theorem dJ2_getChar_3b067_48 : decode cJ2_getChar_3b067 48 = .ok (.baload, 1) := by decide +kernel
theorem dJ2_getChar_3b067_49 : decode cJ2_getChar_3b067 49 = .ok (.sipush 255, 3) := by decide +kernel
theorem dJ2_getChar_3b067_52 : decode cJ2_getChar_3b067 52 = .ok (.iand, 1) := by decide +kernel
theorem dJ2_getChar_3b067_53 : decode cJ2_getChar_3b067 53 = .ok (.getstatic 63, 3) := by decide +kernel
theorem dJ2_getChar_3b067_56 : decode cJ2_getChar_3b067 56 = .ok (.ishl, 1) := by decide +kernel
theorem dJ2_getChar_3b067_57 : decode cJ2_getChar_3b067 57 = .ok (.ior, 1) := by decide +kernel
theorem dJ2_getChar_3b067_58 : decode cJ2_getChar_3b067 58 = .ok (.i2c, 1) := by decide +kernel
theorem dJ2_getChar_3b067_59 : decode cJ2_getChar_3b067 59 = .ok (.ireturn, 1) := by decide +kernel
theorem dJ2_length_9d52b_0 : decode cJ2_length_9d52b 0 = .ok (.aload_n 0, 1) := by decide +kernel
theorem dJ2_length_9d52b_1 : decode cJ2_length_9d52b 1 = .ok (.arraylength, 1) := by decide +kernel
theorem dJ2_length_9d52b_2 : decode cJ2_length_9d52b 2 = .ok (.iconst 1, 1) := by decide +kernel
theorem dJ2_length_9d52b_3 : decode cJ2_length_9d52b 3 = .ok (.ishr, 1) := by decide +kernel
theorem dJ2_length_9d52b_4 : decode cJ2_length_9d52b 4 = .ok (.ireturn, 1) := by decide +kernel
theorem dJ2_charAt_3b067_0 : decode cJ2_charAt_3b067 0 = .ok (.iload_n 1, 1) := by decide +kernel
theorem dJ2_charAt_3b067_1 : decode cJ2_charAt_3b067 1 = .ok (.aload_n 0, 1) := by decide +kernel
theorem dJ2_charAt_3b067_2 : decode cJ2_charAt_3b067 2 = .ok (.invokestatic 67, 3) := by decide +kernel
theorem dJ2_charAt_3b067_5 : decode cJ2_charAt_3b067 5 = .ok (.aload_n 0, 1) := by decide +kernel
theorem dJ2_charAt_3b067_6 : decode cJ2_charAt_3b067 6 = .ok (.iload_n 1, 1) := by decide +kernel
theorem dJ2_charAt_3b067_7 : decode cJ2_charAt_3b067 7 = .ok (.invokestatic 71, 3) := by decide +kernel
theorem dJ2_charAt_3b067_10 : decode cJ2_charAt_3b067 10 = .ok (.ireturn, 1) := by decide +kernel
theorem dJ2_checkIndex_2214a_0 : decode cJ2_checkIndex_2214a 0 = .ok (.iload_n 0, 1) := by decide +kernel
theorem dJ2_checkIndex_2214a_1 : decode cJ2_checkIndex_2214a 1 = .ok (.aload_n 1, 1) := by decide +kernel
theorem dJ2_checkIndex_2214a_2 : decode cJ2_checkIndex_2214a 2 = .ok (.invokestatic 48, 3) := by decide +kernel
theorem dJ2_checkIndex_2214a_5 : decode cJ2_checkIndex_2214a 5 = .ok (.invokestatic 414, 3) := by decide +kernel
theorem dJ2_checkIndex_2214a_8 : decode cJ2_checkIndex_2214a 8 = .ok (.return_, 1) := by decide +kernel
theorem dJ7_fill_53178_0 : decode cJ7_fill_53178 0 = .ok (.iconst 0, 1) := by decide +kernel
theorem dJ7_fill_53178_1 : decode cJ7_fill_53178 1 = .ok (.istore_n 2, 1) := by decide +kernel
theorem dJ7_fill_53178_2 : decode cJ7_fill_53178 2 = .ok (.aload_n 0, 1) := by decide +kernel
theorem dJ7_fill_53178_3 : decode cJ7_fill_53178 3 = .ok (.arraylength, 1) := by decide +kernel
theorem dJ7_fill_53178_4 : decode cJ7_fill_53178 4 = .ok (.istore_n 3, 1) := by decide +kernel
theorem dJ7_fill_53178_5 : decode cJ7_fill_53178 5 = .ok (.iload_n 2, 1) := by decide +kernel
theorem dJ7_fill_53178_6 : decode cJ7_fill_53178 6 = .ok (.iload_n 3, 1) := by decide +kernel
theorem dJ7_fill_53178_7 : decode cJ7_fill_53178 7 = .ok (.if_icmp .ge 13, 3) := by decide +kernel
theorem dJ7_fill_53178_10 : decode cJ7_fill_53178 10 = .ok (.aload_n 0, 1) := by decide +kernel
theorem dJ7_fill_53178_11 : decode cJ7_fill_53178 11 = .ok (.iload_n 2, 1) := by decide +kernel
theorem dJ7_fill_53178_12 : decode cJ7_fill_53178 12 = .ok (.iload_n 1, 1) := by decide +kernel
theorem dJ7_fill_53178_13 : decode cJ7_fill_53178 13 = .ok (.iastore, 1) := by decide +kernel
theorem dJ7_fill_53178_14 : decode cJ7_fill_53178 14 = .ok (.iinc 2 1, 3) := by decide +kernel
theorem dJ7_fill_53178_17 : decode cJ7_fill_53178 17 = .ok (.goto (-12), 3) := by decide +kernel
theorem dJ7_fill_53178_20 : decode cJ7_fill_53178 20 = .ok (.return_, 1) := by decide +kernel
theorem dJ3_checkIndex_8e157_0 : decode cJ3_checkIndex_8e157 0 = .ok (.iload_n 0, 1) := by decide +kernel
theorem dJ3_checkIndex_8e157_1 : decode cJ3_checkIndex_8e157 1 = .ok (.ifCond .lt 8, 3) := by decide +kernel
theorem dJ3_checkIndex_8e157_4 : decode cJ3_checkIndex_8e157 4 = .ok (.iload_n 0, 1) := by decide +kernel
theorem dJ3_checkIndex_8e157_5 : decode cJ3_checkIndex_8e157 5 = .ok (.iload_n 1, 1) := by decide +kernel
theorem dJ3_checkIndex_8e157_6 : decode cJ3_checkIndex_8e157 6 = .ok (.if_icmp .lt 10, 3) := by decide +kernel
theorem dJ3_checkIndex_8e157_9 : decode cJ3_checkIndex_8e157 9 = .ok (.aload_n 2, 1) := by decide +kernel
theorem dJ3_checkIndex_8e157_10 : decode cJ3_checkIndex_8e157 10 = .ok (.iload_n 0, 1) := by decide +kernel
theorem dJ3_checkIndex_8e157_11 : decode cJ3_checkIndex_8e157 11 = .ok (.iload_n 1, 1) := by decide +kernel
theorem dJ3_checkIndex_8e157_12 : decode cJ3_checkIndex_8e157 12 = .ok (.invokestatic 95, 3) := by decide +kernel
theorem dJ3_checkIndex_8e157_15 : decode cJ3_checkIndex_8e157 15 = .ok (.athrow, 1) := by decide +kernel
theorem dJ3_checkIndex_8e157_16 : decode cJ3_checkIndex_8e157 16 = .ok (.iload_n 0, 1) := by decide +kernel
theorem dJ3_checkIndex_8e157_17 : decode cJ3_checkIndex_8e157 17 = .ok (.ireturn, 1) := by decide +kernel
