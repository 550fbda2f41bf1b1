theorem dX7_init_0 : decode cX7_init 0 = .ok (.aload_n 0, 1) := by decide +kernel
theorem dX7_init_1 : decode cX7_init 1 = .ok (.invokespecial 1, 3) := by decide +kernel
theorem dX7_init_4 : decode cX7_init 4 = .ok (.aload_n 0, 1) := by decide +kernel
theorem dX7_init_5 : decode cX7_init 5 = .ok (.bipush 10, 2) := by decide +kernel
theorem dX7_init_7 : decode cX7_init 7 = .ok (.newarray .int, 2) := by decide +kernel
theorem dX7_init_9 : decode cX7_init 9 = .ok (.putfield 7, 3) := by decide +kernel
theorem dX7_init_12 : decode cX7_init 12 = .ok (.aload_n 0, 1) := by decide +kernel
theorem dX7_init_13 : decode cX7_init 13 = .ok (.bipush 6, 2) := by decide +kernel
theorem dX7_init_15 : decode cX7_init 15 = .ok (.newarray .int, 2) := by decide +kernel
theorem dX7_init_17 : decode cX7_init 17 = .ok (.putfield 13, 3) := by decide +kernel
theorem dX7_init_20 : decode cX7_init 20 = .ok (.aload_n 0, 1) := by decide +kernel
theorem dX7_init_21 : decode cX7_init 21 = .ok (.bipush 10, 2) := by decide +kernel
theorem dX7_init_23 : decode cX7_init 23 = .ok (.newarray .int, 2) := by decide +kernel
theorem dX7_init_25 : decode cX7_init 25 = .ok (.putfield 16, 3) := by decide +kernel
theorem dX7_init_28 : decode cX7_init 28 = .ok (.aload_n 0, 1) := by decide +kernel
theorem dX7_init_29 : decode cX7_init 29 = .ok (.iconst 5, 1) := by decide +kernel
theorem dX7_init_30 : decode cX7_init 30 = .ok (.newarray .int, 2) := by decide +kernel
theorem dX7_init_32 : decode cX7_init 32 = .ok (.putfield 19, 3) := by decide +kernel
theorem dX7_init_35 : decode cX7_init 35 = .ok (.aload_n 0, 1) := by decide +kernel
theorem dX7_init_36 : decode cX7_init 36 = .ok (.iconst 5, 1) := by decide +kernel
theorem dX7_init_37 : decode cX7_init 37 = .ok (.newarray .int, 2) := by decide +kernel
theorem dX7_init_39 : decode cX7_init 39 = .ok (.putfield 22, 3) := by decide +kernel
theorem dX7_init_42 : decode cX7_init 42 = .ok (.aload_n 0, 1) := by decide +kernel
theorem dX7_init_43 : decode cX7_init 43 = .ok (.iconst 5, 1) := by decide +kernel
theorem dX7_init_44 : decode cX7_init 44 = .ok (.newarray .int, 2) := by decide +kernel
theorem dX7_init_46 : decode cX7_init 46 = .ok (.putfield 25, 3) := by decide +kernel
theorem dX7_init_49 : decode cX7_init 49 = .ok (.aload_n 0, 1) := by decide +kernel
theorem dX7_init_50 : decode cX7_init 50 = .ok (.iconst 5, 1) := by decide +kernel
theorem dX7_init_51 : decode cX7_init 51 = .ok (.newarray .int, 2) := by decide +kernel
theorem dX7_init_53 : decode cX7_init 53 = .ok (.putfield 28, 3) := by decide +kernel
theorem dX7_init_56 : decode cX7_init 56 = .ok (.aload_n 0, 1) := by decide +kernel
theorem dX7_init_57 : decode cX7_init 57 = .ok (.iconst 5, 1) := by decide +kernel
theorem dX7_init_58 : decode cX7_init 58 = .ok (.newarray .int, 2) := by decide +kernel
theorem dX7_init_60 : decode cX7_init 60 = .ok (.putfield 31, 3) := by decide +kernel
theorem dX7_init_63 : decode cX7_init 63 = .ok (.aload_n 0, 1) := by decide +kernel
theorem dX7_init_64 : decode cX7_init 64 = .ok (.iconst 4, 1) := by decide +kernel
theorem dX7_init_65 : decode cX7_init 65 = .ok (.newarray .int, 2) := by decide +kernel
theorem dX7_init_67 : decode cX7_init 67 = .ok (.putfield 34, 3) := by decide +kernel
theorem dX7_init_70 : decode cX7_init 70 = .ok (.aload_n 0, 1) := by decide +kernel
theorem dX7_init_71 : decode cX7_init 71 = .ok (.iconst 5, 1) := by decide +kernel
theorem dX7_init_72 : decode cX7_init 72 = .ok (.newarray .int, 2) := by decide +kernel
theorem dX7_init_74 : decode cX7_init 74 = .ok (.putfield 37, 3) := by decide +kernel
theorem dX7_init_77 : decode cX7_init 77 = .ok (.aload_n 0, 1) := by decide +kernel
theorem dX7_init_78 : decode cX7_init 78 = .ok (.iconst 5, 1) := by decide +kernel
theorem dX7_init_79 : decode cX7_init 79 = .ok (.newarray .int, 2) := by decide +kernel
theorem dX7_init_81 : decode cX7_init 81 = .ok (.putfield 40, 3) := by decide +kernel
theorem dX7_init_84 : decode cX7_init 84 = .ok (.aload_n 0, 1) := by decide +kernel
theorem dX7_init_85 : decode cX7_init 85 = .ok (.bipush 10, 2) := by decide +kernel
theorem dX7_init_87 : decode cX7_init 87 = .ok (.newarray .int, 2) := by decide +kernel
theorem dX7_init_89 : decode cX7_init 89 = .ok (.putfield 43, 3) := by decide +kernel
theorem dX7_init_92 : decode cX7_init 92 = .ok (.aload_n 0, 1) := by decide +kernel
theorem dX7_init_93 : decode cX7_init 93 = .ok (.iconst 5, 1) := by decide +kernel
theorem dX7_init_94 : decode cX7_init 94 = .ok (.newarray .int, 2) := by decide +kernel
theorem dX7_init_96 : decode cX7_init 96 = .ok (.putfield 46, 3) := by decide +kernel
theorem dX7_init_99 : decode cX7_init 99 = .ok (.aload_n 0, 1) := by decide +kernel
theorem dX7_init_100 : decode cX7_init 100 = .ok (.iconst 5, 1) := by decide +kernel
theorem dX7_init_101 : decode cX7_init 101 = .ok (.newarray .int, 2) := by decide +kernel
theorem dX7_init_103 : decode cX7_init 103 = .ok (.putfield 49, 3) := by decide +kernel
theorem dX7_init_106 : decode cX7_init 106 = .ok (.aload_n 0, 1) := by decide +kernel
theorem dX7_init_107 : decode cX7_init 107 = .ok (.iconst 5, 1) := by decide +kernel
theorem dX7_init_108 : decode cX7_init 108 = .ok (.newarray .int, 2) := by decide +kernel
theorem dX7_init_110 : decode cX7_init 110 = .ok (.putfield 52, 3) := by decide +kernel
theorem dX7_init_113 : decode cX7_init 113 = .ok (.aload_n 0, 1) := by decide +kernel
theorem dX7_init_114 : decode cX7_init 114 = .ok (.iconst (-1), 1) := by decide +kernel
theorem dX7_init_115 : decode cX7_init 115 = .ok (.putfield 55, 3) := by decide +kernel
theorem dX7_init_118 : decode cX7_init 118 = .ok (.return_, 1) := by decide +kernel
theorem dX7_in_0 : decode cX7_in 0 = .ok (.lload_n 0, 1) := by decide +kernel
theorem dX7_in_1 : decode cX7_in 1 = .ok (.lload_n 2, 1) := by decide +kernel
theorem dX7_in_2 : decode cX7_in 2 = .ok (.lcmp, 1) := by decide +kernel
theorem dX7_in_3 : decode cX7_in 3 = .ok (.ifCond .lt 14, 3) := by decide +kernel
theorem dX7_in_6 : decode cX7_in 6 = .ok (.lload_n 0, 1) := by decide +kernel
theorem dX7_in_7 : decode cX7_in 7 = .ok (.lload 4, 2) := by decide +kernel
theorem dX7_in_9 : decode cX7_in 9 = .ok (.lcmp, 1) := by decide +kernel
theorem dX7_in_10 : decode cX7_in 10 = .ok (.ifCond .gt 7, 3) := by decide +kernel
theorem dX7_in_13 : decode cX7_in 13 = .ok (.iconst 1, 1) := by decide +kernel
theorem dX7_in_14 : decode cX7_in 14 = .ok (.goto 4, 3) := by decide +kernel
theorem dX7_in_17 : decode cX7_in 17 = .ok (.iconst 0, 1) := by decide +kernel
theorem dX7_in_18 : decode cX7_in 18 = .ok (.ireturn, 1) := by decide +kernel
theorem dX7_ones_0 : decode cX7_ones 0 = .ok (.iconst 0, 1) := by decide +kernel
theorem dX7_ones_1 : decode cX7_ones 1 = .ok (.istore_n 1, 1) := by decide +kernel
theorem dX7_ones_2 : decode cX7_ones 2 = .ok (.iconst 0, 1) := by decide +kernel
theorem dX7_ones_3 : decode cX7_ones 3 = .ok (.istore_n 2, 1) := by decide +kernel
theorem dX7_ones_4 : decode cX7_ones 4 = .ok (.iload_n 2, 1) := by decide +kernel
theorem dX7_ones_5 : decode cX7_ones 5 = .ok (.bipush 6, 2) := by decide +kernel
theorem dX7_ones_7 : decode cX7_ones 7 = .ok (.if_icmp .ge 17, 3) := by decide +kernel
theorem dX7_ones_10 : decode cX7_ones 10 = .ok (.iload_n 1, 1) := by decide +kernel
theorem dX7_ones_11 : decode cX7_ones 11 = .ok (.iload_n 0, 1) := by decide +kernel
theorem dX7_ones_12 : decode cX7_ones 12 = .ok (.iload_n 2, 1) := by decide +kernel
theorem dX7_ones_13 : decode cX7_ones 13 = .ok (.ishr, 1) := by decide +kernel
theorem dX7_ones_14 : decode cX7_ones 14 = .ok (.iconst 1, 1) := by decide +kernel
theorem dX7_ones_15 : decode cX7_ones 15 = .ok (.iand, 1) := by decide +kernel
theorem dX7_ones_16 : decode cX7_ones 16 = .ok (.iadd, 1) := by decide +kernel
theorem dX7_ones_17 : decode cX7_ones 17 = .ok (.istore_n 1, 1) := by decide +kernel
theorem dX7_ones_18 : decode cX7_ones 18 = .ok (.iinc 2 1, 3) := by decide +kernel
theorem dX7_ones_21 : decode cX7_ones 21 = .ok (.goto (-17), 3) := by decide +kernel
theorem dX7_ones_24 : decode cX7_ones 24 = .ok (.iload_n 1, 1) := by decide +kernel
theorem dX7_ones_25 : decode cX7_ones 25 = .ok (.ireturn, 1) := by decide +kernel
theorem dX7_letter_0 : decode cX7_letter 0 = .ok (.iload_n 1, 1) := by decide +kernel
theorem dX7_letter_1 : decode cX7_letter 1 = .ok (.i2l, 1) := by decide +kernel
theorem dX7_letter_2 : decode cX7_letter 2 = .ok (.lconst 1, 1) := by decide +kernel
theorem dX7_letter_3 : decode cX7_letter 3 = .ok (.ldc2_w 59, 3) := by decide +kernel
theorem dX7_letter_6 : decode cX7_letter 6 = .ok (.invokestatic 61, 3) := by decide +kernel
theorem dX7_letter_9 : decode cX7_letter 9 = .ok (.ifCond .ne 6, 3) := by decide +kernel
theorem dX7_letter_12 : decode cX7_letter 12 = .ok (.bipush (-102), 2) := by decide +kernel
theorem dX7_letter_14 : decode cX7_letter 14 = .ok (.ireturn, 1) := by decide +kernel
theorem dX7_letter_15 : decode cX7_letter 15 = .ok (.aload_n 0, 1) := by decide +kernel
theorem dX7_letter_16 : decode cX7_letter 16 = .ok (.getfield 65, 3) := by decide +kernel
theorem dX7_letter_19 : decode cX7_letter 19 = .ok (.bipush 10, 2) := by decide +kernel
theorem dX7_letter_21 : decode cX7_letter 21 = .ok (.if_icmp .ne 6, 3) := by decide +kernel
theorem dX7_letter_24 : decode cX7_letter 24 = .ok (.bipush (-104), 2) := by decide +kernel
theorem dX7_letter_26 : decode cX7_letter 26 = .ok (.ireturn, 1) := by decide +kernel
theorem dX7_letter_27 : decode cX7_letter 27 = .ok (.aload_n 0, 1) := by decide +kernel
theorem dX7_letter_28 : decode cX7_letter 28 = .ok (.getfield 7, 3) := by decide +kernel
theorem dX7_letter_31 : decode cX7_letter 31 = .ok (.aload_n 0, 1) := by decide +kernel
theorem dX7_letter_32 : decode cX7_letter 32 = .ok (.getfield 65, 3) := by decide +kernel
theorem dX7_letter_35 : decode cX7_letter 35 = .ok (.iload_n 1, 1) := by decide +kernel
theorem dX7_letter_36 : decode cX7_letter 36 = .ok (.iastore, 1) := by decide +kernel
theorem dX7_letter_37 : decode cX7_letter 37 = .ok (.aload_n 0, 1) := by decide +kernel
theorem dX7_letter_38 : decode cX7_letter 38 = .ok (.dup, 1) := by decide +kernel
theorem dX7_letter_39 : decode cX7_letter 39 = .ok (.getfield 65, 3) := by decide +kernel
theorem dX7_letter_42 : decode cX7_letter 42 = .ok (.iconst 1, 1) := by decide +kernel
theorem dX7_letter_43 : decode cX7_letter 43 = .ok (.iadd, 1) := by decide +kernel
theorem dX7_letter_44 : decode cX7_letter 44 = .ok (.putfield 65, 3) := by decide +kernel
theorem dX7_letter_47 : decode cX7_letter 47 = .ok (.aload_n 0, 1) := by decide +kernel
theorem dX7_letter_48 : decode cX7_letter 48 = .ok (.getfield 65, 3) := by decide +kernel
theorem dX7_letter_51 : decode cX7_letter 51 = .ok (.ireturn, 1) := by decide +kernel
theorem dX7_blank_0 : decode cX7_blank 0 = .ok (.aload_n 0, 1) := by decide +kernel
theorem dX7_blank_1 : decode cX7_blank 1 = .ok (.getfield 65, 3) := by decide +kernel
theorem dX7_blank_4 : decode cX7_blank 4 = .ok (.istore_n 1, 1) := by decide +kernel
theorem dX7_blank_5 : decode cX7_blank 5 = .ok (.aload_n 0, 1) := by decide +kernel
theorem dX7_blank_6 : decode cX7_blank 6 = .ok (.iconst 0, 1) := by decide +kernel
theorem dX7_blank_7 : decode cX7_blank 7 = .ok (.putfield 65, 3) := by decide +kernel
theorem dX7_blank_10 : decode cX7_blank 10 = .ok (.iload_n 1, 1) := by decide +kernel
theorem dX7_blank_11 : decode cX7_blank 11 = .ok (.ireturn, 1) := by decide +kernel
theorem dX7_isGood_0 : decode cX7_isGood 0 = .ok (.iload_n 1, 1) := by decide +kernel
theorem dX7_isGood_1 : decode cX7_isGood 1 = .ok (.bipush 48, 2) := by decide +kernel
theorem dX7_isGood_3 : decode cX7_isGood 3 = .ok (.isub, 1) := by decide +kernel
theorem dX7_isGood_4 : decode cX7_isGood 4 = .ok (.istore_n 3, 1) := by decide +kernel
theorem dX7_isGood_5 : decode cX7_isGood 5 = .ok (.iload_n 0, 1) := by decide +kernel
theorem dX7_isGood_6 : decode cX7_isGood 6 = .ok (.bipush 6, 2) := by decide +kernel
theorem dX7_isGood_8 : decode cX7_isGood 8 = .ok (.if_icmp .ge 42, 3) := by decide +kernel
theorem dX7_isGood_11 : decode cX7_isGood 11 = .ok (.iload_n 3, 1) := by decide +kernel
theorem dX7_isGood_12 : decode cX7_isGood 12 = .ok (.i2l, 1) := by decide +kernel
theorem dX7_isGood_13 : decode cX7_isGood 13 = .ok (.lconst 0, 1) := by decide +kernel
theorem dX7_isGood_14 : decode cX7_isGood 14 = .ok (.ldc2_w 68, 3) := by decide +kernel
theorem dX7_isGood_17 : decode cX7_isGood 17 = .ok (.invokestatic 61, 3) := by decide +kernel
theorem dX7_isGood_20 : decode cX7_isGood 20 = .ok (.ifCond .eq 28, 3) := by decide +kernel
theorem dX7_isGood_23 : decode cX7_isGood 23 = .ok (.iload_n 2, 1) := by decide +kernel
theorem dX7_isGood_24 : decode cX7_isGood 24 = .ok (.iload_n 3, 1) := by decide +kernel
theorem dX7_isGood_25 : decode cX7_isGood 25 = .ok (.iadd, 1) := by decide +kernel
theorem dX7_isGood_26 : decode cX7_isGood 26 = .ok (.bipush 10, 2) := by decide +kernel
theorem dX7_isGood_28 : decode cX7_isGood 28 = .ok (.if_icmp .gt 20, 3) := by decide +kernel
theorem dX7_isGood_31 : decode cX7_isGood 31 = .ok (.iload_n 0, 1) := by decide +kernel
theorem dX7_isGood_32 : decode cX7_isGood 32 = .ok (.iconst 5, 1) := by decide +kernel
theorem dX7_isGood_33 : decode cX7_isGood 33 = .ok (.if_icmp .lt 11, 3) := by decide +kernel
theorem dX7_isGood_36 : decode cX7_isGood 36 = .ok (.iload_n 2, 1) := by decide +kernel
theorem dX7_isGood_37 : decode cX7_isGood 37 = .ok (.iload_n 3, 1) := by decide +kernel
theorem dX7_isGood_38 : decode cX7_isGood 38 = .ok (.iadd, 1) := by decide +kernel
theorem dX7_isGood_39 : decode cX7_isGood 39 = .ok (.bipush 10, 2) := by decide +kernel
theorem dX7_isGood_41 : decode cX7_isGood 41 = .ok (.if_icmp .ne 7, 3) := by decide +kernel
theorem dX7_isGood_44 : decode cX7_isGood 44 = .ok (.iconst 1, 1) := by decide +kernel
theorem dX7_isGood_45 : decode cX7_isGood 45 = .ok (.goto 4, 3) := by decide +kernel
theorem dX7_isGood_48 : decode cX7_isGood 48 = .ok (.iconst 0, 1) := by decide +kernel
theorem dX7_isGood_49 : decode cX7_isGood 49 = .ok (.ireturn, 1) := by decide +kernel
theorem dX7_isGood_50 : decode cX7_isGood 50 = .ok (.iload_n 0, 1) := by decide +kernel
theorem dX7_isGood_51 : decode cX7_isGood 51 = .ok (.bipush 6, 2) := by decide +kernel
theorem dX7_isGood_53 : decode cX7_isGood 53 = .ok (.if_icmp .ne 17, 3) := by decide +kernel
theorem dX7_isGood_56 : decode cX7_isGood 56 = .ok (.iload_n 1, 1) := by decide +kernel
theorem dX7_isGood_57 : decode cX7_isGood 57 = .ok (.bipush 59, 2) := by decide +kernel
theorem dX7_isGood_59 : decode cX7_isGood 59 = .ok (.if_icmp .ne 7, 3) := by decide +kernel
theorem dX7_isGood_62 : decode cX7_isGood 62 = .ok (.iconst 1, 1) := by decide +kernel
theorem dX7_isGood_63 : decode cX7_isGood 63 = .ok (.goto 30, 3) := by decide +kernel
theorem dX7_isGood_66 : decode cX7_isGood 66 = .ok (.iconst 0, 1) := by decide +kernel
theorem dX7_isGood_67 : decode cX7_isGood 67 = .ok (.goto 26, 3) := by decide +kernel
theorem dX7_isGood_70 : decode cX7_isGood 70 = .ok (.iload_n 0, 1) := by decide +kernel
theorem dX7_isGood_71 : decode cX7_isGood 71 = .ok (.bipush 7, 2) := by decide +kernel
theorem dX7_isGood_73 : decode cX7_isGood 73 = .ok (.if_icmp .ne 19, 3) := by decide +kernel
theorem dX7_isGood_76 : decode cX7_isGood 76 = .ok (.iload_n 3, 1) := by decide +kernel
theorem dX7_isGood_77 : decode cX7_isGood 77 = .ok (.i2l, 1) := by decide +kernel
theorem dX7_isGood_78 : decode cX7_isGood 78 = .ok (.lconst 1, 1) := by decide +kernel
theorem dX7_isGood_79 : decode cX7_isGood 79 = .ok (.ldc2_w 68, 3) := by decide +kernel
theorem dX7_isGood_82 : decode cX7_isGood 82 = .ok (.invokestatic 61, 3) := by decide +kernel
theorem dX7_isGood_85 : decode cX7_isGood 85 = .ok (.ifCond .eq 7, 3) := by decide +kernel
theorem dX7_isGood_88 : decode cX7_isGood 88 = .ok (.iconst 1, 1) := by decide +kernel
theorem dX7_isGood_89 : decode cX7_isGood 89 = .ok (.goto 4, 3) := by decide +kernel
theorem dX7_isGood_92 : decode cX7_isGood 92 = .ok (.iconst 0, 1) := by decide +kernel
theorem dX7_isGood_93 : decode cX7_isGood 93 = .ok (.ireturn, 1) := by decide +kernel
theorem dX7_faultOf_0 : decode cX7_faultOf 0 = .ok (.iconst 0, 1) := by decide +kernel
theorem dX7_faultOf_1 : decode cX7_faultOf 1 = .ok (.istore_n 1, 1) := by decide +kernel
theorem dX7_faultOf_2 : decode cX7_faultOf 2 = .ok (.iconst 0, 1) := by decide +kernel
theorem dX7_faultOf_3 : decode cX7_faultOf 3 = .ok (.istore_n 2, 1) := by decide +kernel
theorem dX7_faultOf_4 : decode cX7_faultOf 4 = .ok (.iload_n 2, 1) := by decide +kernel
theorem dX7_faultOf_5 : decode cX7_faultOf 5 = .ok (.aload_n 0, 1) := by decide +kernel
theorem dX7_faultOf_6 : decode cX7_faultOf 6 = .ok (.getfield 65, 3) := by decide +kernel
theorem dX7_faultOf_9 : decode cX7_faultOf 9 = .ok (.if_icmp .ge 45, 3) := by decide +kernel
theorem dX7_faultOf_12 : decode cX7_faultOf 12 = .ok (.iload_n 2, 1) := by decide +kernel
theorem dX7_faultOf_13 : decode cX7_faultOf 13 = .ok (.aload_n 0, 1) := by decide +kernel
theorem dX7_faultOf_14 : decode cX7_faultOf 14 = .ok (.getfield 7, 3) := by decide +kernel
theorem dX7_faultOf_17 : decode cX7_faultOf 17 = .ok (.iload_n 2, 1) := by decide +kernel
theorem dX7_faultOf_18 : decode cX7_faultOf 18 = .ok (.iaload, 1) := by decide +kernel
theorem dX7_faultOf_19 : decode cX7_faultOf 19 = .ok (.iload_n 1, 1) := by decide +kernel
theorem dX7_faultOf_20 : decode cX7_faultOf 20 = .ok (.invokestatic 70, 3) := by decide +kernel
theorem dX7_faultOf_23 : decode cX7_faultOf 23 = .ok (.ifCond .eq 31, 3) := by decide +kernel
theorem dX7_faultOf_26 : decode cX7_faultOf 26 = .ok (.iload_n 1, 1) := by decide +kernel
theorem dX7_faultOf_27 : decode cX7_faultOf 27 = .ok (.iload_n 2, 1) := by decide +kernel
theorem dX7_faultOf_28 : decode cX7_faultOf 28 = .ok (.bipush 6, 2) := by decide +kernel
theorem dX7_faultOf_30 : decode cX7_faultOf 30 = .ok (.if_icmp .ge 15, 3) := by decide +kernel
theorem dX7_faultOf_33 : decode cX7_faultOf 33 = .ok (.aload_n 0, 1) := by decide +kernel
theorem dX7_faultOf_34 : decode cX7_faultOf 34 = .ok (.getfield 7, 3) := by decide +kernel
theorem dX7_faultOf_37 : decode cX7_faultOf 37 = .ok (.iload_n 2, 1) := by decide +kernel
theorem dX7_faultOf_38 : decode cX7_faultOf 38 = .ok (.iaload, 1) := by decide +kernel
theorem dX7_faultOf_39 : decode cX7_faultOf 39 = .ok (.bipush 48, 2) := by decide +kernel
theorem dX7_faultOf_41 : decode cX7_faultOf 41 = .ok (.isub, 1) := by decide +kernel
theorem dX7_faultOf_42 : decode cX7_faultOf 42 = .ok (.goto 4, 3) := by decide +kernel
theorem dX7_faultOf_45 : decode cX7_faultOf 45 = .ok (.iconst 0, 1) := by decide +kernel
theorem dX7_faultOf_46 : decode cX7_faultOf 46 = .ok (.iadd, 1) := by decide +kernel
theorem dX7_faultOf_47 : decode cX7_faultOf 47 = .ok (.istore_n 1, 1) := by decide +kernel
theorem dX7_faultOf_48 : decode cX7_faultOf 48 = .ok (.iinc 2 1, 3) := by decide +kernel
theorem dX7_faultOf_51 : decode cX7_faultOf 51 = .ok (.goto (-47), 3) := by decide +kernel
theorem dX7_faultOf_54 : decode cX7_faultOf 54 = .ok (.iload_n 2, 1) := by decide +kernel
theorem dX7_faultOf_55 : decode cX7_faultOf 55 = .ok (.ireturn, 1) := by decide +kernel
theorem dX7_fault_0 : decode cX7_fault 0 = .ok (.aload_n 0, 1) := by decide +kernel
theorem dX7_fault_1 : decode cX7_fault 1 = .ok (.invokevirtual 74, 3) := by decide +kernel
theorem dX7_fault_4 : decode cX7_fault 4 = .ok (.ireturn, 1) := by decide +kernel
theorem dX7_law_0 : decode cX7_law 0 = .ok (.aload_n 0, 1) := by decide +kernel
theorem dX7_law_1 : decode cX7_law 1 = .ok (.getfield 65, 3) := by decide +kernel
theorem dX7_law_4 : decode cX7_law 4 = .ok (.bipush 8, 2) := by decide +kernel
theorem dX7_law_6 : decode cX7_law 6 = .ok (.if_icmp .ne 12, 3) := by decide +kernel
theorem dX7_law_9 : decode cX7_law 9 = .ok (.aload_n 0, 1) := by decide +kernel
theorem dX7_law_10 : decode cX7_law 10 = .ok (.invokevirtual 74, 3) := by decide +kernel
theorem dX7_law_13 : decode cX7_law 13 = .ok (.bipush 8, 2) := by decide +kernel
theorem dX7_law_15 : decode cX7_law 15 = .ok (.if_icmp .ge 6, 3) := by decide +kernel
theorem dX7_law_18 : decode cX7_law 18 = .ok (.bipush (-103), 2) := by decide +kernel
theorem dX7_law_20 : decode cX7_law 20 = .ok (.ireturn, 1) := by decide +kernel
theorem dX7_law_21 : decode cX7_law 21 = .ok (.iconst 0, 1) := by decide +kernel
theorem dX7_law_22 : decode cX7_law 22 = .ok (.istore_n 1, 1) := by decide +kernel
theorem dX7_law_23 : decode cX7_law 23 = .ok (.iload_n 1, 1) := by decide +kernel
theorem dX7_law_24 : decode cX7_law 24 = .ok (.bipush 6, 2) := by decide +kernel
theorem dX7_law_26 : decode cX7_law 26 = .ok (.if_icmp .ge 24, 3) := by decide +kernel
theorem dX7_law_29 : decode cX7_law 29 = .ok (.aload_n 0, 1) := by decide +kernel
theorem dX7_law_30 : decode cX7_law 30 = .ok (.getfield 13, 3) := by decide +kernel
theorem dX7_law_33 : decode cX7_law 33 = .ok (.iload_n 1, 1) := by decide +kernel
theorem dX7_law_34 : decode cX7_law 34 = .ok (.aload_n 0, 1) := by decide +kernel
theorem dX7_law_35 : decode cX7_law 35 = .ok (.getfield 7, 3) := by decide +kernel
theorem dX7_law_38 : decode cX7_law 38 = .ok (.iload_n 1, 1) := by decide +kernel
theorem dX7_law_39 : decode cX7_law 39 = .ok (.iaload, 1) := by decide +kernel
theorem dX7_law_40 : decode cX7_law 40 = .ok (.bipush 48, 2) := by decide +kernel
theorem dX7_law_42 : decode cX7_law 42 = .ok (.isub, 1) := by decide +kernel
theorem dX7_law_43 : decode cX7_law 43 = .ok (.iastore, 1) := by decide +kernel
theorem dX7_law_44 : decode cX7_law 44 = .ok (.iinc 1 1, 3) := by decide +kernel
theorem dX7_law_47 : decode cX7_law 47 = .ok (.goto (-24), 3) := by decide +kernel
theorem dX7_law_50 : decode cX7_law 50 = .ok (.aload_n 0, 1) := by decide +kernel
theorem dX7_law_51 : decode cX7_law 51 = .ok (.aload_n 0, 1) := by decide +kernel
theorem dX7_law_52 : decode cX7_law 52 = .ok (.getfield 7, 3) := by decide +kernel
theorem dX7_law_55 : decode cX7_law 55 = .ok (.bipush 7, 2) := by decide +kernel
theorem dX7_law_57 : decode cX7_law 57 = .ok (.iaload, 1) := by decide +kernel
theorem dX7_law_58 : decode cX7_law 58 = .ok (.bipush 48, 2) := by decide +kernel
theorem dX7_law_60 : decode cX7_law 60 = .ok (.isub, 1) := by decide +kernel
theorem dX7_law_61 : decode cX7_law 61 = .ok (.putfield 78, 3) := by decide +kernel
theorem dX7_law_64 : decode cX7_law 64 = .ok (.aload_n 0, 1) := by decide +kernel
theorem dX7_law_65 : decode cX7_law 65 = .ok (.iconst 0, 1) := by decide +kernel
theorem dX7_law_66 : decode cX7_law 66 = .ok (.putfield 81, 3) := by decide +kernel
theorem dX7_law_69 : decode cX7_law 69 = .ok (.aload_n 0, 1) := by decide +kernel
theorem dX7_law_70 : decode cX7_law 70 = .ok (.iconst 0, 1) := by decide +kernel
theorem dX7_law_71 : decode cX7_law 71 = .ok (.putfield 84, 3) := by decide +kernel
theorem dX7_law_74 : decode cX7_law 74 = .ok (.aload_n 0, 1) := by decide +kernel
theorem dX7_law_75 : decode cX7_law 75 = .ok (.iconst 0, 1) := by decide +kernel
theorem dX7_law_76 : decode cX7_law 76 = .ok (.putfield 87, 3) := by decide +kernel
theorem dX7_law_79 : decode cX7_law 79 = .ok (.aload_n 0, 1) := by decide +kernel
theorem dX7_law_80 : decode cX7_law 80 = .ok (.dup, 1) := by decide +kernel
theorem dX7_law_81 : decode cX7_law 81 = .ok (.getfield 90, 3) := by decide +kernel
theorem dX7_law_84 : decode cX7_law 84 = .ok (.iconst 1, 1) := by decide +kernel
theorem dX7_law_85 : decode cX7_law 85 = .ok (.iadd, 1) := by decide +kernel
theorem dX7_law_86 : decode cX7_law 86 = .ok (.putfield 90, 3) := by decide +kernel
theorem dX7_law_89 : decode cX7_law 89 = .ok (.aload_n 0, 1) := by decide +kernel
theorem dX7_law_90 : decode cX7_law 90 = .ok (.iconst 0, 1) := by decide +kernel
theorem dX7_law_91 : decode cX7_law 91 = .ok (.putfield 65, 3) := by decide +kernel
theorem dX7_law_94 : decode cX7_law 94 = .ok (.aload_n 0, 1) := by decide +kernel
theorem dX7_law_95 : decode cX7_law 95 = .ok (.getfield 78, 3) := by decide +kernel
theorem dX7_law_98 : decode cX7_law 98 = .ok (.ireturn, 1) := by decide +kernel
theorem dX7_lacks_0 : decode cX7_lacks 0 = .ok (.aload_n 0, 1) := by decide +kernel
theorem dX7_lacks_1 : decode cX7_lacks 1 = .ok (.getfield 78, 3) := by decide +kernel
theorem dX7_lacks_4 : decode cX7_lacks 4 = .ok (.ifCond .ne 7, 3) := by decide +kernel
theorem dX7_lacks_7 : decode cX7_lacks 7 = .ok (.iconst 1, 1) := by decide +kernel
theorem dX7_lacks_8 : decode cX7_lacks 8 = .ok (.goto 4, 3) := by decide +kernel
theorem dX7_lacks_11 : decode cX7_lacks 11 = .ok (.iconst 0, 1) := by decide +kernel
theorem dX7_lacks_12 : decode cX7_lacks 12 = .ok (.ireturn, 1) := by decide +kernel
theorem dX7_isLetter_0 : decode cX7_isLetter 0 = .ok (.iload_n 0, 1) := by decide +kernel
theorem dX7_isLetter_1 : decode cX7_isLetter 1 = .ok (.i2l, 1) := by decide +kernel
theorem dX7_isLetter_2 : decode cX7_isLetter 2 = .ok (.lconst 0, 1) := by decide +kernel
theorem dX7_isLetter_3 : decode cX7_isLetter 3 = .ok (.ldc2_w 93, 3) := by decide +kernel
theorem dX7_isLetter_6 : decode cX7_isLetter 6 = .ok (.invokestatic 61, 3) := by decide +kernel
theorem dX7_isLetter_9 : decode cX7_isLetter 9 = .ok (.ireturn, 1) := by decide +kernel
theorem dX7_isFile_0 : decode cX7_isFile 0 = .ok (.iload_n 1, 1) := by decide +kernel
theorem dX7_isFile_1 : decode cX7_isFile 1 = .ok (.i2l, 1) := by decide +kernel
theorem dX7_isFile_2 : decode cX7_isFile 2 = .ok (.lconst 0, 1) := by decide +kernel
theorem dX7_isFile_3 : decode cX7_isFile 3 = .ok (.aload_n 0, 1) := by decide +kernel
theorem dX7_isFile_4 : decode cX7_isFile 4 = .ok (.getfield 81, 3) := by decide +kernel
theorem dX7_isFile_7 : decode cX7_isFile 7 = .ok (.iconst 1, 1) := by decide +kernel
theorem dX7_isFile_8 : decode cX7_isFile 8 = .ok (.isub, 1) := by decide +kernel
theorem dX7_isFile_9 : decode cX7_isFile 9 = .ok (.i2l, 1) := by decide +kernel
theorem dX7_isFile_10 : decode cX7_isFile 10 = .ok (.invokestatic 61, 3) := by decide +kernel
theorem dX7_isFile_13 : decode cX7_isFile 13 = .ok (.ireturn, 1) := by decide +kernel
theorem dX7_fullness_0 : decode cX7_fullness 0 = .ok (.iconst 0, 1) := by decide +kernel
theorem dX7_fullness_1 : decode cX7_fullness 1 = .ok (.istore_n 3, 1) := by decide +kernel
theorem dX7_fullness_2 : decode cX7_fullness 2 = .ok (.iconst 0, 1) := by decide +kernel
theorem dX7_fullness_3 : decode cX7_fullness 3 = .ok (.istore 4, 2) := by decide +kernel
theorem dX7_fullness_5 : decode cX7_fullness 5 = .ok (.iload 4, 2) := by decide +kernel
theorem dX7_fullness_7 : decode cX7_fullness 7 = .ok (.aload_n 0, 1) := by decide +kernel
theorem dX7_fullness_8 : decode cX7_fullness 8 = .ok (.getfield 81, 3) := by decide +kernel
theorem dX7_fullness_11 : decode cX7_fullness 11 = .ok (.if_icmp .ge 20, 3) := by decide +kernel
theorem dX7_fullness_14 : decode cX7_fullness 14 = .ok (.iload_n 3, 1) := by decide +kernel
theorem dX7_fullness_15 : decode cX7_fullness 15 = .ok (.aload_n 1, 1) := by decide +kernel
theorem dX7_fullness_16 : decode cX7_fullness 16 = .ok (.iload 4, 2) := by decide +kernel
theorem dX7_fullness_18 : decode cX7_fullness 18 = .ok (.iaload, 1) := by decide +kernel
theorem dX7_fullness_19 : decode cX7_fullness 19 = .ok (.iload_n 2, 1) := by decide +kernel
theorem dX7_fullness_20 : decode cX7_fullness 20 = .ok (.ishr, 1) := by decide +kernel
theorem dX7_fullness_21 : decode cX7_fullness 21 = .ok (.iconst 1, 1) := by decide +kernel
theorem dX7_fullness_22 : decode cX7_fullness 22 = .ok (.iand, 1) := by decide +kernel
theorem dX7_fullness_23 : decode cX7_fullness 23 = .ok (.iadd, 1) := by decide +kernel
theorem dX7_fullness_24 : decode cX7_fullness 24 = .ok (.istore_n 3, 1) := by decide +kernel
theorem dX7_fullness_25 : decode cX7_fullness 25 = .ok (.iinc 4 1, 3) := by decide +kernel
theorem dX7_fullness_28 : decode cX7_fullness 28 = .ok (.goto (-23), 3) := by decide +kernel
theorem dX7_fullness_31 : decode cX7_fullness 31 = .ok (.iload_n 3, 1) := by decide +kernel
theorem dX7_fullness_32 : decode cX7_fullness 32 = .ok (.ireturn, 1) := by decide +kernel
theorem dX7_tellUnder_0 : decode cX7_tellUnder 0 = .ok (.iload_n 2, 1) := by decide +kernel
theorem dX7_tellUnder_1 : decode cX7_tellUnder 1 = .ok (.ifCond .ne 12, 3) := by decide +kernel
theorem dX7_tellUnder_4 : decode cX7_tellUnder 4 = .ok (.aload_n 0, 1) := by decide +kernel
theorem dX7_tellUnder_5 : decode cX7_tellUnder 5 = .ok (.getfield 13, 3) := by decide +kernel
theorem dX7_tellUnder_8 : decode cX7_tellUnder 8 = .ok (.iload_n 1, 1) := by decide +kernel
theorem dX7_tellUnder_9 : decode cX7_tellUnder 9 = .ok (.iaload, 1) := by decide +kernel
theorem dX7_tellUnder_10 : decode cX7_tellUnder 10 = .ok (.goto 12, 3) := by decide +kernel
theorem dX7_tellUnder_13 : decode cX7_tellUnder 13 = .ok (.aload_n 0, 1) := by decide +kernel
theorem dX7_tellUnder_14 : decode cX7_tellUnder 14 = .ok (.aload_n 0, 1) := by decide +kernel
theorem dX7_tellUnder_15 : decode cX7_tellUnder 15 = .ok (.getfield 19, 3) := by decide +kernel
theorem dX7_tellUnder_18 : decode cX7_tellUnder 18 = .ok (.iload_n 1, 1) := by decide +kernel
theorem dX7_tellUnder_19 : decode cX7_tellUnder 19 = .ok (.invokevirtual 95, 3) := by decide +kernel
theorem dX7_tellUnder_22 : decode cX7_tellUnder 22 = .ok (.ireturn, 1) := by decide +kernel
theorem dX7_under_0 : decode cX7_under 0 = .ok (.iload_n 1, 1) := by decide +kernel
theorem dX7_under_1 : decode cX7_under 1 = .ok (.invokestatic 99, 3) := by decide +kernel
theorem dX7_under_4 : decode cX7_under 4 = .ok (.ifCond .ne 6, 3) := by decide +kernel
theorem dX7_under_7 : decode cX7_under 7 = .ok (.bipush (-101), 2) := by decide +kernel
theorem dX7_under_9 : decode cX7_under 9 = .ok (.ireturn, 1) := by decide +kernel
theorem dX7_under_10 : decode cX7_under 10 = .ok (.iload_n 2, 1) := by decide +kernel
theorem dX7_under_11 : decode cX7_under 11 = .ok (.i2l, 1) := by decide +kernel
theorem dX7_under_12 : decode cX7_under 12 = .ok (.lconst 0, 1) := by decide +kernel
theorem dX7_under_13 : decode cX7_under 13 = .ok (.lconst 1, 1) := by decide +kernel
theorem dX7_under_14 : decode cX7_under 14 = .ok (.invokestatic 61, 3) := by decide +kernel
theorem dX7_under_17 : decode cX7_under 17 = .ok (.ifCond .eq 12, 3) := by decide +kernel
theorem dX7_under_20 : decode cX7_under 20 = .ok (.aload_n 0, 1) := by decide +kernel
theorem dX7_under_21 : decode cX7_under 21 = .ok (.iload_n 1, 1) := by decide +kernel
theorem dX7_under_22 : decode cX7_under 22 = .ok (.iload_n 2, 1) := by decide +kernel
theorem dX7_under_23 : decode cX7_under 23 = .ok (.invokevirtual 103, 3) := by decide +kernel
theorem dX7_under_26 : decode cX7_under 26 = .ok (.goto 5, 3) := by decide +kernel
theorem dX7_under_29 : decode cX7_under 29 = .ok (.bipush (-102), 2) := by decide +kernel
theorem dX7_under_31 : decode cX7_under 31 = .ok (.ireturn, 1) := by decide +kernel
theorem dX7_file_0 : decode cX7_file 0 = .ok (.iload_n 1, 1) := by decide +kernel
theorem dX7_file_1 : decode cX7_file 1 = .ok (.i2l, 1) := by decide +kernel
theorem dX7_file_2 : decode cX7_file 2 = .ok (.lconst 0, 1) := by decide +kernel
theorem dX7_file_3 : decode cX7_file 3 = .ok (.ldc2_w 107, 3) := by decide +kernel
theorem dX7_file_6 : decode cX7_file 6 = .ok (.invokestatic 61, 3) := by decide +kernel
theorem dX7_file_9 : decode cX7_file 9 = .ok (.ifCond .ne 6, 3) := by decide +kernel
theorem dX7_file_12 : decode cX7_file 12 = .ok (.bipush (-102), 2) := by decide +kernel
theorem dX7_file_14 : decode cX7_file 14 = .ok (.ireturn, 1) := by decide +kernel
theorem dX7_file_15 : decode cX7_file 15 = .ok (.iload_n 2, 1) := by decide +kernel
theorem dX7_file_16 : decode cX7_file 16 = .ok (.invokestatic 99, 3) := by decide +kernel
theorem dX7_file_19 : decode cX7_file 19 = .ok (.ifCond .ne 6, 3) := by decide +kernel
theorem dX7_file_22 : decode cX7_file 22 = .ok (.bipush (-101), 2) := by decide +kernel
theorem dX7_file_24 : decode cX7_file 24 = .ok (.ireturn, 1) := by decide +kernel
theorem dX7_file_25 : decode cX7_file 25 = .ok (.aload_n 0, 1) := by decide +kernel
theorem dX7_file_26 : decode cX7_file 26 = .ok (.invokevirtual 109, 3) := by decide +kernel
theorem dX7_file_29 : decode cX7_file 29 = .ok (.ifCond .ne 19, 3) := by decide +kernel
theorem dX7_file_32 : decode cX7_file 32 = .ok (.aload_n 0, 1) := by decide +kernel
theorem dX7_file_33 : decode cX7_file 33 = .ok (.aload_n 0, 1) := by decide +kernel
theorem dX7_file_34 : decode cX7_file 34 = .ok (.getfield 19, 3) := by decide +kernel
theorem dX7_file_37 : decode cX7_file 37 = .ok (.iload_n 2, 1) := by decide +kernel
theorem dX7_file_38 : decode cX7_file 38 = .ok (.invokevirtual 95, 3) := by decide +kernel
theorem dX7_file_41 : decode cX7_file 41 = .ok (.aload_n 0, 1) := by decide +kernel
theorem dX7_file_42 : decode cX7_file 42 = .ok (.getfield 78, 3) := by decide +kernel
theorem dX7_file_45 : decode cX7_file 45 = .ok (.if_icmp .lt 6, 3) := by decide +kernel
theorem dX7_file_48 : decode cX7_file 48 = .ok (.bipush (-103), 2) := by decide +kernel
theorem dX7_file_50 : decode cX7_file 50 = .ok (.ireturn, 1) := by decide +kernel
theorem dX7_file_51 : decode cX7_file 51 = .ok (.aload_n 0, 1) := by decide +kernel
theorem dX7_file_52 : decode cX7_file 52 = .ok (.getfield 81, 3) := by decide +kernel
theorem dX7_file_55 : decode cX7_file 55 = .ok (.iconst 5, 1) := by decide +kernel
theorem dX7_file_56 : decode cX7_file 56 = .ok (.if_icmp .ne 6, 3) := by decide +kernel
theorem dX7_file_59 : decode cX7_file 59 = .ok (.bipush (-104), 2) := by decide +kernel
theorem dX7_file_61 : decode cX7_file 61 = .ok (.ireturn, 1) := by decide +kernel
theorem dX7_file_62 : decode cX7_file 62 = .ok (.aload_n 0, 1) := by decide +kernel
theorem dX7_file_63 : decode cX7_file 63 = .ok (.getfield 16, 3) := by decide +kernel
theorem dX7_file_66 : decode cX7_file 66 = .ok (.iconst 2, 1) := by decide +kernel
theorem dX7_file_67 : decode cX7_file 67 = .ok (.aload_n 0, 1) := by decide +kernel
theorem dX7_file_68 : decode cX7_file 68 = .ok (.getfield 81, 3) := by decide +kernel
theorem dX7_file_71 : decode cX7_file 71 = .ok (.imul, 1) := by decide +kernel
theorem dX7_file_72 : decode cX7_file 72 = .ok (.iload_n 1, 1) := by decide +kernel
theorem dX7_file_73 : decode cX7_file 73 = .ok (.iastore, 1) := by decide +kernel
theorem dX7_file_74 : decode cX7_file 74 = .ok (.aload_n 0, 1) := by decide +kernel
theorem dX7_file_75 : decode cX7_file 75 = .ok (.getfield 16, 3) := by decide +kernel
theorem dX7_file_78 : decode cX7_file 78 = .ok (.iconst 2, 1) := by decide +kernel
theorem dX7_file_79 : decode cX7_file 79 = .ok (.aload_n 0, 1) := by decide +kernel
theorem dX7_file_80 : decode cX7_file 80 = .ok (.getfield 81, 3) := by decide +kernel
theorem dX7_file_83 : decode cX7_file 83 = .ok (.imul, 1) := by decide +kernel
theorem dX7_file_84 : decode cX7_file 84 = .ok (.iconst 1, 1) := by decide +kernel
theorem dX7_file_85 : decode cX7_file 85 = .ok (.iadd, 1) := by decide +kernel
theorem dX7_file_86 : decode cX7_file 86 = .ok (.iconst (-1), 1) := by decide +kernel
theorem dX7_file_87 : decode cX7_file 87 = .ok (.iastore, 1) := by decide +kernel
theorem dX7_file_88 : decode cX7_file 88 = .ok (.aload_n 0, 1) := by decide +kernel
theorem dX7_file_89 : decode cX7_file 89 = .ok (.getfield 19, 3) := by decide +kernel
theorem dX7_file_92 : decode cX7_file 92 = .ok (.aload_n 0, 1) := by decide +kernel
theorem dX7_file_93 : decode cX7_file 93 = .ok (.getfield 81, 3) := by decide +kernel
theorem dX7_file_96 : decode cX7_file 96 = .ok (.iconst 1, 1) := by decide +kernel
theorem dX7_file_97 : decode cX7_file 97 = .ok (.iload_n 2, 1) := by decide +kernel
theorem dX7_file_98 : decode cX7_file 98 = .ok (.ishl, 1) := by decide +kernel
theorem dX7_file_99 : decode cX7_file 99 = .ok (.iastore, 1) := by decide +kernel
theorem dX7_file_100 : decode cX7_file 100 = .ok (.aload_n 0, 1) := by decide +kernel
theorem dX7_file_101 : decode cX7_file 101 = .ok (.getfield 22, 3) := by decide +kernel
theorem dX7_file_104 : decode cX7_file 104 = .ok (.aload_n 0, 1) := by decide +kernel
theorem dX7_file_105 : decode cX7_file 105 = .ok (.getfield 81, 3) := by decide +kernel
theorem dX7_file_108 : decode cX7_file 108 = .ok (.iconst 0, 1) := by decide +kernel
theorem dX7_file_109 : decode cX7_file 109 = .ok (.iastore, 1) := by decide +kernel
theorem dX7_file_110 : decode cX7_file 110 = .ok (.aload_n 0, 1) := by decide +kernel
theorem dX7_file_111 : decode cX7_file 111 = .ok (.dup, 1) := by decide +kernel
theorem dX7_file_112 : decode cX7_file 112 = .ok (.getfield 81, 3) := by decide +kernel
theorem dX7_file_115 : decode cX7_file 115 = .ok (.iconst 1, 1) := by decide +kernel
theorem dX7_file_116 : decode cX7_file 116 = .ok (.iadd, 1) := by decide +kernel
theorem dX7_file_117 : decode cX7_file 117 = .ok (.putfield 81, 3) := by decide +kernel
theorem dX7_file_120 : decode cX7_file 120 = .ok (.aload_n 0, 1) := by decide +kernel
theorem dX7_file_121 : decode cX7_file 121 = .ok (.getfield 81, 3) := by decide +kernel
theorem dX7_file_124 : decode cX7_file 124 = .ok (.iconst 1, 1) := by decide +kernel
theorem dX7_file_125 : decode cX7_file 125 = .ok (.isub, 1) := by decide +kernel
theorem dX7_file_126 : decode cX7_file 126 = .ok (.ireturn, 1) := by decide +kernel
theorem dX7_namesOf_0 : decode cX7_namesOf 0 = .ok (.aload_n 0, 1) := by decide +kernel
theorem dX7_namesOf_1 : decode cX7_namesOf 1 = .ok (.getfield 16, 3) := by decide +kernel
theorem dX7_namesOf_4 : decode cX7_namesOf 4 = .ok (.iconst 2, 1) := by decide +kernel
theorem dX7_namesOf_5 : decode cX7_namesOf 5 = .ok (.iload_n 1, 1) := by decide +kernel
theorem dX7_namesOf_6 : decode cX7_namesOf 6 = .ok (.imul, 1) := by decide +kernel
theorem dX7_namesOf_7 : decode cX7_namesOf 7 = .ok (.iaload, 1) := by decide +kernel
theorem dX7_namesOf_8 : decode cX7_namesOf 8 = .ok (.istore_n 2, 1) := by decide +kernel
theorem dX7_namesOf_9 : decode cX7_namesOf 9 = .ok (.iload_n 2, 1) := by decide +kernel
theorem dX7_namesOf_10 : decode cX7_namesOf 10 = .ok (.iconst 1, 1) := by decide +kernel
theorem dX7_namesOf_11 : decode cX7_namesOf 11 = .ok (.if_icmp .ne 8, 3) := by decide +kernel
theorem dX7_namesOf_14 : decode cX7_namesOf 14 = .ok (.bipush 6, 2) := by decide +kernel
theorem dX7_namesOf_16 : decode cX7_namesOf 16 = .ok (.goto 13, 3) := by decide +kernel
theorem dX7_namesOf_19 : decode cX7_namesOf 19 = .ok (.iload_n 2, 1) := by decide +kernel
theorem dX7_namesOf_20 : decode cX7_namesOf 20 = .ok (.iconst 2, 1) := by decide +kernel
theorem dX7_namesOf_21 : decode cX7_namesOf 21 = .ok (.if_icmp .le 7, 3) := by decide +kernel
theorem dX7_namesOf_24 : decode cX7_namesOf 24 = .ok (.iconst 3, 1) := by decide +kernel
theorem dX7_namesOf_25 : decode cX7_namesOf 25 = .ok (.goto 4, 3) := by decide +kernel
theorem dX7_namesOf_28 : decode cX7_namesOf 28 = .ok (.iconst 2, 1) := by decide +kernel
theorem dX7_namesOf_29 : decode cX7_namesOf 29 = .ok (.ireturn, 1) := by decide +kernel
theorem dX7_tell_0 : decode cX7_tell 0 = .ok (.iload_n 2, 1) := by decide +kernel
theorem dX7_tell_1 : decode cX7_tell 1 = .ok (.tableswitch 94 0 5 #[39, 48, 55, 66, 73, 88], 39) := by decide +kernel
theorem dX7_tell_40 : decode cX7_tell 40 = .ok (.aload_n 0, 1) := by decide +kernel
theorem dX7_tell_41 : decode cX7_tell 41 = .ok (.getfield 16, 3) := by decide +kernel
theorem dX7_tell_44 : decode cX7_tell 44 = .ok (.iconst 2, 1) := by decide +kernel
theorem dX7_tell_45 : decode cX7_tell 45 = .ok (.iload_n 1, 1) := by decide +kernel
theorem dX7_tell_46 : decode cX7_tell 46 = .ok (.imul, 1) := by decide +kernel
theorem dX7_tell_47 : decode cX7_tell 47 = .ok (.iaload, 1) := by decide +kernel
theorem dX7_tell_48 : decode cX7_tell 48 = .ok (.ireturn, 1) := by decide +kernel
theorem dX7_tell_49 : decode cX7_tell 49 = .ok (.aload_n 0, 1) := by decide +kernel
theorem dX7_tell_50 : decode cX7_tell 50 = .ok (.getfield 19, 3) := by decide +kernel
theorem dX7_tell_53 : decode cX7_tell 53 = .ok (.iload_n 1, 1) := by decide +kernel
theorem dX7_tell_54 : decode cX7_tell 54 = .ok (.iaload, 1) := by decide +kernel
theorem dX7_tell_55 : decode cX7_tell 55 = .ok (.ireturn, 1) := by decide +kernel
theorem dX7_tell_56 : decode cX7_tell 56 = .ok (.aload_n 0, 1) := by decide +kernel
theorem dX7_tell_57 : decode cX7_tell 57 = .ok (.getfield 16, 3) := by decide +kernel
theorem dX7_tell_60 : decode cX7_tell 60 = .ok (.iconst 2, 1) := by decide +kernel
theorem dX7_tell_61 : decode cX7_tell 61 = .ok (.iload_n 1, 1) := by decide +kernel
theorem dX7_tell_62 : decode cX7_tell 62 = .ok (.imul, 1) := by decide +kernel
theorem dX7_tell_63 : decode cX7_tell 63 = .ok (.iconst 1, 1) := by decide +kernel
theorem dX7_tell_64 : decode cX7_tell 64 = .ok (.iadd, 1) := by decide +kernel
theorem dX7_tell_65 : decode cX7_tell 65 = .ok (.iaload, 1) := by decide +kernel
theorem dX7_tell_66 : decode cX7_tell 66 = .ok (.ireturn, 1) := by decide +kernel
theorem dX7_tell_67 : decode cX7_tell 67 = .ok (.aload_n 0, 1) := by decide +kernel
theorem dX7_tell_68 : decode cX7_tell 68 = .ok (.getfield 22, 3) := by decide +kernel
theorem dX7_tell_71 : decode cX7_tell 71 = .ok (.iload_n 1, 1) := by decide +kernel
theorem dX7_tell_72 : decode cX7_tell 72 = .ok (.iaload, 1) := by decide +kernel
theorem dX7_tell_73 : decode cX7_tell 73 = .ok (.ireturn, 1) := by decide +kernel
theorem dX7_tell_74 : decode cX7_tell 74 = .ok (.aload_n 0, 1) := by decide +kernel
theorem dX7_tell_75 : decode cX7_tell 75 = .ok (.getfield 19, 3) := by decide +kernel
theorem dX7_tell_78 : decode cX7_tell 78 = .ok (.iload_n 1, 1) := by decide +kernel
theorem dX7_tell_79 : decode cX7_tell 79 = .ok (.iaload, 1) := by decide +kernel
theorem dX7_tell_80 : decode cX7_tell 80 = .ok (.ifCond .ne 7, 3) := by decide +kernel
theorem dX7_tell_83 : decode cX7_tell 83 = .ok (.iconst 0, 1) := by decide +kernel
theorem dX7_tell_84 : decode cX7_tell 84 = .ok (.goto 4, 3) := by decide +kernel
theorem dX7_tell_87 : decode cX7_tell 87 = .ok (.iconst 1, 1) := by decide +kernel
theorem dX7_tell_88 : decode cX7_tell 88 = .ok (.ireturn, 1) := by decide +kernel
theorem dX7_tell_89 : decode cX7_tell 89 = .ok (.aload_n 0, 1) := by decide +kernel
theorem dX7_tell_90 : decode cX7_tell 90 = .ok (.iload_n 1, 1) := by decide +kernel
theorem dX7_tell_91 : decode cX7_tell 91 = .ok (.invokevirtual 113, 3) := by decide +kernel
theorem dX7_tell_94 : decode cX7_tell 94 = .ok (.ireturn, 1) := by decide +kernel
theorem dX7_tell_95 : decode cX7_tell 95 = .ok (.bipush (-102), 2) := by decide +kernel
theorem dX7_tell_97 : decode cX7_tell 97 = .ok (.ireturn, 1) := by decide +kernel
theorem dX7_about_0 : decode cX7_about 0 = .ok (.aload_n 0, 1) := by decide +kernel
theorem dX7_about_1 : decode cX7_about 1 = .ok (.iload_n 1, 1) := by decide +kernel
theorem dX7_about_2 : decode cX7_about 2 = .ok (.invokevirtual 117, 3) := by decide +kernel
theorem dX7_about_5 : decode cX7_about 5 = .ok (.ifCond .eq 12, 3) := by decide +kernel
theorem dX7_about_8 : decode cX7_about 8 = .ok (.aload_n 0, 1) := by decide +kernel
theorem dX7_about_9 : decode cX7_about 9 = .ok (.iload_n 1, 1) := by decide +kernel
theorem dX7_about_10 : decode cX7_about 10 = .ok (.iload_n 2, 1) := by decide +kernel
theorem dX7_about_11 : decode cX7_about 11 = .ok (.invokevirtual 120, 3) := by decide +kernel
theorem dX7_about_14 : decode cX7_about 14 = .ok (.goto 5, 3) := by decide +kernel
theorem dX7_about_17 : decode cX7_about 17 = .ok (.bipush (-101), 2) := by decide +kernel
theorem dX7_about_19 : decode cX7_about 19 = .ok (.ireturn, 1) := by decide +kernel
theorem dX7_as_0 : decode cX7_as 0 = .ok (.aload_n 0, 1) := by decide +kernel
theorem dX7_as_1 : decode cX7_as 1 = .ok (.iload_n 1, 1) := by decide +kernel
theorem dX7_as_2 : decode cX7_as 2 = .ok (.invokevirtual 117, 3) := by decide +kernel
theorem dX7_as_5 : decode cX7_as 5 = .ok (.ifCond .ne 6, 3) := by decide +kernel
theorem dX7_as_8 : decode cX7_as 8 = .ok (.bipush (-101), 2) := by decide +kernel
theorem dX7_as_10 : decode cX7_as 10 = .ok (.ireturn, 1) := by decide +kernel
theorem dX7_as_11 : decode cX7_as 11 = .ok (.iload_n 2, 1) := by decide +kernel
theorem dX7_as_12 : decode cX7_as 12 = .ok (.i2l, 1) := by decide +kernel
theorem dX7_as_13 : decode cX7_as 13 = .ok (.lconst 0, 1) := by decide +kernel
theorem dX7_as_14 : decode cX7_as 14 = .ok (.ldc2_w 107, 3) := by decide +kernel
theorem dX7_as_17 : decode cX7_as 17 = .ok (.invokestatic 61, 3) := by decide +kernel
theorem dX7_as_20 : decode cX7_as 20 = .ok (.ifCond .ne 6, 3) := by decide +kernel
theorem dX7_as_23 : decode cX7_as 23 = .ok (.bipush (-102), 2) := by decide +kernel
theorem dX7_as_25 : decode cX7_as 25 = .ok (.ireturn, 1) := by decide +kernel
theorem dX7_as_26 : decode cX7_as 26 = .ok (.aload_n 0, 1) := by decide +kernel
theorem dX7_as_27 : decode cX7_as 27 = .ok (.getfield 16, 3) := by decide +kernel
theorem dX7_as_30 : decode cX7_as 30 = .ok (.iconst 2, 1) := by decide +kernel
theorem dX7_as_31 : decode cX7_as 31 = .ok (.iload_n 1, 1) := by decide +kernel
theorem dX7_as_32 : decode cX7_as 32 = .ok (.imul, 1) := by decide +kernel
theorem dX7_as_33 : decode cX7_as 33 = .ok (.iaload, 1) := by decide +kernel
theorem dX7_as_34 : decode cX7_as 34 = .ok (.istore_n 3, 1) := by decide +kernel
theorem dX7_as_35 : decode cX7_as 35 = .ok (.iload_n 2, 1) := by decide +kernel
theorem dX7_as_36 : decode cX7_as 36 = .ok (.ifCond .eq 18, 3) := by decide +kernel
theorem dX7_as_39 : decode cX7_as 39 = .ok (.iload_n 2, 1) := by decide +kernel
theorem dX7_as_40 : decode cX7_as 40 = .ok (.iload_n 3, 1) := by decide +kernel
theorem dX7_as_41 : decode cX7_as 41 = .ok (.if_icmp .eq 13, 3) := by decide +kernel
theorem dX7_as_44 : decode cX7_as 44 = .ok (.iload_n 2, 1) := by decide +kernel
theorem dX7_as_45 : decode cX7_as 45 = .ok (.iconst 3, 1) := by decide +kernel
theorem dX7_as_46 : decode cX7_as 46 = .ok (.if_icmp .ne 12, 3) := by decide +kernel
theorem dX7_as_49 : decode cX7_as 49 = .ok (.iload_n 3, 1) := by decide +kernel
theorem dX7_as_50 : decode cX7_as 50 = .ok (.iconst 4, 1) := by decide +kernel
theorem dX7_as_51 : decode cX7_as 51 = .ok (.if_icmp .ne 7, 3) := by decide +kernel
theorem dX7_as_54 : decode cX7_as 54 = .ok (.iconst 1, 1) := by decide +kernel
theorem dX7_as_55 : decode cX7_as 55 = .ok (.goto 4, 3) := by decide +kernel
theorem dX7_as_58 : decode cX7_as 58 = .ok (.iconst 0, 1) := by decide +kernel
theorem dX7_as_59 : decode cX7_as 59 = .ok (.istore 4, 2) := by decide +kernel
theorem dX7_as_61 : decode cX7_as 61 = .ok (.iload 4, 2) := by decide +kernel
theorem dX7_as_63 : decode cX7_as 63 = .ok (.ifCond .eq 7, 3) := by decide +kernel
theorem dX7_as_66 : decode cX7_as 66 = .ok (.iload_n 1, 1) := by decide +kernel
theorem dX7_as_67 : decode cX7_as 67 = .ok (.goto 4, 3) := by decide +kernel
theorem dX7_as_70 : decode cX7_as 70 = .ok (.iconst (-1), 1) := by decide +kernel
theorem dX7_as_71 : decode cX7_as 71 = .ok (.ireturn, 1) := by decide +kernel
theorem dX7_mayCopy_0 : decode cX7_mayCopy 0 = .ok (.aload_n 0, 1) := by decide +kernel
theorem dX7_mayCopy_1 : decode cX7_mayCopy 1 = .ok (.getfield 19, 3) := by decide +kernel
theorem dX7_mayCopy_4 : decode cX7_mayCopy 4 = .ok (.iload_n 1, 1) := by decide +kernel
theorem dX7_mayCopy_5 : decode cX7_mayCopy 5 = .ok (.iaload, 1) := by decide +kernel
theorem dX7_mayCopy_6 : decode cX7_mayCopy 6 = .ok (.istore_n 3, 1) := by decide +kernel
theorem dX7_mayCopy_7 : decode cX7_mayCopy 7 = .ok (.iload_n 3, 1) := by decide +kernel
theorem dX7_mayCopy_8 : decode cX7_mayCopy 8 = .ok (.ifCond .eq 43, 3) := by decide +kernel
theorem dX7_mayCopy_11 : decode cX7_mayCopy 11 = .ok (.iload_n 3, 1) := by decide +kernel
theorem dX7_mayCopy_12 : decode cX7_mayCopy 12 = .ok (.iload_n 2, 1) := by decide +kernel
theorem dX7_mayCopy_13 : decode cX7_mayCopy 13 = .ok (.ishr, 1) := by decide +kernel
theorem dX7_mayCopy_14 : decode cX7_mayCopy 14 = .ok (.iconst 1, 1) := by decide +kernel
theorem dX7_mayCopy_15 : decode cX7_mayCopy 15 = .ok (.iand, 1) := by decide +kernel
theorem dX7_mayCopy_16 : decode cX7_mayCopy 16 = .ok (.ifCond .ne 35, 3) := by decide +kernel
theorem dX7_mayCopy_19 : decode cX7_mayCopy 19 = .ok (.iload_n 3, 1) := by decide +kernel
theorem dX7_mayCopy_20 : decode cX7_mayCopy 20 = .ok (.invokestatic 123, 3) := by decide +kernel
theorem dX7_mayCopy_23 : decode cX7_mayCopy 23 = .ok (.aload_n 0, 1) := by decide +kernel
theorem dX7_mayCopy_24 : decode cX7_mayCopy 24 = .ok (.iload_n 1, 1) := by decide +kernel
theorem dX7_mayCopy_25 : decode cX7_mayCopy 25 = .ok (.invokevirtual 113, 3) := by decide +kernel
theorem dX7_mayCopy_28 : decode cX7_mayCopy 28 = .ok (.if_icmp .ge 23, 3) := by decide +kernel
theorem dX7_mayCopy_31 : decode cX7_mayCopy 31 = .ok (.aload_n 0, 1) := by decide +kernel
theorem dX7_mayCopy_32 : decode cX7_mayCopy 32 = .ok (.aload_n 0, 1) := by decide +kernel
theorem dX7_mayCopy_33 : decode cX7_mayCopy 33 = .ok (.getfield 19, 3) := by decide +kernel
theorem dX7_mayCopy_36 : decode cX7_mayCopy 36 = .ok (.iload_n 2, 1) := by decide +kernel
theorem dX7_mayCopy_37 : decode cX7_mayCopy 37 = .ok (.invokevirtual 95, 3) := by decide +kernel
theorem dX7_mayCopy_40 : decode cX7_mayCopy 40 = .ok (.aload_n 0, 1) := by decide +kernel
theorem dX7_mayCopy_41 : decode cX7_mayCopy 41 = .ok (.getfield 78, 3) := by decide +kernel
theorem dX7_mayCopy_44 : decode cX7_mayCopy 44 = .ok (.if_icmp .ge 7, 3) := by decide +kernel
theorem dX7_mayCopy_47 : decode cX7_mayCopy 47 = .ok (.iconst 1, 1) := by decide +kernel
theorem dX7_mayCopy_48 : decode cX7_mayCopy 48 = .ok (.goto 4, 3) := by decide +kernel
theorem dX7_mayCopy_51 : decode cX7_mayCopy 51 = .ok (.iconst 0, 1) := by decide +kernel
theorem dX7_mayCopy_52 : decode cX7_mayCopy 52 = .ok (.ireturn, 1) := by decide +kernel
theorem dX7_copy_0 : decode cX7_copy 0 = .ok (.aload_n 0, 1) := by decide +kernel
theorem dX7_copy_1 : decode cX7_copy 1 = .ok (.iload_n 1, 1) := by decide +kernel
theorem dX7_copy_2 : decode cX7_copy 2 = .ok (.invokevirtual 117, 3) := by decide +kernel
theorem dX7_copy_5 : decode cX7_copy 5 = .ok (.ifCond .eq 10, 3) := by decide +kernel
theorem dX7_copy_8 : decode cX7_copy 8 = .ok (.iload_n 2, 1) := by decide +kernel
theorem dX7_copy_9 : decode cX7_copy 9 = .ok (.invokestatic 99, 3) := by decide +kernel
theorem dX7_copy_12 : decode cX7_copy 12 = .ok (.ifCond .ne 6, 3) := by decide +kernel
theorem dX7_copy_15 : decode cX7_copy 15 = .ok (.bipush (-101), 2) := by decide +kernel
theorem dX7_copy_17 : decode cX7_copy 17 = .ok (.ireturn, 1) := by decide +kernel
theorem dX7_copy_18 : decode cX7_copy 18 = .ok (.aload_n 0, 1) := by decide +kernel
theorem dX7_copy_19 : decode cX7_copy 19 = .ok (.iload_n 1, 1) := by decide +kernel
theorem dX7_copy_20 : decode cX7_copy 20 = .ok (.iload_n 2, 1) := by decide +kernel
theorem dX7_copy_21 : decode cX7_copy 21 = .ok (.invokevirtual 126, 3) := by decide +kernel
theorem dX7_copy_24 : decode cX7_copy 24 = .ok (.ifCond .ne 6, 3) := by decide +kernel
theorem dX7_copy_27 : decode cX7_copy 27 = .ok (.bipush (-103), 2) := by decide +kernel
theorem dX7_copy_29 : decode cX7_copy 29 = .ok (.ireturn, 1) := by decide +kernel
theorem dX7_copy_30 : decode cX7_copy 30 = .ok (.aload_n 0, 1) := by decide +kernel
theorem dX7_copy_31 : decode cX7_copy 31 = .ok (.getfield 19, 3) := by decide +kernel
theorem dX7_copy_34 : decode cX7_copy 34 = .ok (.iload_n 1, 1) := by decide +kernel
theorem dX7_copy_35 : decode cX7_copy 35 = .ok (.dup2, 1) := by decide +kernel
theorem dX7_copy_36 : decode cX7_copy 36 = .ok (.iaload, 1) := by decide +kernel
theorem dX7_copy_37 : decode cX7_copy 37 = .ok (.iconst 1, 1) := by decide +kernel
theorem dX7_copy_38 : decode cX7_copy 38 = .ok (.iload_n 2, 1) := by decide +kernel
theorem dX7_copy_39 : decode cX7_copy 39 = .ok (.ishl, 1) := by decide +kernel
theorem dX7_copy_40 : decode cX7_copy 40 = .ok (.ior, 1) := by decide +kernel
theorem dX7_copy_41 : decode cX7_copy 41 = .ok (.iastore, 1) := by decide +kernel
theorem dX7_copy_42 : decode cX7_copy 42 = .ok (.aload_n 0, 1) := by decide +kernel
theorem dX7_copy_43 : decode cX7_copy 43 = .ok (.getfield 19, 3) := by decide +kernel
theorem dX7_copy_46 : decode cX7_copy 46 = .ok (.iload_n 1, 1) := by decide +kernel
theorem dX7_copy_47 : decode cX7_copy 47 = .ok (.iaload, 1) := by decide +kernel
theorem dX7_copy_48 : decode cX7_copy 48 = .ok (.invokestatic 123, 3) := by decide +kernel
theorem dX7_copy_51 : decode cX7_copy 51 = .ok (.ireturn, 1) := by decide +kernel
theorem dX7_mayRename_0 : decode cX7_mayRename 0 = .ok (.aload_n 1, 1) := by decide +kernel
theorem dX7_mayRename_1 : decode cX7_mayRename 1 = .ok (.iload_n 2, 1) := by decide +kernel
theorem dX7_mayRename_2 : decode cX7_mayRename 2 = .ok (.iaload, 1) := by decide +kernel
theorem dX7_mayRename_3 : decode cX7_mayRename 3 = .ok (.iload_n 3, 1) := by decide +kernel
theorem dX7_mayRename_4 : decode cX7_mayRename 4 = .ok (.ishr, 1) := by decide +kernel
theorem dX7_mayRename_5 : decode cX7_mayRename 5 = .ok (.iconst 1, 1) := by decide +kernel
theorem dX7_mayRename_6 : decode cX7_mayRename 6 = .ok (.iand, 1) := by decide +kernel
theorem dX7_mayRename_7 : decode cX7_mayRename 7 = .ok (.iconst 1, 1) := by decide +kernel
theorem dX7_mayRename_8 : decode cX7_mayRename 8 = .ok (.if_icmp .ne 32, 3) := by decide +kernel
theorem dX7_mayRename_11 : decode cX7_mayRename 11 = .ok (.aload_n 1, 1) := by decide +kernel
theorem dX7_mayRename_12 : decode cX7_mayRename 12 = .ok (.iload_n 2, 1) := by decide +kernel
theorem dX7_mayRename_13 : decode cX7_mayRename 13 = .ok (.iaload, 1) := by decide +kernel
theorem dX7_mayRename_14 : decode cX7_mayRename 14 = .ok (.iload 4, 2) := by decide +kernel
theorem dX7_mayRename_16 : decode cX7_mayRename 16 = .ok (.ishr, 1) := by decide +kernel
theorem dX7_mayRename_17 : decode cX7_mayRename 17 = .ok (.iconst 1, 1) := by decide +kernel
theorem dX7_mayRename_18 : decode cX7_mayRename 18 = .ok (.iand, 1) := by decide +kernel
theorem dX7_mayRename_19 : decode cX7_mayRename 19 = .ok (.ifCond .ne 21, 3) := by decide +kernel
theorem dX7_mayRename_22 : decode cX7_mayRename 22 = .ok (.aload_n 0, 1) := by decide +kernel
theorem dX7_mayRename_23 : decode cX7_mayRename 23 = .ok (.aload_n 1, 1) := by decide +kernel
theorem dX7_mayRename_24 : decode cX7_mayRename 24 = .ok (.iload 4, 2) := by decide +kernel
theorem dX7_mayRename_26 : decode cX7_mayRename 26 = .ok (.invokevirtual 95, 3) := by decide +kernel
theorem dX7_mayRename_29 : decode cX7_mayRename 29 = .ok (.aload_n 0, 1) := by decide +kernel
theorem dX7_mayRename_30 : decode cX7_mayRename 30 = .ok (.getfield 78, 3) := by decide +kernel
theorem dX7_mayRename_33 : decode cX7_mayRename 33 = .ok (.if_icmp .ge 7, 3) := by decide +kernel
theorem dX7_mayRename_36 : decode cX7_mayRename 36 = .ok (.iconst 1, 1) := by decide +kernel
theorem dX7_mayRename_37 : decode cX7_mayRename 37 = .ok (.goto 4, 3) := by decide +kernel
theorem dX7_mayRename_40 : decode cX7_mayRename 40 = .ok (.iconst 0, 1) := by decide +kernel
theorem dX7_mayRename_41 : decode cX7_mayRename 41 = .ok (.ireturn, 1) := by decide +kernel
theorem dX7_rename_0 : decode cX7_rename 0 = .ok (.aload_n 0, 1) := by decide +kernel
theorem dX7_rename_1 : decode cX7_rename 1 = .ok (.iload_n 1, 1) := by decide +kernel
theorem dX7_rename_2 : decode cX7_rename 2 = .ok (.invokevirtual 117, 3) := by decide +kernel
theorem dX7_rename_5 : decode cX7_rename 5 = .ok (.ifCond .eq 22, 3) := by decide +kernel
theorem dX7_rename_8 : decode cX7_rename 8 = .ok (.iload_n 2, 1) := by decide +kernel
theorem dX7_rename_9 : decode cX7_rename 9 = .ok (.invokestatic 99, 3) := by decide +kernel
theorem dX7_rename_12 : decode cX7_rename 12 = .ok (.ifCond .eq 15, 3) := by decide +kernel
theorem dX7_rename_15 : decode cX7_rename 15 = .ok (.iload_n 3, 1) := by decide +kernel
theorem dX7_rename_16 : decode cX7_rename 16 = .ok (.invokestatic 99, 3) := by decide +kernel
theorem dX7_rename_19 : decode cX7_rename 19 = .ok (.ifCond .eq 8, 3) := by decide +kernel
theorem dX7_rename_22 : decode cX7_rename 22 = .ok (.iload_n 2, 1) := by decide +kernel
theorem dX7_rename_23 : decode cX7_rename 23 = .ok (.iload_n 3, 1) := by decide +kernel
theorem dX7_rename_24 : decode cX7_rename 24 = .ok (.if_icmp .ne 6, 3) := by decide +kernel
theorem dX7_rename_27 : decode cX7_rename 27 = .ok (.bipush (-101), 2) := by decide +kernel
theorem dX7_rename_29 : decode cX7_rename 29 = .ok (.ireturn, 1) := by decide +kernel
theorem dX7_rename_30 : decode cX7_rename 30 = .ok (.aload_n 0, 1) := by decide +kernel
theorem dX7_rename_31 : decode cX7_rename 31 = .ok (.aload_n 0, 1) := by decide +kernel
theorem dX7_rename_32 : decode cX7_rename 32 = .ok (.getfield 19, 3) := by decide +kernel
theorem dX7_rename_35 : decode cX7_rename 35 = .ok (.iload_n 1, 1) := by decide +kernel
theorem dX7_rename_36 : decode cX7_rename 36 = .ok (.iload_n 2, 1) := by decide +kernel
theorem dX7_rename_37 : decode cX7_rename 37 = .ok (.iload_n 3, 1) := by decide +kernel
theorem dX7_rename_38 : decode cX7_rename 38 = .ok (.invokevirtual 130, 3) := by decide +kernel
theorem dX7_rename_41 : decode cX7_rename 41 = .ok (.ifCond .ne 6, 3) := by decide +kernel
theorem dX7_rename_44 : decode cX7_rename 44 = .ok (.bipush (-103), 2) := by decide +kernel
theorem dX7_rename_46 : decode cX7_rename 46 = .ok (.ireturn, 1) := by decide +kernel
theorem dX7_rename_47 : decode cX7_rename 47 = .ok (.aload_n 0, 1) := by decide +kernel
theorem dX7_rename_48 : decode cX7_rename 48 = .ok (.getfield 19, 3) := by decide +kernel
theorem dX7_rename_51 : decode cX7_rename 51 = .ok (.iload_n 1, 1) := by decide +kernel
theorem dX7_rename_52 : decode cX7_rename 52 = .ok (.aload_n 0, 1) := by decide +kernel
theorem dX7_rename_53 : decode cX7_rename 53 = .ok (.getfield 19, 3) := by decide +kernel
theorem dX7_rename_56 : decode cX7_rename 56 = .ok (.iload_n 1, 1) := by decide +kernel
theorem dX7_rename_57 : decode cX7_rename 57 = .ok (.iaload, 1) := by decide +kernel
theorem dX7_rename_58 : decode cX7_rename 58 = .ok (.iconst 1, 1) := by decide +kernel
theorem dX7_rename_59 : decode cX7_rename 59 = .ok (.iload_n 2, 1) := by decide +kernel
theorem dX7_rename_60 : decode cX7_rename 60 = .ok (.ishl, 1) := by decide +kernel
theorem dX7_rename_61 : decode cX7_rename 61 = .ok (.iconst (-1), 1) := by decide +kernel
theorem dX7_rename_62 : decode cX7_rename 62 = .ok (.ixor, 1) := by decide +kernel
theorem dX7_rename_63 : decode cX7_rename 63 = .ok (.iand, 1) := by decide +kernel
theorem dX7_rename_64 : decode cX7_rename 64 = .ok (.iconst 1, 1) := by decide +kernel
theorem dX7_rename_65 : decode cX7_rename 65 = .ok (.iload_n 3, 1) := by decide +kernel
theorem dX7_rename_66 : decode cX7_rename 66 = .ok (.ishl, 1) := by decide +kernel
theorem dX7_rename_67 : decode cX7_rename 67 = .ok (.ior, 1) := by decide +kernel
theorem dX7_rename_68 : decode cX7_rename 68 = .ok (.iastore, 1) := by decide +kernel
theorem dX7_rename_69 : decode cX7_rename 69 = .ok (.aload_n 0, 1) := by decide +kernel
theorem dX7_rename_70 : decode cX7_rename 70 = .ok (.aload_n 0, 1) := by decide +kernel
theorem dX7_rename_71 : decode cX7_rename 71 = .ok (.getfield 19, 3) := by decide +kernel
theorem dX7_rename_74 : decode cX7_rename 74 = .ok (.iload_n 3, 1) := by decide +kernel
theorem dX7_rename_75 : decode cX7_rename 75 = .ok (.invokevirtual 95, 3) := by decide +kernel
theorem dX7_rename_78 : decode cX7_rename 78 = .ok (.ireturn, 1) := by decide +kernel
theorem dX7_point_0 : decode cX7_point 0 = .ok (.aload_n 0, 1) := by decide +kernel
theorem dX7_point_1 : decode cX7_point 1 = .ok (.iload_n 1, 1) := by decide +kernel
theorem dX7_point_2 : decode cX7_point 2 = .ok (.invokevirtual 117, 3) := by decide +kernel
theorem dX7_point_5 : decode cX7_point 5 = .ok (.ifCond .eq 21, 3) := by decide +kernel
theorem dX7_point_8 : decode cX7_point 8 = .ok (.iload_n 2, 1) := by decide +kernel
theorem dX7_point_9 : decode cX7_point 9 = .ok (.iconst (-1), 1) := by decide +kernel
theorem dX7_point_10 : decode cX7_point 10 = .ok (.if_icmp .eq 11, 3) := by decide +kernel
theorem dX7_point_13 : decode cX7_point 13 = .ok (.aload_n 0, 1) := by decide +kernel
theorem dX7_point_14 : decode cX7_point 14 = .ok (.iload_n 2, 1) := by decide +kernel
theorem dX7_point_15 : decode cX7_point 15 = .ok (.invokevirtual 117, 3) := by decide +kernel
theorem dX7_point_18 : decode cX7_point 18 = .ok (.ifCond .eq 8, 3) := by decide +kernel
theorem dX7_point_21 : decode cX7_point 21 = .ok (.iload_n 1, 1) := by decide +kernel
theorem dX7_point_22 : decode cX7_point 22 = .ok (.iload_n 2, 1) := by decide +kernel
theorem dX7_point_23 : decode cX7_point 23 = .ok (.if_icmp .ne 6, 3) := by decide +kernel
theorem dX7_point_26 : decode cX7_point 26 = .ok (.bipush (-101), 2) := by decide +kernel
theorem dX7_point_28 : decode cX7_point 28 = .ok (.ireturn, 1) := by decide +kernel
theorem dX7_point_29 : decode cX7_point 29 = .ok (.aload_n 0, 1) := by decide +kernel
theorem dX7_point_30 : decode cX7_point 30 = .ok (.getfield 19, 3) := by decide +kernel
theorem dX7_point_33 : decode cX7_point 33 = .ok (.iload_n 1, 1) := by decide +kernel
theorem dX7_point_34 : decode cX7_point 34 = .ok (.iaload, 1) := by decide +kernel
theorem dX7_point_35 : decode cX7_point 35 = .ok (.ifCond .ne 6, 3) := by decide +kernel
theorem dX7_point_38 : decode cX7_point 38 = .ok (.bipush (-103), 2) := by decide +kernel
theorem dX7_point_40 : decode cX7_point 40 = .ok (.ireturn, 1) := by decide +kernel
theorem dX7_point_41 : decode cX7_point 41 = .ok (.aload_n 0, 1) := by decide +kernel
theorem dX7_point_42 : decode cX7_point 42 = .ok (.getfield 16, 3) := by decide +kernel
theorem dX7_point_45 : decode cX7_point 45 = .ok (.iconst 2, 1) := by decide +kernel
theorem dX7_point_46 : decode cX7_point 46 = .ok (.iload_n 1, 1) := by decide +kernel
theorem dX7_point_47 : decode cX7_point 47 = .ok (.imul, 1) := by decide +kernel
theorem dX7_point_48 : decode cX7_point 48 = .ok (.iconst 1, 1) := by decide +kernel
theorem dX7_point_49 : decode cX7_point 49 = .ok (.iadd, 1) := by decide +kernel
theorem dX7_point_50 : decode cX7_point 50 = .ok (.iaload, 1) := by decide +kernel
theorem dX7_point_51 : decode cX7_point 51 = .ok (.istore_n 3, 1) := by decide +kernel
theorem dX7_point_52 : decode cX7_point 52 = .ok (.aload_n 0, 1) := by decide +kernel
theorem dX7_point_53 : decode cX7_point 53 = .ok (.getfield 16, 3) := by decide +kernel
theorem dX7_point_56 : decode cX7_point 56 = .ok (.iconst 2, 1) := by decide +kernel
theorem dX7_point_57 : decode cX7_point 57 = .ok (.iload_n 1, 1) := by decide +kernel
theorem dX7_point_58 : decode cX7_point 58 = .ok (.imul, 1) := by decide +kernel
theorem dX7_point_59 : decode cX7_point 59 = .ok (.iconst 1, 1) := by decide +kernel
theorem dX7_point_60 : decode cX7_point 60 = .ok (.iadd, 1) := by decide +kernel
theorem dX7_point_61 : decode cX7_point 61 = .ok (.iload_n 2, 1) := by decide +kernel
theorem dX7_point_62 : decode cX7_point 62 = .ok (.iastore, 1) := by decide +kernel
theorem dX7_point_63 : decode cX7_point 63 = .ok (.iload_n 3, 1) := by decide +kernel
theorem dX7_point_64 : decode cX7_point 64 = .ok (.ireturn, 1) := by decide +kernel
theorem dX7_asItIs_0 : decode cX7_asItIs 0 = .ok (.iconst 0, 1) := by decide +kernel
theorem dX7_asItIs_1 : decode cX7_asItIs 1 = .ok (.istore_n 1, 1) := by decide +kernel
theorem dX7_asItIs_2 : decode cX7_asItIs 2 = .ok (.iload_n 1, 1) := by decide +kernel
theorem dX7_asItIs_3 : decode cX7_asItIs 3 = .ok (.iconst 5, 1) := by decide +kernel
theorem dX7_asItIs_4 : decode cX7_asItIs 4 = .ok (.if_icmp .ge 33, 3) := by decide +kernel
theorem dX7_asItIs_7 : decode cX7_asItIs 7 = .ok (.aload_n 0, 1) := by decide +kernel
theorem dX7_asItIs_8 : decode cX7_asItIs 8 = .ok (.getfield 25, 3) := by decide +kernel
theorem dX7_asItIs_11 : decode cX7_asItIs 11 = .ok (.iload_n 1, 1) := by decide +kernel
theorem dX7_asItIs_12 : decode cX7_asItIs 12 = .ok (.aload_n 0, 1) := by decide +kernel
theorem dX7_asItIs_13 : decode cX7_asItIs 13 = .ok (.getfield 19, 3) := by decide +kernel
theorem dX7_asItIs_16 : decode cX7_asItIs 16 = .ok (.iload_n 1, 1) := by decide +kernel
theorem dX7_asItIs_17 : decode cX7_asItIs 17 = .ok (.iaload, 1) := by decide +kernel
theorem dX7_asItIs_18 : decode cX7_asItIs 18 = .ok (.iastore, 1) := by decide +kernel
theorem dX7_asItIs_19 : decode cX7_asItIs 19 = .ok (.aload_n 0, 1) := by decide +kernel
theorem dX7_asItIs_20 : decode cX7_asItIs 20 = .ok (.getfield 28, 3) := by decide +kernel
theorem dX7_asItIs_23 : decode cX7_asItIs 23 = .ok (.iload_n 1, 1) := by decide +kernel
theorem dX7_asItIs_24 : decode cX7_asItIs 24 = .ok (.aload_n 0, 1) := by decide +kernel
theorem dX7_asItIs_25 : decode cX7_asItIs 25 = .ok (.getfield 22, 3) := by decide +kernel
theorem dX7_asItIs_28 : decode cX7_asItIs 28 = .ok (.iload_n 1, 1) := by decide +kernel
theorem dX7_asItIs_29 : decode cX7_asItIs 29 = .ok (.iaload, 1) := by decide +kernel
theorem dX7_asItIs_30 : decode cX7_asItIs 30 = .ok (.iastore, 1) := by decide +kernel
theorem dX7_asItIs_31 : decode cX7_asItIs 31 = .ok (.iinc 1 1, 3) := by decide +kernel
theorem dX7_asItIs_34 : decode cX7_asItIs 34 = .ok (.goto (-32), 3) := by decide +kernel
theorem dX7_asItIs_37 : decode cX7_asItIs 37 = .ok (.return_, 1) := by decide +kernel
theorem dX7_isPointedAt_0 : decode cX7_isPointedAt 0 = .ok (.iconst 0, 1) := by decide +kernel
theorem dX7_isPointedAt_1 : decode cX7_isPointedAt 1 = .ok (.istore_n 2, 1) := by decide +kernel
theorem dX7_isPointedAt_2 : decode cX7_isPointedAt 2 = .ok (.iconst 0, 1) := by decide +kernel
theorem dX7_isPointedAt_3 : decode cX7_isPointedAt 3 = .ok (.istore_n 3, 1) := by decide +kernel
theorem dX7_isPointedAt_4 : decode cX7_isPointedAt 4 = .ok (.iload_n 3, 1) := by decide +kernel
theorem dX7_isPointedAt_5 : decode cX7_isPointedAt 5 = .ok (.aload_n 0, 1) := by decide +kernel
theorem dX7_isPointedAt_6 : decode cX7_isPointedAt 6 = .ok (.getfield 81, 3) := by decide +kernel
theorem dX7_isPointedAt_9 : decode cX7_isPointedAt 9 = .ok (.if_icmp .ge 42, 3) := by decide +kernel
theorem dX7_isPointedAt_12 : decode cX7_isPointedAt 12 = .ok (.iload_n 2, 1) := by decide +kernel
theorem dX7_isPointedAt_13 : decode cX7_isPointedAt 13 = .ok (.ifCond .ne 26, 3) := by decide +kernel
theorem dX7_isPointedAt_16 : decode cX7_isPointedAt 16 = .ok (.aload_n 0, 1) := by decide +kernel
theorem dX7_isPointedAt_17 : decode cX7_isPointedAt 17 = .ok (.getfield 31, 3) := by decide +kernel
theorem dX7_isPointedAt_20 : decode cX7_isPointedAt 20 = .ok (.iload_n 3, 1) := by decide +kernel
theorem dX7_isPointedAt_21 : decode cX7_isPointedAt 21 = .ok (.iaload, 1) := by decide +kernel
theorem dX7_isPointedAt_22 : decode cX7_isPointedAt 22 = .ok (.ifCond .eq 21, 3) := by decide +kernel
theorem dX7_isPointedAt_25 : decode cX7_isPointedAt 25 = .ok (.aload_n 0, 1) := by decide +kernel
theorem dX7_isPointedAt_26 : decode cX7_isPointedAt 26 = .ok (.getfield 16, 3) := by decide +kernel
theorem dX7_isPointedAt_29 : decode cX7_isPointedAt 29 = .ok (.iconst 2, 1) := by decide +kernel
theorem dX7_isPointedAt_30 : decode cX7_isPointedAt 30 = .ok (.iload_n 3, 1) := by decide +kernel
theorem dX7_isPointedAt_31 : decode cX7_isPointedAt 31 = .ok (.imul, 1) := by decide +kernel
theorem dX7_isPointedAt_32 : decode cX7_isPointedAt 32 = .ok (.iconst 1, 1) := by decide +kernel
theorem dX7_isPointedAt_33 : decode cX7_isPointedAt 33 = .ok (.iadd, 1) := by decide +kernel
theorem dX7_isPointedAt_34 : decode cX7_isPointedAt 34 = .ok (.iaload, 1) := by decide +kernel
theorem dX7_isPointedAt_35 : decode cX7_isPointedAt 35 = .ok (.iload_n 1, 1) := by decide +kernel
theorem dX7_isPointedAt_36 : decode cX7_isPointedAt 36 = .ok (.if_icmp .ne 7, 3) := by decide +kernel
theorem dX7_isPointedAt_39 : decode cX7_isPointedAt 39 = .ok (.iconst 1, 1) := by decide +kernel
