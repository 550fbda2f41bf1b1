theorem dX6_init_0 : decode cX6_init 0 = .ok (.aload_n 0, 1) := by decide +kernel
theorem dX6_init_1 : decode cX6_init 1 = .ok (.invokespecial 1, 3) := by decide +kernel
theorem dX6_init_4 : decode cX6_init 4 = .ok (.aload_n 0, 1) := by decide +kernel
theorem dX6_init_5 : decode cX6_init 5 = .ok (.new 7, 3) := by decide +kernel
theorem dX6_init_8 : decode cX6_init 8 = .ok (.dup, 1) := by decide +kernel
theorem dX6_init_9 : decode cX6_init 9 = .ok (.invokespecial 9, 3) := by decide +kernel
theorem dX6_init_12 : decode cX6_init 12 = .ok (.putfield 10, 3) := by decide +kernel
theorem dX6_init_15 : decode cX6_init 15 = .ok (.aload_n 0, 1) := by decide +kernel
theorem dX6_init_16 : decode cX6_init 16 = .ok (.new 16, 3) := by decide +kernel
theorem dX6_init_19 : decode cX6_init 19 = .ok (.dup, 1) := by decide +kernel
theorem dX6_init_20 : decode cX6_init 20 = .ok (.invokespecial 18, 3) := by decide +kernel
theorem dX6_init_23 : decode cX6_init 23 = .ok (.putfield 19, 3) := by decide +kernel
theorem dX6_init_26 : decode cX6_init 26 = .ok (.aload_n 0, 1) := by decide +kernel
theorem dX6_init_27 : decode cX6_init 27 = .ok (.new 23, 3) := by decide +kernel
theorem dX6_init_30 : decode cX6_init 30 = .ok (.dup, 1) := by decide +kernel
theorem dX6_init_31 : decode cX6_init 31 = .ok (.aload_n 0, 1) := by decide +kernel
theorem dX6_init_32 : decode cX6_init 32 = .ok (.getfield 19, 3) := by decide +kernel
theorem dX6_init_35 : decode cX6_init 35 = .ok (.invokespecial 25, 3) := by decide +kernel
theorem dX6_init_38 : decode cX6_init 38 = .ok (.putfield 28, 3) := by decide +kernel
theorem dX6_init_41 : decode cX6_init 41 = .ok (.aload_n 0, 1) := by decide +kernel
theorem dX6_init_42 : decode cX6_init 42 = .ok (.new 23, 3) := by decide +kernel
theorem dX6_init_45 : decode cX6_init 45 = .ok (.dup, 1) := by decide +kernel
theorem dX6_init_46 : decode cX6_init 46 = .ok (.aload_n 0, 1) := by decide +kernel
theorem dX6_init_47 : decode cX6_init 47 = .ok (.getfield 19, 3) := by decide +kernel
theorem dX6_init_50 : decode cX6_init 50 = .ok (.invokespecial 25, 3) := by decide +kernel
theorem dX6_init_53 : decode cX6_init 53 = .ok (.putfield 32, 3) := by decide +kernel
theorem dX6_init_56 : decode cX6_init 56 = .ok (.aload_n 0, 1) := by decide +kernel
theorem dX6_init_57 : decode cX6_init 57 = .ok (.new 35, 3) := by decide +kernel
theorem dX6_init_60 : decode cX6_init 60 = .ok (.dup, 1) := by decide +kernel
theorem dX6_init_61 : decode cX6_init 61 = .ok (.aload_n 0, 1) := by decide +kernel
theorem dX6_init_62 : decode cX6_init 62 = .ok (.getfield 19, 3) := by decide +kernel
theorem dX6_init_65 : decode cX6_init 65 = .ok (.aload_n 0, 1) := by decide +kernel
theorem dX6_init_66 : decode cX6_init 66 = .ok (.getfield 28, 3) := by decide +kernel
theorem dX6_init_69 : decode cX6_init 69 = .ok (.invokespecial 37, 3) := by decide +kernel
theorem dX6_init_72 : decode cX6_init 72 = .ok (.putfield 40, 3) := by decide +kernel
theorem dX6_init_75 : decode cX6_init 75 = .ok (.return_, 1) := by decide +kernel
theorem dX6_letter_0 : decode cX6_letter 0 = .ok (.iload_n 1, 1) := by decide +kernel
theorem dX6_letter_1 : decode cX6_letter 1 = .ok (.iconst 1, 1) := by decide +kernel
theorem dX6_letter_2 : decode cX6_letter 2 = .ok (.if_icmp .lt 9, 3) := by decide +kernel
theorem dX6_letter_5 : decode cX6_letter 5 = .ok (.iload_n 1, 1) := by decide +kernel
theorem dX6_letter_6 : decode cX6_letter 6 = .ok (.bipush 126, 2) := by decide +kernel
theorem dX6_letter_8 : decode cX6_letter 8 = .ok (.if_icmp .le 6, 3) := by decide +kernel
theorem dX6_letter_11 : decode cX6_letter 11 = .ok (.bipush (-102), 2) := by decide +kernel
theorem dX6_letter_13 : decode cX6_letter 13 = .ok (.ireturn, 1) := by decide +kernel
theorem dX6_letter_14 : decode cX6_letter 14 = .ok (.aload_n 0, 1) := by decide +kernel
theorem dX6_letter_15 : decode cX6_letter 15 = .ok (.getfield 10, 3) := by decide +kernel
theorem dX6_letter_18 : decode cX6_letter 18 = .ok (.invokevirtual 44, 3) := by decide +kernel
theorem dX6_letter_21 : decode cX6_letter 21 = .ok (.ifCond .eq 6, 3) := by decide +kernel
theorem dX6_letter_24 : decode cX6_letter 24 = .ok (.bipush (-104), 2) := by decide +kernel
theorem dX6_letter_26 : decode cX6_letter 26 = .ok (.ireturn, 1) := by decide +kernel
theorem dX6_letter_27 : decode cX6_letter 27 = .ok (.aload_n 0, 1) := by decide +kernel
theorem dX6_letter_28 : decode cX6_letter 28 = .ok (.getfield 10, 3) := by decide +kernel
theorem dX6_letter_31 : decode cX6_letter 31 = .ok (.iload_n 1, 1) := by decide +kernel
theorem dX6_letter_32 : decode cX6_letter 32 = .ok (.invokevirtual 48, 3) := by decide +kernel
theorem dX6_letter_35 : decode cX6_letter 35 = .ok (.ireturn, 1) := by decide +kernel
theorem dX6_blank_0 : decode cX6_blank 0 = .ok (.aload_n 0, 1) := by decide +kernel
theorem dX6_blank_1 : decode cX6_blank 1 = .ok (.getfield 10, 3) := by decide +kernel
theorem dX6_blank_4 : decode cX6_blank 4 = .ok (.invokevirtual 52, 3) := by decide +kernel
theorem dX6_blank_7 : decode cX6_blank 7 = .ok (.ireturn, 1) := by decide +kernel
theorem dX6_fault_0 : decode cX6_fault 0 = .ok (.aload_n 0, 1) := by decide +kernel
theorem dX6_fault_1 : decode cX6_fault 1 = .ok (.getfield 10, 3) := by decide +kernel
theorem dX6_fault_4 : decode cX6_fault 4 = .ok (.invokevirtual 56, 3) := by decide +kernel
theorem dX6_fault_7 : decode cX6_fault 7 = .ok (.ireturn, 1) := by decide +kernel
theorem dX6_law_0 : decode cX6_law 0 = .ok (.aload_n 0, 1) := by decide +kernel
theorem dX6_law_1 : decode cX6_law 1 = .ok (.getfield 10, 3) := by decide +kernel
theorem dX6_law_4 : decode cX6_law 4 = .ok (.invokevirtual 59, 3) := by decide +kernel
theorem dX6_law_7 : decode cX6_law 7 = .ok (.ifCond .ne 6, 3) := by decide +kernel
theorem dX6_law_10 : decode cX6_law 10 = .ok (.bipush (-103), 2) := by decide +kernel
theorem dX6_law_12 : decode cX6_law 12 = .ok (.ireturn, 1) := by decide +kernel
theorem dX6_law_13 : decode cX6_law 13 = .ok (.aload_n 0, 1) := by decide +kernel
theorem dX6_law_14 : decode cX6_law 14 = .ok (.getfield 19, 3) := by decide +kernel
theorem dX6_law_17 : decode cX6_law 17 = .ok (.aload_n 0, 1) := by decide +kernel
theorem dX6_law_18 : decode cX6_law 18 = .ok (.getfield 10, 3) := by decide +kernel
theorem dX6_law_21 : decode cX6_law 21 = .ok (.invokevirtual 62, 3) := by decide +kernel
theorem dX6_law_24 : decode cX6_law 24 = .ok (.aload_n 0, 1) := by decide +kernel
theorem dX6_law_25 : decode cX6_law 25 = .ok (.getfield 10, 3) := by decide +kernel
theorem dX6_law_28 : decode cX6_law 28 = .ok (.invokevirtual 52, 3) := by decide +kernel
theorem dX6_law_31 : decode cX6_law 31 = .ok (.pop, 1) := by decide +kernel
theorem dX6_law_32 : decode cX6_law 32 = .ok (.aload_n 0, 1) := by decide +kernel
theorem dX6_law_33 : decode cX6_law 33 = .ok (.getfield 28, 3) := by decide +kernel
theorem dX6_law_36 : decode cX6_law 36 = .ok (.invokevirtual 66, 3) := by decide +kernel
theorem dX6_law_39 : decode cX6_law 39 = .ok (.aload_n 0, 1) := by decide +kernel
theorem dX6_law_40 : decode cX6_law 40 = .ok (.iconst 0, 1) := by decide +kernel
theorem dX6_law_41 : decode cX6_law 41 = .ok (.putfield 68, 3) := by decide +kernel
theorem dX6_law_44 : decode cX6_law 44 = .ok (.aload_n 0, 1) := by decide +kernel
theorem dX6_law_45 : decode cX6_law 45 = .ok (.dup, 1) := by decide +kernel
theorem dX6_law_46 : decode cX6_law 46 = .ok (.getfield 72, 3) := by decide +kernel
theorem dX6_law_49 : decode cX6_law 49 = .ok (.iconst 1, 1) := by decide +kernel
theorem dX6_law_50 : decode cX6_law 50 = .ok (.iadd, 1) := by decide +kernel
theorem dX6_law_51 : decode cX6_law 51 = .ok (.putfield 72, 3) := by decide +kernel
theorem dX6_law_54 : decode cX6_law 54 = .ok (.aload_n 0, 1) := by decide +kernel
theorem dX6_law_55 : decode cX6_law 55 = .ok (.getfield 19, 3) := by decide +kernel
theorem dX6_law_58 : decode cX6_law 58 = .ok (.getfield 76, 3) := by decide +kernel
theorem dX6_law_61 : decode cX6_law 61 = .ok (.ireturn, 1) := by decide +kernel
theorem dX6_under_0 : decode cX6_under 0 = .ok (.iload_n 1, 1) := by decide +kernel
theorem dX6_under_1 : decode cX6_under 1 = .ok (.invokestatic 79, 3) := by decide +kernel
theorem dX6_under_4 : decode cX6_under 4 = .ok (.ifCond .ne 6, 3) := by decide +kernel
theorem dX6_under_7 : decode cX6_under 7 = .ok (.bipush (-101), 2) := by decide +kernel
theorem dX6_under_9 : decode cX6_under 9 = .ok (.ireturn, 1) := by decide +kernel
theorem dX6_under_10 : decode cX6_under 10 = .ok (.iload_n 2, 1) := by decide +kernel
theorem dX6_under_11 : decode cX6_under 11 = .ok (.iconst 0, 1) := by decide +kernel
theorem dX6_under_12 : decode cX6_under 12 = .ok (.iconst 1, 1) := by decide +kernel
theorem dX6_under_13 : decode cX6_under 13 = .ok (.invokestatic 83, 3) := by decide +kernel
theorem dX6_under_16 : decode cX6_under 16 = .ok (.ifCond .ne 6, 3) := by decide +kernel
theorem dX6_under_19 : decode cX6_under 19 = .ok (.bipush (-102), 2) := by decide +kernel
theorem dX6_under_21 : decode cX6_under 21 = .ok (.ireturn, 1) := by decide +kernel
theorem dX6_under_22 : decode cX6_under 22 = .ok (.iload_n 2, 1) := by decide +kernel
theorem dX6_under_23 : decode cX6_under 23 = .ok (.ifCond .ne 14, 3) := by decide +kernel
theorem dX6_under_26 : decode cX6_under 26 = .ok (.aload_n 0, 1) := by decide +kernel
theorem dX6_under_27 : decode cX6_under 27 = .ok (.getfield 19, 3) := by decide +kernel
theorem dX6_under_30 : decode cX6_under 30 = .ok (.iload_n 1, 1) := by decide +kernel
theorem dX6_under_31 : decode cX6_under 31 = .ok (.invokevirtual 87, 3) := by decide +kernel
theorem dX6_under_34 : decode cX6_under 34 = .ok (.goto 14, 3) := by decide +kernel
theorem dX6_under_37 : decode cX6_under 37 = .ok (.aload_n 0, 1) := by decide +kernel
theorem dX6_under_38 : decode cX6_under 38 = .ok (.getfield 28, 3) := by decide +kernel
theorem dX6_under_41 : decode cX6_under 41 = .ok (.getfield 90, 3) := by decide +kernel
theorem dX6_under_44 : decode cX6_under 44 = .ok (.iload_n 1, 1) := by decide +kernel
theorem dX6_under_45 : decode cX6_under 45 = .ok (.invokestatic 94, 3) := by decide +kernel
theorem dX6_under_48 : decode cX6_under 48 = .ok (.ireturn, 1) := by decide +kernel
theorem dX6_file_0 : decode cX6_file 0 = .ok (.iload_n 1, 1) := by decide +kernel
theorem dX6_file_1 : decode cX6_file 1 = .ok (.invokestatic 100, 3) := by decide +kernel
theorem dX6_file_4 : decode cX6_file 4 = .ok (.ifCond .ne 6, 3) := by decide +kernel
theorem dX6_file_7 : decode cX6_file 7 = .ok (.bipush (-102), 2) := by decide +kernel
theorem dX6_file_9 : decode cX6_file 9 = .ok (.ireturn, 1) := by decide +kernel
theorem dX6_file_10 : decode cX6_file 10 = .ok (.iload_n 2, 1) := by decide +kernel
theorem dX6_file_11 : decode cX6_file 11 = .ok (.invokestatic 79, 3) := by decide +kernel
theorem dX6_file_14 : decode cX6_file 14 = .ok (.ifCond .ne 6, 3) := by decide +kernel
theorem dX6_file_17 : decode cX6_file 17 = .ok (.bipush (-101), 2) := by decide +kernel
theorem dX6_file_19 : decode cX6_file 19 = .ok (.ireturn, 1) := by decide +kernel
theorem dX6_file_20 : decode cX6_file 20 = .ok (.aload_n 0, 1) := by decide +kernel
theorem dX6_file_21 : decode cX6_file 21 = .ok (.getfield 19, 3) := by decide +kernel
theorem dX6_file_24 : decode cX6_file 24 = .ok (.invokevirtual 105, 3) := by decide +kernel
theorem dX6_file_27 : decode cX6_file 27 = .ok (.ifCond .eq 21, 3) := by decide +kernel
theorem dX6_file_30 : decode cX6_file 30 = .ok (.aload_n 0, 1) := by decide +kernel
theorem dX6_file_31 : decode cX6_file 31 = .ok (.getfield 28, 3) := by decide +kernel
theorem dX6_file_34 : decode cX6_file 34 = .ok (.aload_n 0, 1) := by decide +kernel
theorem dX6_file_35 : decode cX6_file 35 = .ok (.getfield 28, 3) := by decide +kernel
theorem dX6_file_38 : decode cX6_file 38 = .ok (.getfield 90, 3) := by decide +kernel
theorem dX6_file_41 : decode cX6_file 41 = .ok (.iload_n 2, 1) := by decide +kernel
theorem dX6_file_42 : decode cX6_file 42 = .ok (.invokevirtual 108, 3) := by decide +kernel
theorem dX6_file_45 : decode cX6_file 45 = .ok (.ifCond .ne 6, 3) := by decide +kernel
theorem dX6_file_48 : decode cX6_file 48 = .ok (.bipush (-103), 2) := by decide +kernel
theorem dX6_file_50 : decode cX6_file 50 = .ok (.ireturn, 1) := by decide +kernel
theorem dX6_file_51 : decode cX6_file 51 = .ok (.aload_n 0, 1) := by decide +kernel
theorem dX6_file_52 : decode cX6_file 52 = .ok (.getfield 28, 3) := by decide +kernel
theorem dX6_file_55 : decode cX6_file 55 = .ok (.getfield 112, 3) := by decide +kernel
theorem dX6_file_58 : decode cX6_file 58 = .ok (.iconst 5, 1) := by decide +kernel
theorem dX6_file_59 : decode cX6_file 59 = .ok (.if_icmp .lt 6, 3) := by decide +kernel
theorem dX6_file_62 : decode cX6_file 62 = .ok (.bipush (-104), 2) := by decide +kernel
theorem dX6_file_64 : decode cX6_file 64 = .ok (.ireturn, 1) := by decide +kernel
theorem dX6_file_65 : decode cX6_file 65 = .ok (.aload_n 0, 1) := by decide +kernel
theorem dX6_file_66 : decode cX6_file 66 = .ok (.getfield 28, 3) := by decide +kernel
theorem dX6_file_69 : decode cX6_file 69 = .ok (.iload_n 1, 1) := by decide +kernel
theorem dX6_file_70 : decode cX6_file 70 = .ok (.iload_n 2, 1) := by decide +kernel
theorem dX6_file_71 : decode cX6_file 71 = .ok (.invokevirtual 115, 3) := by decide +kernel
theorem dX6_file_74 : decode cX6_file 74 = .ok (.ireturn, 1) := by decide +kernel
theorem dX6_about_0 : decode cX6_about 0 = .ok (.aload_n 0, 1) := by decide +kernel
theorem dX6_about_1 : decode cX6_about 1 = .ok (.getfield 28, 3) := by decide +kernel
theorem dX6_about_4 : decode cX6_about 4 = .ok (.iload_n 1, 1) := by decide +kernel
theorem dX6_about_5 : decode cX6_about 5 = .ok (.invokevirtual 119, 3) := by decide +kernel
theorem dX6_about_8 : decode cX6_about 8 = .ok (.ifCond .ne 6, 3) := by decide +kernel
theorem dX6_about_11 : decode cX6_about 11 = .ok (.bipush (-101), 2) := by decide +kernel
theorem dX6_about_13 : decode cX6_about 13 = .ok (.ireturn, 1) := by decide +kernel
theorem dX6_about_14 : decode cX6_about 14 = .ok (.iload_n 2, 1) := by decide +kernel
theorem dX6_about_15 : decode cX6_about 15 = .ok (.tableswitch 111 0 5 #[37, 46, 58, 67, 79, 99], 37) := by decide +kernel
theorem dX6_about_52 : decode cX6_about 52 = .ok (.aload_n 0, 1) := by decide +kernel
theorem dX6_about_53 : decode cX6_about 53 = .ok (.getfield 28, 3) := by decide +kernel
theorem dX6_about_56 : decode cX6_about 56 = .ok (.iload_n 1, 1) := by decide +kernel
theorem dX6_about_57 : decode cX6_about 57 = .ok (.invokevirtual 122, 3) := by decide +kernel
theorem dX6_about_60 : decode cX6_about 60 = .ok (.ireturn, 1) := by decide +kernel
theorem dX6_about_61 : decode cX6_about 61 = .ok (.aload_n 0, 1) := by decide +kernel
theorem dX6_about_62 : decode cX6_about 62 = .ok (.getfield 28, 3) := by decide +kernel
theorem dX6_about_65 : decode cX6_about 65 = .ok (.getfield 90, 3) := by decide +kernel
theorem dX6_about_68 : decode cX6_about 68 = .ok (.iload_n 1, 1) := by decide +kernel
theorem dX6_about_69 : decode cX6_about 69 = .ok (.invokestatic 125, 3) := by decide +kernel
theorem dX6_about_72 : decode cX6_about 72 = .ok (.ireturn, 1) := by decide +kernel
theorem dX6_about_73 : decode cX6_about 73 = .ok (.aload_n 0, 1) := by decide +kernel
theorem dX6_about_74 : decode cX6_about 74 = .ok (.getfield 28, 3) := by decide +kernel
theorem dX6_about_77 : decode cX6_about 77 = .ok (.iload_n 1, 1) := by decide +kernel
theorem dX6_about_78 : decode cX6_about 78 = .ok (.invokevirtual 128, 3) := by decide +kernel
theorem dX6_about_81 : decode cX6_about 81 = .ok (.ireturn, 1) := by decide +kernel
theorem dX6_about_82 : decode cX6_about 82 = .ok (.aload_n 0, 1) := by decide +kernel
theorem dX6_about_83 : decode cX6_about 83 = .ok (.getfield 28, 3) := by decide +kernel
theorem dX6_about_86 : decode cX6_about 86 = .ok (.getfield 90, 3) := by decide +kernel
theorem dX6_about_89 : decode cX6_about 89 = .ok (.iload_n 1, 1) := by decide +kernel
theorem dX6_about_90 : decode cX6_about 90 = .ok (.invokestatic 131, 3) := by decide +kernel
theorem dX6_about_93 : decode cX6_about 93 = .ok (.ireturn, 1) := by decide +kernel
theorem dX6_about_94 : decode cX6_about 94 = .ok (.aload_n 0, 1) := by decide +kernel
theorem dX6_about_95 : decode cX6_about 95 = .ok (.getfield 28, 3) := by decide +kernel
theorem dX6_about_98 : decode cX6_about 98 = .ok (.getfield 90, 3) := by decide +kernel
theorem dX6_about_101 : decode cX6_about 101 = .ok (.iload_n 1, 1) := by decide +kernel
theorem dX6_about_102 : decode cX6_about 102 = .ok (.invokestatic 134, 3) := by decide +kernel
theorem dX6_about_105 : decode cX6_about 105 = .ok (.ifCond .eq 7, 3) := by decide +kernel
theorem dX6_about_108 : decode cX6_about 108 = .ok (.iconst 1, 1) := by decide +kernel
theorem dX6_about_109 : decode cX6_about 109 = .ok (.goto 4, 3) := by decide +kernel
theorem dX6_about_112 : decode cX6_about 112 = .ok (.iconst 0, 1) := by decide +kernel
theorem dX6_about_113 : decode cX6_about 113 = .ok (.ireturn, 1) := by decide +kernel
theorem dX6_about_114 : decode cX6_about 114 = .ok (.aload_n 0, 1) := by decide +kernel
theorem dX6_about_115 : decode cX6_about 115 = .ok (.getfield 28, 3) := by decide +kernel
theorem dX6_about_118 : decode cX6_about 118 = .ok (.iload_n 1, 1) := by decide +kernel
theorem dX6_about_119 : decode cX6_about 119 = .ok (.invokevirtual 122, 3) := by decide +kernel
theorem dX6_about_122 : decode cX6_about 122 = .ok (.invokestatic 137, 3) := by decide +kernel
theorem dX6_about_125 : decode cX6_about 125 = .ok (.ireturn, 1) := by decide +kernel
theorem dX6_about_126 : decode cX6_about 126 = .ok (.bipush (-102), 2) := by decide +kernel
theorem dX6_about_128 : decode cX6_about 128 = .ok (.ireturn, 1) := by decide +kernel
theorem dX6_as_0 : decode cX6_as 0 = .ok (.aload_n 0, 1) := by decide +kernel
theorem dX6_as_1 : decode cX6_as 1 = .ok (.getfield 28, 3) := by decide +kernel
theorem dX6_as_4 : decode cX6_as 4 = .ok (.iload_n 1, 1) := by decide +kernel
theorem dX6_as_5 : decode cX6_as 5 = .ok (.invokevirtual 119, 3) := by decide +kernel
theorem dX6_as_8 : decode cX6_as 8 = .ok (.ifCond .ne 6, 3) := by decide +kernel
theorem dX6_as_11 : decode cX6_as 11 = .ok (.bipush (-101), 2) := by decide +kernel
theorem dX6_as_13 : decode cX6_as 13 = .ok (.ireturn, 1) := by decide +kernel
theorem dX6_as_14 : decode cX6_as 14 = .ok (.iload_n 2, 1) := by decide +kernel
theorem dX6_as_15 : decode cX6_as 15 = .ok (.invokestatic 100, 3) := by decide +kernel
theorem dX6_as_18 : decode cX6_as 18 = .ok (.ifCond .ne 6, 3) := by decide +kernel
theorem dX6_as_21 : decode cX6_as 21 = .ok (.bipush (-102), 2) := by decide +kernel
theorem dX6_as_23 : decode cX6_as 23 = .ok (.ireturn, 1) := by decide +kernel
theorem dX6_as_24 : decode cX6_as 24 = .ok (.aload_n 0, 1) := by decide +kernel
theorem dX6_as_25 : decode cX6_as 25 = .ok (.getfield 28, 3) := by decide +kernel
theorem dX6_as_28 : decode cX6_as 28 = .ok (.iload_n 1, 1) := by decide +kernel
theorem dX6_as_29 : decode cX6_as 29 = .ok (.invokevirtual 122, 3) := by decide +kernel
theorem dX6_as_32 : decode cX6_as 32 = .ok (.iload_n 2, 1) := by decide +kernel
theorem dX6_as_33 : decode cX6_as 33 = .ok (.invokestatic 140, 3) := by decide +kernel
theorem dX6_as_36 : decode cX6_as 36 = .ok (.ifCond .eq 7, 3) := by decide +kernel
theorem dX6_as_39 : decode cX6_as 39 = .ok (.iload_n 1, 1) := by decide +kernel
theorem dX6_as_40 : decode cX6_as 40 = .ok (.goto 4, 3) := by decide +kernel
theorem dX6_as_43 : decode cX6_as 43 = .ok (.iconst (-1), 1) := by decide +kernel
theorem dX6_as_44 : decode cX6_as 44 = .ok (.ireturn, 1) := by decide +kernel
theorem dX6_copy_0 : decode cX6_copy 0 = .ok (.aload_n 0, 1) := by decide +kernel
theorem dX6_copy_1 : decode cX6_copy 1 = .ok (.getfield 28, 3) := by decide +kernel
theorem dX6_copy_4 : decode cX6_copy 4 = .ok (.iload_n 1, 1) := by decide +kernel
theorem dX6_copy_5 : decode cX6_copy 5 = .ok (.invokevirtual 119, 3) := by decide +kernel
theorem dX6_copy_8 : decode cX6_copy 8 = .ok (.ifCond .eq 10, 3) := by decide +kernel
theorem dX6_copy_11 : decode cX6_copy 11 = .ok (.iload_n 2, 1) := by decide +kernel
theorem dX6_copy_12 : decode cX6_copy 12 = .ok (.invokestatic 79, 3) := by decide +kernel
theorem dX6_copy_15 : decode cX6_copy 15 = .ok (.ifCond .ne 6, 3) := by decide +kernel
theorem dX6_copy_18 : decode cX6_copy 18 = .ok (.bipush (-101), 2) := by decide +kernel
theorem dX6_copy_20 : decode cX6_copy 20 = .ok (.ireturn, 1) := by decide +kernel
theorem dX6_copy_21 : decode cX6_copy 21 = .ok (.aload_n 0, 1) := by decide +kernel
theorem dX6_copy_22 : decode cX6_copy 22 = .ok (.getfield 28, 3) := by decide +kernel
theorem dX6_copy_25 : decode cX6_copy 25 = .ok (.aload_n 0, 1) := by decide +kernel
theorem dX6_copy_26 : decode cX6_copy 26 = .ok (.getfield 28, 3) := by decide +kernel
theorem dX6_copy_29 : decode cX6_copy 29 = .ok (.getfield 90, 3) := by decide +kernel
theorem dX6_copy_32 : decode cX6_copy 32 = .ok (.iload_n 1, 1) := by decide +kernel
theorem dX6_copy_33 : decode cX6_copy 33 = .ok (.iload_n 2, 1) := by decide +kernel
theorem dX6_copy_34 : decode cX6_copy 34 = .ok (.invokevirtual 144, 3) := by decide +kernel
theorem dX6_copy_37 : decode cX6_copy 37 = .ok (.ifCond .ne 6, 3) := by decide +kernel
theorem dX6_copy_40 : decode cX6_copy 40 = .ok (.bipush (-103), 2) := by decide +kernel
theorem dX6_copy_42 : decode cX6_copy 42 = .ok (.ireturn, 1) := by decide +kernel
theorem dX6_copy_43 : decode cX6_copy 43 = .ok (.aload_n 0, 1) := by decide +kernel
theorem dX6_copy_44 : decode cX6_copy 44 = .ok (.getfield 28, 3) := by decide +kernel
theorem dX6_copy_47 : decode cX6_copy 47 = .ok (.aload_n 0, 1) := by decide +kernel
theorem dX6_copy_48 : decode cX6_copy 48 = .ok (.getfield 28, 3) := by decide +kernel
theorem dX6_copy_51 : decode cX6_copy 51 = .ok (.getfield 90, 3) := by decide +kernel
theorem dX6_copy_54 : decode cX6_copy 54 = .ok (.iload_n 1, 1) := by decide +kernel
theorem dX6_copy_55 : decode cX6_copy 55 = .ok (.iload_n 2, 1) := by decide +kernel
theorem dX6_copy_56 : decode cX6_copy 56 = .ok (.invokestatic 148, 3) := by decide +kernel
theorem dX6_copy_59 : decode cX6_copy 59 = .ok (.putfield 90, 3) := by decide +kernel
theorem dX6_copy_62 : decode cX6_copy 62 = .ok (.aload_n 0, 1) := by decide +kernel
theorem dX6_copy_63 : decode cX6_copy 63 = .ok (.getfield 28, 3) := by decide +kernel
theorem dX6_copy_66 : decode cX6_copy 66 = .ok (.getfield 90, 3) := by decide +kernel
theorem dX6_copy_69 : decode cX6_copy 69 = .ok (.iload_n 1, 1) := by decide +kernel
theorem dX6_copy_70 : decode cX6_copy 70 = .ok (.invokestatic 125, 3) := by decide +kernel
theorem dX6_copy_73 : decode cX6_copy 73 = .ok (.invokestatic 152, 3) := by decide +kernel
theorem dX6_copy_76 : decode cX6_copy 76 = .ok (.ireturn, 1) := by decide +kernel
theorem dX6_rename_0 : decode cX6_rename 0 = .ok (.aload_n 0, 1) := by decide +kernel
theorem dX6_rename_1 : decode cX6_rename 1 = .ok (.getfield 28, 3) := by decide +kernel
theorem dX6_rename_4 : decode cX6_rename 4 = .ok (.iload_n 1, 1) := by decide +kernel
theorem dX6_rename_5 : decode cX6_rename 5 = .ok (.invokevirtual 119, 3) := by decide +kernel
theorem dX6_rename_8 : decode cX6_rename 8 = .ok (.ifCond .eq 22, 3) := by decide +kernel
theorem dX6_rename_11 : decode cX6_rename 11 = .ok (.iload_n 2, 1) := by decide +kernel
theorem dX6_rename_12 : decode cX6_rename 12 = .ok (.invokestatic 79, 3) := by decide +kernel
theorem dX6_rename_15 : decode cX6_rename 15 = .ok (.ifCond .eq 15, 3) := by decide +kernel
theorem dX6_rename_18 : decode cX6_rename 18 = .ok (.iload_n 3, 1) := by decide +kernel
theorem dX6_rename_19 : decode cX6_rename 19 = .ok (.invokestatic 79, 3) := by decide +kernel
theorem dX6_rename_22 : decode cX6_rename 22 = .ok (.ifCond .eq 8, 3) := by decide +kernel
theorem dX6_rename_25 : decode cX6_rename 25 = .ok (.iload_n 2, 1) := by decide +kernel
theorem dX6_rename_26 : decode cX6_rename 26 = .ok (.iload_n 3, 1) := by decide +kernel
theorem dX6_rename_27 : decode cX6_rename 27 = .ok (.if_icmp .ne 6, 3) := by decide +kernel
theorem dX6_rename_30 : decode cX6_rename 30 = .ok (.bipush (-101), 2) := by decide +kernel
theorem dX6_rename_32 : decode cX6_rename 32 = .ok (.ireturn, 1) := by decide +kernel
theorem dX6_rename_33 : decode cX6_rename 33 = .ok (.aload_n 0, 1) := by decide +kernel
theorem dX6_rename_34 : decode cX6_rename 34 = .ok (.getfield 28, 3) := by decide +kernel
theorem dX6_rename_37 : decode cX6_rename 37 = .ok (.aload_n 0, 1) := by decide +kernel
theorem dX6_rename_38 : decode cX6_rename 38 = .ok (.getfield 28, 3) := by decide +kernel
theorem dX6_rename_41 : decode cX6_rename 41 = .ok (.getfield 90, 3) := by decide +kernel
theorem dX6_rename_44 : decode cX6_rename 44 = .ok (.iload_n 1, 1) := by decide +kernel
theorem dX6_rename_45 : decode cX6_rename 45 = .ok (.iload_n 2, 1) := by decide +kernel
theorem dX6_rename_46 : decode cX6_rename 46 = .ok (.iload_n 3, 1) := by decide +kernel
theorem dX6_rename_47 : decode cX6_rename 47 = .ok (.invokevirtual 157, 3) := by decide +kernel
theorem dX6_rename_50 : decode cX6_rename 50 = .ok (.ifCond .ne 6, 3) := by decide +kernel
theorem dX6_rename_53 : decode cX6_rename 53 = .ok (.bipush (-103), 2) := by decide +kernel
theorem dX6_rename_55 : decode cX6_rename 55 = .ok (.ireturn, 1) := by decide +kernel
theorem dX6_rename_56 : decode cX6_rename 56 = .ok (.aload_n 0, 1) := by decide +kernel
theorem dX6_rename_57 : decode cX6_rename 57 = .ok (.getfield 28, 3) := by decide +kernel
theorem dX6_rename_60 : decode cX6_rename 60 = .ok (.aload_n 0, 1) := by decide +kernel
theorem dX6_rename_61 : decode cX6_rename 61 = .ok (.getfield 28, 3) := by decide +kernel
theorem dX6_rename_64 : decode cX6_rename 64 = .ok (.getfield 90, 3) := by decide +kernel
theorem dX6_rename_67 : decode cX6_rename 67 = .ok (.iload_n 1, 1) := by decide +kernel
theorem dX6_rename_68 : decode cX6_rename 68 = .ok (.iload_n 2, 1) := by decide +kernel
theorem dX6_rename_69 : decode cX6_rename 69 = .ok (.iload_n 3, 1) := by decide +kernel
theorem dX6_rename_70 : decode cX6_rename 70 = .ok (.invokestatic 161, 3) := by decide +kernel
theorem dX6_rename_73 : decode cX6_rename 73 = .ok (.putfield 90, 3) := by decide +kernel
theorem dX6_rename_76 : decode cX6_rename 76 = .ok (.aload_n 0, 1) := by decide +kernel
theorem dX6_rename_77 : decode cX6_rename 77 = .ok (.getfield 28, 3) := by decide +kernel
theorem dX6_rename_80 : decode cX6_rename 80 = .ok (.getfield 90, 3) := by decide +kernel
theorem dX6_rename_83 : decode cX6_rename 83 = .ok (.iload_n 3, 1) := by decide +kernel
theorem dX6_rename_84 : decode cX6_rename 84 = .ok (.invokestatic 94, 3) := by decide +kernel
theorem dX6_rename_87 : decode cX6_rename 87 = .ok (.ireturn, 1) := by decide +kernel
theorem dX6_point_0 : decode cX6_point 0 = .ok (.aload_n 0, 1) := by decide +kernel
theorem dX6_point_1 : decode cX6_point 1 = .ok (.getfield 28, 3) := by decide +kernel
theorem dX6_point_4 : decode cX6_point 4 = .ok (.iload_n 1, 1) := by decide +kernel
theorem dX6_point_5 : decode cX6_point 5 = .ok (.invokevirtual 119, 3) := by decide +kernel
theorem dX6_point_8 : decode cX6_point 8 = .ok (.ifCond .eq 24, 3) := by decide +kernel
theorem dX6_point_11 : decode cX6_point 11 = .ok (.iload_n 2, 1) := by decide +kernel
theorem dX6_point_12 : decode cX6_point 12 = .ok (.iconst (-1), 1) := by decide +kernel
theorem dX6_point_13 : decode cX6_point 13 = .ok (.if_icmp .eq 14, 3) := by decide +kernel
theorem dX6_point_16 : decode cX6_point 16 = .ok (.aload_n 0, 1) := by decide +kernel
theorem dX6_point_17 : decode cX6_point 17 = .ok (.getfield 28, 3) := by decide +kernel
theorem dX6_point_20 : decode cX6_point 20 = .ok (.iload_n 2, 1) := by decide +kernel
theorem dX6_point_21 : decode cX6_point 21 = .ok (.invokevirtual 119, 3) := by decide +kernel
theorem dX6_point_24 : decode cX6_point 24 = .ok (.ifCond .eq 8, 3) := by decide +kernel
theorem dX6_point_27 : decode cX6_point 27 = .ok (.iload_n 1, 1) := by decide +kernel
theorem dX6_point_28 : decode cX6_point 28 = .ok (.iload_n 2, 1) := by decide +kernel
theorem dX6_point_29 : decode cX6_point 29 = .ok (.if_icmp .ne 6, 3) := by decide +kernel
theorem dX6_point_32 : decode cX6_point 32 = .ok (.bipush (-101), 2) := by decide +kernel
theorem dX6_point_34 : decode cX6_point 34 = .ok (.ireturn, 1) := by decide +kernel
theorem dX6_point_35 : decode cX6_point 35 = .ok (.aload_n 0, 1) := by decide +kernel
theorem dX6_point_36 : decode cX6_point 36 = .ok (.getfield 28, 3) := by decide +kernel
theorem dX6_point_39 : decode cX6_point 39 = .ok (.getfield 90, 3) := by decide +kernel
theorem dX6_point_42 : decode cX6_point 42 = .ok (.iload_n 1, 1) := by decide +kernel
theorem dX6_point_43 : decode cX6_point 43 = .ok (.invokestatic 134, 3) := by decide +kernel
theorem dX6_point_46 : decode cX6_point 46 = .ok (.ifCond .ne 6, 3) := by decide +kernel
theorem dX6_point_49 : decode cX6_point 49 = .ok (.bipush (-103), 2) := by decide +kernel
theorem dX6_point_51 : decode cX6_point 51 = .ok (.ireturn, 1) := by decide +kernel
theorem dX6_point_52 : decode cX6_point 52 = .ok (.aload_n 0, 1) := by decide +kernel
theorem dX6_point_53 : decode cX6_point 53 = .ok (.getfield 28, 3) := by decide +kernel
theorem dX6_point_56 : decode cX6_point 56 = .ok (.iload_n 1, 1) := by decide +kernel
theorem dX6_point_57 : decode cX6_point 57 = .ok (.iload_n 2, 1) := by decide +kernel
theorem dX6_point_58 : decode cX6_point 58 = .ok (.invokevirtual 165, 3) := by decide +kernel
theorem dX6_point_61 : decode cX6_point 61 = .ok (.ireturn, 1) := by decide +kernel
theorem dX6_burn_0 : decode cX6_burn 0 = .ok (.iload_n 1, 1) := by decide +kernel
theorem dX6_burn_1 : decode cX6_burn 1 = .ok (.invokestatic 79, 3) := by decide +kernel
theorem dX6_burn_4 : decode cX6_burn 4 = .ok (.ifCond .ne 6, 3) := by decide +kernel
theorem dX6_burn_7 : decode cX6_burn 7 = .ok (.bipush (-101), 2) := by decide +kernel
theorem dX6_burn_9 : decode cX6_burn 9 = .ok (.ireturn, 1) := by decide +kernel
theorem dX6_burn_10 : decode cX6_burn 10 = .ok (.aload_n 0, 1) := by decide +kernel
theorem dX6_burn_11 : decode cX6_burn 11 = .ok (.getfield 19, 3) := by decide +kernel
theorem dX6_burn_14 : decode cX6_burn 14 = .ok (.invokevirtual 105, 3) := by decide +kernel
theorem dX6_burn_17 : decode cX6_burn 17 = .ok (.ifCond .ne 6, 3) := by decide +kernel
theorem dX6_burn_20 : decode cX6_burn 20 = .ok (.bipush (-103), 2) := by decide +kernel
theorem dX6_burn_22 : decode cX6_burn 22 = .ok (.ireturn, 1) := by decide +kernel
theorem dX6_burn_23 : decode cX6_burn 23 = .ok (.aload_n 0, 1) := by decide +kernel
theorem dX6_burn_24 : decode cX6_burn 24 = .ok (.getfield 28, 3) := by decide +kernel
theorem dX6_burn_27 : decode cX6_burn 27 = .ok (.iload_n 1, 1) := by decide +kernel
theorem dX6_burn_28 : decode cX6_burn 28 = .ok (.invokevirtual 168, 3) := by decide +kernel
theorem dX6_burn_31 : decode cX6_burn 31 = .ok (.ireturn, 1) := by decide +kernel
theorem dX6_odds_0 : decode cX6_odds 0 = .ok (.aload_n 0, 1) := by decide +kernel
theorem dX6_odds_1 : decode cX6_odds 1 = .ok (.getfield 28, 3) := by decide +kernel
theorem dX6_odds_4 : decode cX6_odds 4 = .ok (.iload_n 1, 1) := by decide +kernel
theorem dX6_odds_5 : decode cX6_odds 5 = .ok (.invokevirtual 119, 3) := by decide +kernel
theorem dX6_odds_8 : decode cX6_odds 8 = .ok (.ifCond .ne 6, 3) := by decide +kernel
theorem dX6_odds_11 : decode cX6_odds 11 = .ok (.bipush (-101), 2) := by decide +kernel
theorem dX6_odds_13 : decode cX6_odds 13 = .ok (.ireturn, 1) := by decide +kernel
theorem dX6_odds_14 : decode cX6_odds 14 = .ok (.iload_n 2, 1) := by decide +kernel
theorem dX6_odds_15 : decode cX6_odds 15 = .ok (.iconst 0, 1) := by decide +kernel
theorem dX6_odds_16 : decode cX6_odds 16 = .ok (.iconst 4, 1) := by decide +kernel
theorem dX6_odds_17 : decode cX6_odds 17 = .ok (.invokestatic 83, 3) := by decide +kernel
theorem dX6_odds_20 : decode cX6_odds 20 = .ok (.ifCond .eq 12, 3) := by decide +kernel
theorem dX6_odds_23 : decode cX6_odds 23 = .ok (.iload_n 3, 1) := by decide +kernel
theorem dX6_odds_24 : decode cX6_odds 24 = .ok (.iconst 0, 1) := by decide +kernel
theorem dX6_odds_25 : decode cX6_odds 25 = .ok (.iconst 1, 1) := by decide +kernel
theorem dX6_odds_26 : decode cX6_odds 26 = .ok (.invokestatic 83, 3) := by decide +kernel
theorem dX6_odds_29 : decode cX6_odds 29 = .ok (.ifCond .ne 6, 3) := by decide +kernel
theorem dX6_odds_32 : decode cX6_odds 32 = .ok (.bipush (-102), 2) := by decide +kernel
theorem dX6_odds_34 : decode cX6_odds 34 = .ok (.ireturn, 1) := by decide +kernel
theorem dX6_odds_35 : decode cX6_odds 35 = .ok (.aload_n 0, 1) := by decide +kernel
theorem dX6_odds_36 : decode cX6_odds 36 = .ok (.getfield 40, 3) := by decide +kernel
theorem dX6_odds_39 : decode cX6_odds 39 = .ok (.aload_n 0, 1) := by decide +kernel
theorem dX6_odds_40 : decode cX6_odds 40 = .ok (.getfield 28, 3) := by decide +kernel
theorem dX6_odds_43 : decode cX6_odds 43 = .ok (.getfield 90, 3) := by decide +kernel
theorem dX6_odds_46 : decode cX6_odds 46 = .ok (.iload_n 1, 1) := by decide +kernel
theorem dX6_odds_47 : decode cX6_odds 47 = .ok (.iload_n 2, 1) := by decide +kernel
theorem dX6_odds_48 : decode cX6_odds 48 = .ok (.invokevirtual 171, 3) := by decide +kernel
theorem dX6_odds_51 : decode cX6_odds 51 = .ok (.istore 4, 2) := by decide +kernel
theorem dX6_odds_53 : decode cX6_odds 53 = .ok (.iload 4, 2) := by decide +kernel
theorem dX6_odds_55 : decode cX6_odds 55 = .ok (.iload_n 2, 1) := by decide +kernel
theorem dX6_odds_56 : decode cX6_odds 56 = .ok (.iload_n 3, 1) := by decide +kernel
theorem dX6_odds_57 : decode cX6_odds 57 = .ok (.invokestatic 175, 3) := by decide +kernel
theorem dX6_odds_60 : decode cX6_odds 60 = .ok (.ireturn, 1) := by decide +kernel
theorem dX6_where_0 : decode cX6_where 0 = .ok (.aload_n 0, 1) := by decide +kernel
theorem dX6_where_1 : decode cX6_where 1 = .ok (.getfield 28, 3) := by decide +kernel
theorem dX6_where_4 : decode cX6_where 4 = .ok (.iload_n 1, 1) := by decide +kernel
theorem dX6_where_5 : decode cX6_where 5 = .ok (.invokevirtual 119, 3) := by decide +kernel
theorem dX6_where_8 : decode cX6_where 8 = .ok (.ifCond .ne 6, 3) := by decide +kernel
theorem dX6_where_11 : decode cX6_where 11 = .ok (.bipush (-101), 2) := by decide +kernel
theorem dX6_where_13 : decode cX6_where 13 = .ok (.ireturn, 1) := by decide +kernel
theorem dX6_where_14 : decode cX6_where 14 = .ok (.iload_n 2, 1) := by decide +kernel
theorem dX6_where_15 : decode cX6_where 15 = .ok (.iconst 0, 1) := by decide +kernel
theorem dX6_where_16 : decode cX6_where 16 = .ok (.iconst 4, 1) := by decide +kernel
theorem dX6_where_17 : decode cX6_where 17 = .ok (.invokestatic 83, 3) := by decide +kernel
theorem dX6_where_20 : decode cX6_where 20 = .ok (.ifCond .ne 6, 3) := by decide +kernel
theorem dX6_where_23 : decode cX6_where 23 = .ok (.bipush (-102), 2) := by decide +kernel
theorem dX6_where_25 : decode cX6_where 25 = .ok (.ireturn, 1) := by decide +kernel
theorem dX6_where_26 : decode cX6_where 26 = .ok (.aload_n 0, 1) := by decide +kernel
theorem dX6_where_27 : decode cX6_where 27 = .ok (.getfield 40, 3) := by decide +kernel
theorem dX6_where_30 : decode cX6_where 30 = .ok (.iload_n 1, 1) := by decide +kernel
theorem dX6_where_31 : decode cX6_where 31 = .ok (.iload_n 2, 1) := by decide +kernel
theorem dX6_where_32 : decode cX6_where 32 = .ok (.invokevirtual 179, 3) := by decide +kernel
theorem dX6_where_35 : decode cX6_where 35 = .ok (.ireturn, 1) := by decide +kernel
theorem dX6_sure_0 : decode cX6_sure 0 = .ok (.iload_n 1, 1) := by decide +kernel
theorem dX6_sure_1 : decode cX6_sure 1 = .ok (.ifCond .eq 13, 3) := by decide +kernel
theorem dX6_sure_4 : decode cX6_sure 4 = .ok (.iload_n 1, 1) := by decide +kernel
theorem dX6_sure_5 : decode cX6_sure 5 = .ok (.iconst 3, 1) := by decide +kernel
theorem dX6_sure_6 : decode cX6_sure 6 = .ok (.if_icmp .eq 8, 3) := by decide +kernel
theorem dX6_sure_9 : decode cX6_sure 9 = .ok (.iload_n 1, 1) := by decide +kernel
theorem dX6_sure_10 : decode cX6_sure 10 = .ok (.iconst 4, 1) := by decide +kernel
theorem dX6_sure_11 : decode cX6_sure 11 = .ok (.if_icmp .ne 7, 3) := by decide +kernel
theorem dX6_sure_14 : decode cX6_sure 14 = .ok (.iconst 1, 1) := by decide +kernel
theorem dX6_sure_15 : decode cX6_sure 15 = .ok (.goto 4, 3) := by decide +kernel
theorem dX6_sure_18 : decode cX6_sure 18 = .ok (.iconst 0, 1) := by decide +kernel
theorem dX6_sure_19 : decode cX6_sure 19 = .ok (.istore 4, 2) := by decide +kernel
theorem dX6_sure_21 : decode cX6_sure 21 = .ok (.iload 4, 2) := by decide +kernel
theorem dX6_sure_23 : decode cX6_sure 23 = .ok (.ifCond .eq 21, 3) := by decide +kernel
theorem dX6_sure_26 : decode cX6_sure 26 = .ok (.iload_n 2, 1) := by decide +kernel
theorem dX6_sure_27 : decode cX6_sure 27 = .ok (.iconst 0, 1) := by decide +kernel
theorem dX6_sure_28 : decode cX6_sure 28 = .ok (.iconst 4, 1) := by decide +kernel
theorem dX6_sure_29 : decode cX6_sure 29 = .ok (.invokestatic 83, 3) := by decide +kernel
theorem dX6_sure_32 : decode cX6_sure 32 = .ok (.ifCond .eq 12, 3) := by decide +kernel
theorem dX6_sure_35 : decode cX6_sure 35 = .ok (.iload_n 3, 1) := by decide +kernel
theorem dX6_sure_36 : decode cX6_sure 36 = .ok (.iconst 0, 1) := by decide +kernel
theorem dX6_sure_37 : decode cX6_sure 37 = .ok (.iconst 1, 1) := by decide +kernel
theorem dX6_sure_38 : decode cX6_sure 38 = .ok (.invokestatic 83, 3) := by decide +kernel
theorem dX6_sure_41 : decode cX6_sure 41 = .ok (.ifCond .ne 6, 3) := by decide +kernel
theorem dX6_sure_44 : decode cX6_sure 44 = .ok (.bipush (-102), 2) := by decide +kernel
theorem dX6_sure_46 : decode cX6_sure 46 = .ok (.ireturn, 1) := by decide +kernel
theorem dX6_sure_47 : decode cX6_sure 47 = .ok (.aload_n 0, 1) := by decide +kernel
theorem dX6_sure_48 : decode cX6_sure 48 = .ok (.getfield 19, 3) := by decide +kernel
theorem dX6_sure_51 : decode cX6_sure 51 = .ok (.invokevirtual 105, 3) := by decide +kernel
theorem dX6_sure_54 : decode cX6_sure 54 = .ok (.ifCond .eq 12, 3) := by decide +kernel
theorem dX6_sure_57 : decode cX6_sure 57 = .ok (.aload_n 0, 1) := by decide +kernel
theorem dX6_sure_58 : decode cX6_sure 58 = .ok (.getfield 182, 3) := by decide +kernel
theorem dX6_sure_61 : decode cX6_sure 61 = .ok (.bipush 30, 2) := by decide +kernel
theorem dX6_sure_63 : decode cX6_sure 63 = .ok (.if_icmp .lt 6, 3) := by decide +kernel
theorem dX6_sure_66 : decode cX6_sure 66 = .ok (.bipush (-103), 2) := by decide +kernel
theorem dX6_sure_68 : decode cX6_sure 68 = .ok (.ireturn, 1) := by decide +kernel
theorem dX6_sure_69 : decode cX6_sure 69 = .ok (.aload_n 0, 1) := by decide +kernel
theorem dX6_sure_70 : decode cX6_sure 70 = .ok (.dup, 1) := by decide +kernel
theorem dX6_sure_71 : decode cX6_sure 71 = .ok (.getfield 182, 3) := by decide +kernel
theorem dX6_sure_74 : decode cX6_sure 74 = .ok (.iconst 1, 1) := by decide +kernel
theorem dX6_sure_75 : decode cX6_sure 75 = .ok (.iadd, 1) := by decide +kernel
theorem dX6_sure_76 : decode cX6_sure 76 = .ok (.putfield 182, 3) := by decide +kernel
theorem dX6_sure_79 : decode cX6_sure 79 = .ok (.aload_n 0, 1) := by decide +kernel
theorem dX6_sure_80 : decode cX6_sure 80 = .ok (.getfield 40, 3) := by decide +kernel
theorem dX6_sure_83 : decode cX6_sure 83 = .ok (.iload_n 1, 1) := by decide +kernel
theorem dX6_sure_84 : decode cX6_sure 84 = .ok (.iload_n 2, 1) := by decide +kernel
theorem dX6_sure_85 : decode cX6_sure 85 = .ok (.invokevirtual 185, 3) := by decide +kernel
theorem dX6_sure_88 : decode cX6_sure 88 = .ok (.istore 5, 2) := by decide +kernel
theorem dX6_sure_90 : decode cX6_sure 90 = .ok (.iload 5, 2) := by decide +kernel
theorem dX6_sure_92 : decode cX6_sure 92 = .ok (.iconst (-1), 1) := by decide +kernel
theorem dX6_sure_93 : decode cX6_sure 93 = .ok (.if_icmp .ne 5, 3) := by decide +kernel
theorem dX6_sure_96 : decode cX6_sure 96 = .ok (.iconst (-1), 1) := by decide +kernel
theorem dX6_sure_97 : decode cX6_sure 97 = .ok (.ireturn, 1) := by decide +kernel
theorem dX6_sure_98 : decode cX6_sure 98 = .ok (.iload_n 3, 1) := by decide +kernel
theorem dX6_sure_99 : decode cX6_sure 99 = .ok (.ifCond .ne 11, 3) := by decide +kernel
theorem dX6_sure_102 : decode cX6_sure 102 = .ok (.iload 5, 2) := by decide +kernel
theorem dX6_sure_104 : decode cX6_sure 104 = .ok (.invokestatic 152, 3) := by decide +kernel
theorem dX6_sure_107 : decode cX6_sure 107 = .ok (.goto 5, 3) := by decide +kernel
theorem dX6_sure_110 : decode cX6_sure 110 = .ok (.iload 5, 2) := by decide +kernel
theorem dX6_sure_112 : decode cX6_sure 112 = .ok (.ireturn, 1) := by decide +kernel
theorem dX6_nowhere_0 : decode cX6_nowhere 0 = .ok (.aload_n 0, 1) := by decide +kernel
theorem dX6_nowhere_1 : decode cX6_nowhere 1 = .ok (.getfield 28, 3) := by decide +kernel
theorem dX6_nowhere_4 : decode cX6_nowhere 4 = .ok (.invokevirtual 188, 3) := by decide +kernel
theorem dX6_nowhere_7 : decode cX6_nowhere 7 = .ok (.ireturn, 1) := by decide +kernel
theorem dX6_moving_0 : decode cX6_moving 0 = .ok (.iload_n 1, 1) := by decide +kernel
theorem dX6_moving_1 : decode cX6_moving 1 = .ok (.iconst 1, 1) := by decide +kernel
theorem dX6_moving_2 : decode cX6_moving 2 = .ok (.bipush 9, 2) := by decide +kernel
theorem dX6_moving_4 : decode cX6_moving 4 = .ok (.invokestatic 83, 3) := by decide +kernel
theorem dX6_moving_7 : decode cX6_moving 7 = .ok (.ifCond .ne 6, 3) := by decide +kernel
theorem dX6_moving_10 : decode cX6_moving 10 = .ok (.bipush (-102), 2) := by decide +kernel
theorem dX6_moving_12 : decode cX6_moving 12 = .ok (.ireturn, 1) := by decide +kernel
theorem dX6_moving_13 : decode cX6_moving 13 = .ok (.aload_n 0, 1) := by decide +kernel
theorem dX6_moving_14 : decode cX6_moving 14 = .ok (.getfield 19, 3) := by decide +kernel
theorem dX6_moving_17 : decode cX6_moving 17 = .ok (.invokevirtual 105, 3) := by decide +kernel
theorem dX6_moving_20 : decode cX6_moving 20 = .ok (.ifCond .eq 12, 3) := by decide +kernel
theorem dX6_moving_23 : decode cX6_moving 23 = .ok (.aload_n 0, 1) := by decide +kernel
theorem dX6_moving_24 : decode cX6_moving 24 = .ok (.getfield 191, 3) := by decide +kernel
theorem dX6_moving_27 : decode cX6_moving 27 = .ok (.bipush 10, 2) := by decide +kernel
theorem dX6_moving_29 : decode cX6_moving 29 = .ok (.if_icmp .lt 6, 3) := by decide +kernel
theorem dX6_moving_32 : decode cX6_moving 32 = .ok (.bipush (-103), 2) := by decide +kernel
theorem dX6_moving_34 : decode cX6_moving 34 = .ok (.ireturn, 1) := by decide +kernel
theorem dX6_moving_35 : decode cX6_moving 35 = .ok (.aload_n 0, 1) := by decide +kernel
theorem dX6_moving_36 : decode cX6_moving 36 = .ok (.dup, 1) := by decide +kernel
theorem dX6_moving_37 : decode cX6_moving 37 = .ok (.getfield 191, 3) := by decide +kernel
theorem dX6_moving_40 : decode cX6_moving 40 = .ok (.iconst 1, 1) := by decide +kernel
theorem dX6_moving_41 : decode cX6_moving 41 = .ok (.iadd, 1) := by decide +kernel
theorem dX6_moving_42 : decode cX6_moving 42 = .ok (.putfield 191, 3) := by decide +kernel
theorem dX6_moving_45 : decode cX6_moving 45 = .ok (.aload_n 0, 1) := by decide +kernel
theorem dX6_moving_46 : decode cX6_moving 46 = .ok (.getfield 40, 3) := by decide +kernel
theorem dX6_moving_49 : decode cX6_moving 49 = .ok (.iload_n 1, 1) := by decide +kernel
theorem dX6_moving_50 : decode cX6_moving 50 = .ok (.invokevirtual 194, 3) := by decide +kernel
theorem dX6_moving_53 : decode cX6_moving 53 = .ok (.ireturn, 1) := by decide +kernel
theorem dX6_ashes_0 : decode cX6_ashes 0 = .ok (.iload_n 1, 1) := by decide +kernel
theorem dX6_ashes_1 : decode cX6_ashes 1 = .ok (.iconst (-1), 1) := by decide +kernel
theorem dX6_ashes_2 : decode cX6_ashes 2 = .ok (.if_icmp .lt 16, 3) := by decide +kernel
theorem dX6_ashes_5 : decode cX6_ashes 5 = .ok (.iload_n 1, 1) := by decide +kernel
theorem dX6_ashes_6 : decode cX6_ashes 6 = .ok (.iconst 1, 1) := by decide +kernel
theorem dX6_ashes_7 : decode cX6_ashes 7 = .ok (.aload_n 0, 1) := by decide +kernel
theorem dX6_ashes_8 : decode cX6_ashes 8 = .ok (.getfield 28, 3) := by decide +kernel
theorem dX6_ashes_11 : decode cX6_ashes 11 = .ok (.getfield 112, 3) := by decide +kernel
theorem dX6_ashes_14 : decode cX6_ashes 14 = .ok (.ishl, 1) := by decide +kernel
theorem dX6_ashes_15 : decode cX6_ashes 15 = .ok (.if_icmp .lt 6, 3) := by decide +kernel
theorem dX6_ashes_18 : decode cX6_ashes 18 = .ok (.bipush (-102), 2) := by decide +kernel
theorem dX6_ashes_20 : decode cX6_ashes 20 = .ok (.ireturn, 1) := by decide +kernel
theorem dX6_ashes_21 : decode cX6_ashes 21 = .ok (.aload_n 0, 1) := by decide +kernel
theorem dX6_ashes_22 : decode cX6_ashes 22 = .ok (.getfield 28, 3) := by decide +kernel
theorem dX6_ashes_25 : decode cX6_ashes 25 = .ok (.getfield 197, 3) := by decide +kernel
theorem dX6_ashes_28 : decode cX6_ashes 28 = .ok (.iconst 5, 1) := by decide +kernel
theorem dX6_ashes_29 : decode cX6_ashes 29 = .ok (.if_icmp .lt 6, 3) := by decide +kernel
theorem dX6_ashes_32 : decode cX6_ashes 32 = .ok (.bipush (-104), 2) := by decide +kernel
theorem dX6_ashes_34 : decode cX6_ashes 34 = .ok (.ireturn, 1) := by decide +kernel
theorem dX6_ashes_35 : decode cX6_ashes 35 = .ok (.aload_n 0, 1) := by decide +kernel
theorem dX6_ashes_36 : decode cX6_ashes 36 = .ok (.getfield 28, 3) := by decide +kernel
theorem dX6_ashes_39 : decode cX6_ashes 39 = .ok (.iload_n 1, 1) := by decide +kernel
theorem dX6_ashes_40 : decode cX6_ashes 40 = .ok (.invokevirtual 200, 3) := by decide +kernel
theorem dX6_ashes_43 : decode cX6_ashes 43 = .ok (.ireturn, 1) := by decide +kernel
theorem dX6_forget_0 : decode cX6_forget 0 = .ok (.aload_n 0, 1) := by decide +kernel
theorem dX6_forget_1 : decode cX6_forget 1 = .ok (.getfield 28, 3) := by decide +kernel
theorem dX6_forget_4 : decode cX6_forget 4 = .ok (.invokevirtual 203, 3) := by decide +kernel
theorem dX6_forget_7 : decode cX6_forget 7 = .ok (.ireturn, 1) := by decide +kernel
theorem dX6_fits_0 : decode cX6_fits 0 = .ok (.aload_n 0, 1) := by decide +kernel
theorem dX6_fits_1 : decode cX6_fits 1 = .ok (.getfield 19, 3) := by decide +kernel
theorem dX6_fits_4 : decode cX6_fits 4 = .ok (.invokevirtual 105, 3) := by decide +kernel
theorem dX6_fits_7 : decode cX6_fits 7 = .ok (.ifCond .ne 6, 3) := by decide +kernel
theorem dX6_fits_10 : decode cX6_fits 10 = .ok (.bipush (-103), 2) := by decide +kernel
theorem dX6_fits_12 : decode cX6_fits 12 = .ok (.ireturn, 1) := by decide +kernel
theorem dX6_fits_13 : decode cX6_fits 13 = .ok (.aload_n 0, 1) := by decide +kernel
theorem dX6_fits_14 : decode cX6_fits 14 = .ok (.getfield 40, 3) := by decide +kernel
theorem dX6_fits_17 : decode cX6_fits 17 = .ok (.invokevirtual 206, 3) := by decide +kernel
theorem dX6_fits_20 : decode cX6_fits 20 = .ok (.ireturn, 1) := by decide +kernel
theorem dX6_burnt_0 : decode cX6_burnt 0 = .ok (.iload_n 1, 1) := by decide +kernel
theorem dX6_burnt_1 : decode cX6_burnt 1 = .ok (.iconst 0, 1) := by decide +kernel
theorem dX6_burnt_2 : decode cX6_burnt 2 = .ok (.aload_n 0, 1) := by decide +kernel
theorem dX6_burnt_3 : decode cX6_burnt 3 = .ok (.getfield 28, 3) := by decide +kernel
theorem dX6_burnt_6 : decode cX6_burnt 6 = .ok (.getfield 197, 3) := by decide +kernel
theorem dX6_burnt_9 : decode cX6_burnt 9 = .ok (.iconst 1, 1) := by decide +kernel
theorem dX6_burnt_10 : decode cX6_burnt 10 = .ok (.isub, 1) := by decide +kernel
theorem dX6_burnt_11 : decode cX6_burnt 11 = .ok (.invokestatic 83, 3) := by decide +kernel
theorem dX6_burnt_14 : decode cX6_burnt 14 = .ok (.ifCond .ne 6, 3) := by decide +kernel
theorem dX6_burnt_17 : decode cX6_burnt 17 = .ok (.bipush (-101), 2) := by decide +kernel
theorem dX6_burnt_19 : decode cX6_burnt 19 = .ok (.ireturn, 1) := by decide +kernel
theorem dX6_burnt_20 : decode cX6_burnt 20 = .ok (.aload_n 0, 1) := by decide +kernel
theorem dX6_burnt_21 : decode cX6_burnt 21 = .ok (.getfield 19, 3) := by decide +kernel
theorem dX6_burnt_24 : decode cX6_burnt 24 = .ok (.invokevirtual 105, 3) := by decide +kernel
theorem dX6_burnt_27 : decode cX6_burnt 27 = .ok (.ifCond .ne 6, 3) := by decide +kernel
theorem dX6_burnt_30 : decode cX6_burnt 30 = .ok (.bipush (-103), 2) := by decide +kernel
theorem dX6_burnt_32 : decode cX6_burnt 32 = .ok (.ireturn, 1) := by decide +kernel
theorem dX6_burnt_33 : decode cX6_burnt 33 = .ok (.aload_n 0, 1) := by decide +kernel
theorem dX6_burnt_34 : decode cX6_burnt 34 = .ok (.getfield 40, 3) := by decide +kernel
theorem dX6_burnt_37 : decode cX6_burnt 37 = .ok (.iload_n 1, 1) := by decide +kernel
theorem dX6_burnt_38 : decode cX6_burnt 38 = .ok (.invokevirtual 209, 3) := by decide +kernel
theorem dX6_burnt_41 : decode cX6_burnt 41 = .ok (.ireturn, 1) := by decide +kernel
theorem dX6_years_0 : decode cX6_years 0 = .ok (.iload_n 1, 1) := by decide +kernel
theorem dX6_years_1 : decode cX6_years 1 = .ok (.iconst 1, 1) := by decide +kernel
theorem dX6_years_2 : decode cX6_years 2 = .ok (.bipush 60, 2) := by decide +kernel
theorem dX6_years_4 : decode cX6_years 4 = .ok (.invokestatic 83, 3) := by decide +kernel
theorem dX6_years_7 : decode cX6_years 7 = .ok (.ifCond .eq 16, 3) := by decide +kernel
theorem dX6_years_10 : decode cX6_years 10 = .ok (.iload_n 2, 1) := by decide +kernel
theorem dX6_years_11 : decode cX6_years 11 = .ok (.ifCond .lt 12, 3) := by decide +kernel
theorem dX6_years_14 : decode cX6_years 14 = .ok (.iload_n 3, 1) := by decide +kernel
theorem dX6_years_15 : decode cX6_years 15 = .ok (.iconst 0, 1) := by decide +kernel
theorem dX6_years_16 : decode cX6_years 16 = .ok (.iconst 2, 1) := by decide +kernel
theorem dX6_years_17 : decode cX6_years 17 = .ok (.invokestatic 83, 3) := by decide +kernel
theorem dX6_years_20 : decode cX6_years 20 = .ok (.ifCond .ne 6, 3) := by decide +kernel
theorem dX6_years_23 : decode cX6_years 23 = .ok (.bipush (-102), 2) := by decide +kernel
theorem dX6_years_25 : decode cX6_years 25 = .ok (.ireturn, 1) := by decide +kernel
theorem dX6_years_26 : decode cX6_years 26 = .ok (.aload_n 0, 1) := by decide +kernel
theorem dX6_years_27 : decode cX6_years 27 = .ok (.getfield 19, 3) := by decide +kernel
theorem dX6_years_30 : decode cX6_years 30 = .ok (.invokevirtual 105, 3) := by decide +kernel
theorem dX6_years_33 : decode cX6_years 33 = .ok (.ifCond .ne 6, 3) := by decide +kernel
theorem dX6_years_36 : decode cX6_years 36 = .ok (.bipush (-103), 2) := by decide +kernel
theorem dX6_years_38 : decode cX6_years 38 = .ok (.ireturn, 1) := by decide +kernel
theorem dX6_years_39 : decode cX6_years 39 = .ok (.aload_n 0, 1) := by decide +kernel
theorem dX6_years_40 : decode cX6_years 40 = .ok (.getfield 28, 3) := by decide +kernel
theorem dX6_years_43 : decode cX6_years 43 = .ok (.getfield 90, 3) := by decide +kernel
theorem dX6_years_46 : decode cX6_years 46 = .ok (.lstore 4, 2) := by decide +kernel
theorem dX6_years_48 : decode cX6_years 48 = .ok (.iload_n 2, 1) := by decide +kernel
theorem dX6_years_49 : decode cX6_years 49 = .ok (.istore 6, 2) := by decide +kernel
theorem dX6_years_51 : decode cX6_years 51 = .ok (.iconst 0, 1) := by decide +kernel
theorem dX6_years_52 : decode cX6_years 52 = .ok (.istore 7, 2) := by decide +kernel
theorem dX6_years_54 : decode cX6_years 54 = .ok (.iload 7, 2) := by decide +kernel
theorem dX6_years_56 : decode cX6_years 56 = .ok (.iload_n 1, 1) := by decide +kernel
theorem dX6_years_57 : decode cX6_years 57 = .ok (.if_icmp .ge 53, 3) := by decide +kernel
theorem dX6_years_60 : decode cX6_years 60 = .ok (.iload 6, 2) := by decide +kernel
theorem dX6_years_62 : decode cX6_years 62 = .ok (.invokestatic 212, 3) := by decide +kernel
theorem dX6_years_65 : decode cX6_years 65 = .ok (.istore 6, 2) := by decide +kernel
theorem dX6_years_67 : decode cX6_years 67 = .ok (.aload_n 0, 1) := by decide +kernel
theorem dX6_years_68 : decode cX6_years 68 = .ok (.getfield 19, 3) := by decide +kernel
theorem dX6_years_71 : decode cX6_years 71 = .ok (.iload 6, 2) := by decide +kernel
theorem dX6_years_73 : decode cX6_years 73 = .ok (.ldc 215, 2) := by decide +kernel
theorem dX6_years_75 : decode cX6_years 75 = .ok (.idiv, 1) := by decide +kernel
theorem dX6_years_76 : decode cX6_years 76 = .ok (.bipush 10, 2) := by decide +kernel
theorem dX6_years_78 : decode cX6_years 78 = .ok (.irem, 1) := by decide +kernel
theorem dX6_years_79 : decode cX6_years 79 = .ok (.invokevirtual 216, 3) := by decide +kernel
theorem dX6_years_82 : decode cX6_years 82 = .ok (.istore 8, 2) := by decide +kernel
theorem dX6_years_84 : decode cX6_years 84 = .ok (.aload_n 0, 1) := by decide +kernel
theorem dX6_years_85 : decode cX6_years 85 = .ok (.getfield 28, 3) := by decide +kernel
theorem dX6_years_88 : decode cX6_years 88 = .ok (.aload_n 0, 1) := by decide +kernel
theorem dX6_years_89 : decode cX6_years 89 = .ok (.getfield 28, 3) := by decide +kernel
theorem dX6_years_92 : decode cX6_years 92 = .ok (.lload 4, 2) := by decide +kernel
theorem dX6_years_94 : decode cX6_years 94 = .ok (.iload 8, 2) := by decide +kernel
theorem dX6_years_96 : decode cX6_years 96 = .ok (.invokevirtual 219, 3) := by decide +kernel
theorem dX6_years_99 : decode cX6_years 99 = .ok (.invokevirtual 223, 3) := by decide +kernel
theorem dX6_years_102 : decode cX6_years 102 = .ok (.lstore 4, 2) := by decide +kernel
theorem dX6_years_104 : decode cX6_years 104 = .ok (.iinc 7 1, 3) := by decide +kernel
theorem dX6_years_107 : decode cX6_years 107 = .ok (.goto (-53), 3) := by decide +kernel
theorem dX6_years_110 : decode cX6_years 110 = .ok (.iload_n 3, 1) := by decide +kernel
theorem dX6_years_111 : decode cX6_years 111 = .ok (.ifCond .ne 9, 3) := by decide +kernel
theorem dX6_years_114 : decode cX6_years 114 = .ok (.lload 4, 2) := by decide +kernel
theorem dX6_years_116 : decode cX6_years 116 = .ok (.invokestatic 227, 3) := by decide +kernel
theorem dX6_years_119 : decode cX6_years 119 = .ok (.ireturn, 1) := by decide +kernel
theorem dX6_years_120 : decode cX6_years 120 = .ok (.iload_n 3, 1) := by decide +kernel
theorem dX6_years_121 : decode cX6_years 121 = .ok (.iconst 1, 1) := by decide +kernel
theorem dX6_years_122 : decode cX6_years 122 = .ok (.if_icmp .ne 11, 3) := by decide +kernel
theorem dX6_years_125 : decode cX6_years 125 = .ok (.lload 4, 2) := by decide +kernel
theorem dX6_years_127 : decode cX6_years 127 = .ok (.invokestatic 231, 3) := by decide +kernel
theorem dX6_years_130 : decode cX6_years 130 = .ok (.goto 5, 3) := by decide +kernel
theorem dX6_years_133 : decode cX6_years 133 = .ok (.iload 6, 2) := by decide +kernel
theorem dX6_years_135 : decode cX6_years 135 = .ok (.ireturn, 1) := by decide +kernel
theorem dX6_image_0 : decode cX6_image 0 = .ok (.aload_n 0, 1) := by decide +kernel
theorem dX6_image_1 : decode cX6_image 1 = .ok (.getfield 19, 3) := by decide +kernel
theorem dX6_image_4 : decode cX6_image 4 = .ok (.invokevirtual 105, 3) := by decide +kernel
theorem dX6_image_7 : decode cX6_image 7 = .ok (.ifCond .ne 6, 3) := by decide +kernel
theorem dX6_image_10 : decode cX6_image 10 = .ok (.bipush (-103), 2) := by decide +kernel
theorem dX6_image_12 : decode cX6_image 12 = .ok (.ireturn, 1) := by decide +kernel
theorem dX6_image_13 : decode cX6_image 13 = .ok (.aload_n 0, 1) := by decide +kernel
theorem dX6_image_14 : decode cX6_image 14 = .ok (.getfield 32, 3) := by decide +kernel
theorem dX6_image_17 : decode cX6_image 17 = .ok (.aload_n 0, 1) := by decide +kernel
theorem dX6_image_18 : decode cX6_image 18 = .ok (.getfield 28, 3) := by decide +kernel
theorem dX6_image_21 : decode cX6_image 21 = .ok (.invokevirtual 234, 3) := by decide +kernel
theorem dX6_image_24 : decode cX6_image 24 = .ok (.aload_n 0, 1) := by decide +kernel
theorem dX6_image_25 : decode cX6_image 25 = .ok (.iconst 1, 1) := by decide +kernel
theorem dX6_image_26 : decode cX6_image 26 = .ok (.putfield 68, 3) := by decide +kernel
theorem dX6_image_29 : decode cX6_image 29 = .ok (.aload_n 0, 1) := by decide +kernel
theorem dX6_image_30 : decode cX6_image 30 = .ok (.getfield 28, 3) := by decide +kernel
theorem dX6_image_33 : decode cX6_image 33 = .ok (.getfield 238, 3) := by decide +kernel
theorem dX6_image_36 : decode cX6_image 36 = .ok (.ireturn, 1) := by decide +kernel
theorem dX6_restore_0 : decode cX6_restore 0 = .ok (.aload_n 0, 1) := by decide +kernel
theorem dX6_restore_1 : decode cX6_restore 1 = .ok (.getfield 68, 3) := by decide +kernel
theorem dX6_restore_4 : decode cX6_restore 4 = .ok (.ifCond .ne 6, 3) := by decide +kernel
theorem dX6_restore_7 : decode cX6_restore 7 = .ok (.bipush (-103), 2) := by decide +kernel
theorem dX6_restore_9 : decode cX6_restore 9 = .ok (.ireturn, 1) := by decide +kernel
theorem dX6_restore_10 : decode cX6_restore 10 = .ok (.aload_n 0, 1) := by decide +kernel
theorem dX6_restore_11 : decode cX6_restore 11 = .ok (.getfield 28, 3) := by decide +kernel
theorem dX6_restore_14 : decode cX6_restore 14 = .ok (.aload_n 0, 1) := by decide +kernel
theorem dX6_restore_15 : decode cX6_restore 15 = .ok (.getfield 32, 3) := by decide +kernel
theorem dX6_restore_18 : decode cX6_restore 18 = .ok (.invokevirtual 234, 3) := by decide +kernel
theorem dX6_restore_21 : decode cX6_restore 21 = .ok (.aload_n 0, 1) := by decide +kernel
theorem dX6_restore_22 : decode cX6_restore 22 = .ok (.getfield 28, 3) := by decide +kernel
theorem dX6_restore_25 : decode cX6_restore 25 = .ok (.getfield 238, 3) := by decide +kernel
theorem dX6_restore_28 : decode cX6_restore 28 = .ok (.ireturn, 1) := by decide +kernel
theorem dX6_count_0 : decode cX6_count 0 = .ok (.iload_n 1, 1) := by decide +kernel
theorem dX6_count_1 : decode cX6_count 1 = .ok (.tableswitch 135 0 9 #[55, 63, 71, 85, 96, 104, 112, 120, 125, 130], 55) := by decide +kernel
theorem dX6_count_56 : decode cX6_count 56 = .ok (.aload_n 0, 1) := by decide +kernel
theorem dX6_count_57 : decode cX6_count 57 = .ok (.getfield 19, 3) := by decide +kernel
theorem dX6_count_60 : decode cX6_count 60 = .ok (.getfield 76, 3) := by decide +kernel
theorem dX6_count_63 : decode cX6_count 63 = .ok (.ireturn, 1) := by decide +kernel
theorem dX6_count_64 : decode cX6_count 64 = .ok (.aload_n 0, 1) := by decide +kernel
theorem dX6_count_65 : decode cX6_count 65 = .ok (.getfield 28, 3) := by decide +kernel
theorem dX6_count_68 : decode cX6_count 68 = .ok (.getfield 112, 3) := by decide +kernel
theorem dX6_count_71 : decode cX6_count 71 = .ok (.ireturn, 1) := by decide +kernel
theorem dX6_count_72 : decode cX6_count 72 = .ok (.aload_n 0, 1) := by decide +kernel
theorem dX6_count_73 : decode cX6_count 73 = .ok (.getfield 28, 3) := by decide +kernel
theorem dX6_count_76 : decode cX6_count 76 = .ok (.getfield 90, 3) := by decide +kernel
theorem dX6_count_79 : decode cX6_count 79 = .ok (.invokestatic 227, 3) := by decide +kernel
theorem dX6_count_82 : decode cX6_count 82 = .ok (.invokestatic 152, 3) := by decide +kernel
theorem dX6_count_85 : decode cX6_count 85 = .ok (.ireturn, 1) := by decide +kernel
theorem dX6_count_86 : decode cX6_count 86 = .ok (.aload_n 0, 1) := by decide +kernel
theorem dX6_count_87 : decode cX6_count 87 = .ok (.getfield 28, 3) := by decide +kernel
theorem dX6_count_90 : decode cX6_count 90 = .ok (.getfield 90, 3) := by decide +kernel
theorem dX6_count_93 : decode cX6_count 93 = .ok (.invokestatic 231, 3) := by decide +kernel
theorem dX6_count_96 : decode cX6_count 96 = .ok (.ireturn, 1) := by decide +kernel
theorem dX6_count_97 : decode cX6_count 97 = .ok (.aload_n 0, 1) := by decide +kernel
theorem dX6_count_98 : decode cX6_count 98 = .ok (.getfield 28, 3) := by decide +kernel
theorem dX6_count_101 : decode cX6_count 101 = .ok (.getfield 238, 3) := by decide +kernel
theorem dX6_count_104 : decode cX6_count 104 = .ok (.ireturn, 1) := by decide +kernel
theorem dX6_count_105 : decode cX6_count 105 = .ok (.aload_n 0, 1) := by decide +kernel
theorem dX6_count_106 : decode cX6_count 106 = .ok (.getfield 28, 3) := by decide +kernel
theorem dX6_count_109 : decode cX6_count 109 = .ok (.getfield 197, 3) := by decide +kernel
theorem dX6_count_112 : decode cX6_count 112 = .ok (.ireturn, 1) := by decide +kernel
theorem dX6_count_113 : decode cX6_count 113 = .ok (.aload_n 0, 1) := by decide +kernel
theorem dX6_count_114 : decode cX6_count 114 = .ok (.getfield 10, 3) := by decide +kernel
theorem dX6_count_117 : decode cX6_count 117 = .ok (.getfield 241, 3) := by decide +kernel
theorem dX6_count_120 : decode cX6_count 120 = .ok (.ireturn, 1) := by decide +kernel
theorem dX6_count_121 : decode cX6_count 121 = .ok (.aload_n 0, 1) := by decide +kernel
theorem dX6_count_122 : decode cX6_count 122 = .ok (.getfield 72, 3) := by decide +kernel
theorem dX6_count_125 : decode cX6_count 125 = .ok (.ireturn, 1) := by decide +kernel
theorem dX6_count_126 : decode cX6_count 126 = .ok (.aload_n 0, 1) := by decide +kernel
theorem dX6_count_127 : decode cX6_count 127 = .ok (.getfield 182, 3) := by decide +kernel
theorem dX6_count_130 : decode cX6_count 130 = .ok (.ireturn, 1) := by decide +kernel
theorem dX6_count_131 : decode cX6_count 131 = .ok (.aload_n 0, 1) := by decide +kernel
theorem dX6_count_132 : decode cX6_count 132 = .ok (.getfield 191, 3) := by decide +kernel
theorem dX6_count_135 : decode cX6_count 135 = .ok (.ireturn, 1) := by decide +kernel
theorem dX6_count_136 : decode cX6_count 136 = .ok (.bipush (-102), 2) := by decide +kernel
theorem dX6_count_138 : decode cX6_count 138 = .ok (.ireturn, 1) := by decide +kernel
theorem dX6_digest_0 : decode cX6_digest 0 = .ok (.ldc2_w 244, 3) := by decide +kernel
theorem dX6_digest_3 : decode cX6_digest 3 = .ok (.lstore_n 1, 1) := by decide +kernel
theorem dX6_digest_4 : decode cX6_digest 4 = .ok (.iconst 0, 1) := by decide +kernel
theorem dX6_digest_5 : decode cX6_digest 5 = .ok (.istore_n 3, 1) := by decide +kernel
theorem dX6_digest_6 : decode cX6_digest 6 = .ok (.iload_n 3, 1) := by decide +kernel
theorem dX6_digest_7 : decode cX6_digest 7 = .ok (.bipush 6, 2) := by decide +kernel
theorem dX6_digest_9 : decode cX6_digest 9 = .ok (.if_icmp .ge 33, 3) := by decide +kernel
theorem dX6_digest_12 : decode cX6_digest 12 = .ok (.lload_n 1, 1) := by decide +kernel
theorem dX6_digest_13 : decode cX6_digest 13 = .ok (.aload_n 0, 1) := by decide +kernel
theorem dX6_digest_14 : decode cX6_digest 14 = .ok (.iload_n 3, 1) := by decide +kernel
theorem dX6_digest_15 : decode cX6_digest 15 = .ok (.iconst 0, 1) := by decide +kernel
theorem dX6_digest_16 : decode cX6_digest 16 = .ok (.invokevirtual 246, 3) := by decide +kernel
theorem dX6_digest_19 : decode cX6_digest 19 = .ok (.i2l, 1) := by decide +kernel
theorem dX6_digest_20 : decode cX6_digest 20 = .ok (.invokestatic 249, 3) := by decide +kernel
theorem dX6_digest_23 : decode cX6_digest 23 = .ok (.lstore_n 1, 1) := by decide +kernel
theorem dX6_digest_24 : decode cX6_digest 24 = .ok (.lload_n 1, 1) := by decide +kernel
theorem dX6_digest_25 : decode cX6_digest 25 = .ok (.aload_n 0, 1) := by decide +kernel
theorem dX6_digest_26 : decode cX6_digest 26 = .ok (.iload_n 3, 1) := by decide +kernel
theorem dX6_digest_27 : decode cX6_digest 27 = .ok (.iconst 1, 1) := by decide +kernel
theorem dX6_digest_28 : decode cX6_digest 28 = .ok (.invokevirtual 246, 3) := by decide +kernel
theorem dX6_digest_31 : decode cX6_digest 31 = .ok (.i2l, 1) := by decide +kernel
theorem dX6_digest_32 : decode cX6_digest 32 = .ok (.invokestatic 249, 3) := by decide +kernel
theorem dX6_digest_35 : decode cX6_digest 35 = .ok (.lstore_n 1, 1) := by decide +kernel
theorem dX6_digest_36 : decode cX6_digest 36 = .ok (.iinc 3 1, 3) := by decide +kernel
theorem dX6_digest_39 : decode cX6_digest 39 = .ok (.goto (-33), 3) := by decide +kernel
theorem dX6_digest_42 : decode cX6_digest 42 = .ok (.iconst 0, 1) := by decide +kernel
theorem dX6_digest_43 : decode cX6_digest 43 = .ok (.istore_n 3, 1) := by decide +kernel
theorem dX6_digest_44 : decode cX6_digest 44 = .ok (.iload_n 3, 1) := by decide +kernel
theorem dX6_digest_45 : decode cX6_digest 45 = .ok (.iconst 5, 1) := by decide +kernel
theorem dX6_digest_46 : decode cX6_digest 46 = .ok (.if_icmp .ge 27, 3) := by decide +kernel
theorem dX6_digest_49 : decode cX6_digest 49 = .ok (.aload_n 0, 1) := by decide +kernel
theorem dX6_digest_50 : decode cX6_digest 50 = .ok (.getfield 28, 3) := by decide +kernel
theorem dX6_digest_53 : decode cX6_digest 53 = .ok (.iload_n 3, 1) := by decide +kernel
theorem dX6_digest_54 : decode cX6_digest 54 = .ok (.invokevirtual 119, 3) := by decide +kernel
theorem dX6_digest_57 : decode cX6_digest 57 = .ok (.ifCond .eq 10, 3) := by decide +kernel
theorem dX6_digest_60 : decode cX6_digest 60 = .ok (.aload_n 0, 1) := by decide +kernel
theorem dX6_digest_61 : decode cX6_digest 61 = .ok (.lload_n 1, 1) := by decide +kernel
theorem dX6_digest_62 : decode cX6_digest 62 = .ok (.iload_n 3, 1) := by decide +kernel
theorem dX6_digest_63 : decode cX6_digest 63 = .ok (.invokevirtual 253, 3) := by decide +kernel
theorem dX6_digest_66 : decode cX6_digest 66 = .ok (.lstore_n 1, 1) := by decide +kernel
theorem dX6_digest_67 : decode cX6_digest 67 = .ok (.iinc 3 1, 3) := by decide +kernel
theorem dX6_digest_70 : decode cX6_digest 70 = .ok (.goto (-26), 3) := by decide +kernel
theorem dX6_digest_73 : decode cX6_digest 73 = .ok (.lload_n 1, 1) := by decide +kernel
theorem dX6_digest_74 : decode cX6_digest 74 = .ok (.aload_n 0, 1) := by decide +kernel
theorem dX6_digest_75 : decode cX6_digest 75 = .ok (.invokevirtual 256, 3) := by decide +kernel
theorem dX6_digest_78 : decode cX6_digest 78 = .ok (.i2l, 1) := by decide +kernel
theorem dX6_digest_79 : decode cX6_digest 79 = .ok (.invokestatic 249, 3) := by decide +kernel
theorem dX6_digest_82 : decode cX6_digest 82 = .ok (.lstore_n 1, 1) := by decide +kernel
theorem dX6_digest_83 : decode cX6_digest 83 = .ok (.aload_n 0, 1) := by decide +kernel
theorem dX6_digest_84 : decode cX6_digest 84 = .ok (.getfield 19, 3) := by decide +kernel
theorem dX6_digest_87 : decode cX6_digest 87 = .ok (.invokevirtual 105, 3) := by decide +kernel
theorem dX6_digest_90 : decode cX6_digest 90 = .ok (.ifCond .eq 13, 3) := by decide +kernel
theorem dX6_digest_93 : decode cX6_digest 93 = .ok (.lload_n 1, 1) := by decide +kernel
theorem dX6_digest_94 : decode cX6_digest 94 = .ok (.aload_n 0, 1) := by decide +kernel
theorem dX6_digest_95 : decode cX6_digest 95 = .ok (.invokevirtual 259, 3) := by decide +kernel
theorem dX6_digest_98 : decode cX6_digest 98 = .ok (.i2l, 1) := by decide +kernel
theorem dX6_digest_99 : decode cX6_digest 99 = .ok (.invokestatic 249, 3) := by decide +kernel
theorem dX6_digest_102 : decode cX6_digest 102 = .ok (.lstore_n 1, 1) := by decide +kernel
theorem dX6_digest_103 : decode cX6_digest 103 = .ok (.iconst 0, 1) := by decide +kernel
theorem dX6_digest_104 : decode cX6_digest 104 = .ok (.istore_n 3, 1) := by decide +kernel
theorem dX6_digest_105 : decode cX6_digest 105 = .ok (.iload_n 3, 1) := by decide +kernel
theorem dX6_digest_106 : decode cX6_digest 106 = .ok (.aload_n 0, 1) := by decide +kernel
theorem dX6_digest_107 : decode cX6_digest 107 = .ok (.getfield 10, 3) := by decide +kernel
theorem dX6_digest_110 : decode cX6_digest 110 = .ok (.getfield 241, 3) := by decide +kernel
theorem dX6_digest_113 : decode cX6_digest 113 = .ok (.if_icmp .ge 23, 3) := by decide +kernel
theorem dX6_digest_116 : decode cX6_digest 116 = .ok (.lload_n 1, 1) := by decide +kernel
theorem dX6_digest_117 : decode cX6_digest 117 = .ok (.aload_n 0, 1) := by decide +kernel
theorem dX6_digest_118 : decode cX6_digest 118 = .ok (.getfield 10, 3) := by decide +kernel
theorem dX6_digest_121 : decode cX6_digest 121 = .ok (.iload_n 3, 1) := by decide +kernel
theorem dX6_digest_122 : decode cX6_digest 122 = .ok (.invokevirtual 262, 3) := by decide +kernel
theorem dX6_digest_125 : decode cX6_digest 125 = .ok (.i2l, 1) := by decide +kernel
theorem dX6_digest_126 : decode cX6_digest 126 = .ok (.invokestatic 249, 3) := by decide +kernel
theorem dX6_digest_129 : decode cX6_digest 129 = .ok (.lstore_n 1, 1) := by decide +kernel
theorem dX6_digest_130 : decode cX6_digest 130 = .ok (.iinc 3 1, 3) := by decide +kernel
theorem dX6_digest_133 : decode cX6_digest 133 = .ok (.goto (-28), 3) := by decide +kernel
theorem dX6_digest_136 : decode cX6_digest 136 = .ok (.iconst 0, 1) := by decide +kernel
theorem dX6_digest_137 : decode cX6_digest 137 = .ok (.istore_n 3, 1) := by decide +kernel
theorem dX6_digest_138 : decode cX6_digest 138 = .ok (.iload_n 3, 1) := by decide +kernel
theorem dX6_digest_139 : decode cX6_digest 139 = .ok (.bipush 10, 2) := by decide +kernel
theorem dX6_digest_141 : decode cX6_digest 141 = .ok (.if_icmp .ge 20, 3) := by decide +kernel
theorem dX6_digest_144 : decode cX6_digest 144 = .ok (.lload_n 1, 1) := by decide +kernel
theorem dX6_digest_145 : decode cX6_digest 145 = .ok (.aload_n 0, 1) := by decide +kernel
theorem dX6_digest_146 : decode cX6_digest 146 = .ok (.iload_n 3, 1) := by decide +kernel
theorem dX6_digest_147 : decode cX6_digest 147 = .ok (.invokevirtual 265, 3) := by decide +kernel
theorem dX6_digest_150 : decode cX6_digest 150 = .ok (.i2l, 1) := by decide +kernel
theorem dX6_digest_151 : decode cX6_digest 151 = .ok (.invokestatic 249, 3) := by decide +kernel
theorem dX6_digest_154 : decode cX6_digest 154 = .ok (.lstore_n 1, 1) := by decide +kernel
theorem dX6_digest_155 : decode cX6_digest 155 = .ok (.iinc 3 1, 3) := by decide +kernel
theorem dX6_digest_158 : decode cX6_digest 158 = .ok (.goto (-20), 3) := by decide +kernel
theorem dX6_digest_161 : decode cX6_digest 161 = .ok (.lload_n 1, 1) := by decide +kernel
theorem dX6_digest_162 : decode cX6_digest 162 = .ok (.lreturn, 1) := by decide +kernel
theorem dX6_mixedWithFile_0 : decode cX6_mixedWithFile 0 = .ok (.lload_n 1, 1) := by decide +kernel
theorem dX6_mixedWithFile_1 : decode cX6_mixedWithFile 1 = .ok (.lstore 4, 2) := by decide +kernel
theorem dX6_mixedWithFile_3 : decode cX6_mixedWithFile 3 = .ok (.iconst 0, 1) := by decide +kernel
theorem dX6_mixedWithFile_4 : decode cX6_mixedWithFile 4 = .ok (.istore 6, 2) := by decide +kernel
theorem dX6_mixedWithFile_6 : decode cX6_mixedWithFile 6 = .ok (.iload 6, 2) := by decide +kernel
theorem dX6_mixedWithFile_8 : decode cX6_mixedWithFile 8 = .ok (.bipush 6, 2) := by decide +kernel
theorem dX6_mixedWithFile_10 : decode cX6_mixedWithFile 10 = .ok (.if_icmp .ge 24, 3) := by decide +kernel
theorem dX6_mixedWithFile_13 : decode cX6_mixedWithFile 13 = .ok (.lload 4, 2) := by decide +kernel
theorem dX6_mixedWithFile_15 : decode cX6_mixedWithFile 15 = .ok (.aload_n 0, 1) := by decide +kernel
theorem dX6_mixedWithFile_16 : decode cX6_mixedWithFile 16 = .ok (.iload_n 3, 1) := by decide +kernel
theorem dX6_mixedWithFile_17 : decode cX6_mixedWithFile 17 = .ok (.iload 6, 2) := by decide +kernel
theorem dX6_mixedWithFile_19 : decode cX6_mixedWithFile 19 = .ok (.invokevirtual 268, 3) := by decide +kernel
theorem dX6_mixedWithFile_22 : decode cX6_mixedWithFile 22 = .ok (.i2l, 1) := by decide +kernel
theorem dX6_mixedWithFile_23 : decode cX6_mixedWithFile 23 = .ok (.invokestatic 249, 3) := by decide +kernel
theorem dX6_mixedWithFile_26 : decode cX6_mixedWithFile 26 = .ok (.lstore 4, 2) := by decide +kernel
theorem dX6_mixedWithFile_28 : decode cX6_mixedWithFile 28 = .ok (.iinc 6 1, 3) := by decide +kernel
theorem dX6_mixedWithFile_31 : decode cX6_mixedWithFile 31 = .ok (.goto (-25), 3) := by decide +kernel
theorem dX6_mixedWithFile_34 : decode cX6_mixedWithFile 34 = .ok (.aload_n 0, 1) := by decide +kernel
theorem dX6_mixedWithFile_35 : decode cX6_mixedWithFile 35 = .ok (.getfield 40, 3) := by decide +kernel
theorem dX6_mixedWithFile_38 : decode cX6_mixedWithFile 38 = .ok (.aload_n 0, 1) := by decide +kernel
theorem dX6_mixedWithFile_39 : decode cX6_mixedWithFile 39 = .ok (.getfield 28, 3) := by decide +kernel
theorem dX6_mixedWithFile_42 : decode cX6_mixedWithFile 42 = .ok (.getfield 90, 3) := by decide +kernel
theorem dX6_mixedWithFile_45 : decode cX6_mixedWithFile 45 = .ok (.iload_n 3, 1) := by decide +kernel
theorem dX6_mixedWithFile_46 : decode cX6_mixedWithFile 46 = .ok (.iconst 2, 1) := by decide +kernel
theorem dX6_mixedWithFile_47 : decode cX6_mixedWithFile 47 = .ok (.invokevirtual 171, 3) := by decide +kernel
theorem dX6_mixedWithFile_50 : decode cX6_mixedWithFile 50 = .ok (.istore 6, 2) := by decide +kernel
theorem dX6_mixedWithFile_52 : decode cX6_mixedWithFile 52 = .ok (.lload 4, 2) := by decide +kernel
theorem dX6_mixedWithFile_54 : decode cX6_mixedWithFile 54 = .ok (.iload 6, 2) := by decide +kernel
theorem dX6_mixedWithFile_56 : decode cX6_mixedWithFile 56 = .ok (.iconst 2, 1) := by decide +kernel
theorem dX6_mixedWithFile_57 : decode cX6_mixedWithFile 57 = .ok (.iconst 0, 1) := by decide +kernel
theorem dX6_mixedWithFile_58 : decode cX6_mixedWithFile 58 = .ok (.invokestatic 175, 3) := by decide +kernel
theorem dX6_mixedWithFile_61 : decode cX6_mixedWithFile 61 = .ok (.i2l, 1) := by decide +kernel
theorem dX6_mixedWithFile_62 : decode cX6_mixedWithFile 62 = .ok (.invokestatic 249, 3) := by decide +kernel
theorem dX6_mixedWithFile_65 : decode cX6_mixedWithFile 65 = .ok (.lstore 4, 2) := by decide +kernel
theorem dX6_mixedWithFile_67 : decode cX6_mixedWithFile 67 = .ok (.lload 4, 2) := by decide +kernel
theorem dX6_mixedWithFile_69 : decode cX6_mixedWithFile 69 = .ok (.iload 6, 2) := by decide +kernel
theorem dX6_mixedWithFile_71 : decode cX6_mixedWithFile 71 = .ok (.iconst 2, 1) := by decide +kernel
theorem dX6_mixedWithFile_72 : decode cX6_mixedWithFile 72 = .ok (.iconst 1, 1) := by decide +kernel
theorem dX6_mixedWithFile_73 : decode cX6_mixedWithFile 73 = .ok (.invokestatic 175, 3) := by decide +kernel
theorem dX6_mixedWithFile_76 : decode cX6_mixedWithFile 76 = .ok (.i2l, 1) := by decide +kernel
theorem dX6_mixedWithFile_77 : decode cX6_mixedWithFile 77 = .ok (.invokestatic 249, 3) := by decide +kernel
theorem dX6_mixedWithFile_80 : decode cX6_mixedWithFile 80 = .ok (.lstore 4, 2) := by decide +kernel
theorem dX6_mixedWithFile_82 : decode cX6_mixedWithFile 82 = .ok (.lload 4, 2) := by decide +kernel
theorem dX6_mixedWithFile_84 : decode cX6_mixedWithFile 84 = .ok (.aload_n 0, 1) := by decide +kernel
theorem dX6_mixedWithFile_85 : decode cX6_mixedWithFile 85 = .ok (.getfield 40, 3) := by decide +kernel
theorem dX6_mixedWithFile_88 : decode cX6_mixedWithFile 88 = .ok (.iload_n 3, 1) := by decide +kernel
theorem dX6_mixedWithFile_89 : decode cX6_mixedWithFile 89 = .ok (.iconst 2, 1) := by decide +kernel
theorem dX6_mixedWithFile_90 : decode cX6_mixedWithFile 90 = .ok (.invokevirtual 179, 3) := by decide +kernel
theorem dX6_mixedWithFile_93 : decode cX6_mixedWithFile 93 = .ok (.i2l, 1) := by decide +kernel
theorem dX6_mixedWithFile_94 : decode cX6_mixedWithFile 94 = .ok (.invokestatic 249, 3) := by decide +kernel
theorem dX6_mixedWithFile_97 : decode cX6_mixedWithFile 97 = .ok (.lreturn, 1) := by decide +kernel
theorem dX6_mixed_0 : decode cX6_mixed 0 = .ok (.ldc2_w 271, 3) := by decide +kernel
theorem dX6_mixed_3 : decode cX6_mixed 3 = .ok (.lload_n 0, 1) := by decide +kernel
theorem dX6_mixed_4 : decode cX6_mixed 4 = .ok (.lmul, 1) := by decide +kernel
theorem dX6_mixed_5 : decode cX6_mixed 5 = .ok (.lload_n 2, 1) := by decide +kernel
theorem dX6_mixed_6 : decode cX6_mixed 6 = .ok (.ladd, 1) := by decide +kernel
theorem dX6_mixed_7 : decode cX6_mixed 7 = .ok (.lreturn, 1) := by decide +kernel
theorem dX6_isLetter_0 : decode cX6_isLetter 0 = .ok (.iload_n 0, 1) := by decide +kernel
theorem dX6_isLetter_1 : decode cX6_isLetter 1 = .ok (.iconst 0, 1) := by decide +kernel
theorem dX6_isLetter_2 : decode cX6_isLetter 2 = .ok (.iconst 5, 1) := by decide +kernel
theorem dX6_isLetter_3 : decode cX6_isLetter 3 = .ok (.invokestatic 83, 3) := by decide +kernel
theorem dX6_isLetter_6 : decode cX6_isLetter 6 = .ok (.ireturn, 1) := by decide +kernel
theorem dX6_within_0 : decode cX6_within 0 = .ok (.iload_n 0, 1) := by decide +kernel
theorem dX6_within_1 : decode cX6_within 1 = .ok (.iload_n 1, 1) := by decide +kernel
theorem dX6_within_2 : decode cX6_within 2 = .ok (.if_icmp .lt 12, 3) := by decide +kernel
theorem dX6_within_5 : decode cX6_within 5 = .ok (.iload_n 0, 1) := by decide +kernel
theorem dX6_within_6 : decode cX6_within 6 = .ok (.iload_n 2, 1) := by decide +kernel
theorem dX6_within_7 : decode cX6_within 7 = .ok (.if_icmp .gt 7, 3) := by decide +kernel
theorem dX6_within_10 : decode cX6_within 10 = .ok (.iconst 1, 1) := by decide +kernel
theorem dX6_within_11 : decode cX6_within 11 = .ok (.goto 4, 3) := by decide +kernel
theorem dX6_within_14 : decode cX6_within 14 = .ok (.iconst 0, 1) := by decide +kernel
theorem dX6_within_15 : decode cX6_within 15 = .ok (.ireturn, 1) := by decide +kernel
theorem dX6_power_0 : decode cX6_power 0 = .ok (.iconst 1, 1) := by decide +kernel
theorem dX6_power_1 : decode cX6_power 1 = .ok (.istore_n 2, 1) := by decide +kernel
theorem dX6_power_2 : decode cX6_power 2 = .ok (.iconst 0, 1) := by decide +kernel
theorem dX6_power_3 : decode cX6_power 3 = .ok (.istore_n 3, 1) := by decide +kernel
theorem dX6_power_4 : decode cX6_power 4 = .ok (.iload_n 3, 1) := by decide +kernel
theorem dX6_power_5 : decode cX6_power 5 = .ok (.iload_n 1, 1) := by decide +kernel
theorem dX6_power_6 : decode cX6_power 6 = .ok (.if_icmp .ge 13, 3) := by decide +kernel
theorem dX6_power_9 : decode cX6_power 9 = .ok (.iload_n 2, 1) := by decide +kernel
theorem dX6_power_10 : decode cX6_power 10 = .ok (.iload_n 0, 1) := by decide +kernel
theorem dX6_power_11 : decode cX6_power 11 = .ok (.imul, 1) := by decide +kernel
theorem dX6_power_12 : decode cX6_power 12 = .ok (.istore_n 2, 1) := by decide +kernel
theorem dX6_power_13 : decode cX6_power 13 = .ok (.iinc 3 1, 3) := by decide +kernel
theorem dX6_power_16 : decode cX6_power 16 = .ok (.goto (-12), 3) := by decide +kernel
theorem dX6_power_19 : decode cX6_power 19 = .ok (.iload_n 2, 1) := by decide +kernel
theorem dX6_power_20 : decode cX6_power 20 = .ok (.ireturn, 1) := by decide +kernel
theorem dX6_inLowestTerms_0 : decode cX6_inLowestTerms 0 = .ok (.iload_n 0, 1) := by decide +kernel
theorem dX6_inLowestTerms_1 : decode cX6_inLowestTerms 1 = .ok (.istore_n 3, 1) := by decide +kernel
theorem dX6_inLowestTerms_2 : decode cX6_inLowestTerms 2 = .ok (.bipush 10, 2) := by decide +kernel
theorem dX6_inLowestTerms_4 : decode cX6_inLowestTerms 4 = .ok (.iload_n 1, 1) := by decide +kernel
theorem dX6_inLowestTerms_5 : decode cX6_inLowestTerms 5 = .ok (.invokestatic 273, 3) := by decide +kernel
theorem dX6_inLowestTerms_8 : decode cX6_inLowestTerms 8 = .ok (.istore 4, 2) := by decide +kernel
theorem dX6_inLowestTerms_10 : decode cX6_inLowestTerms 10 = .ok (.iconst 0, 1) := by decide +kernel
theorem dX6_inLowestTerms_11 : decode cX6_inLowestTerms 11 = .ok (.istore 5, 2) := by decide +kernel
theorem dX6_inLowestTerms_13 : decode cX6_inLowestTerms 13 = .ok (.iload 5, 2) := by decide +kernel
theorem dX6_inLowestTerms_15 : decode cX6_inLowestTerms 15 = .ok (.iload_n 1, 1) := by decide +kernel
theorem dX6_inLowestTerms_16 : decode cX6_inLowestTerms 16 = .ok (.if_icmp .ge 55, 3) := by decide +kernel
theorem dX6_inLowestTerms_19 : decode cX6_inLowestTerms 19 = .ok (.iload_n 3, 1) := by decide +kernel
theorem dX6_inLowestTerms_20 : decode cX6_inLowestTerms 20 = .ok (.iconst 2, 1) := by decide +kernel
theorem dX6_inLowestTerms_21 : decode cX6_inLowestTerms 21 = .ok (.irem, 1) := by decide +kernel
theorem dX6_inLowestTerms_22 : decode cX6_inLowestTerms 22 = .ok (.ifCond .ne 20, 3) := by decide +kernel
theorem dX6_inLowestTerms_25 : decode cX6_inLowestTerms 25 = .ok (.iload 4, 2) := by decide +kernel
theorem dX6_inLowestTerms_27 : decode cX6_inLowestTerms 27 = .ok (.iconst 2, 1) := by decide +kernel
theorem dX6_inLowestTerms_28 : decode cX6_inLowestTerms 28 = .ok (.irem, 1) := by decide +kernel
theorem dX6_inLowestTerms_29 : decode cX6_inLowestTerms 29 = .ok (.ifCond .ne 13, 3) := by decide +kernel
theorem dX6_inLowestTerms_32 : decode cX6_inLowestTerms 32 = .ok (.iload_n 3, 1) := by decide +kernel
theorem dX6_inLowestTerms_33 : decode cX6_inLowestTerms 33 = .ok (.iconst 2, 1) := by decide +kernel
theorem dX6_inLowestTerms_34 : decode cX6_inLowestTerms 34 = .ok (.idiv, 1) := by decide +kernel
theorem dX6_inLowestTerms_35 : decode cX6_inLowestTerms 35 = .ok (.istore_n 3, 1) := by decide +kernel
theorem dX6_inLowestTerms_36 : decode cX6_inLowestTerms 36 = .ok (.iload 4, 2) := by decide +kernel
theorem dX6_inLowestTerms_38 : decode cX6_inLowestTerms 38 = .ok (.iconst 2, 1) := by decide +kernel
theorem dX6_inLowestTerms_39 : decode cX6_inLowestTerms 39 = .ok (.idiv, 1) := by decide +kernel
theorem dX6_inLowestTerms_40 : decode cX6_inLowestTerms 40 = .ok (.istore 4, 2) := by decide +kernel
theorem dX6_inLowestTerms_42 : decode cX6_inLowestTerms 42 = .ok (.iload_n 3, 1) := by decide +kernel
theorem dX6_inLowestTerms_43 : decode cX6_inLowestTerms 43 = .ok (.iconst 5, 1) := by decide +kernel
theorem dX6_inLowestTerms_44 : decode cX6_inLowestTerms 44 = .ok (.irem, 1) := by decide +kernel
theorem dX6_inLowestTerms_45 : decode cX6_inLowestTerms 45 = .ok (.ifCond .ne 20, 3) := by decide +kernel
theorem dX6_inLowestTerms_48 : decode cX6_inLowestTerms 48 = .ok (.iload 4, 2) := by decide +kernel
theorem dX6_inLowestTerms_50 : decode cX6_inLowestTerms 50 = .ok (.iconst 5, 1) := by decide +kernel
theorem dX6_inLowestTerms_51 : decode cX6_inLowestTerms 51 = .ok (.irem, 1) := by decide +kernel
theorem dX6_inLowestTerms_52 : decode cX6_inLowestTerms 52 = .ok (.ifCond .ne 13, 3) := by decide +kernel
theorem dX6_inLowestTerms_55 : decode cX6_inLowestTerms 55 = .ok (.iload_n 3, 1) := by decide +kernel
theorem dX6_inLowestTerms_56 : decode cX6_inLowestTerms 56 = .ok (.iconst 5, 1) := by decide +kernel
theorem dX6_inLowestTerms_57 : decode cX6_inLowestTerms 57 = .ok (.idiv, 1) := by decide +kernel
theorem dX6_inLowestTerms_58 : decode cX6_inLowestTerms 58 = .ok (.istore_n 3, 1) := by decide +kernel
theorem dX6_inLowestTerms_59 : decode cX6_inLowestTerms 59 = .ok (.iload 4, 2) := by decide +kernel
theorem dX6_inLowestTerms_61 : decode cX6_inLowestTerms 61 = .ok (.iconst 5, 1) := by decide +kernel
theorem dX6_inLowestTerms_62 : decode cX6_inLowestTerms 62 = .ok (.idiv, 1) := by decide +kernel
theorem dX6_inLowestTerms_63 : decode cX6_inLowestTerms 63 = .ok (.istore 4, 2) := by decide +kernel
theorem dX6_inLowestTerms_65 : decode cX6_inLowestTerms 65 = .ok (.iinc 5 1, 3) := by decide +kernel
theorem dX6_inLowestTerms_68 : decode cX6_inLowestTerms 68 = .ok (.goto (-55), 3) := by decide +kernel
theorem dX6_inLowestTerms_71 : decode cX6_inLowestTerms 71 = .ok (.iload_n 2, 1) := by decide +kernel
theorem dX6_inLowestTerms_72 : decode cX6_inLowestTerms 72 = .ok (.ifCond .ne 7, 3) := by decide +kernel
theorem dX6_inLowestTerms_75 : decode cX6_inLowestTerms 75 = .ok (.iload_n 3, 1) := by decide +kernel
theorem dX6_inLowestTerms_76 : decode cX6_inLowestTerms 76 = .ok (.goto 5, 3) := by decide +kernel
theorem dX6_inLowestTerms_79 : decode cX6_inLowestTerms 79 = .ok (.iload 4, 2) := by decide +kernel
theorem dX6_inLowestTerms_81 : decode cX6_inLowestTerms 81 = .ok (.ireturn, 1) := by decide +kernel
theorem dX6_nextSeed_0 : decode cX6_nextSeed 0 = .ok (.ldc2_w 276, 3) := by decide +kernel
theorem dX6_nextSeed_3 : decode cX6_nextSeed 3 = .ok (.iload_n 0, 1) := by decide +kernel
theorem dX6_nextSeed_4 : decode cX6_nextSeed 4 = .ok (.i2l, 1) := by decide +kernel
theorem dX6_nextSeed_5 : decode cX6_nextSeed 5 = .ok (.lmul, 1) := by decide +kernel
theorem dX6_nextSeed_6 : decode cX6_nextSeed 6 = .ok (.ldc2_w 278, 3) := by decide +kernel
theorem dX6_nextSeed_9 : decode cX6_nextSeed 9 = .ok (.ladd, 1) := by decide +kernel
theorem dX6_nextSeed_10 : decode cX6_nextSeed 10 = .ok (.ldc2_w 280, 3) := by decide +kernel
theorem dX6_nextSeed_13 : decode cX6_nextSeed 13 = .ok (.land, 1) := by decide +kernel
theorem dX6_nextSeed_14 : decode cX6_nextSeed 14 = .ok (.l2i, 1) := by decide +kernel
theorem dX6_nextSeed_15 : decode cX6_nextSeed 15 = .ok (.ireturn, 1) := by decide +kernel
