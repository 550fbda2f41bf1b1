theorem dX7_isPointedAt_40 : decode cX7_isPointedAt 40 = .ok (.goto 4, 3) := by decide +kernel
theorem dX7_isPointedAt_43 : decode cX7_isPointedAt 43 = .ok (.iconst 0, 1) := by decide +kernel
theorem dX7_isPointedAt_44 : decode cX7_isPointedAt 44 = .ok (.istore_n 2, 1) := by decide +kernel
theorem dX7_isPointedAt_45 : decode cX7_isPointedAt 45 = .ok (.iinc 3 1, 3) := by decide +kernel
theorem dX7_isPointedAt_48 : decode cX7_isPointedAt 48 = .ok (.goto (-44), 3) := by decide +kernel
theorem dX7_isPointedAt_51 : decode cX7_isPointedAt 51 = .ok (.iload_n 2, 1) := by decide +kernel
theorem dX7_isPointedAt_52 : decode cX7_isPointedAt 52 = .ok (.ireturn, 1) := by decide +kernel
theorem dX7_burnsOf_0 : decode cX7_burnsOf 0 = .ok (.aload_n 0, 1) := by decide +kernel
theorem dX7_burnsOf_1 : decode cX7_burnsOf 1 = .ok (.getfield 31, 3) := by decide +kernel
theorem dX7_burnsOf_4 : decode cX7_burnsOf 4 = .ok (.iload_n 1, 1) := by decide +kernel
theorem dX7_burnsOf_5 : decode cX7_burnsOf 5 = .ok (.iaload, 1) := by decide +kernel
theorem dX7_burnsOf_6 : decode cX7_burnsOf 6 = .ok (.iload_n 2, 1) := by decide +kernel
theorem dX7_burnsOf_7 : decode cX7_burnsOf 7 = .ok (.ishr, 1) := by decide +kernel
theorem dX7_burnsOf_8 : decode cX7_burnsOf 8 = .ok (.iconst 1, 1) := by decide +kernel
theorem dX7_burnsOf_9 : decode cX7_burnsOf 9 = .ok (.iand, 1) := by decide +kernel
theorem dX7_burnsOf_10 : decode cX7_burnsOf 10 = .ok (.iconst 1, 1) := by decide +kernel
theorem dX7_burnsOf_11 : decode cX7_burnsOf 11 = .ok (.if_icmp .ne 7, 3) := by decide +kernel
theorem dX7_burnsOf_14 : decode cX7_burnsOf 14 = .ok (.iconst 1, 1) := by decide +kernel
theorem dX7_burnsOf_15 : decode cX7_burnsOf 15 = .ok (.goto 4, 3) := by decide +kernel
theorem dX7_burnsOf_18 : decode cX7_burnsOf 18 = .ok (.iconst 0, 1) := by decide +kernel
theorem dX7_burnsOf_19 : decode cX7_burnsOf 19 = .ok (.istore_n 3, 1) := by decide +kernel
theorem dX7_burnsOf_20 : decode cX7_burnsOf 20 = .ok (.aload_n 0, 1) := by decide +kernel
theorem dX7_burnsOf_21 : decode cX7_burnsOf 21 = .ok (.getfield 31, 3) := by decide +kernel
theorem dX7_burnsOf_24 : decode cX7_burnsOf 24 = .ok (.iload_n 1, 1) := by decide +kernel
theorem dX7_burnsOf_25 : decode cX7_burnsOf 25 = .ok (.iaload, 1) := by decide +kernel
theorem dX7_burnsOf_26 : decode cX7_burnsOf 26 = .ok (.iconst 1, 1) := by decide +kernel
theorem dX7_burnsOf_27 : decode cX7_burnsOf 27 = .ok (.iload_n 2, 1) := by decide +kernel
theorem dX7_burnsOf_28 : decode cX7_burnsOf 28 = .ok (.ishl, 1) := by decide +kernel
theorem dX7_burnsOf_29 : decode cX7_burnsOf 29 = .ok (.if_icmp .ne 41, 3) := by decide +kernel
theorem dX7_burnsOf_32 : decode cX7_burnsOf 32 = .ok (.aload_n 0, 1) := by decide +kernel
theorem dX7_burnsOf_33 : decode cX7_burnsOf 33 = .ok (.getfield 28, 3) := by decide +kernel
theorem dX7_burnsOf_36 : decode cX7_burnsOf 36 = .ok (.iload_n 1, 1) := by decide +kernel
theorem dX7_burnsOf_37 : decode cX7_burnsOf 37 = .ok (.iaload, 1) := by decide +kernel
theorem dX7_burnsOf_38 : decode cX7_burnsOf 38 = .ok (.aload_n 0, 1) := by decide +kernel
theorem dX7_burnsOf_39 : decode cX7_burnsOf 39 = .ok (.getfield 16, 3) := by decide +kernel
theorem dX7_burnsOf_42 : decode cX7_burnsOf 42 = .ok (.iconst 2, 1) := by decide +kernel
theorem dX7_burnsOf_43 : decode cX7_burnsOf 43 = .ok (.iload_n 1, 1) := by decide +kernel
theorem dX7_burnsOf_44 : decode cX7_burnsOf 44 = .ok (.imul, 1) := by decide +kernel
theorem dX7_burnsOf_45 : decode cX7_burnsOf 45 = .ok (.iaload, 1) := by decide +kernel
theorem dX7_burnsOf_46 : decode cX7_burnsOf 46 = .ok (.iconst 2, 1) := by decide +kernel
theorem dX7_burnsOf_47 : decode cX7_burnsOf 47 = .ok (.if_icmp .ne 7, 3) := by decide +kernel
theorem dX7_burnsOf_50 : decode cX7_burnsOf 50 = .ok (.iconst 2, 1) := by decide +kernel
theorem dX7_burnsOf_51 : decode cX7_burnsOf 51 = .ok (.goto 4, 3) := by decide +kernel
theorem dX7_burnsOf_54 : decode cX7_burnsOf 54 = .ok (.iconst 1, 1) := by decide +kernel
theorem dX7_burnsOf_55 : decode cX7_burnsOf 55 = .ok (.if_icmp .ge 15, 3) := by decide +kernel
theorem dX7_burnsOf_58 : decode cX7_burnsOf 58 = .ok (.aload_n 0, 1) := by decide +kernel
theorem dX7_burnsOf_59 : decode cX7_burnsOf 59 = .ok (.iload_n 1, 1) := by decide +kernel
theorem dX7_burnsOf_60 : decode cX7_burnsOf 60 = .ok (.invokevirtual 134, 3) := by decide +kernel
theorem dX7_burnsOf_63 : decode cX7_burnsOf 63 = .ok (.ifCond .eq 7, 3) := by decide +kernel
theorem dX7_burnsOf_66 : decode cX7_burnsOf 66 = .ok (.iconst 1, 1) := by decide +kernel
theorem dX7_burnsOf_67 : decode cX7_burnsOf 67 = .ok (.goto 4, 3) := by decide +kernel
theorem dX7_burnsOf_70 : decode cX7_burnsOf 70 = .ok (.iconst 0, 1) := by decide +kernel
theorem dX7_burnsOf_71 : decode cX7_burnsOf 71 = .ok (.istore 4, 2) := by decide +kernel
theorem dX7_burnsOf_73 : decode cX7_burnsOf 73 = .ok (.iload_n 3, 1) := by decide +kernel
theorem dX7_burnsOf_74 : decode cX7_burnsOf 74 = .ok (.ifCond .eq 8, 3) := by decide +kernel
theorem dX7_burnsOf_77 : decode cX7_burnsOf 77 = .ok (.iload 4, 2) := by decide +kernel
theorem dX7_burnsOf_79 : decode cX7_burnsOf 79 = .ok (.ifCond .eq 24, 3) := by decide +kernel
theorem dX7_burnsOf_82 : decode cX7_burnsOf 82 = .ok (.aload_n 0, 1) := by decide +kernel
theorem dX7_burnsOf_83 : decode cX7_burnsOf 83 = .ok (.getfield 28, 3) := by decide +kernel
theorem dX7_burnsOf_86 : decode cX7_burnsOf 86 = .ok (.iload_n 1, 1) := by decide +kernel
theorem dX7_burnsOf_87 : decode cX7_burnsOf 87 = .ok (.dup2, 1) := by decide +kernel
theorem dX7_burnsOf_88 : decode cX7_burnsOf 88 = .ok (.iaload, 1) := by decide +kernel
theorem dX7_burnsOf_89 : decode cX7_burnsOf 89 = .ok (.iload 4, 2) := by decide +kernel
theorem dX7_burnsOf_91 : decode cX7_burnsOf 91 = .ok (.ifCond .eq 7, 3) := by decide +kernel
theorem dX7_burnsOf_94 : decode cX7_burnsOf 94 = .ok (.iconst 1, 1) := by decide +kernel
theorem dX7_burnsOf_95 : decode cX7_burnsOf 95 = .ok (.goto 4, 3) := by decide +kernel
theorem dX7_burnsOf_98 : decode cX7_burnsOf 98 = .ok (.iconst 0, 1) := by decide +kernel
theorem dX7_burnsOf_99 : decode cX7_burnsOf 99 = .ok (.iadd, 1) := by decide +kernel
theorem dX7_burnsOf_100 : decode cX7_burnsOf 100 = .ok (.iastore, 1) := by decide +kernel
theorem dX7_burnsOf_101 : decode cX7_burnsOf 101 = .ok (.iconst 0, 1) := by decide +kernel
theorem dX7_burnsOf_102 : decode cX7_burnsOf 102 = .ok (.ireturn, 1) := by decide +kernel
theorem dX7_burnsOf_103 : decode cX7_burnsOf 103 = .ok (.iconst 1, 1) := by decide +kernel
theorem dX7_burnsOf_104 : decode cX7_burnsOf 104 = .ok (.iload_n 2, 1) := by decide +kernel
theorem dX7_burnsOf_105 : decode cX7_burnsOf 105 = .ok (.iconst 1, 1) := by decide +kernel
theorem dX7_burnsOf_106 : decode cX7_burnsOf 106 = .ok (.iadd, 1) := by decide +kernel
theorem dX7_burnsOf_107 : decode cX7_burnsOf 107 = .ok (.bipush 6, 2) := by decide +kernel
theorem dX7_burnsOf_109 : decode cX7_burnsOf 109 = .ok (.irem, 1) := by decide +kernel
theorem dX7_burnsOf_110 : decode cX7_burnsOf 110 = .ok (.ishl, 1) := by decide +kernel
theorem dX7_burnsOf_111 : decode cX7_burnsOf 111 = .ok (.istore 5, 2) := by decide +kernel
theorem dX7_burnsOf_113 : decode cX7_burnsOf 113 = .ok (.iconst 1, 1) := by decide +kernel
theorem dX7_burnsOf_114 : decode cX7_burnsOf 114 = .ok (.iload_n 2, 1) := by decide +kernel
theorem dX7_burnsOf_115 : decode cX7_burnsOf 115 = .ok (.ishl, 1) := by decide +kernel
theorem dX7_burnsOf_116 : decode cX7_burnsOf 116 = .ok (.aload_n 0, 1) := by decide +kernel
theorem dX7_burnsOf_117 : decode cX7_burnsOf 117 = .ok (.getfield 16, 3) := by decide +kernel
theorem dX7_burnsOf_120 : decode cX7_burnsOf 120 = .ok (.iconst 2, 1) := by decide +kernel
theorem dX7_burnsOf_121 : decode cX7_burnsOf 121 = .ok (.iload_n 1, 1) := by decide +kernel
theorem dX7_burnsOf_122 : decode cX7_burnsOf 122 = .ok (.imul, 1) := by decide +kernel
theorem dX7_burnsOf_123 : decode cX7_burnsOf 123 = .ok (.iaload, 1) := by decide +kernel
theorem dX7_burnsOf_124 : decode cX7_burnsOf 124 = .ok (.iconst 4, 1) := by decide +kernel
theorem dX7_burnsOf_125 : decode cX7_burnsOf 125 = .ok (.if_icmp .ne 15, 3) := by decide +kernel
theorem dX7_burnsOf_128 : decode cX7_burnsOf 128 = .ok (.aload_n 0, 1) := by decide +kernel
theorem dX7_burnsOf_129 : decode cX7_burnsOf 129 = .ok (.getfield 31, 3) := by decide +kernel
theorem dX7_burnsOf_132 : decode cX7_burnsOf 132 = .ok (.iload_n 1, 1) := by decide +kernel
theorem dX7_burnsOf_133 : decode cX7_burnsOf 133 = .ok (.iaload, 1) := by decide +kernel
theorem dX7_burnsOf_134 : decode cX7_burnsOf 134 = .ok (.iload 5, 2) := by decide +kernel
theorem dX7_burnsOf_136 : decode cX7_burnsOf 136 = .ok (.iand, 1) := by decide +kernel
theorem dX7_burnsOf_137 : decode cX7_burnsOf 137 = .ok (.goto 4, 3) := by decide +kernel
theorem dX7_burnsOf_140 : decode cX7_burnsOf 140 = .ok (.iconst 0, 1) := by decide +kernel
theorem dX7_burnsOf_141 : decode cX7_burnsOf 141 = .ok (.ior, 1) := by decide +kernel
theorem dX7_burnsOf_142 : decode cX7_burnsOf 142 = .ok (.ireturn, 1) := by decide +kernel
theorem dX7_spread_0 : decode cX7_spread 0 = .ok (.iconst 0, 1) := by decide +kernel
theorem dX7_spread_1 : decode cX7_spread 1 = .ok (.istore_n 2, 1) := by decide +kernel
theorem dX7_spread_2 : decode cX7_spread 2 = .ok (.iload_n 2, 1) := by decide +kernel
theorem dX7_spread_3 : decode cX7_spread 3 = .ok (.bipush 6, 2) := by decide +kernel
theorem dX7_spread_5 : decode cX7_spread 5 = .ok (.if_icmp .ge 51, 3) := by decide +kernel
theorem dX7_spread_8 : decode cX7_spread 8 = .ok (.aload_n 0, 1) := by decide +kernel
theorem dX7_spread_9 : decode cX7_spread 9 = .ok (.getfield 25, 3) := by decide +kernel
theorem dX7_spread_12 : decode cX7_spread 12 = .ok (.iload_n 1, 1) := by decide +kernel
theorem dX7_spread_13 : decode cX7_spread 13 = .ok (.iaload, 1) := by decide +kernel
theorem dX7_spread_14 : decode cX7_spread 14 = .ok (.iload_n 2, 1) := by decide +kernel
theorem dX7_spread_15 : decode cX7_spread 15 = .ok (.ishr, 1) := by decide +kernel
theorem dX7_spread_16 : decode cX7_spread 16 = .ok (.iconst 1, 1) := by decide +kernel
theorem dX7_spread_17 : decode cX7_spread 17 = .ok (.iand, 1) := by decide +kernel
theorem dX7_spread_18 : decode cX7_spread 18 = .ok (.ifCond .ne 32, 3) := by decide +kernel
theorem dX7_spread_21 : decode cX7_spread 21 = .ok (.aload_n 0, 1) := by decide +kernel
theorem dX7_spread_22 : decode cX7_spread 22 = .ok (.aload_n 0, 1) := by decide +kernel
theorem dX7_spread_23 : decode cX7_spread 23 = .ok (.getfield 25, 3) := by decide +kernel
theorem dX7_spread_26 : decode cX7_spread 26 = .ok (.iload_n 2, 1) := by decide +kernel
theorem dX7_spread_27 : decode cX7_spread 27 = .ok (.invokevirtual 95, 3) := by decide +kernel
theorem dX7_spread_30 : decode cX7_spread 30 = .ok (.aload_n 0, 1) := by decide +kernel
theorem dX7_spread_31 : decode cX7_spread 31 = .ok (.getfield 78, 3) := by decide +kernel
theorem dX7_spread_34 : decode cX7_spread 34 = .ok (.if_icmp .ge 16, 3) := by decide +kernel
theorem dX7_spread_37 : decode cX7_spread 37 = .ok (.aload_n 0, 1) := by decide +kernel
theorem dX7_spread_38 : decode cX7_spread 38 = .ok (.getfield 25, 3) := by decide +kernel
theorem dX7_spread_41 : decode cX7_spread 41 = .ok (.iload_n 1, 1) := by decide +kernel
theorem dX7_spread_42 : decode cX7_spread 42 = .ok (.dup2, 1) := by decide +kernel
theorem dX7_spread_43 : decode cX7_spread 43 = .ok (.iaload, 1) := by decide +kernel
theorem dX7_spread_44 : decode cX7_spread 44 = .ok (.iconst 1, 1) := by decide +kernel
theorem dX7_spread_45 : decode cX7_spread 45 = .ok (.iload_n 2, 1) := by decide +kernel
theorem dX7_spread_46 : decode cX7_spread 46 = .ok (.ishl, 1) := by decide +kernel
theorem dX7_spread_47 : decode cX7_spread 47 = .ok (.ior, 1) := by decide +kernel
theorem dX7_spread_48 : decode cX7_spread 48 = .ok (.iastore, 1) := by decide +kernel
theorem dX7_spread_49 : decode cX7_spread 49 = .ok (.return_, 1) := by decide +kernel
theorem dX7_spread_50 : decode cX7_spread 50 = .ok (.iinc 2 1, 3) := by decide +kernel
theorem dX7_spread_53 : decode cX7_spread 53 = .ok (.goto (-51), 3) := by decide +kernel
theorem dX7_spread_56 : decode cX7_spread 56 = .ok (.return_, 1) := by decide +kernel
theorem dX7_pass_0 : decode cX7_pass 0 = .ok (.iconst 0, 1) := by decide +kernel
theorem dX7_pass_1 : decode cX7_pass 1 = .ok (.istore_n 2, 1) := by decide +kernel
theorem dX7_pass_2 : decode cX7_pass 2 = .ok (.iload_n 2, 1) := by decide +kernel
theorem dX7_pass_3 : decode cX7_pass 3 = .ok (.iconst 5, 1) := by decide +kernel
theorem dX7_pass_4 : decode cX7_pass 4 = .ok (.if_icmp .ge 33, 3) := by decide +kernel
theorem dX7_pass_7 : decode cX7_pass 7 = .ok (.aload_n 0, 1) := by decide +kernel
theorem dX7_pass_8 : decode cX7_pass 8 = .ok (.getfield 31, 3) := by decide +kernel
theorem dX7_pass_11 : decode cX7_pass 11 = .ok (.iload_n 2, 1) := by decide +kernel
theorem dX7_pass_12 : decode cX7_pass 12 = .ok (.iload_n 2, 1) := by decide +kernel
theorem dX7_pass_13 : decode cX7_pass 13 = .ok (.aload_n 0, 1) := by decide +kernel
theorem dX7_pass_14 : decode cX7_pass 14 = .ok (.getfield 81, 3) := by decide +kernel
theorem dX7_pass_17 : decode cX7_pass 17 = .ok (.if_icmp .ge 12, 3) := by decide +kernel
theorem dX7_pass_20 : decode cX7_pass 20 = .ok (.aload_n 0, 1) := by decide +kernel
theorem dX7_pass_21 : decode cX7_pass 21 = .ok (.getfield 25, 3) := by decide +kernel
theorem dX7_pass_24 : decode cX7_pass 24 = .ok (.iload_n 2, 1) := by decide +kernel
theorem dX7_pass_25 : decode cX7_pass 25 = .ok (.iaload, 1) := by decide +kernel
theorem dX7_pass_26 : decode cX7_pass 26 = .ok (.goto 4, 3) := by decide +kernel
theorem dX7_pass_29 : decode cX7_pass 29 = .ok (.iconst 0, 1) := by decide +kernel
theorem dX7_pass_30 : decode cX7_pass 30 = .ok (.iastore, 1) := by decide +kernel
theorem dX7_pass_31 : decode cX7_pass 31 = .ok (.iinc 2 1, 3) := by decide +kernel
theorem dX7_pass_34 : decode cX7_pass 34 = .ok (.goto (-32), 3) := by decide +kernel
theorem dX7_pass_37 : decode cX7_pass 37 = .ok (.iconst 0, 1) := by decide +kernel
theorem dX7_pass_38 : decode cX7_pass 38 = .ok (.istore_n 2, 1) := by decide +kernel
theorem dX7_pass_39 : decode cX7_pass 39 = .ok (.iconst 0, 1) := by decide +kernel
theorem dX7_pass_40 : decode cX7_pass 40 = .ok (.istore_n 3, 1) := by decide +kernel
theorem dX7_pass_41 : decode cX7_pass 41 = .ok (.iload_n 3, 1) := by decide +kernel
theorem dX7_pass_42 : decode cX7_pass 42 = .ok (.aload_n 0, 1) := by decide +kernel
theorem dX7_pass_43 : decode cX7_pass 43 = .ok (.getfield 81, 3) := by decide +kernel
theorem dX7_pass_46 : decode cX7_pass 46 = .ok (.if_icmp .ge 38, 3) := by decide +kernel
theorem dX7_pass_49 : decode cX7_pass 49 = .ok (.aload_n 0, 1) := by decide +kernel
theorem dX7_pass_50 : decode cX7_pass 50 = .ok (.iload_n 3, 1) := by decide +kernel
theorem dX7_pass_51 : decode cX7_pass 51 = .ok (.iload_n 1, 1) := by decide +kernel
theorem dX7_pass_52 : decode cX7_pass 52 = .ok (.invokevirtual 137, 3) := by decide +kernel
theorem dX7_pass_55 : decode cX7_pass 55 = .ok (.istore 4, 2) := by decide +kernel
theorem dX7_pass_57 : decode cX7_pass 57 = .ok (.aload_n 0, 1) := by decide +kernel
theorem dX7_pass_58 : decode cX7_pass 58 = .ok (.getfield 25, 3) := by decide +kernel
theorem dX7_pass_61 : decode cX7_pass 61 = .ok (.iload_n 3, 1) := by decide +kernel
theorem dX7_pass_62 : decode cX7_pass 62 = .ok (.dup2, 1) := by decide +kernel
theorem dX7_pass_63 : decode cX7_pass 63 = .ok (.iaload, 1) := by decide +kernel
theorem dX7_pass_64 : decode cX7_pass 64 = .ok (.iload 4, 2) := by decide +kernel
theorem dX7_pass_66 : decode cX7_pass 66 = .ok (.iconst (-1), 1) := by decide +kernel
theorem dX7_pass_67 : decode cX7_pass 67 = .ok (.ixor, 1) := by decide +kernel
theorem dX7_pass_68 : decode cX7_pass 68 = .ok (.iand, 1) := by decide +kernel
theorem dX7_pass_69 : decode cX7_pass 69 = .ok (.iastore, 1) := by decide +kernel
theorem dX7_pass_70 : decode cX7_pass 70 = .ok (.iload_n 2, 1) := by decide +kernel
theorem dX7_pass_71 : decode cX7_pass 71 = .ok (.iload 4, 2) := by decide +kernel
theorem dX7_pass_73 : decode cX7_pass 73 = .ok (.invokestatic 123, 3) := by decide +kernel
theorem dX7_pass_76 : decode cX7_pass 76 = .ok (.iadd, 1) := by decide +kernel
theorem dX7_pass_77 : decode cX7_pass 77 = .ok (.istore_n 2, 1) := by decide +kernel
theorem dX7_pass_78 : decode cX7_pass 78 = .ok (.iinc 3 1, 3) := by decide +kernel
theorem dX7_pass_81 : decode cX7_pass 81 = .ok (.goto (-40), 3) := by decide +kernel
theorem dX7_pass_84 : decode cX7_pass 84 = .ok (.iconst 0, 1) := by decide +kernel
theorem dX7_pass_85 : decode cX7_pass 85 = .ok (.istore_n 3, 1) := by decide +kernel
theorem dX7_pass_86 : decode cX7_pass 86 = .ok (.iload_n 3, 1) := by decide +kernel
theorem dX7_pass_87 : decode cX7_pass 87 = .ok (.aload_n 0, 1) := by decide +kernel
theorem dX7_pass_88 : decode cX7_pass 88 = .ok (.getfield 81, 3) := by decide +kernel
theorem dX7_pass_91 : decode cX7_pass 91 = .ok (.if_icmp .ge 35, 3) := by decide +kernel
theorem dX7_pass_94 : decode cX7_pass 94 = .ok (.aload_n 0, 1) := by decide +kernel
theorem dX7_pass_95 : decode cX7_pass 95 = .ok (.getfield 16, 3) := by decide +kernel
theorem dX7_pass_98 : decode cX7_pass 98 = .ok (.iconst 2, 1) := by decide +kernel
theorem dX7_pass_99 : decode cX7_pass 99 = .ok (.iload_n 3, 1) := by decide +kernel
theorem dX7_pass_100 : decode cX7_pass 100 = .ok (.imul, 1) := by decide +kernel
theorem dX7_pass_101 : decode cX7_pass 101 = .ok (.iaload, 1) := by decide +kernel
theorem dX7_pass_102 : decode cX7_pass 102 = .ok (.iconst 1, 1) := by decide +kernel
theorem dX7_pass_103 : decode cX7_pass 103 = .ok (.if_icmp .ne 17, 3) := by decide +kernel
theorem dX7_pass_106 : decode cX7_pass 106 = .ok (.aload_n 0, 1) := by decide +kernel
theorem dX7_pass_107 : decode cX7_pass 107 = .ok (.getfield 25, 3) := by decide +kernel
theorem dX7_pass_110 : decode cX7_pass 110 = .ok (.iload_n 3, 1) := by decide +kernel
theorem dX7_pass_111 : decode cX7_pass 111 = .ok (.iaload, 1) := by decide +kernel
theorem dX7_pass_112 : decode cX7_pass 112 = .ok (.ifCond .eq 8, 3) := by decide +kernel
theorem dX7_pass_115 : decode cX7_pass 115 = .ok (.aload_n 0, 1) := by decide +kernel
theorem dX7_pass_116 : decode cX7_pass 116 = .ok (.iload_n 3, 1) := by decide +kernel
theorem dX7_pass_117 : decode cX7_pass 117 = .ok (.invokevirtual 140, 3) := by decide +kernel
theorem dX7_pass_120 : decode cX7_pass 120 = .ok (.iinc 3 1, 3) := by decide +kernel
theorem dX7_pass_123 : decode cX7_pass 123 = .ok (.goto (-37), 3) := by decide +kernel
theorem dX7_pass_126 : decode cX7_pass 126 = .ok (.iload_n 2, 1) := by decide +kernel
theorem dX7_pass_127 : decode cX7_pass 127 = .ok (.ireturn, 1) := by decide +kernel
theorem dX7_burn_0 : decode cX7_burn 0 = .ok (.iload_n 1, 1) := by decide +kernel
theorem dX7_burn_1 : decode cX7_burn 1 = .ok (.invokestatic 99, 3) := by decide +kernel
theorem dX7_burn_4 : decode cX7_burn 4 = .ok (.ifCond .ne 6, 3) := by decide +kernel
theorem dX7_burn_7 : decode cX7_burn 7 = .ok (.bipush (-101), 2) := by decide +kernel
theorem dX7_burn_9 : decode cX7_burn 9 = .ok (.ireturn, 1) := by decide +kernel
theorem dX7_burn_10 : decode cX7_burn 10 = .ok (.aload_n 0, 1) := by decide +kernel
theorem dX7_burn_11 : decode cX7_burn 11 = .ok (.invokevirtual 109, 3) := by decide +kernel
theorem dX7_burn_14 : decode cX7_burn 14 = .ok (.ifCond .eq 6, 3) := by decide +kernel
theorem dX7_burn_17 : decode cX7_burn 17 = .ok (.bipush (-103), 2) := by decide +kernel
theorem dX7_burn_19 : decode cX7_burn 19 = .ok (.ireturn, 1) := by decide +kernel
theorem dX7_burn_20 : decode cX7_burn 20 = .ok (.aload_n 0, 1) := by decide +kernel
theorem dX7_burn_21 : decode cX7_burn 21 = .ok (.invokevirtual 144, 3) := by decide +kernel
theorem dX7_burn_24 : decode cX7_burn 24 = .ok (.aload_n 0, 1) := by decide +kernel
theorem dX7_burn_25 : decode cX7_burn 25 = .ok (.iload_n 1, 1) := by decide +kernel
theorem dX7_burn_26 : decode cX7_burn 26 = .ok (.invokevirtual 147, 3) := by decide +kernel
theorem dX7_burn_29 : decode cX7_burn 29 = .ok (.istore_n 2, 1) := by decide +kernel
theorem dX7_burn_30 : decode cX7_burn 30 = .ok (.iconst 0, 1) := by decide +kernel
theorem dX7_burn_31 : decode cX7_burn 31 = .ok (.istore_n 3, 1) := by decide +kernel
theorem dX7_burn_32 : decode cX7_burn 32 = .ok (.iload_n 3, 1) := by decide +kernel
theorem dX7_burn_33 : decode cX7_burn 33 = .ok (.iconst 5, 1) := by decide +kernel
theorem dX7_burn_34 : decode cX7_burn 34 = .ok (.if_icmp .ge 33, 3) := by decide +kernel
theorem dX7_burn_37 : decode cX7_burn 37 = .ok (.aload_n 0, 1) := by decide +kernel
theorem dX7_burn_38 : decode cX7_burn 38 = .ok (.getfield 19, 3) := by decide +kernel
theorem dX7_burn_41 : decode cX7_burn 41 = .ok (.iload_n 3, 1) := by decide +kernel
theorem dX7_burn_42 : decode cX7_burn 42 = .ok (.aload_n 0, 1) := by decide +kernel
theorem dX7_burn_43 : decode cX7_burn 43 = .ok (.getfield 25, 3) := by decide +kernel
theorem dX7_burn_46 : decode cX7_burn 46 = .ok (.iload_n 3, 1) := by decide +kernel
theorem dX7_burn_47 : decode cX7_burn 47 = .ok (.iaload, 1) := by decide +kernel
theorem dX7_burn_48 : decode cX7_burn 48 = .ok (.iastore, 1) := by decide +kernel
theorem dX7_burn_49 : decode cX7_burn 49 = .ok (.aload_n 0, 1) := by decide +kernel
theorem dX7_burn_50 : decode cX7_burn 50 = .ok (.getfield 22, 3) := by decide +kernel
theorem dX7_burn_53 : decode cX7_burn 53 = .ok (.iload_n 3, 1) := by decide +kernel
theorem dX7_burn_54 : decode cX7_burn 54 = .ok (.aload_n 0, 1) := by decide +kernel
theorem dX7_burn_55 : decode cX7_burn 55 = .ok (.getfield 28, 3) := by decide +kernel
theorem dX7_burn_58 : decode cX7_burn 58 = .ok (.iload_n 3, 1) := by decide +kernel
theorem dX7_burn_59 : decode cX7_burn 59 = .ok (.iaload, 1) := by decide +kernel
theorem dX7_burn_60 : decode cX7_burn 60 = .ok (.iastore, 1) := by decide +kernel
theorem dX7_burn_61 : decode cX7_burn 61 = .ok (.iinc 3 1, 3) := by decide +kernel
theorem dX7_burn_64 : decode cX7_burn 64 = .ok (.goto (-32), 3) := by decide +kernel
theorem dX7_burn_67 : decode cX7_burn 67 = .ok (.aload_n 0, 1) := by decide +kernel
theorem dX7_burn_68 : decode cX7_burn 68 = .ok (.dup, 1) := by decide +kernel
theorem dX7_burn_69 : decode cX7_burn 69 = .ok (.getfield 84, 3) := by decide +kernel
theorem dX7_burn_72 : decode cX7_burn 72 = .ok (.iconst 1, 1) := by decide +kernel
theorem dX7_burn_73 : decode cX7_burn 73 = .ok (.iadd, 1) := by decide +kernel
theorem dX7_burn_74 : decode cX7_burn 74 = .ok (.putfield 84, 3) := by decide +kernel
theorem dX7_burn_77 : decode cX7_burn 77 = .ok (.iload_n 2, 1) := by decide +kernel
theorem dX7_burn_78 : decode cX7_burn 78 = .ok (.ireturn, 1) := by decide +kernel
theorem dX7_power_0 : decode cX7_power 0 = .ok (.iconst 1, 1) := by decide +kernel
theorem dX7_power_1 : decode cX7_power 1 = .ok (.istore_n 2, 1) := by decide +kernel
theorem dX7_power_2 : decode cX7_power 2 = .ok (.iconst 0, 1) := by decide +kernel
theorem dX7_power_3 : decode cX7_power 3 = .ok (.istore_n 3, 1) := by decide +kernel
theorem dX7_power_4 : decode cX7_power 4 = .ok (.iload_n 3, 1) := by decide +kernel
theorem dX7_power_5 : decode cX7_power 5 = .ok (.iload_n 1, 1) := by decide +kernel
theorem dX7_power_6 : decode cX7_power 6 = .ok (.if_icmp .ge 13, 3) := by decide +kernel
theorem dX7_power_9 : decode cX7_power 9 = .ok (.iload_n 2, 1) := by decide +kernel
theorem dX7_power_10 : decode cX7_power 10 = .ok (.iload_n 0, 1) := by decide +kernel
theorem dX7_power_11 : decode cX7_power 11 = .ok (.imul, 1) := by decide +kernel
theorem dX7_power_12 : decode cX7_power 12 = .ok (.istore_n 2, 1) := by decide +kernel
theorem dX7_power_13 : decode cX7_power 13 = .ok (.iinc 3 1, 3) := by decide +kernel
theorem dX7_power_16 : decode cX7_power 16 = .ok (.goto (-12), 3) := by decide +kernel
theorem dX7_power_19 : decode cX7_power 19 = .ok (.iload_n 2, 1) := by decide +kernel
theorem dX7_power_20 : decode cX7_power 20 = .ok (.ireturn, 1) := by decide +kernel
theorem dX7_livesOf_0 : decode cX7_livesOf 0 = .ok (.iconst 0, 1) := by decide +kernel
theorem dX7_livesOf_1 : decode cX7_livesOf 1 = .ok (.istore_n 3, 1) := by decide +kernel
theorem dX7_livesOf_2 : decode cX7_livesOf 2 = .ok (.iconst 0, 1) := by decide +kernel
theorem dX7_livesOf_3 : decode cX7_livesOf 3 = .ok (.istore 4, 2) := by decide +kernel
theorem dX7_livesOf_5 : decode cX7_livesOf 5 = .ok (.iload 4, 2) := by decide +kernel
theorem dX7_livesOf_7 : decode cX7_livesOf 7 = .ok (.bipush 6, 2) := by decide +kernel
theorem dX7_livesOf_9 : decode cX7_livesOf 9 = .ok (.iload_n 2, 1) := by decide +kernel
theorem dX7_livesOf_10 : decode cX7_livesOf 10 = .ok (.invokestatic 150, 3) := by decide +kernel
theorem dX7_livesOf_13 : decode cX7_livesOf 13 = .ok (.if_icmp .ge 117, 3) := by decide +kernel
theorem dX7_livesOf_16 : decode cX7_livesOf 16 = .ok (.iconst 1, 1) := by decide +kernel
theorem dX7_livesOf_17 : decode cX7_livesOf 17 = .ok (.istore 5, 2) := by decide +kernel
theorem dX7_livesOf_19 : decode cX7_livesOf 19 = .ok (.iload 4, 2) := by decide +kernel
theorem dX7_livesOf_21 : decode cX7_livesOf 21 = .ok (.istore 6, 2) := by decide +kernel
theorem dX7_livesOf_23 : decode cX7_livesOf 23 = .ok (.iconst 0, 1) := by decide +kernel
theorem dX7_livesOf_24 : decode cX7_livesOf 24 = .ok (.istore 7, 2) := by decide +kernel
theorem dX7_livesOf_26 : decode cX7_livesOf 26 = .ok (.iload 7, 2) := by decide +kernel
theorem dX7_livesOf_28 : decode cX7_livesOf 28 = .ok (.iload_n 2, 1) := by decide +kernel
theorem dX7_livesOf_29 : decode cX7_livesOf 29 = .ok (.if_icmp .ge 31, 3) := by decide +kernel
theorem dX7_livesOf_32 : decode cX7_livesOf 32 = .ok (.iload 5, 2) := by decide +kernel
theorem dX7_livesOf_34 : decode cX7_livesOf 34 = .ok (.aload_n 0, 1) := by decide +kernel
theorem dX7_livesOf_35 : decode cX7_livesOf 35 = .ok (.getfield 13, 3) := by decide +kernel
theorem dX7_livesOf_38 : decode cX7_livesOf 38 = .ok (.iload 6, 2) := by decide +kernel
theorem dX7_livesOf_40 : decode cX7_livesOf 40 = .ok (.bipush 6, 2) := by decide +kernel
theorem dX7_livesOf_42 : decode cX7_livesOf 42 = .ok (.irem, 1) := by decide +kernel
theorem dX7_livesOf_43 : decode cX7_livesOf 43 = .ok (.iaload, 1) := by decide +kernel
theorem dX7_livesOf_44 : decode cX7_livesOf 44 = .ok (.imul, 1) := by decide +kernel
theorem dX7_livesOf_45 : decode cX7_livesOf 45 = .ok (.istore 5, 2) := by decide +kernel
theorem dX7_livesOf_47 : decode cX7_livesOf 47 = .ok (.iload 6, 2) := by decide +kernel
theorem dX7_livesOf_49 : decode cX7_livesOf 49 = .ok (.bipush 6, 2) := by decide +kernel
theorem dX7_livesOf_51 : decode cX7_livesOf 51 = .ok (.idiv, 1) := by decide +kernel
theorem dX7_livesOf_52 : decode cX7_livesOf 52 = .ok (.istore 6, 2) := by decide +kernel
theorem dX7_livesOf_54 : decode cX7_livesOf 54 = .ok (.iinc 7 1, 3) := by decide +kernel
theorem dX7_livesOf_57 : decode cX7_livesOf 57 = .ok (.goto (-31), 3) := by decide +kernel
theorem dX7_livesOf_60 : decode cX7_livesOf 60 = .ok (.iload 5, 2) := by decide +kernel
theorem dX7_livesOf_62 : decode cX7_livesOf 62 = .ok (.ifCond .le 62, 3) := by decide +kernel
theorem dX7_livesOf_65 : decode cX7_livesOf 65 = .ok (.aload_n 0, 1) := by decide +kernel
theorem dX7_livesOf_66 : decode cX7_livesOf 66 = .ok (.invokevirtual 144, 3) := by decide +kernel
theorem dX7_livesOf_69 : decode cX7_livesOf 69 = .ok (.iload 4, 2) := by decide +kernel
theorem dX7_livesOf_71 : decode cX7_livesOf 71 = .ok (.istore 6, 2) := by decide +kernel
theorem dX7_livesOf_73 : decode cX7_livesOf 73 = .ok (.iconst 0, 1) := by decide +kernel
theorem dX7_livesOf_74 : decode cX7_livesOf 74 = .ok (.istore 7, 2) := by decide +kernel
theorem dX7_livesOf_76 : decode cX7_livesOf 76 = .ok (.iload 7, 2) := by decide +kernel
theorem dX7_livesOf_78 : decode cX7_livesOf 78 = .ok (.iload_n 2, 1) := by decide +kernel
theorem dX7_livesOf_79 : decode cX7_livesOf 79 = .ok (.if_icmp .ge 27, 3) := by decide +kernel
theorem dX7_livesOf_82 : decode cX7_livesOf 82 = .ok (.aload_n 0, 1) := by decide +kernel
theorem dX7_livesOf_83 : decode cX7_livesOf 83 = .ok (.iload 6, 2) := by decide +kernel
theorem dX7_livesOf_85 : decode cX7_livesOf 85 = .ok (.bipush 6, 2) := by decide +kernel
theorem dX7_livesOf_87 : decode cX7_livesOf 87 = .ok (.irem, 1) := by decide +kernel
theorem dX7_livesOf_88 : decode cX7_livesOf 88 = .ok (.invokevirtual 147, 3) := by decide +kernel
theorem dX7_livesOf_91 : decode cX7_livesOf 91 = .ok (.istore 8, 2) := by decide +kernel
theorem dX7_livesOf_93 : decode cX7_livesOf 93 = .ok (.iload 6, 2) := by decide +kernel
theorem dX7_livesOf_95 : decode cX7_livesOf 95 = .ok (.bipush 6, 2) := by decide +kernel
theorem dX7_livesOf_97 : decode cX7_livesOf 97 = .ok (.idiv, 1) := by decide +kernel
theorem dX7_livesOf_98 : decode cX7_livesOf 98 = .ok (.istore 6, 2) := by decide +kernel
theorem dX7_livesOf_100 : decode cX7_livesOf 100 = .ok (.iinc 7 1, 3) := by decide +kernel
theorem dX7_livesOf_103 : decode cX7_livesOf 103 = .ok (.goto (-27), 3) := by decide +kernel
theorem dX7_livesOf_106 : decode cX7_livesOf 106 = .ok (.iload_n 3, 1) := by decide +kernel
theorem dX7_livesOf_107 : decode cX7_livesOf 107 = .ok (.aload_n 0, 1) := by decide +kernel
theorem dX7_livesOf_108 : decode cX7_livesOf 108 = .ok (.getfield 25, 3) := by decide +kernel
theorem dX7_livesOf_111 : decode cX7_livesOf 111 = .ok (.iload_n 1, 1) := by decide +kernel
theorem dX7_livesOf_112 : decode cX7_livesOf 112 = .ok (.iaload, 1) := by decide +kernel
theorem dX7_livesOf_113 : decode cX7_livesOf 113 = .ok (.ifCond .eq 8, 3) := by decide +kernel
theorem dX7_livesOf_116 : decode cX7_livesOf 116 = .ok (.iload 5, 2) := by decide +kernel
theorem dX7_livesOf_118 : decode cX7_livesOf 118 = .ok (.goto 4, 3) := by decide +kernel
theorem dX7_livesOf_121 : decode cX7_livesOf 121 = .ok (.iconst 0, 1) := by decide +kernel
theorem dX7_livesOf_122 : decode cX7_livesOf 122 = .ok (.iadd, 1) := by decide +kernel
theorem dX7_livesOf_123 : decode cX7_livesOf 123 = .ok (.istore_n 3, 1) := by decide +kernel
theorem dX7_livesOf_124 : decode cX7_livesOf 124 = .ok (.iinc 4 1, 3) := by decide +kernel
theorem dX7_livesOf_127 : decode cX7_livesOf 127 = .ok (.goto (-122), 3) := by decide +kernel
theorem dX7_livesOf_130 : decode cX7_livesOf 130 = .ok (.iload_n 3, 1) := by decide +kernel
theorem dX7_livesOf_131 : decode cX7_livesOf 131 = .ok (.ireturn, 1) := by decide +kernel
theorem dX7_term_0 : decode cX7_term 0 = .ok (.iload_n 0, 1) := by decide +kernel
theorem dX7_term_1 : decode cX7_term 1 = .ok (.istore_n 3, 1) := by decide +kernel
theorem dX7_term_2 : decode cX7_term 2 = .ok (.iload_n 1, 1) := by decide +kernel
theorem dX7_term_3 : decode cX7_term 3 = .ok (.istore 4, 2) := by decide +kernel
theorem dX7_term_5 : decode cX7_term 5 = .ok (.iload_n 3, 1) := by decide +kernel
theorem dX7_term_6 : decode cX7_term 6 = .ok (.ifCond .eq 18, 3) := by decide +kernel
theorem dX7_term_9 : decode cX7_term 9 = .ok (.iload 4, 2) := by decide +kernel
theorem dX7_term_11 : decode cX7_term 11 = .ok (.iload_n 3, 1) := by decide +kernel
theorem dX7_term_12 : decode cX7_term 12 = .ok (.irem, 1) := by decide +kernel
theorem dX7_term_13 : decode cX7_term 13 = .ok (.istore 5, 2) := by decide +kernel
theorem dX7_term_15 : decode cX7_term 15 = .ok (.iload_n 3, 1) := by decide +kernel
theorem dX7_term_16 : decode cX7_term 16 = .ok (.istore 4, 2) := by decide +kernel
theorem dX7_term_18 : decode cX7_term 18 = .ok (.iload 5, 2) := by decide +kernel
theorem dX7_term_20 : decode cX7_term 20 = .ok (.istore_n 3, 1) := by decide +kernel
theorem dX7_term_21 : decode cX7_term 21 = .ok (.goto (-16), 3) := by decide +kernel
theorem dX7_term_24 : decode cX7_term 24 = .ok (.iload_n 2, 1) := by decide +kernel
theorem dX7_term_25 : decode cX7_term 25 = .ok (.ifCond .ne 10, 3) := by decide +kernel
theorem dX7_term_28 : decode cX7_term 28 = .ok (.iload_n 0, 1) := by decide +kernel
theorem dX7_term_29 : decode cX7_term 29 = .ok (.iload 4, 2) := by decide +kernel
theorem dX7_term_31 : decode cX7_term 31 = .ok (.idiv, 1) := by decide +kernel
theorem dX7_term_32 : decode cX7_term 32 = .ok (.goto 7, 3) := by decide +kernel
theorem dX7_term_35 : decode cX7_term 35 = .ok (.iload_n 1, 1) := by decide +kernel
theorem dX7_term_36 : decode cX7_term 36 = .ok (.iload 4, 2) := by decide +kernel
theorem dX7_term_38 : decode cX7_term 38 = .ok (.idiv, 1) := by decide +kernel
theorem dX7_term_39 : decode cX7_term 39 = .ok (.ireturn, 1) := by decide +kernel
theorem dX7_oddsOf_0 : decode cX7_oddsOf 0 = .ok (.aload_n 0, 1) := by decide +kernel
theorem dX7_oddsOf_1 : decode cX7_oddsOf 1 = .ok (.iload_n 1, 1) := by decide +kernel
theorem dX7_oddsOf_2 : decode cX7_oddsOf 2 = .ok (.iload_n 2, 1) := by decide +kernel
theorem dX7_oddsOf_3 : decode cX7_oddsOf 3 = .ok (.invokevirtual 153, 3) := by decide +kernel
theorem dX7_oddsOf_6 : decode cX7_oddsOf 6 = .ok (.bipush 10, 2) := by decide +kernel
theorem dX7_oddsOf_8 : decode cX7_oddsOf 8 = .ok (.iload_n 2, 1) := by decide +kernel
theorem dX7_oddsOf_9 : decode cX7_oddsOf 9 = .ok (.invokestatic 150, 3) := by decide +kernel
theorem dX7_oddsOf_12 : decode cX7_oddsOf 12 = .ok (.iload_n 3, 1) := by decide +kernel
theorem dX7_oddsOf_13 : decode cX7_oddsOf 13 = .ok (.invokestatic 156, 3) := by decide +kernel
theorem dX7_oddsOf_16 : decode cX7_oddsOf 16 = .ok (.ireturn, 1) := by decide +kernel
theorem dX7_odds_0 : decode cX7_odds 0 = .ok (.aload_n 0, 1) := by decide +kernel
theorem dX7_odds_1 : decode cX7_odds 1 = .ok (.iload_n 1, 1) := by decide +kernel
theorem dX7_odds_2 : decode cX7_odds 2 = .ok (.invokevirtual 117, 3) := by decide +kernel
theorem dX7_odds_5 : decode cX7_odds 5 = .ok (.ifCond .ne 6, 3) := by decide +kernel
theorem dX7_odds_8 : decode cX7_odds 8 = .ok (.bipush (-101), 2) := by decide +kernel
theorem dX7_odds_10 : decode cX7_odds 10 = .ok (.ireturn, 1) := by decide +kernel
theorem dX7_odds_11 : decode cX7_odds 11 = .ok (.iload_n 2, 1) := by decide +kernel
theorem dX7_odds_12 : decode cX7_odds 12 = .ok (.i2l, 1) := by decide +kernel
theorem dX7_odds_13 : decode cX7_odds 13 = .ok (.lconst 0, 1) := by decide +kernel
theorem dX7_odds_14 : decode cX7_odds 14 = .ok (.ldc2_w 107, 3) := by decide +kernel
theorem dX7_odds_17 : decode cX7_odds 17 = .ok (.invokestatic 61, 3) := by decide +kernel
theorem dX7_odds_20 : decode cX7_odds 20 = .ok (.ifCond .eq 23, 3) := by decide +kernel
theorem dX7_odds_23 : decode cX7_odds 23 = .ok (.iload_n 3, 1) := by decide +kernel
theorem dX7_odds_24 : decode cX7_odds 24 = .ok (.i2l, 1) := by decide +kernel
theorem dX7_odds_25 : decode cX7_odds 25 = .ok (.lconst 0, 1) := by decide +kernel
theorem dX7_odds_26 : decode cX7_odds 26 = .ok (.lconst 1, 1) := by decide +kernel
theorem dX7_odds_27 : decode cX7_odds 27 = .ok (.invokestatic 61, 3) := by decide +kernel
theorem dX7_odds_30 : decode cX7_odds 30 = .ok (.ifCond .eq 13, 3) := by decide +kernel
theorem dX7_odds_33 : decode cX7_odds 33 = .ok (.aload_n 0, 1) := by decide +kernel
theorem dX7_odds_34 : decode cX7_odds 34 = .ok (.iload_n 1, 1) := by decide +kernel
theorem dX7_odds_35 : decode cX7_odds 35 = .ok (.iload_n 2, 1) := by decide +kernel
theorem dX7_odds_36 : decode cX7_odds 36 = .ok (.iload_n 3, 1) := by decide +kernel
theorem dX7_odds_37 : decode cX7_odds 37 = .ok (.invokevirtual 160, 3) := by decide +kernel
theorem dX7_odds_40 : decode cX7_odds 40 = .ok (.goto 5, 3) := by decide +kernel
theorem dX7_odds_43 : decode cX7_odds 43 = .ok (.bipush (-102), 2) := by decide +kernel
theorem dX7_odds_45 : decode cX7_odds 45 = .ok (.ireturn, 1) := by decide +kernel
theorem dX7_whereOf_0 : decode cX7_whereOf 0 = .ok (.aload_n 0, 1) := by decide +kernel
theorem dX7_whereOf_1 : decode cX7_whereOf 1 = .ok (.iload_n 1, 1) := by decide +kernel
theorem dX7_whereOf_2 : decode cX7_whereOf 2 = .ok (.iload_n 2, 1) := by decide +kernel
theorem dX7_whereOf_3 : decode cX7_whereOf 3 = .ok (.invokevirtual 153, 3) := by decide +kernel
theorem dX7_whereOf_6 : decode cX7_whereOf 6 = .ok (.istore_n 3, 1) := by decide +kernel
theorem dX7_whereOf_7 : decode cX7_whereOf 7 = .ok (.iconst (-1), 1) := by decide +kernel
theorem dX7_whereOf_8 : decode cX7_whereOf 8 = .ok (.istore 4, 2) := by decide +kernel
theorem dX7_whereOf_10 : decode cX7_whereOf 10 = .ok (.iconst 0, 1) := by decide +kernel
theorem dX7_whereOf_11 : decode cX7_whereOf 11 = .ok (.istore 5, 2) := by decide +kernel
theorem dX7_whereOf_13 : decode cX7_whereOf 13 = .ok (.iload 5, 2) := by decide +kernel
theorem dX7_whereOf_15 : decode cX7_whereOf 15 = .ok (.bipush 6, 2) := by decide +kernel
theorem dX7_whereOf_17 : decode cX7_whereOf 17 = .ok (.if_icmp .ge 83, 3) := by decide +kernel
theorem dX7_whereOf_20 : decode cX7_whereOf 20 = .ok (.aload_n 0, 1) := by decide +kernel
theorem dX7_whereOf_21 : decode cX7_whereOf 21 = .ok (.iload_n 1, 1) := by decide +kernel
theorem dX7_whereOf_22 : decode cX7_whereOf 22 = .ok (.iload 5, 2) := by decide +kernel
theorem dX7_whereOf_24 : decode cX7_whereOf 24 = .ok (.invokevirtual 126, 3) := by decide +kernel
theorem dX7_whereOf_27 : decode cX7_whereOf 27 = .ok (.ifCond .eq 67, 3) := by decide +kernel
theorem dX7_whereOf_30 : decode cX7_whereOf 30 = .ok (.aload_n 0, 1) := by decide +kernel
theorem dX7_whereOf_31 : decode cX7_whereOf 31 = .ok (.getfield 19, 3) := by decide +kernel
theorem dX7_whereOf_34 : decode cX7_whereOf 34 = .ok (.iload_n 1, 1) := by decide +kernel
theorem dX7_whereOf_35 : decode cX7_whereOf 35 = .ok (.dup2, 1) := by decide +kernel
theorem dX7_whereOf_36 : decode cX7_whereOf 36 = .ok (.iaload, 1) := by decide +kernel
theorem dX7_whereOf_37 : decode cX7_whereOf 37 = .ok (.iconst 1, 1) := by decide +kernel
theorem dX7_whereOf_38 : decode cX7_whereOf 38 = .ok (.iload 5, 2) := by decide +kernel
theorem dX7_whereOf_40 : decode cX7_whereOf 40 = .ok (.ishl, 1) := by decide +kernel
theorem dX7_whereOf_41 : decode cX7_whereOf 41 = .ok (.ior, 1) := by decide +kernel
theorem dX7_whereOf_42 : decode cX7_whereOf 42 = .ok (.iastore, 1) := by decide +kernel
theorem dX7_whereOf_43 : decode cX7_whereOf 43 = .ok (.aload_n 0, 1) := by decide +kernel
theorem dX7_whereOf_44 : decode cX7_whereOf 44 = .ok (.iload_n 1, 1) := by decide +kernel
theorem dX7_whereOf_45 : decode cX7_whereOf 45 = .ok (.iload_n 2, 1) := by decide +kernel
theorem dX7_whereOf_46 : decode cX7_whereOf 46 = .ok (.invokevirtual 153, 3) := by decide +kernel
theorem dX7_whereOf_49 : decode cX7_whereOf 49 = .ok (.istore 6, 2) := by decide +kernel
theorem dX7_whereOf_51 : decode cX7_whereOf 51 = .ok (.aload_n 0, 1) := by decide +kernel
theorem dX7_whereOf_52 : decode cX7_whereOf 52 = .ok (.getfield 19, 3) := by decide +kernel
theorem dX7_whereOf_55 : decode cX7_whereOf 55 = .ok (.iload_n 1, 1) := by decide +kernel
theorem dX7_whereOf_56 : decode cX7_whereOf 56 = .ok (.dup2, 1) := by decide +kernel
theorem dX7_whereOf_57 : decode cX7_whereOf 57 = .ok (.iaload, 1) := by decide +kernel
theorem dX7_whereOf_58 : decode cX7_whereOf 58 = .ok (.iconst 1, 1) := by decide +kernel
theorem dX7_whereOf_59 : decode cX7_whereOf 59 = .ok (.iload 5, 2) := by decide +kernel
theorem dX7_whereOf_61 : decode cX7_whereOf 61 = .ok (.ishl, 1) := by decide +kernel
theorem dX7_whereOf_62 : decode cX7_whereOf 62 = .ok (.iconst (-1), 1) := by decide +kernel
theorem dX7_whereOf_63 : decode cX7_whereOf 63 = .ok (.ixor, 1) := by decide +kernel
theorem dX7_whereOf_64 : decode cX7_whereOf 64 = .ok (.iand, 1) := by decide +kernel
theorem dX7_whereOf_65 : decode cX7_whereOf 65 = .ok (.iastore, 1) := by decide +kernel
theorem dX7_whereOf_66 : decode cX7_whereOf 66 = .ok (.iload 6, 2) := by decide +kernel
theorem dX7_whereOf_68 : decode cX7_whereOf 68 = .ok (.iload_n 3, 1) := by decide +kernel
theorem dX7_whereOf_69 : decode cX7_whereOf 69 = .ok (.if_icmp .le 8, 3) := by decide +kernel
theorem dX7_whereOf_72 : decode cX7_whereOf 72 = .ok (.iload 5, 2) := by decide +kernel
theorem dX7_whereOf_74 : decode cX7_whereOf 74 = .ok (.goto 5, 3) := by decide +kernel
theorem dX7_whereOf_77 : decode cX7_whereOf 77 = .ok (.iload 4, 2) := by decide +kernel
theorem dX7_whereOf_79 : decode cX7_whereOf 79 = .ok (.istore 4, 2) := by decide +kernel
theorem dX7_whereOf_81 : decode cX7_whereOf 81 = .ok (.iload 6, 2) := by decide +kernel
theorem dX7_whereOf_83 : decode cX7_whereOf 83 = .ok (.iload_n 3, 1) := by decide +kernel
theorem dX7_whereOf_84 : decode cX7_whereOf 84 = .ok (.if_icmp .le 8, 3) := by decide +kernel
theorem dX7_whereOf_87 : decode cX7_whereOf 87 = .ok (.iload 6, 2) := by decide +kernel
theorem dX7_whereOf_89 : decode cX7_whereOf 89 = .ok (.goto 4, 3) := by decide +kernel
theorem dX7_whereOf_92 : decode cX7_whereOf 92 = .ok (.iload_n 3, 1) := by decide +kernel
theorem dX7_whereOf_93 : decode cX7_whereOf 93 = .ok (.istore_n 3, 1) := by decide +kernel
theorem dX7_whereOf_94 : decode cX7_whereOf 94 = .ok (.iinc 5 1, 3) := by decide +kernel
theorem dX7_whereOf_97 : decode cX7_whereOf 97 = .ok (.goto (-84), 3) := by decide +kernel
theorem dX7_whereOf_100 : decode cX7_whereOf 100 = .ok (.iload 4, 2) := by decide +kernel
theorem dX7_whereOf_102 : decode cX7_whereOf 102 = .ok (.ireturn, 1) := by decide +kernel
theorem dX7_where_0 : decode cX7_where 0 = .ok (.aload_n 0, 1) := by decide +kernel
theorem dX7_where_1 : decode cX7_where 1 = .ok (.iload_n 1, 1) := by decide +kernel
theorem dX7_where_2 : decode cX7_where 2 = .ok (.invokevirtual 117, 3) := by decide +kernel
theorem dX7_where_5 : decode cX7_where 5 = .ok (.ifCond .ne 6, 3) := by decide +kernel
theorem dX7_where_8 : decode cX7_where 8 = .ok (.bipush (-101), 2) := by decide +kernel
theorem dX7_where_10 : decode cX7_where 10 = .ok (.ireturn, 1) := by decide +kernel
theorem dX7_where_11 : decode cX7_where 11 = .ok (.iload_n 2, 1) := by decide +kernel
theorem dX7_where_12 : decode cX7_where 12 = .ok (.i2l, 1) := by decide +kernel
theorem dX7_where_13 : decode cX7_where 13 = .ok (.lconst 0, 1) := by decide +kernel
theorem dX7_where_14 : decode cX7_where 14 = .ok (.ldc2_w 107, 3) := by decide +kernel
theorem dX7_where_17 : decode cX7_where 17 = .ok (.invokestatic 61, 3) := by decide +kernel
theorem dX7_where_20 : decode cX7_where 20 = .ok (.ifCond .eq 12, 3) := by decide +kernel
theorem dX7_where_23 : decode cX7_where 23 = .ok (.aload_n 0, 1) := by decide +kernel
theorem dX7_where_24 : decode cX7_where 24 = .ok (.iload_n 1, 1) := by decide +kernel
theorem dX7_where_25 : decode cX7_where 25 = .ok (.iload_n 2, 1) := by decide +kernel
theorem dX7_where_26 : decode cX7_where 26 = .ok (.invokevirtual 163, 3) := by decide +kernel
theorem dX7_where_29 : decode cX7_where 29 = .ok (.goto 5, 3) := by decide +kernel
theorem dX7_where_32 : decode cX7_where 32 = .ok (.bipush (-102), 2) := by decide +kernel
theorem dX7_where_34 : decode cX7_where 34 = .ok (.ireturn, 1) := by decide +kernel
theorem dX7_isSure_0 : decode cX7_isSure 0 = .ok (.iconst 1, 1) := by decide +kernel
theorem dX7_isSure_1 : decode cX7_isSure 1 = .ok (.istore 4, 2) := by decide +kernel
theorem dX7_isSure_3 : decode cX7_isSure 3 = .ok (.iconst 0, 1) := by decide +kernel
theorem dX7_isSure_4 : decode cX7_isSure 4 = .ok (.istore 5, 2) := by decide +kernel
theorem dX7_isSure_6 : decode cX7_isSure 6 = .ok (.iload 5, 2) := by decide +kernel
theorem dX7_isSure_8 : decode cX7_isSure 8 = .ok (.bipush 6, 2) := by decide +kernel
theorem dX7_isSure_10 : decode cX7_isSure 10 = .ok (.iload_n 3, 1) := by decide +kernel
theorem dX7_isSure_11 : decode cX7_isSure 11 = .ok (.invokestatic 150, 3) := by decide +kernel
theorem dX7_isSure_14 : decode cX7_isSure 14 = .ok (.if_icmp .ge 159, 3) := by decide +kernel
theorem dX7_isSure_17 : decode cX7_isSure 17 = .ok (.iload 4, 2) := by decide +kernel
theorem dX7_isSure_19 : decode cX7_isSure 19 = .ok (.ifCond .eq 154, 3) := by decide +kernel
theorem dX7_isSure_22 : decode cX7_isSure 22 = .ok (.iload 5, 2) := by decide +kernel
theorem dX7_isSure_24 : decode cX7_isSure 24 = .ok (.istore 6, 2) := by decide +kernel
theorem dX7_isSure_26 : decode cX7_isSure 26 = .ok (.iload_n 1, 1) := by decide +kernel
theorem dX7_isSure_27 : decode cX7_isSure 27 = .ok (.istore 7, 2) := by decide +kernel
theorem dX7_isSure_29 : decode cX7_isSure 29 = .ok (.iconst 1, 1) := by decide +kernel
theorem dX7_isSure_30 : decode cX7_isSure 30 = .ok (.istore 8, 2) := by decide +kernel
theorem dX7_isSure_32 : decode cX7_isSure 32 = .ok (.iconst 0, 1) := by decide +kernel
theorem dX7_isSure_33 : decode cX7_isSure 33 = .ok (.istore 9, 2) := by decide +kernel
theorem dX7_isSure_35 : decode cX7_isSure 35 = .ok (.iload 9, 2) := by decide +kernel
theorem dX7_isSure_37 : decode cX7_isSure 37 = .ok (.iload_n 3, 1) := by decide +kernel
theorem dX7_isSure_38 : decode cX7_isSure 38 = .ok (.if_icmp .ge 112, 3) := by decide +kernel
theorem dX7_isSure_41 : decode cX7_isSure 41 = .ok (.iload 6, 2) := by decide +kernel
theorem dX7_isSure_43 : decode cX7_isSure 43 = .ok (.bipush 6, 2) := by decide +kernel
theorem dX7_isSure_45 : decode cX7_isSure 45 = .ok (.irem, 1) := by decide +kernel
theorem dX7_isSure_46 : decode cX7_isSure 46 = .ok (.istore 10, 2) := by decide +kernel
theorem dX7_isSure_48 : decode cX7_isSure 48 = .ok (.iload 6, 2) := by decide +kernel
theorem dX7_isSure_50 : decode cX7_isSure 50 = .ok (.bipush 6, 2) := by decide +kernel
theorem dX7_isSure_52 : decode cX7_isSure 52 = .ok (.idiv, 1) := by decide +kernel
theorem dX7_isSure_53 : decode cX7_isSure 53 = .ok (.istore 6, 2) := by decide +kernel
theorem dX7_isSure_55 : decode cX7_isSure 55 = .ok (.iload 8, 2) := by decide +kernel
theorem dX7_isSure_57 : decode cX7_isSure 57 = .ok (.ifCond .eq 17, 3) := by decide +kernel
theorem dX7_isSure_60 : decode cX7_isSure 60 = .ok (.aload_n 0, 1) := by decide +kernel
theorem dX7_isSure_61 : decode cX7_isSure 61 = .ok (.getfield 13, 3) := by decide +kernel
theorem dX7_isSure_64 : decode cX7_isSure 64 = .ok (.iload 10, 2) := by decide +kernel
theorem dX7_isSure_66 : decode cX7_isSure 66 = .ok (.iaload, 1) := by decide +kernel
theorem dX7_isSure_67 : decode cX7_isSure 67 = .ok (.ifCond .le 7, 3) := by decide +kernel
theorem dX7_isSure_70 : decode cX7_isSure 70 = .ok (.iconst 1, 1) := by decide +kernel
theorem dX7_isSure_71 : decode cX7_isSure 71 = .ok (.goto 4, 3) := by decide +kernel
theorem dX7_isSure_74 : decode cX7_isSure 74 = .ok (.iconst 0, 1) := by decide +kernel
theorem dX7_isSure_75 : decode cX7_isSure 75 = .ok (.istore 8, 2) := by decide +kernel
theorem dX7_isSure_77 : decode cX7_isSure 77 = .ok (.iload 7, 2) := by decide +kernel
theorem dX7_isSure_79 : decode cX7_isSure 79 = .ok (.iload 10, 2) := by decide +kernel
theorem dX7_isSure_81 : decode cX7_isSure 81 = .ok (.ishr, 1) := by decide +kernel
theorem dX7_isSure_82 : decode cX7_isSure 82 = .ok (.iconst 1, 1) := by decide +kernel
theorem dX7_isSure_83 : decode cX7_isSure 83 = .ok (.iand, 1) := by decide +kernel
theorem dX7_isSure_84 : decode cX7_isSure 84 = .ok (.iconst 1, 1) := by decide +kernel
theorem dX7_isSure_85 : decode cX7_isSure 85 = .ok (.if_icmp .ne 7, 3) := by decide +kernel
theorem dX7_isSure_88 : decode cX7_isSure 88 = .ok (.iconst 1, 1) := by decide +kernel
theorem dX7_isSure_89 : decode cX7_isSure 89 = .ok (.goto 4, 3) := by decide +kernel
theorem dX7_isSure_92 : decode cX7_isSure 92 = .ok (.iconst 0, 1) := by decide +kernel
theorem dX7_isSure_93 : decode cX7_isSure 93 = .ok (.istore 11, 2) := by decide +kernel
theorem dX7_isSure_95 : decode cX7_isSure 95 = .ok (.iload 7, 2) := by decide +kernel
theorem dX7_isSure_97 : decode cX7_isSure 97 = .ok (.iload 11, 2) := by decide +kernel
theorem dX7_isSure_99 : decode cX7_isSure 99 = .ok (.ifCond .eq 12, 3) := by decide +kernel
theorem dX7_isSure_102 : decode cX7_isSure 102 = .ok (.iconst 1, 1) := by decide +kernel
theorem dX7_isSure_103 : decode cX7_isSure 103 = .ok (.iload 10, 2) := by decide +kernel
theorem dX7_isSure_105 : decode cX7_isSure 105 = .ok (.ishl, 1) := by decide +kernel
theorem dX7_isSure_106 : decode cX7_isSure 106 = .ok (.iconst (-1), 1) := by decide +kernel
theorem dX7_isSure_107 : decode cX7_isSure 107 = .ok (.ixor, 1) := by decide +kernel
theorem dX7_isSure_108 : decode cX7_isSure 108 = .ok (.goto 4, 3) := by decide +kernel
theorem dX7_isSure_111 : decode cX7_isSure 111 = .ok (.iconst (-1), 1) := by decide +kernel
theorem dX7_isSure_112 : decode cX7_isSure 112 = .ok (.iand, 1) := by decide +kernel
theorem dX7_isSure_113 : decode cX7_isSure 113 = .ok (.istore 7, 2) := by decide +kernel
theorem dX7_isSure_115 : decode cX7_isSure 115 = .ok (.iload 7, 2) := by decide +kernel
theorem dX7_isSure_117 : decode cX7_isSure 117 = .ok (.iload 11, 2) := by decide +kernel
theorem dX7_isSure_119 : decode cX7_isSure 119 = .ok (.ifCond .eq 21, 3) := by decide +kernel
theorem dX7_isSure_122 : decode cX7_isSure 122 = .ok (.iload_n 2, 1) := by decide +kernel
theorem dX7_isSure_123 : decode cX7_isSure 123 = .ok (.ifCond .eq 17, 3) := by decide +kernel
theorem dX7_isSure_126 : decode cX7_isSure 126 = .ok (.iconst 1, 1) := by decide +kernel
theorem dX7_isSure_127 : decode cX7_isSure 127 = .ok (.iload 10, 2) := by decide +kernel
theorem dX7_isSure_129 : decode cX7_isSure 129 = .ok (.iconst 1, 1) := by decide +kernel
theorem dX7_isSure_130 : decode cX7_isSure 130 = .ok (.iadd, 1) := by decide +kernel
theorem dX7_isSure_131 : decode cX7_isSure 131 = .ok (.bipush 6, 2) := by decide +kernel
theorem dX7_isSure_133 : decode cX7_isSure 133 = .ok (.irem, 1) := by decide +kernel
theorem dX7_isSure_134 : decode cX7_isSure 134 = .ok (.ishl, 1) := by decide +kernel
theorem dX7_isSure_135 : decode cX7_isSure 135 = .ok (.iconst (-1), 1) := by decide +kernel
theorem dX7_isSure_136 : decode cX7_isSure 136 = .ok (.ixor, 1) := by decide +kernel
theorem dX7_isSure_137 : decode cX7_isSure 137 = .ok (.goto 4, 3) := by decide +kernel
theorem dX7_isSure_140 : decode cX7_isSure 140 = .ok (.iconst (-1), 1) := by decide +kernel
theorem dX7_isSure_141 : decode cX7_isSure 141 = .ok (.iand, 1) := by decide +kernel
theorem dX7_isSure_142 : decode cX7_isSure 142 = .ok (.istore 7, 2) := by decide +kernel
theorem dX7_isSure_144 : decode cX7_isSure 144 = .ok (.iinc 9 1, 3) := by decide +kernel
theorem dX7_isSure_147 : decode cX7_isSure 147 = .ok (.goto (-112), 3) := by decide +kernel
theorem dX7_isSure_150 : decode cX7_isSure 150 = .ok (.iload 8, 2) := by decide +kernel
theorem dX7_isSure_152 : decode cX7_isSure 152 = .ok (.ifCond .eq 8, 3) := by decide +kernel
theorem dX7_isSure_155 : decode cX7_isSure 155 = .ok (.iload 7, 2) := by decide +kernel
theorem dX7_isSure_157 : decode cX7_isSure 157 = .ok (.ifCond .eq 7, 3) := by decide +kernel
theorem dX7_isSure_160 : decode cX7_isSure 160 = .ok (.iconst 1, 1) := by decide +kernel
theorem dX7_isSure_161 : decode cX7_isSure 161 = .ok (.goto 4, 3) := by decide +kernel
theorem dX7_isSure_164 : decode cX7_isSure 164 = .ok (.iconst 0, 1) := by decide +kernel
theorem dX7_isSure_165 : decode cX7_isSure 165 = .ok (.istore 4, 2) := by decide +kernel
theorem dX7_isSure_167 : decode cX7_isSure 167 = .ok (.iinc 5 1, 3) := by decide +kernel
theorem dX7_isSure_170 : decode cX7_isSure 170 = .ok (.goto (-164), 3) := by decide +kernel
theorem dX7_isSure_173 : decode cX7_isSure 173 = .ok (.iload 4, 2) := by decide +kernel
theorem dX7_isSure_175 : decode cX7_isSure 175 = .ok (.ireturn, 1) := by decide +kernel
theorem dX7_sure_0 : decode cX7_sure 0 = .ok (.iload_n 1, 1) := by decide +kernel
theorem dX7_sure_1 : decode cX7_sure 1 = .ok (.ifCond .eq 13, 3) := by decide +kernel
theorem dX7_sure_4 : decode cX7_sure 4 = .ok (.iload_n 1, 1) := by decide +kernel
theorem dX7_sure_5 : decode cX7_sure 5 = .ok (.iconst 3, 1) := by decide +kernel
theorem dX7_sure_6 : decode cX7_sure 6 = .ok (.if_icmp .eq 8, 3) := by decide +kernel
theorem dX7_sure_9 : decode cX7_sure 9 = .ok (.iload_n 1, 1) := by decide +kernel
theorem dX7_sure_10 : decode cX7_sure 10 = .ok (.iconst 4, 1) := by decide +kernel
theorem dX7_sure_11 : decode cX7_sure 11 = .ok (.if_icmp .ne 25, 3) := by decide +kernel
theorem dX7_sure_14 : decode cX7_sure 14 = .ok (.iload_n 2, 1) := by decide +kernel
theorem dX7_sure_15 : decode cX7_sure 15 = .ok (.i2l, 1) := by decide +kernel
theorem dX7_sure_16 : decode cX7_sure 16 = .ok (.lconst 0, 1) := by decide +kernel
theorem dX7_sure_17 : decode cX7_sure 17 = .ok (.ldc2_w 107, 3) := by decide +kernel
theorem dX7_sure_20 : decode cX7_sure 20 = .ok (.invokestatic 61, 3) := by decide +kernel
theorem dX7_sure_23 : decode cX7_sure 23 = .ok (.ifCond .eq 13, 3) := by decide +kernel
theorem dX7_sure_26 : decode cX7_sure 26 = .ok (.iload_n 3, 1) := by decide +kernel
theorem dX7_sure_27 : decode cX7_sure 27 = .ok (.i2l, 1) := by decide +kernel
theorem dX7_sure_28 : decode cX7_sure 28 = .ok (.lconst 0, 1) := by decide +kernel
theorem dX7_sure_29 : decode cX7_sure 29 = .ok (.lconst 1, 1) := by decide +kernel
theorem dX7_sure_30 : decode cX7_sure 30 = .ok (.invokestatic 61, 3) := by decide +kernel
theorem dX7_sure_33 : decode cX7_sure 33 = .ok (.ifCond .ne 6, 3) := by decide +kernel
theorem dX7_sure_36 : decode cX7_sure 36 = .ok (.bipush (-102), 2) := by decide +kernel
theorem dX7_sure_38 : decode cX7_sure 38 = .ok (.ireturn, 1) := by decide +kernel
theorem dX7_sure_39 : decode cX7_sure 39 = .ok (.aload_n 0, 1) := by decide +kernel
theorem dX7_sure_40 : decode cX7_sure 40 = .ok (.invokevirtual 109, 3) := by decide +kernel
theorem dX7_sure_43 : decode cX7_sure 43 = .ok (.ifCond .ne 12, 3) := by decide +kernel
theorem dX7_sure_46 : decode cX7_sure 46 = .ok (.aload_n 0, 1) := by decide +kernel
theorem dX7_sure_47 : decode cX7_sure 47 = .ok (.getfield 166, 3) := by decide +kernel
theorem dX7_sure_50 : decode cX7_sure 50 = .ok (.bipush 30, 2) := by decide +kernel
theorem dX7_sure_52 : decode cX7_sure 52 = .ok (.if_icmp .ne 6, 3) := by decide +kernel
theorem dX7_sure_55 : decode cX7_sure 55 = .ok (.bipush (-103), 2) := by decide +kernel
theorem dX7_sure_57 : decode cX7_sure 57 = .ok (.ireturn, 1) := by decide +kernel
theorem dX7_sure_58 : decode cX7_sure 58 = .ok (.aload_n 0, 1) := by decide +kernel
theorem dX7_sure_59 : decode cX7_sure 59 = .ok (.dup, 1) := by decide +kernel
theorem dX7_sure_60 : decode cX7_sure 60 = .ok (.getfield 166, 3) := by decide +kernel
theorem dX7_sure_63 : decode cX7_sure 63 = .ok (.iconst 1, 1) := by decide +kernel
theorem dX7_sure_64 : decode cX7_sure 64 = .ok (.iadd, 1) := by decide +kernel
theorem dX7_sure_65 : decode cX7_sure 65 = .ok (.putfield 166, 3) := by decide +kernel
theorem dX7_sure_68 : decode cX7_sure 68 = .ok (.iconst 1, 1) := by decide +kernel
theorem dX7_sure_69 : decode cX7_sure 69 = .ok (.istore 4, 2) := by decide +kernel
theorem dX7_sure_71 : decode cX7_sure 71 = .ok (.iload 4, 2) := by decide +kernel
theorem dX7_sure_73 : decode cX7_sure 73 = .ok (.iload_n 1, 1) := by decide +kernel
theorem dX7_sure_74 : decode cX7_sure 74 = .ok (.ifCond .ne 7, 3) := by decide +kernel
theorem dX7_sure_77 : decode cX7_sure 77 = .ok (.iconst 2, 1) := by decide +kernel
theorem dX7_sure_78 : decode cX7_sure 78 = .ok (.goto 4, 3) := by decide +kernel
theorem dX7_sure_81 : decode cX7_sure 81 = .ok (.iconst 3, 1) := by decide +kernel
theorem dX7_sure_82 : decode cX7_sure 82 = .ok (.if_icmp .gt 67, 3) := by decide +kernel
theorem dX7_sure_85 : decode cX7_sure 85 = .ok (.iconst 1, 1) := by decide +kernel
theorem dX7_sure_86 : decode cX7_sure 86 = .ok (.istore 5, 2) := by decide +kernel
theorem dX7_sure_88 : decode cX7_sure 88 = .ok (.iload 5, 2) := by decide +kernel
theorem dX7_sure_90 : decode cX7_sure 90 = .ok (.bipush 64, 2) := by decide +kernel
theorem dX7_sure_92 : decode cX7_sure 92 = .ok (.if_icmp .ge 51, 3) := by decide +kernel
theorem dX7_sure_95 : decode cX7_sure 95 = .ok (.iload 5, 2) := by decide +kernel
theorem dX7_sure_97 : decode cX7_sure 97 = .ok (.invokestatic 123, 3) := by decide +kernel
theorem dX7_sure_100 : decode cX7_sure 100 = .ok (.iload 4, 2) := by decide +kernel
theorem dX7_sure_102 : decode cX7_sure 102 = .ok (.if_icmp .ne 35, 3) := by decide +kernel
theorem dX7_sure_105 : decode cX7_sure 105 = .ok (.aload_n 0, 1) := by decide +kernel
theorem dX7_sure_106 : decode cX7_sure 106 = .ok (.iload 5, 2) := by decide +kernel
theorem dX7_sure_108 : decode cX7_sure 108 = .ok (.iload_n 1, 1) := by decide +kernel
theorem dX7_sure_109 : decode cX7_sure 109 = .ok (.iconst 4, 1) := by decide +kernel
theorem dX7_sure_110 : decode cX7_sure 110 = .ok (.if_icmp .ne 7, 3) := by decide +kernel
theorem dX7_sure_113 : decode cX7_sure 113 = .ok (.iconst 1, 1) := by decide +kernel
theorem dX7_sure_114 : decode cX7_sure 114 = .ok (.goto 4, 3) := by decide +kernel
theorem dX7_sure_117 : decode cX7_sure 117 = .ok (.iconst 0, 1) := by decide +kernel
theorem dX7_sure_118 : decode cX7_sure 118 = .ok (.iload_n 2, 1) := by decide +kernel
theorem dX7_sure_119 : decode cX7_sure 119 = .ok (.invokevirtual 169, 3) := by decide +kernel
theorem dX7_sure_122 : decode cX7_sure 122 = .ok (.ifCond .eq 15, 3) := by decide +kernel
theorem dX7_sure_125 : decode cX7_sure 125 = .ok (.iload_n 3, 1) := by decide +kernel
theorem dX7_sure_126 : decode cX7_sure 126 = .ok (.ifCond .ne 8, 3) := by decide +kernel
theorem dX7_sure_129 : decode cX7_sure 129 = .ok (.iload 4, 2) := by decide +kernel
theorem dX7_sure_131 : decode cX7_sure 131 = .ok (.goto 5, 3) := by decide +kernel
theorem dX7_sure_134 : decode cX7_sure 134 = .ok (.iload 5, 2) := by decide +kernel
theorem dX7_sure_136 : decode cX7_sure 136 = .ok (.ireturn, 1) := by decide +kernel
theorem dX7_sure_137 : decode cX7_sure 137 = .ok (.iinc 5 1, 3) := by decide +kernel
theorem dX7_sure_140 : decode cX7_sure 140 = .ok (.goto (-52), 3) := by decide +kernel
theorem dX7_sure_143 : decode cX7_sure 143 = .ok (.iinc 4 1, 3) := by decide +kernel
theorem dX7_sure_146 : decode cX7_sure 146 = .ok (.goto (-75), 3) := by decide +kernel
theorem dX7_sure_149 : decode cX7_sure 149 = .ok (.iconst (-1), 1) := by decide +kernel
theorem dX7_sure_150 : decode cX7_sure 150 = .ok (.ireturn, 1) := by decide +kernel
theorem dX7_nowhereOf_0 : decode cX7_nowhereOf 0 = .ok (.iconst 0, 1) := by decide +kernel
theorem dX7_nowhereOf_1 : decode cX7_nowhereOf 1 = .ok (.istore_n 1, 1) := by decide +kernel
theorem dX7_nowhereOf_2 : decode cX7_nowhereOf 2 = .ok (.iconst 0, 1) := by decide +kernel
theorem dX7_nowhereOf_3 : decode cX7_nowhereOf 3 = .ok (.istore_n 2, 1) := by decide +kernel
theorem dX7_nowhereOf_4 : decode cX7_nowhereOf 4 = .ok (.iload_n 2, 1) := by decide +kernel
theorem dX7_nowhereOf_5 : decode cX7_nowhereOf 5 = .ok (.aload_n 0, 1) := by decide +kernel
theorem dX7_nowhereOf_6 : decode cX7_nowhereOf 6 = .ok (.getfield 81, 3) := by decide +kernel
theorem dX7_nowhereOf_9 : decode cX7_nowhereOf 9 = .ok (.if_icmp .ge 53, 3) := by decide +kernel
theorem dX7_nowhereOf_12 : decode cX7_nowhereOf 12 = .ok (.aload_n 0, 1) := by decide +kernel
theorem dX7_nowhereOf_13 : decode cX7_nowhereOf 13 = .ok (.getfield 16, 3) := by decide +kernel
theorem dX7_nowhereOf_16 : decode cX7_nowhereOf 16 = .ok (.iconst 2, 1) := by decide +kernel
theorem dX7_nowhereOf_17 : decode cX7_nowhereOf 17 = .ok (.iload_n 2, 1) := by decide +kernel
theorem dX7_nowhereOf_18 : decode cX7_nowhereOf 18 = .ok (.imul, 1) := by decide +kernel
theorem dX7_nowhereOf_19 : decode cX7_nowhereOf 19 = .ok (.iconst 1, 1) := by decide +kernel
theorem dX7_nowhereOf_20 : decode cX7_nowhereOf 20 = .ok (.iadd, 1) := by decide +kernel
theorem dX7_nowhereOf_21 : decode cX7_nowhereOf 21 = .ok (.iaload, 1) := by decide +kernel
theorem dX7_nowhereOf_22 : decode cX7_nowhereOf 22 = .ok (.istore_n 3, 1) := by decide +kernel
theorem dX7_nowhereOf_23 : decode cX7_nowhereOf 23 = .ok (.iload_n 1, 1) := by decide +kernel
theorem dX7_nowhereOf_24 : decode cX7_nowhereOf 24 = .ok (.aload_n 0, 1) := by decide +kernel
theorem dX7_nowhereOf_25 : decode cX7_nowhereOf 25 = .ok (.getfield 19, 3) := by decide +kernel
theorem dX7_nowhereOf_28 : decode cX7_nowhereOf 28 = .ok (.iload_n 2, 1) := by decide +kernel
theorem dX7_nowhereOf_29 : decode cX7_nowhereOf 29 = .ok (.iaload, 1) := by decide +kernel
theorem dX7_nowhereOf_30 : decode cX7_nowhereOf 30 = .ok (.ifCond .eq 23, 3) := by decide +kernel
theorem dX7_nowhereOf_33 : decode cX7_nowhereOf 33 = .ok (.iload_n 3, 1) := by decide +kernel
theorem dX7_nowhereOf_34 : decode cX7_nowhereOf 34 = .ok (.iconst (-1), 1) := by decide +kernel
theorem dX7_nowhereOf_35 : decode cX7_nowhereOf 35 = .ok (.if_icmp .eq 18, 3) := by decide +kernel
theorem dX7_nowhereOf_38 : decode cX7_nowhereOf 38 = .ok (.aload_n 0, 1) := by decide +kernel
theorem dX7_nowhereOf_39 : decode cX7_nowhereOf 39 = .ok (.getfield 19, 3) := by decide +kernel
theorem dX7_nowhereOf_42 : decode cX7_nowhereOf 42 = .ok (.iload_n 3, 1) := by decide +kernel
theorem dX7_nowhereOf_43 : decode cX7_nowhereOf 43 = .ok (.iaload, 1) := by decide +kernel
theorem dX7_nowhereOf_44 : decode cX7_nowhereOf 44 = .ok (.ifCond .ne 9, 3) := by decide +kernel
theorem dX7_nowhereOf_47 : decode cX7_nowhereOf 47 = .ok (.iconst 1, 1) := by decide +kernel
theorem dX7_nowhereOf_48 : decode cX7_nowhereOf 48 = .ok (.iload_n 2, 1) := by decide +kernel
theorem dX7_nowhereOf_49 : decode cX7_nowhereOf 49 = .ok (.ishl, 1) := by decide +kernel
theorem dX7_nowhereOf_50 : decode cX7_nowhereOf 50 = .ok (.goto 4, 3) := by decide +kernel
theorem dX7_nowhereOf_53 : decode cX7_nowhereOf 53 = .ok (.iconst 0, 1) := by decide +kernel
theorem dX7_nowhereOf_54 : decode cX7_nowhereOf 54 = .ok (.ior, 1) := by decide +kernel
theorem dX7_nowhereOf_55 : decode cX7_nowhereOf 55 = .ok (.istore_n 1, 1) := by decide +kernel
theorem dX7_nowhereOf_56 : decode cX7_nowhereOf 56 = .ok (.iinc 2 1, 3) := by decide +kernel
theorem dX7_nowhereOf_59 : decode cX7_nowhereOf 59 = .ok (.goto (-55), 3) := by decide +kernel
theorem dX7_nowhereOf_62 : decode cX7_nowhereOf 62 = .ok (.iload_n 1, 1) := by decide +kernel
theorem dX7_nowhereOf_63 : decode cX7_nowhereOf 63 = .ok (.ireturn, 1) := by decide +kernel
theorem dX7_nowhere_0 : decode cX7_nowhere 0 = .ok (.aload_n 0, 1) := by decide +kernel
theorem dX7_nowhere_1 : decode cX7_nowhere 1 = .ok (.invokevirtual 173, 3) := by decide +kernel
theorem dX7_nowhere_4 : decode cX7_nowhere 4 = .ok (.ireturn, 1) := by decide +kernel
theorem dX7_above_0 : decode cX7_above 0 = .ok (.iconst 0, 1) := by decide +kernel
theorem dX7_above_1 : decode cX7_above 1 = .ok (.istore_n 2, 1) := by decide +kernel
theorem dX7_above_2 : decode cX7_above 2 = .ok (.iconst 0, 1) := by decide +kernel
theorem dX7_above_3 : decode cX7_above 3 = .ok (.istore_n 3, 1) := by decide +kernel
theorem dX7_above_4 : decode cX7_above 4 = .ok (.iload_n 3, 1) := by decide +kernel
theorem dX7_above_5 : decode cX7_above 5 = .ok (.bipush 6, 2) := by decide +kernel
theorem dX7_above_7 : decode cX7_above 7 = .ok (.if_icmp .ge 37, 3) := by decide +kernel
theorem dX7_above_10 : decode cX7_above 10 = .ok (.aload_n 0, 1) := by decide +kernel
theorem dX7_above_11 : decode cX7_above 11 = .ok (.aload_n 0, 1) := by decide +kernel
theorem dX7_above_12 : decode cX7_above 12 = .ok (.getfield 25, 3) := by decide +kernel
theorem dX7_above_15 : decode cX7_above 15 = .ok (.iload_n 3, 1) := by decide +kernel
theorem dX7_above_16 : decode cX7_above 16 = .ok (.invokevirtual 95, 3) := by decide +kernel
theorem dX7_above_19 : decode cX7_above 19 = .ok (.istore 4, 2) := by decide +kernel
theorem dX7_above_21 : decode cX7_above 21 = .ok (.iload_n 2, 1) := by decide +kernel
theorem dX7_above_22 : decode cX7_above 22 = .ok (.iload 4, 2) := by decide +kernel
theorem dX7_above_24 : decode cX7_above 24 = .ok (.iload_n 1, 1) := by decide +kernel
theorem dX7_above_25 : decode cX7_above 25 = .ok (.if_icmp .le 10, 3) := by decide +kernel
theorem dX7_above_28 : decode cX7_above 28 = .ok (.iload 4, 2) := by decide +kernel
theorem dX7_above_30 : decode cX7_above 30 = .ok (.iload_n 1, 1) := by decide +kernel
theorem dX7_above_31 : decode cX7_above 31 = .ok (.isub, 1) := by decide +kernel
theorem dX7_above_32 : decode cX7_above 32 = .ok (.goto 4, 3) := by decide +kernel
theorem dX7_above_35 : decode cX7_above 35 = .ok (.iconst 0, 1) := by decide +kernel
theorem dX7_above_36 : decode cX7_above 36 = .ok (.iadd, 1) := by decide +kernel
theorem dX7_above_37 : decode cX7_above 37 = .ok (.istore_n 2, 1) := by decide +kernel
theorem dX7_above_38 : decode cX7_above 38 = .ok (.iinc 3 1, 3) := by decide +kernel
theorem dX7_above_41 : decode cX7_above 41 = .ok (.goto (-37), 3) := by decide +kernel
theorem dX7_above_44 : decode cX7_above 44 = .ok (.iload_n 2, 1) := by decide +kernel
theorem dX7_above_45 : decode cX7_above 45 = .ok (.ireturn, 1) := by decide +kernel
theorem dX7_renameNow_0 : decode cX7_renameNow 0 = .ok (.aload_n 0, 1) := by decide +kernel
theorem dX7_renameNow_1 : decode cX7_renameNow 1 = .ok (.getfield 25, 3) := by decide +kernel
theorem dX7_renameNow_4 : decode cX7_renameNow 4 = .ok (.iload_n 1, 1) := by decide +kernel
theorem dX7_renameNow_5 : decode cX7_renameNow 5 = .ok (.aload_n 0, 1) := by decide +kernel
theorem dX7_renameNow_6 : decode cX7_renameNow 6 = .ok (.getfield 25, 3) := by decide +kernel
theorem dX7_renameNow_9 : decode cX7_renameNow 9 = .ok (.iload_n 1, 1) := by decide +kernel
theorem dX7_renameNow_10 : decode cX7_renameNow 10 = .ok (.iaload, 1) := by decide +kernel
theorem dX7_renameNow_11 : decode cX7_renameNow 11 = .ok (.iconst 1, 1) := by decide +kernel
theorem dX7_renameNow_12 : decode cX7_renameNow 12 = .ok (.iload_n 2, 1) := by decide +kernel
theorem dX7_renameNow_13 : decode cX7_renameNow 13 = .ok (.ishl, 1) := by decide +kernel
theorem dX7_renameNow_14 : decode cX7_renameNow 14 = .ok (.iconst (-1), 1) := by decide +kernel
theorem dX7_renameNow_15 : decode cX7_renameNow 15 = .ok (.ixor, 1) := by decide +kernel
theorem dX7_renameNow_16 : decode cX7_renameNow 16 = .ok (.iand, 1) := by decide +kernel
theorem dX7_renameNow_17 : decode cX7_renameNow 17 = .ok (.iconst 1, 1) := by decide +kernel
theorem dX7_renameNow_18 : decode cX7_renameNow 18 = .ok (.iload_n 3, 1) := by decide +kernel
theorem dX7_renameNow_19 : decode cX7_renameNow 19 = .ok (.ishl, 1) := by decide +kernel
theorem dX7_renameNow_20 : decode cX7_renameNow 20 = .ok (.ior, 1) := by decide +kernel
theorem dX7_renameNow_21 : decode cX7_renameNow 21 = .ok (.iastore, 1) := by decide +kernel
theorem dX7_renameNow_22 : decode cX7_renameNow 22 = .ok (.return_, 1) := by decide +kernel
theorem dX7_isMovedBy_0 : decode cX7_isMovedBy 0 = .ok (.aload_n 0, 1) := by decide +kernel
theorem dX7_isMovedBy_1 : decode cX7_isMovedBy 1 = .ok (.invokevirtual 144, 3) := by decide +kernel
theorem dX7_isMovedBy_4 : decode cX7_isMovedBy 4 = .ok (.iconst 0, 1) := by decide +kernel
theorem dX7_isMovedBy_5 : decode cX7_isMovedBy 5 = .ok (.istore_n 3, 1) := by decide +kernel
theorem dX7_isMovedBy_6 : decode cX7_isMovedBy 6 = .ok (.aload_n 0, 1) := by decide +kernel
theorem dX7_isMovedBy_7 : decode cX7_isMovedBy 7 = .ok (.getfield 34, 3) := by decide +kernel
theorem dX7_isMovedBy_10 : decode cX7_isMovedBy 10 = .ok (.iconst 0, 1) := by decide +kernel
theorem dX7_isMovedBy_11 : decode cX7_isMovedBy 11 = .ok (.iconst 0, 1) := by decide +kernel
theorem dX7_isMovedBy_12 : decode cX7_isMovedBy 12 = .ok (.iastore, 1) := by decide +kernel
theorem dX7_isMovedBy_13 : decode cX7_isMovedBy 13 = .ok (.aload_n 0, 1) := by decide +kernel
theorem dX7_isMovedBy_14 : decode cX7_isMovedBy 14 = .ok (.iload_n 2, 1) := by decide +kernel
theorem dX7_isMovedBy_15 : decode cX7_isMovedBy 15 = .ok (.invokevirtual 176, 3) := by decide +kernel
theorem dX7_isMovedBy_18 : decode cX7_isMovedBy 18 = .ok (.iload_n 1, 1) := by decide +kernel
theorem dX7_isMovedBy_19 : decode cX7_isMovedBy 19 = .ok (.if_icmp .le 5, 3) := by decide +kernel
theorem dX7_isMovedBy_22 : decode cX7_isMovedBy 22 = .ok (.iconst 0, 1) := by decide +kernel
theorem dX7_isMovedBy_23 : decode cX7_isMovedBy 23 = .ok (.ireturn, 1) := by decide +kernel
theorem dX7_isMovedBy_24 : decode cX7_isMovedBy 24 = .ok (.iload_n 3, 1) := by decide +kernel
theorem dX7_isMovedBy_25 : decode cX7_isMovedBy 25 = .ok (.ifCond .lt 204, 3) := by decide +kernel
theorem dX7_isMovedBy_28 : decode cX7_isMovedBy 28 = .ok (.aload_n 0, 1) := by decide +kernel
theorem dX7_isMovedBy_29 : decode cX7_isMovedBy 29 = .ok (.iload_n 2, 1) := by decide +kernel
theorem dX7_isMovedBy_30 : decode cX7_isMovedBy 30 = .ok (.invokevirtual 176, 3) := by decide +kernel
theorem dX7_isMovedBy_33 : decode cX7_isMovedBy 33 = .ok (.istore 4, 2) := by decide +kernel
theorem dX7_isMovedBy_35 : decode cX7_isMovedBy 35 = .ok (.iload 4, 2) := by decide +kernel
theorem dX7_isMovedBy_37 : decode cX7_isMovedBy 37 = .ok (.ifCond .ne 5, 3) := by decide +kernel
theorem dX7_isMovedBy_40 : decode cX7_isMovedBy 40 = .ok (.iconst 1, 1) := by decide +kernel
