theorem dX7_isMovedBy_41 : decode cX7_isMovedBy 41 = .ok (.ireturn, 1) := by decide +kernel
theorem dX7_isMovedBy_42 : decode cX7_isMovedBy 42 = .ok (.iconst 0, 1) := by decide +kernel
theorem dX7_isMovedBy_43 : decode cX7_isMovedBy 43 = .ok (.istore 5, 2) := by decide +kernel
theorem dX7_isMovedBy_45 : decode cX7_isMovedBy 45 = .ok (.iload_n 3, 1) := by decide +kernel
theorem dX7_isMovedBy_46 : decode cX7_isMovedBy 46 = .ok (.iload_n 1, 1) := by decide +kernel
theorem dX7_isMovedBy_47 : decode cX7_isMovedBy 47 = .ok (.if_icmp .ge 122, 3) := by decide +kernel
theorem dX7_isMovedBy_50 : decode cX7_isMovedBy 50 = .ok (.iload 4, 2) := by decide +kernel
theorem dX7_isMovedBy_52 : decode cX7_isMovedBy 52 = .ok (.iload_n 1, 1) := by decide +kernel
theorem dX7_isMovedBy_53 : decode cX7_isMovedBy 53 = .ok (.iload_n 3, 1) := by decide +kernel
theorem dX7_isMovedBy_54 : decode cX7_isMovedBy 54 = .ok (.isub, 1) := by decide +kernel
theorem dX7_isMovedBy_55 : decode cX7_isMovedBy 55 = .ok (.if_icmp .gt 114, 3) := by decide +kernel
theorem dX7_isMovedBy_58 : decode cX7_isMovedBy 58 = .ok (.aload_n 0, 1) := by decide +kernel
theorem dX7_isMovedBy_59 : decode cX7_isMovedBy 59 = .ok (.getfield 34, 3) := by decide +kernel
theorem dX7_isMovedBy_62 : decode cX7_isMovedBy 62 = .ok (.iload_n 3, 1) := by decide +kernel
theorem dX7_isMovedBy_63 : decode cX7_isMovedBy 63 = .ok (.iaload, 1) := by decide +kernel
theorem dX7_isMovedBy_64 : decode cX7_isMovedBy 64 = .ok (.bipush 36, 2) := by decide +kernel
theorem dX7_isMovedBy_66 : decode cX7_isMovedBy 66 = .ok (.aload_n 0, 1) := by decide +kernel
theorem dX7_isMovedBy_67 : decode cX7_isMovedBy 67 = .ok (.getfield 81, 3) := by decide +kernel
theorem dX7_isMovedBy_70 : decode cX7_isMovedBy 70 = .ok (.imul, 1) := by decide +kernel
theorem dX7_isMovedBy_71 : decode cX7_isMovedBy 71 = .ok (.if_icmp .ge 98, 3) := by decide +kernel
theorem dX7_isMovedBy_74 : decode cX7_isMovedBy 74 = .ok (.iload 5, 2) := by decide +kernel
theorem dX7_isMovedBy_76 : decode cX7_isMovedBy 76 = .ok (.ifCond .ne 93, 3) := by decide +kernel
theorem dX7_isMovedBy_79 : decode cX7_isMovedBy 79 = .ok (.aload_n 0, 1) := by decide +kernel
theorem dX7_isMovedBy_80 : decode cX7_isMovedBy 80 = .ok (.getfield 34, 3) := by decide +kernel
theorem dX7_isMovedBy_83 : decode cX7_isMovedBy 83 = .ok (.iload_n 3, 1) := by decide +kernel
theorem dX7_isMovedBy_84 : decode cX7_isMovedBy 84 = .ok (.iaload, 1) := by decide +kernel
theorem dX7_isMovedBy_85 : decode cX7_isMovedBy 85 = .ok (.istore 6, 2) := by decide +kernel
theorem dX7_isMovedBy_87 : decode cX7_isMovedBy 87 = .ok (.iload 6, 2) := by decide +kernel
theorem dX7_isMovedBy_89 : decode cX7_isMovedBy 89 = .ok (.bipush 6, 2) := by decide +kernel
theorem dX7_isMovedBy_91 : decode cX7_isMovedBy 91 = .ok (.idiv, 1) := by decide +kernel
theorem dX7_isMovedBy_92 : decode cX7_isMovedBy 92 = .ok (.bipush 6, 2) := by decide +kernel
theorem dX7_isMovedBy_94 : decode cX7_isMovedBy 94 = .ok (.irem, 1) := by decide +kernel
theorem dX7_isMovedBy_95 : decode cX7_isMovedBy 95 = .ok (.istore 7, 2) := by decide +kernel
theorem dX7_isMovedBy_97 : decode cX7_isMovedBy 97 = .ok (.iload 6, 2) := by decide +kernel
theorem dX7_isMovedBy_99 : decode cX7_isMovedBy 99 = .ok (.bipush 6, 2) := by decide +kernel
theorem dX7_isMovedBy_101 : decode cX7_isMovedBy 101 = .ok (.irem, 1) := by decide +kernel
theorem dX7_isMovedBy_102 : decode cX7_isMovedBy 102 = .ok (.istore 8, 2) := by decide +kernel
theorem dX7_isMovedBy_104 : decode cX7_isMovedBy 104 = .ok (.iload 7, 2) := by decide +kernel
theorem dX7_isMovedBy_106 : decode cX7_isMovedBy 106 = .ok (.iload 8, 2) := by decide +kernel
theorem dX7_isMovedBy_108 : decode cX7_isMovedBy 108 = .ok (.if_icmp .eq 27, 3) := by decide +kernel
theorem dX7_isMovedBy_111 : decode cX7_isMovedBy 111 = .ok (.aload_n 0, 1) := by decide +kernel
theorem dX7_isMovedBy_112 : decode cX7_isMovedBy 112 = .ok (.aload_n 0, 1) := by decide +kernel
theorem dX7_isMovedBy_113 : decode cX7_isMovedBy 113 = .ok (.getfield 25, 3) := by decide +kernel
theorem dX7_isMovedBy_116 : decode cX7_isMovedBy 116 = .ok (.iload 6, 2) := by decide +kernel
theorem dX7_isMovedBy_118 : decode cX7_isMovedBy 118 = .ok (.bipush 36, 2) := by decide +kernel
theorem dX7_isMovedBy_120 : decode cX7_isMovedBy 120 = .ok (.idiv, 1) := by decide +kernel
theorem dX7_isMovedBy_121 : decode cX7_isMovedBy 121 = .ok (.iload 7, 2) := by decide +kernel
theorem dX7_isMovedBy_123 : decode cX7_isMovedBy 123 = .ok (.iload 8, 2) := by decide +kernel
theorem dX7_isMovedBy_125 : decode cX7_isMovedBy 125 = .ok (.invokevirtual 130, 3) := by decide +kernel
theorem dX7_isMovedBy_128 : decode cX7_isMovedBy 128 = .ok (.ifCond .eq 7, 3) := by decide +kernel
theorem dX7_isMovedBy_131 : decode cX7_isMovedBy 131 = .ok (.iconst 1, 1) := by decide +kernel
theorem dX7_isMovedBy_132 : decode cX7_isMovedBy 132 = .ok (.goto 4, 3) := by decide +kernel
theorem dX7_isMovedBy_135 : decode cX7_isMovedBy 135 = .ok (.iconst 0, 1) := by decide +kernel
theorem dX7_isMovedBy_136 : decode cX7_isMovedBy 136 = .ok (.istore 5, 2) := by decide +kernel
theorem dX7_isMovedBy_138 : decode cX7_isMovedBy 138 = .ok (.aload_n 0, 1) := by decide +kernel
theorem dX7_isMovedBy_139 : decode cX7_isMovedBy 139 = .ok (.getfield 34, 3) := by decide +kernel
theorem dX7_isMovedBy_142 : decode cX7_isMovedBy 142 = .ok (.iload_n 3, 1) := by decide +kernel
theorem dX7_isMovedBy_143 : decode cX7_isMovedBy 143 = .ok (.dup2, 1) := by decide +kernel
theorem dX7_isMovedBy_144 : decode cX7_isMovedBy 144 = .ok (.iaload, 1) := by decide +kernel
theorem dX7_isMovedBy_145 : decode cX7_isMovedBy 145 = .ok (.iconst 1, 1) := by decide +kernel
theorem dX7_isMovedBy_146 : decode cX7_isMovedBy 146 = .ok (.iadd, 1) := by decide +kernel
theorem dX7_isMovedBy_147 : decode cX7_isMovedBy 147 = .ok (.iastore, 1) := by decide +kernel
theorem dX7_isMovedBy_148 : decode cX7_isMovedBy 148 = .ok (.iload 5, 2) := by decide +kernel
theorem dX7_isMovedBy_150 : decode cX7_isMovedBy 150 = .ok (.ifCond .eq 16, 3) := by decide +kernel
theorem dX7_isMovedBy_153 : decode cX7_isMovedBy 153 = .ok (.aload_n 0, 1) := by decide +kernel
theorem dX7_isMovedBy_154 : decode cX7_isMovedBy 154 = .ok (.iload 6, 2) := by decide +kernel
theorem dX7_isMovedBy_156 : decode cX7_isMovedBy 156 = .ok (.bipush 36, 2) := by decide +kernel
theorem dX7_isMovedBy_158 : decode cX7_isMovedBy 158 = .ok (.idiv, 1) := by decide +kernel
theorem dX7_isMovedBy_159 : decode cX7_isMovedBy 159 = .ok (.iload 7, 2) := by decide +kernel
theorem dX7_isMovedBy_161 : decode cX7_isMovedBy 161 = .ok (.iload 8, 2) := by decide +kernel
theorem dX7_isMovedBy_163 : decode cX7_isMovedBy 163 = .ok (.invokevirtual 179, 3) := by decide +kernel
theorem dX7_isMovedBy_166 : decode cX7_isMovedBy 166 = .ok (.goto (-121), 3) := by decide +kernel
theorem dX7_isMovedBy_169 : decode cX7_isMovedBy 169 = .ok (.iload 5, 2) := by decide +kernel
theorem dX7_isMovedBy_171 : decode cX7_isMovedBy 171 = .ok (.ifCond .eq 16, 3) := by decide +kernel
theorem dX7_isMovedBy_174 : decode cX7_isMovedBy 174 = .ok (.iinc 3 1, 3) := by decide +kernel
theorem dX7_isMovedBy_177 : decode cX7_isMovedBy 177 = .ok (.aload_n 0, 1) := by decide +kernel
theorem dX7_isMovedBy_178 : decode cX7_isMovedBy 178 = .ok (.getfield 34, 3) := by decide +kernel
theorem dX7_isMovedBy_181 : decode cX7_isMovedBy 181 = .ok (.iload_n 3, 1) := by decide +kernel
theorem dX7_isMovedBy_182 : decode cX7_isMovedBy 182 = .ok (.iconst 0, 1) := by decide +kernel
theorem dX7_isMovedBy_183 : decode cX7_isMovedBy 183 = .ok (.iastore, 1) := by decide +kernel
theorem dX7_isMovedBy_184 : decode cX7_isMovedBy 184 = .ok (.goto 42, 3) := by decide +kernel
theorem dX7_isMovedBy_187 : decode cX7_isMovedBy 187 = .ok (.iinc 3 (-1), 3) := by decide +kernel
theorem dX7_isMovedBy_190 : decode cX7_isMovedBy 190 = .ok (.iload_n 3, 1) := by decide +kernel
theorem dX7_isMovedBy_191 : decode cX7_isMovedBy 191 = .ok (.ifCond .lt 35, 3) := by decide +kernel
theorem dX7_isMovedBy_194 : decode cX7_isMovedBy 194 = .ok (.aload_n 0, 1) := by decide +kernel
theorem dX7_isMovedBy_195 : decode cX7_isMovedBy 195 = .ok (.getfield 34, 3) := by decide +kernel
theorem dX7_isMovedBy_198 : decode cX7_isMovedBy 198 = .ok (.iload_n 3, 1) := by decide +kernel
theorem dX7_isMovedBy_199 : decode cX7_isMovedBy 199 = .ok (.iaload, 1) := by decide +kernel
theorem dX7_isMovedBy_200 : decode cX7_isMovedBy 200 = .ok (.iconst 1, 1) := by decide +kernel
theorem dX7_isMovedBy_201 : decode cX7_isMovedBy 201 = .ok (.isub, 1) := by decide +kernel
theorem dX7_isMovedBy_202 : decode cX7_isMovedBy 202 = .ok (.istore 6, 2) := by decide +kernel
theorem dX7_isMovedBy_204 : decode cX7_isMovedBy 204 = .ok (.aload_n 0, 1) := by decide +kernel
theorem dX7_isMovedBy_205 : decode cX7_isMovedBy 205 = .ok (.iload 6, 2) := by decide +kernel
theorem dX7_isMovedBy_207 : decode cX7_isMovedBy 207 = .ok (.bipush 36, 2) := by decide +kernel
theorem dX7_isMovedBy_209 : decode cX7_isMovedBy 209 = .ok (.idiv, 1) := by decide +kernel
theorem dX7_isMovedBy_210 : decode cX7_isMovedBy 210 = .ok (.iload 6, 2) := by decide +kernel
theorem dX7_isMovedBy_212 : decode cX7_isMovedBy 212 = .ok (.bipush 6, 2) := by decide +kernel
theorem dX7_isMovedBy_214 : decode cX7_isMovedBy 214 = .ok (.irem, 1) := by decide +kernel
theorem dX7_isMovedBy_215 : decode cX7_isMovedBy 215 = .ok (.iload 6, 2) := by decide +kernel
theorem dX7_isMovedBy_217 : decode cX7_isMovedBy 217 = .ok (.bipush 6, 2) := by decide +kernel
theorem dX7_isMovedBy_219 : decode cX7_isMovedBy 219 = .ok (.idiv, 1) := by decide +kernel
theorem dX7_isMovedBy_220 : decode cX7_isMovedBy 220 = .ok (.bipush 6, 2) := by decide +kernel
theorem dX7_isMovedBy_222 : decode cX7_isMovedBy 222 = .ok (.irem, 1) := by decide +kernel
theorem dX7_isMovedBy_223 : decode cX7_isMovedBy 223 = .ok (.invokevirtual 179, 3) := by decide +kernel
theorem dX7_isMovedBy_226 : decode cX7_isMovedBy 226 = .ok (.goto (-202), 3) := by decide +kernel
theorem dX7_isMovedBy_229 : decode cX7_isMovedBy 229 = .ok (.iconst 0, 1) := by decide +kernel
theorem dX7_isMovedBy_230 : decode cX7_isMovedBy 230 = .ok (.ireturn, 1) := by decide +kernel
theorem dX7_moving_0 : decode cX7_moving 0 = .ok (.iload_n 1, 1) := by decide +kernel
theorem dX7_moving_1 : decode cX7_moving 1 = .ok (.i2l, 1) := by decide +kernel
theorem dX7_moving_2 : decode cX7_moving 2 = .ok (.lconst 1, 1) := by decide +kernel
theorem dX7_moving_3 : decode cX7_moving 3 = .ok (.ldc2_w 68, 3) := by decide +kernel
theorem dX7_moving_6 : decode cX7_moving 6 = .ok (.invokestatic 61, 3) := by decide +kernel
theorem dX7_moving_9 : decode cX7_moving 9 = .ok (.ifCond .ne 6, 3) := by decide +kernel
theorem dX7_moving_12 : decode cX7_moving 12 = .ok (.bipush (-102), 2) := by decide +kernel
theorem dX7_moving_14 : decode cX7_moving 14 = .ok (.ireturn, 1) := by decide +kernel
theorem dX7_moving_15 : decode cX7_moving 15 = .ok (.aload_n 0, 1) := by decide +kernel
theorem dX7_moving_16 : decode cX7_moving 16 = .ok (.invokevirtual 109, 3) := by decide +kernel
theorem dX7_moving_19 : decode cX7_moving 19 = .ok (.ifCond .ne 12, 3) := by decide +kernel
theorem dX7_moving_22 : decode cX7_moving 22 = .ok (.aload_n 0, 1) := by decide +kernel
theorem dX7_moving_23 : decode cX7_moving 23 = .ok (.getfield 183, 3) := by decide +kernel
theorem dX7_moving_26 : decode cX7_moving 26 = .ok (.bipush 10, 2) := by decide +kernel
theorem dX7_moving_28 : decode cX7_moving 28 = .ok (.if_icmp .ne 6, 3) := by decide +kernel
theorem dX7_moving_31 : decode cX7_moving 31 = .ok (.bipush (-103), 2) := by decide +kernel
theorem dX7_moving_33 : decode cX7_moving 33 = .ok (.ireturn, 1) := by decide +kernel
theorem dX7_moving_34 : decode cX7_moving 34 = .ok (.aload_n 0, 1) := by decide +kernel
theorem dX7_moving_35 : decode cX7_moving 35 = .ok (.dup, 1) := by decide +kernel
theorem dX7_moving_36 : decode cX7_moving 36 = .ok (.getfield 183, 3) := by decide +kernel
theorem dX7_moving_39 : decode cX7_moving 39 = .ok (.iconst 1, 1) := by decide +kernel
theorem dX7_moving_40 : decode cX7_moving 40 = .ok (.iadd, 1) := by decide +kernel
theorem dX7_moving_41 : decode cX7_moving 41 = .ok (.putfield 183, 3) := by decide +kernel
theorem dX7_moving_44 : decode cX7_moving 44 = .ok (.iconst 0, 1) := by decide +kernel
theorem dX7_moving_45 : decode cX7_moving 45 = .ok (.istore_n 2, 1) := by decide +kernel
theorem dX7_moving_46 : decode cX7_moving 46 = .ok (.iload_n 2, 1) := by decide +kernel
theorem dX7_moving_47 : decode cX7_moving 47 = .ok (.iconst 4, 1) := by decide +kernel
theorem dX7_moving_48 : decode cX7_moving 48 = .ok (.if_icmp .ge 20, 3) := by decide +kernel
theorem dX7_moving_51 : decode cX7_moving 51 = .ok (.aload_n 0, 1) := by decide +kernel
theorem dX7_moving_52 : decode cX7_moving 52 = .ok (.iload_n 2, 1) := by decide +kernel
theorem dX7_moving_53 : decode cX7_moving 53 = .ok (.iload_n 1, 1) := by decide +kernel
theorem dX7_moving_54 : decode cX7_moving 54 = .ok (.invokevirtual 186, 3) := by decide +kernel
theorem dX7_moving_57 : decode cX7_moving 57 = .ok (.ifCond .eq 5, 3) := by decide +kernel
theorem dX7_moving_60 : decode cX7_moving 60 = .ok (.iload_n 2, 1) := by decide +kernel
theorem dX7_moving_61 : decode cX7_moving 61 = .ok (.ireturn, 1) := by decide +kernel
theorem dX7_moving_62 : decode cX7_moving 62 = .ok (.iinc 2 1, 3) := by decide +kernel
theorem dX7_moving_65 : decode cX7_moving 65 = .ok (.goto (-19), 3) := by decide +kernel
theorem dX7_moving_68 : decode cX7_moving 68 = .ok (.iconst (-1), 1) := by decide +kernel
theorem dX7_moving_69 : decode cX7_moving 69 = .ok (.ireturn, 1) := by decide +kernel
theorem dX7_ashes_0 : decode cX7_ashes 0 = .ok (.iload_n 1, 1) := by decide +kernel
theorem dX7_ashes_1 : decode cX7_ashes 1 = .ok (.i2l, 1) := by decide +kernel
theorem dX7_ashes_2 : decode cX7_ashes 2 = .ok (.ldc2_w 189, 3) := by decide +kernel
theorem dX7_ashes_5 : decode cX7_ashes 5 = .ok (.iconst 1, 1) := by decide +kernel
theorem dX7_ashes_6 : decode cX7_ashes 6 = .ok (.aload_n 0, 1) := by decide +kernel
theorem dX7_ashes_7 : decode cX7_ashes 7 = .ok (.getfield 81, 3) := by decide +kernel
theorem dX7_ashes_10 : decode cX7_ashes 10 = .ok (.ishl, 1) := by decide +kernel
theorem dX7_ashes_11 : decode cX7_ashes 11 = .ok (.iconst 1, 1) := by decide +kernel
theorem dX7_ashes_12 : decode cX7_ashes 12 = .ok (.isub, 1) := by decide +kernel
theorem dX7_ashes_13 : decode cX7_ashes 13 = .ok (.i2l, 1) := by decide +kernel
theorem dX7_ashes_14 : decode cX7_ashes 14 = .ok (.invokestatic 61, 3) := by decide +kernel
theorem dX7_ashes_17 : decode cX7_ashes 17 = .ok (.ifCond .ne 6, 3) := by decide +kernel
theorem dX7_ashes_20 : decode cX7_ashes 20 = .ok (.bipush (-102), 2) := by decide +kernel
theorem dX7_ashes_22 : decode cX7_ashes 22 = .ok (.ireturn, 1) := by decide +kernel
theorem dX7_ashes_23 : decode cX7_ashes 23 = .ok (.aload_n 0, 1) := by decide +kernel
theorem dX7_ashes_24 : decode cX7_ashes 24 = .ok (.getfield 87, 3) := by decide +kernel
theorem dX7_ashes_27 : decode cX7_ashes 27 = .ok (.iconst 5, 1) := by decide +kernel
theorem dX7_ashes_28 : decode cX7_ashes 28 = .ok (.if_icmp .ne 6, 3) := by decide +kernel
theorem dX7_ashes_31 : decode cX7_ashes 31 = .ok (.bipush (-104), 2) := by decide +kernel
theorem dX7_ashes_33 : decode cX7_ashes 33 = .ok (.ireturn, 1) := by decide +kernel
theorem dX7_ashes_34 : decode cX7_ashes 34 = .ok (.aload_n 0, 1) := by decide +kernel
theorem dX7_ashes_35 : decode cX7_ashes 35 = .ok (.getfield 37, 3) := by decide +kernel
theorem dX7_ashes_38 : decode cX7_ashes 38 = .ok (.aload_n 0, 1) := by decide +kernel
theorem dX7_ashes_39 : decode cX7_ashes 39 = .ok (.getfield 87, 3) := by decide +kernel
theorem dX7_ashes_42 : decode cX7_ashes 42 = .ok (.iload_n 1, 1) := by decide +kernel
theorem dX7_ashes_43 : decode cX7_ashes 43 = .ok (.iastore, 1) := by decide +kernel
theorem dX7_ashes_44 : decode cX7_ashes 44 = .ok (.aload_n 0, 1) := by decide +kernel
theorem dX7_ashes_45 : decode cX7_ashes 45 = .ok (.dup, 1) := by decide +kernel
theorem dX7_ashes_46 : decode cX7_ashes 46 = .ok (.getfield 87, 3) := by decide +kernel
theorem dX7_ashes_49 : decode cX7_ashes 49 = .ok (.iconst 1, 1) := by decide +kernel
theorem dX7_ashes_50 : decode cX7_ashes 50 = .ok (.iadd, 1) := by decide +kernel
theorem dX7_ashes_51 : decode cX7_ashes 51 = .ok (.putfield 87, 3) := by decide +kernel
theorem dX7_ashes_54 : decode cX7_ashes 54 = .ok (.aload_n 0, 1) := by decide +kernel
theorem dX7_ashes_55 : decode cX7_ashes 55 = .ok (.getfield 87, 3) := by decide +kernel
theorem dX7_ashes_58 : decode cX7_ashes 58 = .ok (.ireturn, 1) := by decide +kernel
theorem dX7_forget_0 : decode cX7_forget 0 = .ok (.aload_n 0, 1) := by decide +kernel
theorem dX7_forget_1 : decode cX7_forget 1 = .ok (.getfield 87, 3) := by decide +kernel
theorem dX7_forget_4 : decode cX7_forget 4 = .ok (.istore_n 1, 1) := by decide +kernel
theorem dX7_forget_5 : decode cX7_forget 5 = .ok (.aload_n 0, 1) := by decide +kernel
theorem dX7_forget_6 : decode cX7_forget 6 = .ok (.iconst 0, 1) := by decide +kernel
theorem dX7_forget_7 : decode cX7_forget 7 = .ok (.putfield 87, 3) := by decide +kernel
theorem dX7_forget_10 : decode cX7_forget 10 = .ok (.iload_n 1, 1) := by decide +kernel
theorem dX7_forget_11 : decode cX7_forget 11 = .ok (.ireturn, 1) := by decide +kernel
theorem dX7_livesNow_0 : decode cX7_livesNow 0 = .ok (.iconst 0, 1) := by decide +kernel
theorem dX7_livesNow_1 : decode cX7_livesNow 1 = .ok (.istore_n 1, 1) := by decide +kernel
theorem dX7_livesNow_2 : decode cX7_livesNow 2 = .ok (.iconst 0, 1) := by decide +kernel
theorem dX7_livesNow_3 : decode cX7_livesNow 3 = .ok (.istore_n 2, 1) := by decide +kernel
theorem dX7_livesNow_4 : decode cX7_livesNow 4 = .ok (.iload_n 2, 1) := by decide +kernel
theorem dX7_livesNow_5 : decode cX7_livesNow 5 = .ok (.aload_n 0, 1) := by decide +kernel
theorem dX7_livesNow_6 : decode cX7_livesNow 6 = .ok (.getfield 81, 3) := by decide +kernel
theorem dX7_livesNow_9 : decode cX7_livesNow 9 = .ok (.if_icmp .ge 28, 3) := by decide +kernel
theorem dX7_livesNow_12 : decode cX7_livesNow 12 = .ok (.iload_n 1, 1) := by decide +kernel
theorem dX7_livesNow_13 : decode cX7_livesNow 13 = .ok (.aload_n 0, 1) := by decide +kernel
theorem dX7_livesNow_14 : decode cX7_livesNow 14 = .ok (.getfield 25, 3) := by decide +kernel
theorem dX7_livesNow_17 : decode cX7_livesNow 17 = .ok (.iload_n 2, 1) := by decide +kernel
theorem dX7_livesNow_18 : decode cX7_livesNow 18 = .ok (.iaload, 1) := by decide +kernel
theorem dX7_livesNow_19 : decode cX7_livesNow 19 = .ok (.ifCond .eq 9, 3) := by decide +kernel
theorem dX7_livesNow_22 : decode cX7_livesNow 22 = .ok (.iconst 1, 1) := by decide +kernel
theorem dX7_livesNow_23 : decode cX7_livesNow 23 = .ok (.iload_n 2, 1) := by decide +kernel
theorem dX7_livesNow_24 : decode cX7_livesNow 24 = .ok (.ishl, 1) := by decide +kernel
theorem dX7_livesNow_25 : decode cX7_livesNow 25 = .ok (.goto 4, 3) := by decide +kernel
theorem dX7_livesNow_28 : decode cX7_livesNow 28 = .ok (.iconst 0, 1) := by decide +kernel
theorem dX7_livesNow_29 : decode cX7_livesNow 29 = .ok (.ior, 1) := by decide +kernel
theorem dX7_livesNow_30 : decode cX7_livesNow 30 = .ok (.istore_n 1, 1) := by decide +kernel
theorem dX7_livesNow_31 : decode cX7_livesNow 31 = .ok (.iinc 2 1, 3) := by decide +kernel
theorem dX7_livesNow_34 : decode cX7_livesNow 34 = .ok (.goto (-30), 3) := by decide +kernel
theorem dX7_livesNow_37 : decode cX7_livesNow 37 = .ok (.iload_n 1, 1) := by decide +kernel
theorem dX7_livesNow_38 : decode cX7_livesNow 38 = .ok (.ireturn, 1) := by decide +kernel
theorem dX7_isToldBy_0 : decode cX7_isToldBy 0 = .ok (.aload_n 0, 1) := by decide +kernel
theorem dX7_isToldBy_1 : decode cX7_isToldBy 1 = .ok (.invokevirtual 144, 3) := by decide +kernel
theorem dX7_isToldBy_4 : decode cX7_isToldBy 4 = .ok (.iload_n 1, 1) := by decide +kernel
theorem dX7_isToldBy_5 : decode cX7_isToldBy 5 = .ok (.istore_n 2, 1) := by decide +kernel
theorem dX7_isToldBy_6 : decode cX7_isToldBy 6 = .ok (.iconst 1, 1) := by decide +kernel
theorem dX7_isToldBy_7 : decode cX7_isToldBy 7 = .ok (.istore_n 3, 1) := by decide +kernel
theorem dX7_isToldBy_8 : decode cX7_isToldBy 8 = .ok (.iconst 0, 1) := by decide +kernel
theorem dX7_isToldBy_9 : decode cX7_isToldBy 9 = .ok (.istore 4, 2) := by decide +kernel
theorem dX7_isToldBy_11 : decode cX7_isToldBy 11 = .ok (.iload 4, 2) := by decide +kernel
theorem dX7_isToldBy_13 : decode cX7_isToldBy 13 = .ok (.aload_n 0, 1) := by decide +kernel
theorem dX7_isToldBy_14 : decode cX7_isToldBy 14 = .ok (.getfield 87, 3) := by decide +kernel
theorem dX7_isToldBy_17 : decode cX7_isToldBy 17 = .ok (.if_icmp .ge 73, 3) := by decide +kernel
theorem dX7_isToldBy_20 : decode cX7_isToldBy 20 = .ok (.iload_n 3, 1) := by decide +kernel
theorem dX7_isToldBy_21 : decode cX7_isToldBy 21 = .ok (.ifCond .eq 69, 3) := by decide +kernel
theorem dX7_isToldBy_24 : decode cX7_isToldBy 24 = .ok (.iload_n 2, 1) := by decide +kernel
theorem dX7_isToldBy_25 : decode cX7_isToldBy 25 = .ok (.bipush 6, 2) := by decide +kernel
theorem dX7_isToldBy_27 : decode cX7_isToldBy 27 = .ok (.irem, 1) := by decide +kernel
theorem dX7_isToldBy_28 : decode cX7_isToldBy 28 = .ok (.istore 5, 2) := by decide +kernel
theorem dX7_isToldBy_30 : decode cX7_isToldBy 30 = .ok (.iload_n 2, 1) := by decide +kernel
theorem dX7_isToldBy_31 : decode cX7_isToldBy 31 = .ok (.bipush 6, 2) := by decide +kernel
theorem dX7_isToldBy_33 : decode cX7_isToldBy 33 = .ok (.idiv, 1) := by decide +kernel
theorem dX7_isToldBy_34 : decode cX7_isToldBy 34 = .ok (.istore_n 2, 1) := by decide +kernel
theorem dX7_isToldBy_35 : decode cX7_isToldBy 35 = .ok (.aload_n 0, 1) := by decide +kernel
theorem dX7_isToldBy_36 : decode cX7_isToldBy 36 = .ok (.iload 5, 2) := by decide +kernel
theorem dX7_isToldBy_38 : decode cX7_isToldBy 38 = .ok (.invokevirtual 147, 3) := by decide +kernel
theorem dX7_isToldBy_41 : decode cX7_isToldBy 41 = .ok (.istore 6, 2) := by decide +kernel
theorem dX7_isToldBy_43 : decode cX7_isToldBy 43 = .ok (.aload_n 0, 1) := by decide +kernel
theorem dX7_isToldBy_44 : decode cX7_isToldBy 44 = .ok (.getfield 13, 3) := by decide +kernel
theorem dX7_isToldBy_47 : decode cX7_isToldBy 47 = .ok (.iload 5, 2) := by decide +kernel
theorem dX7_isToldBy_49 : decode cX7_isToldBy 49 = .ok (.iaload, 1) := by decide +kernel
theorem dX7_isToldBy_50 : decode cX7_isToldBy 50 = .ok (.ifCond .le 32, 3) := by decide +kernel
theorem dX7_isToldBy_53 : decode cX7_isToldBy 53 = .ok (.aload_n 0, 1) := by decide +kernel
theorem dX7_isToldBy_54 : decode cX7_isToldBy 54 = .ok (.getfield 37, 3) := by decide +kernel
theorem dX7_isToldBy_57 : decode cX7_isToldBy 57 = .ok (.iload 4, 2) := by decide +kernel
theorem dX7_isToldBy_59 : decode cX7_isToldBy 59 = .ok (.iaload, 1) := by decide +kernel
theorem dX7_isToldBy_60 : decode cX7_isToldBy 60 = .ok (.iconst (-1), 1) := by decide +kernel
theorem dX7_isToldBy_61 : decode cX7_isToldBy 61 = .ok (.if_icmp .eq 17, 3) := by decide +kernel
theorem dX7_isToldBy_64 : decode cX7_isToldBy 64 = .ok (.aload_n 0, 1) := by decide +kernel
theorem dX7_isToldBy_65 : decode cX7_isToldBy 65 = .ok (.getfield 37, 3) := by decide +kernel
theorem dX7_isToldBy_68 : decode cX7_isToldBy 68 = .ok (.iload 4, 2) := by decide +kernel
theorem dX7_isToldBy_70 : decode cX7_isToldBy 70 = .ok (.iaload, 1) := by decide +kernel
theorem dX7_isToldBy_71 : decode cX7_isToldBy 71 = .ok (.aload_n 0, 1) := by decide +kernel
theorem dX7_isToldBy_72 : decode cX7_isToldBy 72 = .ok (.invokevirtual 191, 3) := by decide +kernel
theorem dX7_isToldBy_75 : decode cX7_isToldBy 75 = .ok (.if_icmp .ne 7, 3) := by decide +kernel
theorem dX7_isToldBy_78 : decode cX7_isToldBy 78 = .ok (.iconst 1, 1) := by decide +kernel
theorem dX7_isToldBy_79 : decode cX7_isToldBy 79 = .ok (.goto 4, 3) := by decide +kernel
theorem dX7_isToldBy_82 : decode cX7_isToldBy 82 = .ok (.iconst 0, 1) := by decide +kernel
theorem dX7_isToldBy_83 : decode cX7_isToldBy 83 = .ok (.istore_n 3, 1) := by decide +kernel
theorem dX7_isToldBy_84 : decode cX7_isToldBy 84 = .ok (.iinc 4 1, 3) := by decide +kernel
theorem dX7_isToldBy_87 : decode cX7_isToldBy 87 = .ok (.goto (-76), 3) := by decide +kernel
theorem dX7_isToldBy_90 : decode cX7_isToldBy 90 = .ok (.iload_n 3, 1) := by decide +kernel
theorem dX7_isToldBy_91 : decode cX7_isToldBy 91 = .ok (.ireturn, 1) := by decide +kernel
theorem dX7_layFits_0 : decode cX7_layFits 0 = .ok (.iconst 0, 1) := by decide +kernel
theorem dX7_layFits_1 : decode cX7_layFits 1 = .ok (.istore_n 1, 1) := by decide +kernel
theorem dX7_layFits_2 : decode cX7_layFits 2 = .ok (.iload_n 1, 1) := by decide +kernel
theorem dX7_layFits_3 : decode cX7_layFits 3 = .ok (.iconst 5, 1) := by decide +kernel
theorem dX7_layFits_4 : decode cX7_layFits 4 = .ok (.if_icmp .ge 16, 3) := by decide +kernel
theorem dX7_layFits_7 : decode cX7_layFits 7 = .ok (.aload_n 0, 1) := by decide +kernel
theorem dX7_layFits_8 : decode cX7_layFits 8 = .ok (.getfield 40, 3) := by decide +kernel
theorem dX7_layFits_11 : decode cX7_layFits 11 = .ok (.iload_n 1, 1) := by decide +kernel
theorem dX7_layFits_12 : decode cX7_layFits 12 = .ok (.iconst 0, 1) := by decide +kernel
theorem dX7_layFits_13 : decode cX7_layFits 13 = .ok (.iastore, 1) := by decide +kernel
theorem dX7_layFits_14 : decode cX7_layFits 14 = .ok (.iinc 1 1, 3) := by decide +kernel
theorem dX7_layFits_17 : decode cX7_layFits 17 = .ok (.goto (-15), 3) := by decide +kernel
theorem dX7_layFits_20 : decode cX7_layFits 20 = .ok (.iconst 0, 1) := by decide +kernel
theorem dX7_layFits_21 : decode cX7_layFits 21 = .ok (.istore_n 1, 1) := by decide +kernel
theorem dX7_layFits_22 : decode cX7_layFits 22 = .ok (.iconst 0, 1) := by decide +kernel
theorem dX7_layFits_23 : decode cX7_layFits 23 = .ok (.istore_n 2, 1) := by decide +kernel
theorem dX7_layFits_24 : decode cX7_layFits 24 = .ok (.iload_n 2, 1) := by decide +kernel
theorem dX7_layFits_25 : decode cX7_layFits 25 = .ok (.bipush 6, 2) := by decide +kernel
theorem dX7_layFits_27 : decode cX7_layFits 27 = .ok (.aload_n 0, 1) := by decide +kernel
theorem dX7_layFits_28 : decode cX7_layFits 28 = .ok (.getfield 87, 3) := by decide +kernel
theorem dX7_layFits_31 : decode cX7_layFits 31 = .ok (.invokestatic 150, 3) := by decide +kernel
theorem dX7_layFits_34 : decode cX7_layFits 34 = .ok (.if_icmp .ge 61, 3) := by decide +kernel
theorem dX7_layFits_37 : decode cX7_layFits 37 = .ok (.aload_n 0, 1) := by decide +kernel
theorem dX7_layFits_38 : decode cX7_layFits 38 = .ok (.iload_n 2, 1) := by decide +kernel
theorem dX7_layFits_39 : decode cX7_layFits 39 = .ok (.invokevirtual 194, 3) := by decide +kernel
theorem dX7_layFits_42 : decode cX7_layFits 42 = .ok (.ifCond .eq 47, 3) := by decide +kernel
theorem dX7_layFits_45 : decode cX7_layFits 45 = .ok (.iinc 1 1, 3) := by decide +kernel
theorem dX7_layFits_48 : decode cX7_layFits 48 = .ok (.iload_n 2, 1) := by decide +kernel
theorem dX7_layFits_49 : decode cX7_layFits 49 = .ok (.istore_n 3, 1) := by decide +kernel
theorem dX7_layFits_50 : decode cX7_layFits 50 = .ok (.iconst 0, 1) := by decide +kernel
theorem dX7_layFits_51 : decode cX7_layFits 51 = .ok (.istore 4, 2) := by decide +kernel
theorem dX7_layFits_53 : decode cX7_layFits 53 = .ok (.iload 4, 2) := by decide +kernel
theorem dX7_layFits_55 : decode cX7_layFits 55 = .ok (.aload_n 0, 1) := by decide +kernel
theorem dX7_layFits_56 : decode cX7_layFits 56 = .ok (.getfield 87, 3) := by decide +kernel
theorem dX7_layFits_59 : decode cX7_layFits 59 = .ok (.if_icmp .ge 30, 3) := by decide +kernel
theorem dX7_layFits_62 : decode cX7_layFits 62 = .ok (.aload_n 0, 1) := by decide +kernel
theorem dX7_layFits_63 : decode cX7_layFits 63 = .ok (.getfield 40, 3) := by decide +kernel
theorem dX7_layFits_66 : decode cX7_layFits 66 = .ok (.iload 4, 2) := by decide +kernel
theorem dX7_layFits_68 : decode cX7_layFits 68 = .ok (.dup2, 1) := by decide +kernel
theorem dX7_layFits_69 : decode cX7_layFits 69 = .ok (.iaload, 1) := by decide +kernel
theorem dX7_layFits_70 : decode cX7_layFits 70 = .ok (.iconst 1, 1) := by decide +kernel
theorem dX7_layFits_71 : decode cX7_layFits 71 = .ok (.iload_n 3, 1) := by decide +kernel
theorem dX7_layFits_72 : decode cX7_layFits 72 = .ok (.bipush 6, 2) := by decide +kernel
theorem dX7_layFits_74 : decode cX7_layFits 74 = .ok (.irem, 1) := by decide +kernel
theorem dX7_layFits_75 : decode cX7_layFits 75 = .ok (.ishl, 1) := by decide +kernel
theorem dX7_layFits_76 : decode cX7_layFits 76 = .ok (.ior, 1) := by decide +kernel
theorem dX7_layFits_77 : decode cX7_layFits 77 = .ok (.iastore, 1) := by decide +kernel
theorem dX7_layFits_78 : decode cX7_layFits 78 = .ok (.iload_n 3, 1) := by decide +kernel
theorem dX7_layFits_79 : decode cX7_layFits 79 = .ok (.bipush 6, 2) := by decide +kernel
theorem dX7_layFits_81 : decode cX7_layFits 81 = .ok (.idiv, 1) := by decide +kernel
theorem dX7_layFits_82 : decode cX7_layFits 82 = .ok (.istore_n 3, 1) := by decide +kernel
theorem dX7_layFits_83 : decode cX7_layFits 83 = .ok (.iinc 4 1, 3) := by decide +kernel
theorem dX7_layFits_86 : decode cX7_layFits 86 = .ok (.goto (-33), 3) := by decide +kernel
theorem dX7_layFits_89 : decode cX7_layFits 89 = .ok (.iinc 2 1, 3) := by decide +kernel
theorem dX7_layFits_92 : decode cX7_layFits 92 = .ok (.goto (-68), 3) := by decide +kernel
theorem dX7_layFits_95 : decode cX7_layFits 95 = .ok (.iload_n 1, 1) := by decide +kernel
theorem dX7_layFits_96 : decode cX7_layFits 96 = .ok (.ireturn, 1) := by decide +kernel
theorem dX7_fits_0 : decode cX7_fits 0 = .ok (.aload_n 0, 1) := by decide +kernel
theorem dX7_fits_1 : decode cX7_fits 1 = .ok (.invokevirtual 109, 3) := by decide +kernel
theorem dX7_fits_4 : decode cX7_fits 4 = .ok (.ifCond .eq 8, 3) := by decide +kernel
theorem dX7_fits_7 : decode cX7_fits 7 = .ok (.bipush (-103), 2) := by decide +kernel
theorem dX7_fits_9 : decode cX7_fits 9 = .ok (.goto 7, 3) := by decide +kernel
theorem dX7_fits_12 : decode cX7_fits 12 = .ok (.aload_n 0, 1) := by decide +kernel
theorem dX7_fits_13 : decode cX7_fits 13 = .ok (.invokevirtual 197, 3) := by decide +kernel
theorem dX7_fits_16 : decode cX7_fits 16 = .ok (.ireturn, 1) := by decide +kernel
theorem dX7_burnt_0 : decode cX7_burnt 0 = .ok (.iload_n 1, 1) := by decide +kernel
theorem dX7_burnt_1 : decode cX7_burnt 1 = .ok (.i2l, 1) := by decide +kernel
theorem dX7_burnt_2 : decode cX7_burnt 2 = .ok (.lconst 0, 1) := by decide +kernel
theorem dX7_burnt_3 : decode cX7_burnt 3 = .ok (.aload_n 0, 1) := by decide +kernel
theorem dX7_burnt_4 : decode cX7_burnt 4 = .ok (.getfield 87, 3) := by decide +kernel
theorem dX7_burnt_7 : decode cX7_burnt 7 = .ok (.iconst 1, 1) := by decide +kernel
theorem dX7_burnt_8 : decode cX7_burnt 8 = .ok (.isub, 1) := by decide +kernel
theorem dX7_burnt_9 : decode cX7_burnt 9 = .ok (.i2l, 1) := by decide +kernel
theorem dX7_burnt_10 : decode cX7_burnt 10 = .ok (.invokestatic 61, 3) := by decide +kernel
theorem dX7_burnt_13 : decode cX7_burnt 13 = .ok (.ifCond .ne 6, 3) := by decide +kernel
theorem dX7_burnt_16 : decode cX7_burnt 16 = .ok (.bipush (-101), 2) := by decide +kernel
theorem dX7_burnt_18 : decode cX7_burnt 18 = .ok (.ireturn, 1) := by decide +kernel
theorem dX7_burnt_19 : decode cX7_burnt 19 = .ok (.aload_n 0, 1) := by decide +kernel
theorem dX7_burnt_20 : decode cX7_burnt 20 = .ok (.invokevirtual 109, 3) := by decide +kernel
theorem dX7_burnt_23 : decode cX7_burnt 23 = .ok (.ifCond .eq 6, 3) := by decide +kernel
theorem dX7_burnt_26 : decode cX7_burnt 26 = .ok (.bipush (-103), 2) := by decide +kernel
theorem dX7_burnt_28 : decode cX7_burnt 28 = .ok (.ireturn, 1) := by decide +kernel
theorem dX7_burnt_29 : decode cX7_burnt 29 = .ok (.aload_n 0, 1) := by decide +kernel
theorem dX7_burnt_30 : decode cX7_burnt 30 = .ok (.invokevirtual 197, 3) := by decide +kernel
theorem dX7_burnt_33 : decode cX7_burnt 33 = .ok (.istore_n 2, 1) := by decide +kernel
theorem dX7_burnt_34 : decode cX7_burnt 34 = .ok (.iconst 0, 1) := by decide +kernel
theorem dX7_burnt_35 : decode cX7_burnt 35 = .ok (.istore_n 3, 1) := by decide +kernel
theorem dX7_burnt_36 : decode cX7_burnt 36 = .ok (.iload_n 3, 1) := by decide +kernel
theorem dX7_burnt_37 : decode cX7_burnt 37 = .ok (.bipush 6, 2) := by decide +kernel
theorem dX7_burnt_39 : decode cX7_burnt 39 = .ok (.if_icmp .ge 23, 3) := by decide +kernel
theorem dX7_burnt_42 : decode cX7_burnt 42 = .ok (.aload_n 0, 1) := by decide +kernel
theorem dX7_burnt_43 : decode cX7_burnt 43 = .ok (.getfield 40, 3) := by decide +kernel
theorem dX7_burnt_46 : decode cX7_burnt 46 = .ok (.iload_n 1, 1) := by decide +kernel
theorem dX7_burnt_47 : decode cX7_burnt 47 = .ok (.iaload, 1) := by decide +kernel
theorem dX7_burnt_48 : decode cX7_burnt 48 = .ok (.iconst 1, 1) := by decide +kernel
theorem dX7_burnt_49 : decode cX7_burnt 49 = .ok (.iload_n 3, 1) := by decide +kernel
theorem dX7_burnt_50 : decode cX7_burnt 50 = .ok (.ishl, 1) := by decide +kernel
theorem dX7_burnt_51 : decode cX7_burnt 51 = .ok (.if_icmp .ne 5, 3) := by decide +kernel
theorem dX7_burnt_54 : decode cX7_burnt 54 = .ok (.iload_n 3, 1) := by decide +kernel
theorem dX7_burnt_55 : decode cX7_burnt 55 = .ok (.ireturn, 1) := by decide +kernel
theorem dX7_burnt_56 : decode cX7_burnt 56 = .ok (.iinc 3 1, 3) := by decide +kernel
theorem dX7_burnt_59 : decode cX7_burnt 59 = .ok (.goto (-23), 3) := by decide +kernel
theorem dX7_burnt_62 : decode cX7_burnt 62 = .ok (.iconst (-1), 1) := by decide +kernel
theorem dX7_burnt_63 : decode cX7_burnt 63 = .ok (.ireturn, 1) := by decide +kernel
theorem dX7_draw_0 : decode cX7_draw 0 = .ok (.aload_n 0, 1) := by decide +kernel
theorem dX7_draw_1 : decode cX7_draw 1 = .ok (.ldc2_w 200, 3) := by decide +kernel
theorem dX7_draw_4 : decode cX7_draw 4 = .ok (.aload_n 0, 1) := by decide +kernel
theorem dX7_draw_5 : decode cX7_draw 5 = .ok (.getfield 202, 3) := by decide +kernel
theorem dX7_draw_8 : decode cX7_draw 8 = .ok (.i2l, 1) := by decide +kernel
theorem dX7_draw_9 : decode cX7_draw 9 = .ok (.lmul, 1) := by decide +kernel
theorem dX7_draw_10 : decode cX7_draw 10 = .ok (.ldc2_w 205, 3) := by decide +kernel
theorem dX7_draw_13 : decode cX7_draw 13 = .ok (.ladd, 1) := by decide +kernel
theorem dX7_draw_14 : decode cX7_draw 14 = .ok (.ldc2_w 207, 3) := by decide +kernel
theorem dX7_draw_17 : decode cX7_draw 17 = .ok (.land, 1) := by decide +kernel
theorem dX7_draw_18 : decode cX7_draw 18 = .ok (.l2i, 1) := by decide +kernel
theorem dX7_draw_19 : decode cX7_draw 19 = .ok (.putfield 202, 3) := by decide +kernel
theorem dX7_draw_22 : decode cX7_draw 22 = .ok (.aload_n 0, 1) := by decide +kernel
theorem dX7_draw_23 : decode cX7_draw 23 = .ok (.getfield 202, 3) := by decide +kernel
theorem dX7_draw_26 : decode cX7_draw 26 = .ok (.ldc 209, 2) := by decide +kernel
theorem dX7_draw_28 : decode cX7_draw 28 = .ok (.idiv, 1) := by decide +kernel
theorem dX7_draw_29 : decode cX7_draw 29 = .ok (.iload_n 1, 1) := by decide +kernel
theorem dX7_draw_30 : decode cX7_draw 30 = .ok (.irem, 1) := by decide +kernel
theorem dX7_draw_31 : decode cX7_draw 31 = .ok (.ireturn, 1) := by decide +kernel
theorem dX7_lotOf_0 : decode cX7_lotOf 0 = .ok (.iload_n 1, 1) := by decide +kernel
theorem dX7_lotOf_1 : decode cX7_lotOf 1 = .ok (.istore_n 2, 1) := by decide +kernel
theorem dX7_lotOf_2 : decode cX7_lotOf 2 = .ok (.iconst 0, 1) := by decide +kernel
theorem dX7_lotOf_3 : decode cX7_lotOf 3 = .ok (.istore_n 3, 1) := by decide +kernel
theorem dX7_lotOf_4 : decode cX7_lotOf 4 = .ok (.iload_n 3, 1) := by decide +kernel
theorem dX7_lotOf_5 : decode cX7_lotOf 5 = .ok (.bipush 6, 2) := by decide +kernel
theorem dX7_lotOf_7 : decode cX7_lotOf 7 = .ok (.if_icmp .ge 24, 3) := by decide +kernel
theorem dX7_lotOf_10 : decode cX7_lotOf 10 = .ok (.iload_n 2, 1) := by decide +kernel
theorem dX7_lotOf_11 : decode cX7_lotOf 11 = .ok (.aload_n 0, 1) := by decide +kernel
theorem dX7_lotOf_12 : decode cX7_lotOf 12 = .ok (.getfield 13, 3) := by decide +kernel
theorem dX7_lotOf_15 : decode cX7_lotOf 15 = .ok (.iload_n 3, 1) := by decide +kernel
theorem dX7_lotOf_16 : decode cX7_lotOf 16 = .ok (.iaload, 1) := by decide +kernel
theorem dX7_lotOf_17 : decode cX7_lotOf 17 = .ok (.isub, 1) := by decide +kernel
theorem dX7_lotOf_18 : decode cX7_lotOf 18 = .ok (.istore_n 2, 1) := by decide +kernel
theorem dX7_lotOf_19 : decode cX7_lotOf 19 = .ok (.iload_n 2, 1) := by decide +kernel
theorem dX7_lotOf_20 : decode cX7_lotOf 20 = .ok (.ifCond .ge 5, 3) := by decide +kernel
theorem dX7_lotOf_23 : decode cX7_lotOf 23 = .ok (.iload_n 3, 1) := by decide +kernel
theorem dX7_lotOf_24 : decode cX7_lotOf 24 = .ok (.ireturn, 1) := by decide +kernel
theorem dX7_lotOf_25 : decode cX7_lotOf 25 = .ok (.iinc 3 1, 3) := by decide +kernel
theorem dX7_lotOf_28 : decode cX7_lotOf 28 = .ok (.goto (-24), 3) := by decide +kernel
theorem dX7_lotOf_31 : decode cX7_lotOf 31 = .ok (.iconst 5, 1) := by decide +kernel
theorem dX7_lotOf_32 : decode cX7_lotOf 32 = .ok (.ireturn, 1) := by decide +kernel
theorem dX7_years_0 : decode cX7_years 0 = .ok (.iload_n 1, 1) := by decide +kernel
theorem dX7_years_1 : decode cX7_years 1 = .ok (.i2l, 1) := by decide +kernel
theorem dX7_years_2 : decode cX7_years 2 = .ok (.lconst 1, 1) := by decide +kernel
theorem dX7_years_3 : decode cX7_years 3 = .ok (.ldc2_w 210, 3) := by decide +kernel
theorem dX7_years_6 : decode cX7_years 6 = .ok (.invokestatic 61, 3) := by decide +kernel
theorem dX7_years_9 : decode cX7_years 9 = .ok (.ifCond .eq 19, 3) := by decide +kernel
theorem dX7_years_12 : decode cX7_years 12 = .ok (.iload_n 2, 1) := by decide +kernel
theorem dX7_years_13 : decode cX7_years 13 = .ok (.ifCond .lt 15, 3) := by decide +kernel
theorem dX7_years_16 : decode cX7_years 16 = .ok (.iload_n 3, 1) := by decide +kernel
theorem dX7_years_17 : decode cX7_years 17 = .ok (.i2l, 1) := by decide +kernel
theorem dX7_years_18 : decode cX7_years 18 = .ok (.lconst 0, 1) := by decide +kernel
theorem dX7_years_19 : decode cX7_years 19 = .ok (.ldc2_w 212, 3) := by decide +kernel
theorem dX7_years_22 : decode cX7_years 22 = .ok (.invokestatic 61, 3) := by decide +kernel
theorem dX7_years_25 : decode cX7_years 25 = .ok (.ifCond .ne 6, 3) := by decide +kernel
theorem dX7_years_28 : decode cX7_years 28 = .ok (.bipush (-102), 2) := by decide +kernel
theorem dX7_years_30 : decode cX7_years 30 = .ok (.ireturn, 1) := by decide +kernel
theorem dX7_years_31 : decode cX7_years 31 = .ok (.aload_n 0, 1) := by decide +kernel
theorem dX7_years_32 : decode cX7_years 32 = .ok (.invokevirtual 109, 3) := by decide +kernel
theorem dX7_years_35 : decode cX7_years 35 = .ok (.ifCond .eq 6, 3) := by decide +kernel
theorem dX7_years_38 : decode cX7_years 38 = .ok (.bipush (-103), 2) := by decide +kernel
theorem dX7_years_40 : decode cX7_years 40 = .ok (.ireturn, 1) := by decide +kernel
theorem dX7_years_41 : decode cX7_years 41 = .ok (.aload_n 0, 1) := by decide +kernel
theorem dX7_years_42 : decode cX7_years 42 = .ok (.invokevirtual 144, 3) := by decide +kernel
theorem dX7_years_45 : decode cX7_years 45 = .ok (.aload_n 0, 1) := by decide +kernel
theorem dX7_years_46 : decode cX7_years 46 = .ok (.iload_n 2, 1) := by decide +kernel
theorem dX7_years_47 : decode cX7_years 47 = .ok (.putfield 202, 3) := by decide +kernel
theorem dX7_years_50 : decode cX7_years 50 = .ok (.iconst 0, 1) := by decide +kernel
theorem dX7_years_51 : decode cX7_years 51 = .ok (.istore 4, 2) := by decide +kernel
theorem dX7_years_53 : decode cX7_years 53 = .ok (.iload 4, 2) := by decide +kernel
theorem dX7_years_55 : decode cX7_years 55 = .ok (.iload_n 1, 1) := by decide +kernel
theorem dX7_years_56 : decode cX7_years 56 = .ok (.if_icmp .ge 25, 3) := by decide +kernel
theorem dX7_years_59 : decode cX7_years 59 = .ok (.aload_n 0, 1) := by decide +kernel
theorem dX7_years_60 : decode cX7_years 60 = .ok (.aload_n 0, 1) := by decide +kernel
theorem dX7_years_61 : decode cX7_years 61 = .ok (.aload_n 0, 1) := by decide +kernel
theorem dX7_years_62 : decode cX7_years 62 = .ok (.bipush 10, 2) := by decide +kernel
theorem dX7_years_64 : decode cX7_years 64 = .ok (.invokevirtual 214, 3) := by decide +kernel
theorem dX7_years_67 : decode cX7_years 67 = .ok (.invokevirtual 217, 3) := by decide +kernel
theorem dX7_years_70 : decode cX7_years 70 = .ok (.invokevirtual 147, 3) := by decide +kernel
theorem dX7_years_73 : decode cX7_years 73 = .ok (.istore 5, 2) := by decide +kernel
theorem dX7_years_75 : decode cX7_years 75 = .ok (.iinc 4 1, 3) := by decide +kernel
theorem dX7_years_78 : decode cX7_years 78 = .ok (.goto (-25), 3) := by decide +kernel
theorem dX7_years_81 : decode cX7_years 81 = .ok (.iconst 0, 1) := by decide +kernel
theorem dX7_years_82 : decode cX7_years 82 = .ok (.istore 4, 2) := by decide +kernel
theorem dX7_years_84 : decode cX7_years 84 = .ok (.iconst 0, 1) := by decide +kernel
theorem dX7_years_85 : decode cX7_years 85 = .ok (.istore 5, 2) := by decide +kernel
theorem dX7_years_87 : decode cX7_years 87 = .ok (.iload 5, 2) := by decide +kernel
theorem dX7_years_89 : decode cX7_years 89 = .ok (.aload_n 0, 1) := by decide +kernel
theorem dX7_years_90 : decode cX7_years 90 = .ok (.getfield 81, 3) := by decide +kernel
theorem dX7_years_93 : decode cX7_years 93 = .ok (.if_icmp .ge 24, 3) := by decide +kernel
theorem dX7_years_96 : decode cX7_years 96 = .ok (.iload 4, 2) := by decide +kernel
theorem dX7_years_98 : decode cX7_years 98 = .ok (.aload_n 0, 1) := by decide +kernel
theorem dX7_years_99 : decode cX7_years 99 = .ok (.getfield 25, 3) := by decide +kernel
theorem dX7_years_102 : decode cX7_years 102 = .ok (.iload 5, 2) := by decide +kernel
theorem dX7_years_104 : decode cX7_years 104 = .ok (.iaload, 1) := by decide +kernel
theorem dX7_years_105 : decode cX7_years 105 = .ok (.invokestatic 123, 3) := by decide +kernel
theorem dX7_years_108 : decode cX7_years 108 = .ok (.iadd, 1) := by decide +kernel
theorem dX7_years_109 : decode cX7_years 109 = .ok (.istore 4, 2) := by decide +kernel
theorem dX7_years_111 : decode cX7_years 111 = .ok (.iinc 5 1, 3) := by decide +kernel
theorem dX7_years_114 : decode cX7_years 114 = .ok (.goto (-27), 3) := by decide +kernel
theorem dX7_years_117 : decode cX7_years 117 = .ok (.iload_n 3, 1) := by decide +kernel
theorem dX7_years_118 : decode cX7_years 118 = .ok (.ifCond .ne 10, 3) := by decide +kernel
theorem dX7_years_121 : decode cX7_years 121 = .ok (.aload_n 0, 1) := by decide +kernel
theorem dX7_years_122 : decode cX7_years 122 = .ok (.invokevirtual 191, 3) := by decide +kernel
theorem dX7_years_125 : decode cX7_years 125 = .ok (.goto 17, 3) := by decide +kernel
theorem dX7_years_128 : decode cX7_years 128 = .ok (.iload_n 3, 1) := by decide +kernel
theorem dX7_years_129 : decode cX7_years 129 = .ok (.iconst 1, 1) := by decide +kernel
theorem dX7_years_130 : decode cX7_years 130 = .ok (.if_icmp .ne 8, 3) := by decide +kernel
theorem dX7_years_133 : decode cX7_years 133 = .ok (.iload 4, 2) := by decide +kernel
theorem dX7_years_135 : decode cX7_years 135 = .ok (.goto 7, 3) := by decide +kernel
theorem dX7_years_138 : decode cX7_years 138 = .ok (.aload_n 0, 1) := by decide +kernel
theorem dX7_years_139 : decode cX7_years 139 = .ok (.getfield 202, 3) := by decide +kernel
theorem dX7_years_142 : decode cX7_years 142 = .ok (.ireturn, 1) := by decide +kernel
theorem dX7_copyTo_0 : decode cX7_copyTo 0 = .ok (.iconst 0, 1) := by decide +kernel
theorem dX7_copyTo_1 : decode cX7_copyTo 1 = .ok (.istore_n 2, 1) := by decide +kernel
theorem dX7_copyTo_2 : decode cX7_copyTo 2 = .ok (.iload_n 2, 1) := by decide +kernel
theorem dX7_copyTo_3 : decode cX7_copyTo 3 = .ok (.aload_n 0, 1) := by decide +kernel
theorem dX7_copyTo_4 : decode cX7_copyTo 4 = .ok (.arraylength, 1) := by decide +kernel
theorem dX7_copyTo_5 : decode cX7_copyTo 5 = .ok (.if_icmp .ge 15, 3) := by decide +kernel
theorem dX7_copyTo_8 : decode cX7_copyTo 8 = .ok (.aload_n 1, 1) := by decide +kernel
theorem dX7_copyTo_9 : decode cX7_copyTo 9 = .ok (.iload_n 2, 1) := by decide +kernel
theorem dX7_copyTo_10 : decode cX7_copyTo 10 = .ok (.aload_n 0, 1) := by decide +kernel
theorem dX7_copyTo_11 : decode cX7_copyTo 11 = .ok (.iload_n 2, 1) := by decide +kernel
theorem dX7_copyTo_12 : decode cX7_copyTo 12 = .ok (.iaload, 1) := by decide +kernel
theorem dX7_copyTo_13 : decode cX7_copyTo 13 = .ok (.iastore, 1) := by decide +kernel
theorem dX7_copyTo_14 : decode cX7_copyTo 14 = .ok (.iinc 2 1, 3) := by decide +kernel
theorem dX7_copyTo_17 : decode cX7_copyTo 17 = .ok (.goto (-15), 3) := by decide +kernel
theorem dX7_copyTo_20 : decode cX7_copyTo 20 = .ok (.return_, 1) := by decide +kernel
theorem dX7_image_0 : decode cX7_image 0 = .ok (.aload_n 0, 1) := by decide +kernel
theorem dX7_image_1 : decode cX7_image 1 = .ok (.invokevirtual 109, 3) := by decide +kernel
theorem dX7_image_4 : decode cX7_image 4 = .ok (.ifCond .eq 6, 3) := by decide +kernel
theorem dX7_image_7 : decode cX7_image 7 = .ok (.bipush (-103), 2) := by decide +kernel
theorem dX7_image_9 : decode cX7_image 9 = .ok (.ireturn, 1) := by decide +kernel
theorem dX7_image_10 : decode cX7_image 10 = .ok (.aload_n 0, 1) := by decide +kernel
theorem dX7_image_11 : decode cX7_image 11 = .ok (.getfield 16, 3) := by decide +kernel
theorem dX7_image_14 : decode cX7_image 14 = .ok (.aload_n 0, 1) := by decide +kernel
theorem dX7_image_15 : decode cX7_image 15 = .ok (.getfield 43, 3) := by decide +kernel
theorem dX7_image_18 : decode cX7_image 18 = .ok (.invokestatic 220, 3) := by decide +kernel
theorem dX7_image_21 : decode cX7_image 21 = .ok (.aload_n 0, 1) := by decide +kernel
theorem dX7_image_22 : decode cX7_image 22 = .ok (.getfield 19, 3) := by decide +kernel
theorem dX7_image_25 : decode cX7_image 25 = .ok (.aload_n 0, 1) := by decide +kernel
theorem dX7_image_26 : decode cX7_image 26 = .ok (.getfield 46, 3) := by decide +kernel
theorem dX7_image_29 : decode cX7_image 29 = .ok (.invokestatic 220, 3) := by decide +kernel
theorem dX7_image_32 : decode cX7_image 32 = .ok (.aload_n 0, 1) := by decide +kernel
theorem dX7_image_33 : decode cX7_image 33 = .ok (.getfield 22, 3) := by decide +kernel
theorem dX7_image_36 : decode cX7_image 36 = .ok (.aload_n 0, 1) := by decide +kernel
theorem dX7_image_37 : decode cX7_image 37 = .ok (.getfield 49, 3) := by decide +kernel
theorem dX7_image_40 : decode cX7_image 40 = .ok (.invokestatic 220, 3) := by decide +kernel
theorem dX7_image_43 : decode cX7_image 43 = .ok (.aload_n 0, 1) := by decide +kernel
theorem dX7_image_44 : decode cX7_image 44 = .ok (.getfield 37, 3) := by decide +kernel
theorem dX7_image_47 : decode cX7_image 47 = .ok (.aload_n 0, 1) := by decide +kernel
theorem dX7_image_48 : decode cX7_image 48 = .ok (.getfield 52, 3) := by decide +kernel
theorem dX7_image_51 : decode cX7_image 51 = .ok (.invokestatic 220, 3) := by decide +kernel
theorem dX7_image_54 : decode cX7_image 54 = .ok (.aload_n 0, 1) := by decide +kernel
theorem dX7_image_55 : decode cX7_image 55 = .ok (.aload_n 0, 1) := by decide +kernel
theorem dX7_image_56 : decode cX7_image 56 = .ok (.getfield 81, 3) := by decide +kernel
theorem dX7_image_59 : decode cX7_image 59 = .ok (.putfield 224, 3) := by decide +kernel
theorem dX7_image_62 : decode cX7_image 62 = .ok (.aload_n 0, 1) := by decide +kernel
theorem dX7_image_63 : decode cX7_image 63 = .ok (.aload_n 0, 1) := by decide +kernel
theorem dX7_image_64 : decode cX7_image 64 = .ok (.getfield 84, 3) := by decide +kernel
theorem dX7_image_67 : decode cX7_image 67 = .ok (.putfield 227, 3) := by decide +kernel
theorem dX7_image_70 : decode cX7_image 70 = .ok (.aload_n 0, 1) := by decide +kernel
theorem dX7_image_71 : decode cX7_image 71 = .ok (.aload_n 0, 1) := by decide +kernel
theorem dX7_image_72 : decode cX7_image 72 = .ok (.getfield 87, 3) := by decide +kernel
theorem dX7_image_75 : decode cX7_image 75 = .ok (.putfield 230, 3) := by decide +kernel
theorem dX7_image_78 : decode cX7_image 78 = .ok (.aload_n 0, 1) := by decide +kernel
theorem dX7_image_79 : decode cX7_image 79 = .ok (.aload_n 0, 1) := by decide +kernel
theorem dX7_image_80 : decode cX7_image 80 = .ok (.getfield 90, 3) := by decide +kernel
theorem dX7_image_83 : decode cX7_image 83 = .ok (.putfield 55, 3) := by decide +kernel
theorem dX7_image_86 : decode cX7_image 86 = .ok (.aload_n 0, 1) := by decide +kernel
theorem dX7_image_87 : decode cX7_image 87 = .ok (.getfield 84, 3) := by decide +kernel
theorem dX7_image_90 : decode cX7_image 90 = .ok (.ireturn, 1) := by decide +kernel
theorem dX7_restore_0 : decode cX7_restore 0 = .ok (.aload_n 0, 1) := by decide +kernel
theorem dX7_restore_1 : decode cX7_restore 1 = .ok (.getfield 55, 3) := by decide +kernel
theorem dX7_restore_4 : decode cX7_restore 4 = .ok (.aload_n 0, 1) := by decide +kernel
theorem dX7_restore_5 : decode cX7_restore 5 = .ok (.getfield 90, 3) := by decide +kernel
theorem dX7_restore_8 : decode cX7_restore 8 = .ok (.if_icmp .eq 6, 3) := by decide +kernel
theorem dX7_restore_11 : decode cX7_restore 11 = .ok (.bipush (-103), 2) := by decide +kernel
theorem dX7_restore_13 : decode cX7_restore 13 = .ok (.ireturn, 1) := by decide +kernel
theorem dX7_restore_14 : decode cX7_restore 14 = .ok (.aload_n 0, 1) := by decide +kernel
theorem dX7_restore_15 : decode cX7_restore 15 = .ok (.getfield 43, 3) := by decide +kernel
theorem dX7_restore_18 : decode cX7_restore 18 = .ok (.aload_n 0, 1) := by decide +kernel
theorem dX7_restore_19 : decode cX7_restore 19 = .ok (.getfield 16, 3) := by decide +kernel
theorem dX7_restore_22 : decode cX7_restore 22 = .ok (.invokestatic 220, 3) := by decide +kernel
theorem dX7_restore_25 : decode cX7_restore 25 = .ok (.aload_n 0, 1) := by decide +kernel
theorem dX7_restore_26 : decode cX7_restore 26 = .ok (.getfield 46, 3) := by decide +kernel
theorem dX7_restore_29 : decode cX7_restore 29 = .ok (.aload_n 0, 1) := by decide +kernel
theorem dX7_restore_30 : decode cX7_restore 30 = .ok (.getfield 19, 3) := by decide +kernel
theorem dX7_restore_33 : decode cX7_restore 33 = .ok (.invokestatic 220, 3) := by decide +kernel
theorem dX7_restore_36 : decode cX7_restore 36 = .ok (.aload_n 0, 1) := by decide +kernel
theorem dX7_restore_37 : decode cX7_restore 37 = .ok (.getfield 49, 3) := by decide +kernel
theorem dX7_restore_40 : decode cX7_restore 40 = .ok (.aload_n 0, 1) := by decide +kernel
theorem dX7_restore_41 : decode cX7_restore 41 = .ok (.getfield 22, 3) := by decide +kernel
theorem dX7_restore_44 : decode cX7_restore 44 = .ok (.invokestatic 220, 3) := by decide +kernel
theorem dX7_restore_47 : decode cX7_restore 47 = .ok (.aload_n 0, 1) := by decide +kernel
theorem dX7_restore_48 : decode cX7_restore 48 = .ok (.getfield 52, 3) := by decide +kernel
theorem dX7_restore_51 : decode cX7_restore 51 = .ok (.aload_n 0, 1) := by decide +kernel
theorem dX7_restore_52 : decode cX7_restore 52 = .ok (.getfield 37, 3) := by decide +kernel
theorem dX7_restore_55 : decode cX7_restore 55 = .ok (.invokestatic 220, 3) := by decide +kernel
theorem dX7_restore_58 : decode cX7_restore 58 = .ok (.aload_n 0, 1) := by decide +kernel
theorem dX7_restore_59 : decode cX7_restore 59 = .ok (.aload_n 0, 1) := by decide +kernel
theorem dX7_restore_60 : decode cX7_restore 60 = .ok (.getfield 224, 3) := by decide +kernel
theorem dX7_restore_63 : decode cX7_restore 63 = .ok (.putfield 81, 3) := by decide +kernel
theorem dX7_restore_66 : decode cX7_restore 66 = .ok (.aload_n 0, 1) := by decide +kernel
theorem dX7_restore_67 : decode cX7_restore 67 = .ok (.aload_n 0, 1) := by decide +kernel
theorem dX7_restore_68 : decode cX7_restore 68 = .ok (.getfield 227, 3) := by decide +kernel
theorem dX7_restore_71 : decode cX7_restore 71 = .ok (.putfield 84, 3) := by decide +kernel
theorem dX7_restore_74 : decode cX7_restore 74 = .ok (.aload_n 0, 1) := by decide +kernel
theorem dX7_restore_75 : decode cX7_restore 75 = .ok (.aload_n 0, 1) := by decide +kernel
theorem dX7_restore_76 : decode cX7_restore 76 = .ok (.getfield 230, 3) := by decide +kernel
theorem dX7_restore_79 : decode cX7_restore 79 = .ok (.putfield 87, 3) := by decide +kernel
theorem dX7_restore_82 : decode cX7_restore 82 = .ok (.aload_n 0, 1) := by decide +kernel
theorem dX7_restore_83 : decode cX7_restore 83 = .ok (.getfield 84, 3) := by decide +kernel
theorem dX7_restore_86 : decode cX7_restore 86 = .ok (.ireturn, 1) := by decide +kernel
theorem dX7_countOf_0 : decode cX7_countOf 0 = .ok (.iconst 0, 1) := by decide +kernel
theorem dX7_countOf_1 : decode cX7_countOf 1 = .ok (.istore_n 2, 1) := by decide +kernel
theorem dX7_countOf_2 : decode cX7_countOf 2 = .ok (.iconst 0, 1) := by decide +kernel
theorem dX7_countOf_3 : decode cX7_countOf 3 = .ok (.istore_n 3, 1) := by decide +kernel
theorem dX7_countOf_4 : decode cX7_countOf 4 = .ok (.iconst 0, 1) := by decide +kernel
theorem dX7_countOf_5 : decode cX7_countOf 5 = .ok (.istore 4, 2) := by decide +kernel
theorem dX7_countOf_7 : decode cX7_countOf 7 = .ok (.iload 4, 2) := by decide +kernel
theorem dX7_countOf_9 : decode cX7_countOf 9 = .ok (.aload_n 0, 1) := by decide +kernel
theorem dX7_countOf_10 : decode cX7_countOf 10 = .ok (.getfield 81, 3) := by decide +kernel
theorem dX7_countOf_13 : decode cX7_countOf 13 = .ok (.if_icmp .ge 40, 3) := by decide +kernel
theorem dX7_countOf_16 : decode cX7_countOf 16 = .ok (.iload_n 2, 1) := by decide +kernel
theorem dX7_countOf_17 : decode cX7_countOf 17 = .ok (.aload_n 0, 1) := by decide +kernel
theorem dX7_countOf_18 : decode cX7_countOf 18 = .ok (.getfield 19, 3) := by decide +kernel
theorem dX7_countOf_21 : decode cX7_countOf 21 = .ok (.iload 4, 2) := by decide +kernel
theorem dX7_countOf_23 : decode cX7_countOf 23 = .ok (.iaload, 1) := by decide +kernel
theorem dX7_countOf_24 : decode cX7_countOf 24 = .ok (.ifCond .ne 7, 3) := by decide +kernel
theorem dX7_countOf_27 : decode cX7_countOf 27 = .ok (.iconst 0, 1) := by decide +kernel
theorem dX7_countOf_28 : decode cX7_countOf 28 = .ok (.goto 4, 3) := by decide +kernel
theorem dX7_countOf_31 : decode cX7_countOf 31 = .ok (.iconst 1, 1) := by decide +kernel
theorem dX7_countOf_32 : decode cX7_countOf 32 = .ok (.iadd, 1) := by decide +kernel
theorem dX7_countOf_33 : decode cX7_countOf 33 = .ok (.istore_n 2, 1) := by decide +kernel
theorem dX7_countOf_34 : decode cX7_countOf 34 = .ok (.iload_n 3, 1) := by decide +kernel
theorem dX7_countOf_35 : decode cX7_countOf 35 = .ok (.aload_n 0, 1) := by decide +kernel
theorem dX7_countOf_36 : decode cX7_countOf 36 = .ok (.getfield 19, 3) := by decide +kernel
theorem dX7_countOf_39 : decode cX7_countOf 39 = .ok (.iload 4, 2) := by decide +kernel
theorem dX7_countOf_41 : decode cX7_countOf 41 = .ok (.iaload, 1) := by decide +kernel
theorem dX7_countOf_42 : decode cX7_countOf 42 = .ok (.invokestatic 123, 3) := by decide +kernel
theorem dX7_countOf_45 : decode cX7_countOf 45 = .ok (.iadd, 1) := by decide +kernel
theorem dX7_countOf_46 : decode cX7_countOf 46 = .ok (.istore_n 3, 1) := by decide +kernel
theorem dX7_countOf_47 : decode cX7_countOf 47 = .ok (.iinc 4 1, 3) := by decide +kernel
theorem dX7_countOf_50 : decode cX7_countOf 50 = .ok (.goto (-43), 3) := by decide +kernel
theorem dX7_countOf_53 : decode cX7_countOf 53 = .ok (.iload_n 1, 1) := by decide +kernel
theorem dX7_countOf_54 : decode cX7_countOf 54 = .ok (.tableswitch 98 0 9 #[54, 59, 64, 66, 68, 73, 78, 83, 88, 93], 54) := by decide +kernel
theorem dX7_countOf_108 : decode cX7_countOf 108 = .ok (.aload_n 0, 1) := by decide +kernel
theorem dX7_countOf_109 : decode cX7_countOf 109 = .ok (.getfield 78, 3) := by decide +kernel
theorem dX7_countOf_112 : decode cX7_countOf 112 = .ok (.ireturn, 1) := by decide +kernel
theorem dX7_countOf_113 : decode cX7_countOf 113 = .ok (.aload_n 0, 1) := by decide +kernel
theorem dX7_countOf_114 : decode cX7_countOf 114 = .ok (.getfield 81, 3) := by decide +kernel
theorem dX7_countOf_117 : decode cX7_countOf 117 = .ok (.ireturn, 1) := by decide +kernel
theorem dX7_countOf_118 : decode cX7_countOf 118 = .ok (.iload_n 2, 1) := by decide +kernel
theorem dX7_countOf_119 : decode cX7_countOf 119 = .ok (.ireturn, 1) := by decide +kernel
theorem dX7_countOf_120 : decode cX7_countOf 120 = .ok (.iload_n 3, 1) := by decide +kernel
theorem dX7_countOf_121 : decode cX7_countOf 121 = .ok (.ireturn, 1) := by decide +kernel
theorem dX7_countOf_122 : decode cX7_countOf 122 = .ok (.aload_n 0, 1) := by decide +kernel
theorem dX7_countOf_123 : decode cX7_countOf 123 = .ok (.getfield 84, 3) := by decide +kernel
theorem dX7_countOf_126 : decode cX7_countOf 126 = .ok (.ireturn, 1) := by decide +kernel
theorem dX7_countOf_127 : decode cX7_countOf 127 = .ok (.aload_n 0, 1) := by decide +kernel
theorem dX7_countOf_128 : decode cX7_countOf 128 = .ok (.getfield 87, 3) := by decide +kernel
theorem dX7_countOf_131 : decode cX7_countOf 131 = .ok (.ireturn, 1) := by decide +kernel
theorem dX7_countOf_132 : decode cX7_countOf 132 = .ok (.aload_n 0, 1) := by decide +kernel
theorem dX7_countOf_133 : decode cX7_countOf 133 = .ok (.getfield 65, 3) := by decide +kernel
theorem dX7_countOf_136 : decode cX7_countOf 136 = .ok (.ireturn, 1) := by decide +kernel
theorem dX7_countOf_137 : decode cX7_countOf 137 = .ok (.aload_n 0, 1) := by decide +kernel
theorem dX7_countOf_138 : decode cX7_countOf 138 = .ok (.getfield 90, 3) := by decide +kernel
theorem dX7_countOf_141 : decode cX7_countOf 141 = .ok (.ireturn, 1) := by decide +kernel
theorem dX7_countOf_142 : decode cX7_countOf 142 = .ok (.aload_n 0, 1) := by decide +kernel
theorem dX7_countOf_143 : decode cX7_countOf 143 = .ok (.getfield 166, 3) := by decide +kernel
theorem dX7_countOf_146 : decode cX7_countOf 146 = .ok (.ireturn, 1) := by decide +kernel
theorem dX7_countOf_147 : decode cX7_countOf 147 = .ok (.aload_n 0, 1) := by decide +kernel
theorem dX7_countOf_148 : decode cX7_countOf 148 = .ok (.getfield 183, 3) := by decide +kernel
theorem dX7_countOf_151 : decode cX7_countOf 151 = .ok (.ireturn, 1) := by decide +kernel
theorem dX7_countOf_152 : decode cX7_countOf 152 = .ok (.bipush (-102), 2) := by decide +kernel
theorem dX7_countOf_154 : decode cX7_countOf 154 = .ok (.ireturn, 1) := by decide +kernel
theorem dX7_count_0 : decode cX7_count 0 = .ok (.aload_n 0, 1) := by decide +kernel
theorem dX7_count_1 : decode cX7_count 1 = .ok (.iload_n 1, 1) := by decide +kernel
theorem dX7_count_2 : decode cX7_count 2 = .ok (.invokevirtual 233, 3) := by decide +kernel
theorem dX7_count_5 : decode cX7_count 5 = .ok (.ireturn, 1) := by decide +kernel
theorem dX7_say_0 : decode cX7_say 0 = .ok (.aload_n 0, 1) := by decide +kernel
theorem dX7_say_1 : decode cX7_say 1 = .ok (.ldc2_w 236, 3) := by decide +kernel
theorem dX7_say_4 : decode cX7_say 4 = .ok (.aload_n 0, 1) := by decide +kernel
theorem dX7_say_5 : decode cX7_say 5 = .ok (.getfield 238, 3) := by decide +kernel
theorem dX7_say_8 : decode cX7_say 8 = .ok (.lmul, 1) := by decide +kernel
theorem dX7_say_9 : decode cX7_say 9 = .ok (.lload_n 1, 1) := by decide +kernel
theorem dX7_say_10 : decode cX7_say 10 = .ok (.ladd, 1) := by decide +kernel
theorem dX7_say_11 : decode cX7_say 11 = .ok (.putfield 238, 3) := by decide +kernel
theorem dX7_say_14 : decode cX7_say 14 = .ok (.return_, 1) := by decide +kernel
theorem dX7_sayFile_0 : decode cX7_sayFile 0 = .ok (.iconst 0, 1) := by decide +kernel
theorem dX7_sayFile_1 : decode cX7_sayFile 1 = .ok (.istore_n 2, 1) := by decide +kernel
theorem dX7_sayFile_2 : decode cX7_sayFile 2 = .ok (.iload_n 2, 1) := by decide +kernel
theorem dX7_sayFile_3 : decode cX7_sayFile 3 = .ok (.bipush 6, 2) := by decide +kernel
theorem dX7_sayFile_5 : decode cX7_sayFile 5 = .ok (.if_icmp .ge 20, 3) := by decide +kernel
theorem dX7_sayFile_8 : decode cX7_sayFile 8 = .ok (.aload_n 0, 1) := by decide +kernel
theorem dX7_sayFile_9 : decode cX7_sayFile 9 = .ok (.aload_n 0, 1) := by decide +kernel
theorem dX7_sayFile_10 : decode cX7_sayFile 10 = .ok (.iload_n 1, 1) := by decide +kernel
theorem dX7_sayFile_11 : decode cX7_sayFile 11 = .ok (.iload_n 2, 1) := by decide +kernel
theorem dX7_sayFile_12 : decode cX7_sayFile 12 = .ok (.invokevirtual 120, 3) := by decide +kernel
theorem dX7_sayFile_15 : decode cX7_sayFile 15 = .ok (.i2l, 1) := by decide +kernel
theorem dX7_sayFile_16 : decode cX7_sayFile 16 = .ok (.invokevirtual 242, 3) := by decide +kernel
theorem dX7_sayFile_19 : decode cX7_sayFile 19 = .ok (.iinc 2 1, 3) := by decide +kernel
theorem dX7_sayFile_22 : decode cX7_sayFile 22 = .ok (.goto (-20), 3) := by decide +kernel
theorem dX7_sayFile_25 : decode cX7_sayFile 25 = .ok (.aload_n 0, 1) := by decide +kernel
theorem dX7_sayFile_26 : decode cX7_sayFile 26 = .ok (.aload_n 0, 1) := by decide +kernel
theorem dX7_sayFile_27 : decode cX7_sayFile 27 = .ok (.iload_n 1, 1) := by decide +kernel
theorem dX7_sayFile_28 : decode cX7_sayFile 28 = .ok (.iconst 2, 1) := by decide +kernel
theorem dX7_sayFile_29 : decode cX7_sayFile 29 = .ok (.iconst 0, 1) := by decide +kernel
theorem dX7_sayFile_30 : decode cX7_sayFile 30 = .ok (.invokevirtual 160, 3) := by decide +kernel
theorem dX7_sayFile_33 : decode cX7_sayFile 33 = .ok (.i2l, 1) := by decide +kernel
theorem dX7_sayFile_34 : decode cX7_sayFile 34 = .ok (.invokevirtual 242, 3) := by decide +kernel
theorem dX7_sayFile_37 : decode cX7_sayFile 37 = .ok (.aload_n 0, 1) := by decide +kernel
theorem dX7_sayFile_38 : decode cX7_sayFile 38 = .ok (.aload_n 0, 1) := by decide +kernel
theorem dX7_sayFile_39 : decode cX7_sayFile 39 = .ok (.iload_n 1, 1) := by decide +kernel
theorem dX7_sayFile_40 : decode cX7_sayFile 40 = .ok (.iconst 2, 1) := by decide +kernel
theorem dX7_sayFile_41 : decode cX7_sayFile 41 = .ok (.iconst 1, 1) := by decide +kernel
theorem dX7_sayFile_42 : decode cX7_sayFile 42 = .ok (.invokevirtual 160, 3) := by decide +kernel
theorem dX7_sayFile_45 : decode cX7_sayFile 45 = .ok (.i2l, 1) := by decide +kernel
theorem dX7_sayFile_46 : decode cX7_sayFile 46 = .ok (.invokevirtual 242, 3) := by decide +kernel
theorem dX7_sayFile_49 : decode cX7_sayFile 49 = .ok (.aload_n 0, 1) := by decide +kernel
theorem dX7_sayFile_50 : decode cX7_sayFile 50 = .ok (.aload_n 0, 1) := by decide +kernel
theorem dX7_sayFile_51 : decode cX7_sayFile 51 = .ok (.iload_n 1, 1) := by decide +kernel
theorem dX7_sayFile_52 : decode cX7_sayFile 52 = .ok (.iconst 2, 1) := by decide +kernel
theorem dX7_sayFile_53 : decode cX7_sayFile 53 = .ok (.invokevirtual 163, 3) := by decide +kernel
theorem dX7_sayFile_56 : decode cX7_sayFile 56 = .ok (.i2l, 1) := by decide +kernel
theorem dX7_sayFile_57 : decode cX7_sayFile 57 = .ok (.invokevirtual 242, 3) := by decide +kernel
theorem dX7_sayFile_60 : decode cX7_sayFile 60 = .ok (.return_, 1) := by decide +kernel
theorem dX7_digest_0 : decode cX7_digest 0 = .ok (.aload_n 0, 1) := by decide +kernel
theorem dX7_digest_1 : decode cX7_digest 1 = .ok (.ldc2_w 246, 3) := by decide +kernel
theorem dX7_digest_4 : decode cX7_digest 4 = .ok (.putfield 238, 3) := by decide +kernel
theorem dX7_digest_7 : decode cX7_digest 7 = .ok (.iconst 0, 1) := by decide +kernel
theorem dX7_digest_8 : decode cX7_digest 8 = .ok (.istore_n 1, 1) := by decide +kernel
theorem dX7_digest_9 : decode cX7_digest 9 = .ok (.iload_n 1, 1) := by decide +kernel
theorem dX7_digest_10 : decode cX7_digest 10 = .ok (.bipush 6, 2) := by decide +kernel
theorem dX7_digest_12 : decode cX7_digest 12 = .ok (.if_icmp .ge 34, 3) := by decide +kernel
theorem dX7_digest_15 : decode cX7_digest 15 = .ok (.aload_n 0, 1) := by decide +kernel
theorem dX7_digest_16 : decode cX7_digest 16 = .ok (.aload_n 0, 1) := by decide +kernel
theorem dX7_digest_17 : decode cX7_digest 17 = .ok (.getfield 13, 3) := by decide +kernel
theorem dX7_digest_20 : decode cX7_digest 20 = .ok (.iload_n 1, 1) := by decide +kernel
theorem dX7_digest_21 : decode cX7_digest 21 = .ok (.iaload, 1) := by decide +kernel
theorem dX7_digest_22 : decode cX7_digest 22 = .ok (.i2l, 1) := by decide +kernel
theorem dX7_digest_23 : decode cX7_digest 23 = .ok (.invokevirtual 242, 3) := by decide +kernel
theorem dX7_digest_26 : decode cX7_digest 26 = .ok (.aload_n 0, 1) := by decide +kernel
theorem dX7_digest_27 : decode cX7_digest 27 = .ok (.aload_n 0, 1) := by decide +kernel
theorem dX7_digest_28 : decode cX7_digest 28 = .ok (.aload_n 0, 1) := by decide +kernel
theorem dX7_digest_29 : decode cX7_digest 29 = .ok (.getfield 19, 3) := by decide +kernel
theorem dX7_digest_32 : decode cX7_digest 32 = .ok (.iload_n 1, 1) := by decide +kernel
theorem dX7_digest_33 : decode cX7_digest 33 = .ok (.invokevirtual 95, 3) := by decide +kernel
theorem dX7_digest_36 : decode cX7_digest 36 = .ok (.i2l, 1) := by decide +kernel
theorem dX7_digest_37 : decode cX7_digest 37 = .ok (.invokevirtual 242, 3) := by decide +kernel
theorem dX7_digest_40 : decode cX7_digest 40 = .ok (.iinc 1 1, 3) := by decide +kernel
theorem dX7_digest_43 : decode cX7_digest 43 = .ok (.goto (-34), 3) := by decide +kernel
theorem dX7_digest_46 : decode cX7_digest 46 = .ok (.iconst 0, 1) := by decide +kernel
theorem dX7_digest_47 : decode cX7_digest 47 = .ok (.istore_n 1, 1) := by decide +kernel
theorem dX7_digest_48 : decode cX7_digest 48 = .ok (.iload_n 1, 1) := by decide +kernel
theorem dX7_digest_49 : decode cX7_digest 49 = .ok (.aload_n 0, 1) := by decide +kernel
theorem dX7_digest_50 : decode cX7_digest 50 = .ok (.getfield 81, 3) := by decide +kernel
theorem dX7_digest_53 : decode cX7_digest 53 = .ok (.if_icmp .ge 14, 3) := by decide +kernel
theorem dX7_digest_56 : decode cX7_digest 56 = .ok (.aload_n 0, 1) := by decide +kernel
theorem dX7_digest_57 : decode cX7_digest 57 = .ok (.iload_n 1, 1) := by decide +kernel
theorem dX7_digest_58 : decode cX7_digest 58 = .ok (.invokevirtual 248, 3) := by decide +kernel
theorem dX7_digest_61 : decode cX7_digest 61 = .ok (.iinc 1 1, 3) := by decide +kernel
theorem dX7_digest_64 : decode cX7_digest 64 = .ok (.goto (-16), 3) := by decide +kernel
theorem dX7_digest_67 : decode cX7_digest 67 = .ok (.aload_n 0, 1) := by decide +kernel
theorem dX7_digest_68 : decode cX7_digest 68 = .ok (.aload_n 0, 1) := by decide +kernel
theorem dX7_digest_69 : decode cX7_digest 69 = .ok (.invokevirtual 173, 3) := by decide +kernel
theorem dX7_digest_72 : decode cX7_digest 72 = .ok (.i2l, 1) := by decide +kernel
theorem dX7_digest_73 : decode cX7_digest 73 = .ok (.invokevirtual 242, 3) := by decide +kernel
theorem dX7_digest_76 : decode cX7_digest 76 = .ok (.aload_n 0, 1) := by decide +kernel
theorem dX7_digest_77 : decode cX7_digest 77 = .ok (.invokevirtual 109, 3) := by decide +kernel
theorem dX7_digest_80 : decode cX7_digest 80 = .ok (.ifCond .ne 12, 3) := by decide +kernel
theorem dX7_digest_83 : decode cX7_digest 83 = .ok (.aload_n 0, 1) := by decide +kernel
theorem dX7_digest_84 : decode cX7_digest 84 = .ok (.aload_n 0, 1) := by decide +kernel
theorem dX7_digest_85 : decode cX7_digest 85 = .ok (.invokevirtual 197, 3) := by decide +kernel
theorem dX7_digest_88 : decode cX7_digest 88 = .ok (.i2l, 1) := by decide +kernel
theorem dX7_digest_89 : decode cX7_digest 89 = .ok (.invokevirtual 242, 3) := by decide +kernel
theorem dX7_digest_92 : decode cX7_digest 92 = .ok (.iconst 0, 1) := by decide +kernel
theorem dX7_digest_93 : decode cX7_digest 93 = .ok (.istore_n 1, 1) := by decide +kernel
theorem dX7_digest_94 : decode cX7_digest 94 = .ok (.iload_n 1, 1) := by decide +kernel
theorem dX7_digest_95 : decode cX7_digest 95 = .ok (.aload_n 0, 1) := by decide +kernel
theorem dX7_digest_96 : decode cX7_digest 96 = .ok (.getfield 65, 3) := by decide +kernel
theorem dX7_digest_99 : decode cX7_digest 99 = .ok (.if_icmp .ge 20, 3) := by decide +kernel
theorem dX7_digest_102 : decode cX7_digest 102 = .ok (.aload_n 0, 1) := by decide +kernel
theorem dX7_digest_103 : decode cX7_digest 103 = .ok (.aload_n 0, 1) := by decide +kernel
theorem dX7_digest_104 : decode cX7_digest 104 = .ok (.getfield 7, 3) := by decide +kernel
theorem dX7_digest_107 : decode cX7_digest 107 = .ok (.iload_n 1, 1) := by decide +kernel
theorem dX7_digest_108 : decode cX7_digest 108 = .ok (.iaload, 1) := by decide +kernel
theorem dX7_digest_109 : decode cX7_digest 109 = .ok (.i2l, 1) := by decide +kernel
theorem dX7_digest_110 : decode cX7_digest 110 = .ok (.invokevirtual 242, 3) := by decide +kernel
theorem dX7_digest_113 : decode cX7_digest 113 = .ok (.iinc 1 1, 3) := by decide +kernel
theorem dX7_digest_116 : decode cX7_digest 116 = .ok (.goto (-22), 3) := by decide +kernel
theorem dX7_digest_119 : decode cX7_digest 119 = .ok (.iconst 0, 1) := by decide +kernel
theorem dX7_digest_120 : decode cX7_digest 120 = .ok (.istore_n 1, 1) := by decide +kernel
theorem dX7_digest_121 : decode cX7_digest 121 = .ok (.iload_n 1, 1) := by decide +kernel
theorem dX7_digest_122 : decode cX7_digest 122 = .ok (.bipush 10, 2) := by decide +kernel
theorem dX7_digest_124 : decode cX7_digest 124 = .ok (.if_icmp .ge 19, 3) := by decide +kernel
theorem dX7_digest_127 : decode cX7_digest 127 = .ok (.aload_n 0, 1) := by decide +kernel
theorem dX7_digest_128 : decode cX7_digest 128 = .ok (.aload_n 0, 1) := by decide +kernel
theorem dX7_digest_129 : decode cX7_digest 129 = .ok (.iload_n 1, 1) := by decide +kernel
theorem dX7_digest_130 : decode cX7_digest 130 = .ok (.invokevirtual 233, 3) := by decide +kernel
theorem dX7_digest_133 : decode cX7_digest 133 = .ok (.i2l, 1) := by decide +kernel
theorem dX7_digest_134 : decode cX7_digest 134 = .ok (.invokevirtual 242, 3) := by decide +kernel
theorem dX7_digest_137 : decode cX7_digest 137 = .ok (.iinc 1 1, 3) := by decide +kernel
theorem dX7_digest_140 : decode cX7_digest 140 = .ok (.goto (-19), 3) := by decide +kernel
theorem dX7_digest_143 : decode cX7_digest 143 = .ok (.aload_n 0, 1) := by decide +kernel
theorem dX7_digest_144 : decode cX7_digest 144 = .ok (.getfield 238, 3) := by decide +kernel
theorem dX7_digest_147 : decode cX7_digest 147 = .ok (.lreturn, 1) := by decide +kernel
