theorem dX9_does_155 : decode cX9_does 155 = .ok (.aload_n 0, 1) := by decide +kernel
theorem dX9_does_156 : decode cX9_does 156 = .ok (.getfield 27, 3) := by decide +kernel
theorem dX9_does_159 : decode cX9_does 159 = .ok (.iconst 0, 1) := by decide +kernel
theorem dX9_does_160 : decode cX9_does 160 = .ok (.iaload, 1) := by decide +kernel
theorem dX9_does_161 : decode cX9_does 161 = .ok (.invokevirtual 164, 3) := by decide +kernel
theorem dX9_does_164 : decode cX9_does 164 = .ok (.ifCond .lt 7, 3) := by decide +kernel
theorem dX9_does_167 : decode cX9_does 167 = .ok (.iconst 1, 1) := by decide +kernel
theorem dX9_does_168 : decode cX9_does 168 = .ok (.goto 4, 3) := by decide +kernel
theorem dX9_does_171 : decode cX9_does 171 = .ok (.iconst 0, 1) := by decide +kernel
theorem dX9_does_172 : decode cX9_does 172 = .ok (.ireturn, 1) := by decide +kernel
theorem dX9_does_173 : decode cX9_does 173 = .ok (.aload_n 0, 1) := by decide +kernel
theorem dX9_does_174 : decode cX9_does 174 = .ok (.aload_n 0, 1) := by decide +kernel
theorem dX9_does_175 : decode cX9_does 175 = .ok (.getfield 27, 3) := by decide +kernel
theorem dX9_does_178 : decode cX9_does 178 = .ok (.iconst 0, 1) := by decide +kernel
theorem dX9_does_179 : decode cX9_does 179 = .ok (.iaload, 1) := by decide +kernel
theorem dX9_does_180 : decode cX9_does 180 = .ok (.invokevirtual 167, 3) := by decide +kernel
theorem dX9_does_183 : decode cX9_does 183 = .ok (.ifCond .lt 7, 3) := by decide +kernel
theorem dX9_does_186 : decode cX9_does 186 = .ok (.iconst 1, 1) := by decide +kernel
theorem dX9_does_187 : decode cX9_does 187 = .ok (.goto 4, 3) := by decide +kernel
theorem dX9_does_190 : decode cX9_does 190 = .ok (.iconst 0, 1) := by decide +kernel
theorem dX9_does_191 : decode cX9_does 191 = .ok (.ireturn, 1) := by decide +kernel
theorem dX9_does_192 : decode cX9_does 192 = .ok (.aload_n 0, 1) := by decide +kernel
theorem dX9_does_193 : decode cX9_does 193 = .ok (.aload_n 0, 1) := by decide +kernel
theorem dX9_does_194 : decode cX9_does 194 = .ok (.getfield 27, 3) := by decide +kernel
theorem dX9_does_197 : decode cX9_does 197 = .ok (.iconst 0, 1) := by decide +kernel
theorem dX9_does_198 : decode cX9_does 198 = .ok (.iaload, 1) := by decide +kernel
theorem dX9_does_199 : decode cX9_does 199 = .ok (.aload_n 0, 1) := by decide +kernel
theorem dX9_does_200 : decode cX9_does 200 = .ok (.getfield 27, 3) := by decide +kernel
theorem dX9_does_203 : decode cX9_does 203 = .ok (.iconst 1, 1) := by decide +kernel
theorem dX9_does_204 : decode cX9_does 204 = .ok (.iaload, 1) := by decide +kernel
theorem dX9_does_205 : decode cX9_does 205 = .ok (.invokevirtual 170, 3) := by decide +kernel
theorem dX9_does_208 : decode cX9_does 208 = .ok (.ifCond .lt 7, 3) := by decide +kernel
theorem dX9_does_211 : decode cX9_does 211 = .ok (.iconst 1, 1) := by decide +kernel
theorem dX9_does_212 : decode cX9_does 212 = .ok (.goto 4, 3) := by decide +kernel
theorem dX9_does_215 : decode cX9_does 215 = .ok (.iconst 0, 1) := by decide +kernel
theorem dX9_does_216 : decode cX9_does 216 = .ok (.ireturn, 1) := by decide +kernel
theorem dX9_does_217 : decode cX9_does 217 = .ok (.aload_n 0, 1) := by decide +kernel
theorem dX9_does_218 : decode cX9_does 218 = .ok (.aload_n 0, 1) := by decide +kernel
theorem dX9_does_219 : decode cX9_does 219 = .ok (.getfield 27, 3) := by decide +kernel
theorem dX9_does_222 : decode cX9_does 222 = .ok (.iconst 0, 1) := by decide +kernel
theorem dX9_does_223 : decode cX9_does 223 = .ok (.iaload, 1) := by decide +kernel
theorem dX9_does_224 : decode cX9_does 224 = .ok (.aload_n 0, 1) := by decide +kernel
theorem dX9_does_225 : decode cX9_does 225 = .ok (.getfield 27, 3) := by decide +kernel
theorem dX9_does_228 : decode cX9_does 228 = .ok (.iconst 1, 1) := by decide +kernel
theorem dX9_does_229 : decode cX9_does 229 = .ok (.iaload, 1) := by decide +kernel
theorem dX9_does_230 : decode cX9_does 230 = .ok (.invokevirtual 172, 3) := by decide +kernel
theorem dX9_does_233 : decode cX9_does 233 = .ok (.ifCond .lt 7, 3) := by decide +kernel
theorem dX9_does_236 : decode cX9_does 236 = .ok (.iconst 1, 1) := by decide +kernel
theorem dX9_does_237 : decode cX9_does 237 = .ok (.goto 4, 3) := by decide +kernel
theorem dX9_does_240 : decode cX9_does 240 = .ok (.iconst 0, 1) := by decide +kernel
theorem dX9_does_241 : decode cX9_does 241 = .ok (.ireturn, 1) := by decide +kernel
theorem dX9_goesThrough_0 : decode cX9_goesThrough 0 = .ok (.aload_n 0, 1) := by decide +kernel
theorem dX9_goesThrough_1 : decode cX9_goesThrough 1 = .ok (.iconst 0, 1) := by decide +kernel
theorem dX9_goesThrough_2 : decode cX9_goesThrough 2 = .ok (.putfield 135, 3) := by decide +kernel
theorem dX9_goesThrough_5 : decode cX9_goesThrough 5 = .ok (.aload_n 0, 1) := by decide +kernel
theorem dX9_goesThrough_6 : decode cX9_goesThrough 6 = .ok (.iconst (-1), 1) := by decide +kernel
theorem dX9_goesThrough_7 : decode cX9_goesThrough 7 = .ok (.putfield 146, 3) := by decide +kernel
theorem dX9_goesThrough_10 : decode cX9_goesThrough 10 = .ok (.iconst 0, 1) := by decide +kernel
theorem dX9_goesThrough_11 : decode cX9_goesThrough 11 = .ok (.istore_n 2, 1) := by decide +kernel
theorem dX9_goesThrough_12 : decode cX9_goesThrough 12 = .ok (.iconst 0, 1) := by decide +kernel
theorem dX9_goesThrough_13 : decode cX9_goesThrough 13 = .ok (.istore_n 3, 1) := by decide +kernel
theorem dX9_goesThrough_14 : decode cX9_goesThrough 14 = .ok (.iconst 1, 1) := by decide +kernel
theorem dX9_goesThrough_15 : decode cX9_goesThrough 15 = .ok (.istore 4, 2) := by decide +kernel
theorem dX9_goesThrough_17 : decode cX9_goesThrough 17 = .ok (.iload 4, 2) := by decide +kernel
theorem dX9_goesThrough_19 : decode cX9_goesThrough 19 = .ok (.ifCond .eq 109, 3) := by decide +kernel
theorem dX9_goesThrough_22 : decode cX9_goesThrough 22 = .ok (.aload_n 0, 1) := by decide +kernel
theorem dX9_goesThrough_23 : decode cX9_goesThrough 23 = .ok (.invokevirtual 175, 3) := by decide +kernel
theorem dX9_goesThrough_26 : decode cX9_goesThrough 26 = .ok (.istore 5, 2) := by decide +kernel
theorem dX9_goesThrough_28 : decode cX9_goesThrough 28 = .ok (.iinc 3 1, 3) := by decide +kernel
theorem dX9_goesThrough_31 : decode cX9_goesThrough 31 = .ok (.iload_n 1, 1) := by decide +kernel
theorem dX9_goesThrough_32 : decode cX9_goesThrough 32 = .ok (.ifCond .eq 22, 3) := by decide +kernel
theorem dX9_goesThrough_35 : decode cX9_goesThrough 35 = .ok (.aload_n 0, 1) := by decide +kernel
theorem dX9_goesThrough_36 : decode cX9_goesThrough 36 = .ok (.getfield 146, 3) := by decide +kernel
theorem dX9_goesThrough_39 : decode cX9_goesThrough 39 = .ok (.ifCond .ge 15, 3) := by decide +kernel
theorem dX9_goesThrough_42 : decode cX9_goesThrough 42 = .ok (.iload_n 2, 1) := by decide +kernel
theorem dX9_goesThrough_43 : decode cX9_goesThrough 43 = .ok (.aload_n 0, 1) := by decide +kernel
theorem dX9_goesThrough_44 : decode cX9_goesThrough 44 = .ok (.iload 5, 2) := by decide +kernel
theorem dX9_goesThrough_46 : decode cX9_goesThrough 46 = .ok (.invokevirtual 178, 3) := by decide +kernel
theorem dX9_goesThrough_49 : decode cX9_goesThrough 49 = .ok (.invokestatic 181, 3) := by decide +kernel
theorem dX9_goesThrough_52 : decode cX9_goesThrough 52 = .ok (.iadd, 1) := by decide +kernel
theorem dX9_goesThrough_53 : decode cX9_goesThrough 53 = .ok (.istore_n 2, 1) := by decide +kernel
theorem dX9_goesThrough_54 : decode cX9_goesThrough 54 = .ok (.aload_n 0, 1) := by decide +kernel
theorem dX9_goesThrough_55 : decode cX9_goesThrough 55 = .ok (.getfield 146, 3) := by decide +kernel
theorem dX9_goesThrough_58 : decode cX9_goesThrough 58 = .ok (.ifCond .ge 18, 3) := by decide +kernel
theorem dX9_goesThrough_61 : decode cX9_goesThrough 61 = .ok (.aload_n 0, 1) := by decide +kernel
theorem dX9_goesThrough_62 : decode cX9_goesThrough 62 = .ok (.getfield 135, 3) := by decide +kernel
theorem dX9_goesThrough_65 : decode cX9_goesThrough 65 = .ok (.aload_n 0, 1) := by decide +kernel
theorem dX9_goesThrough_66 : decode cX9_goesThrough 66 = .ok (.getfield 132, 3) := by decide +kernel
theorem dX9_goesThrough_69 : decode cX9_goesThrough 69 = .ok (.if_icmp .ge 7, 3) := by decide +kernel
theorem dX9_goesThrough_72 : decode cX9_goesThrough 72 = .ok (.iconst 1, 1) := by decide +kernel
theorem dX9_goesThrough_73 : decode cX9_goesThrough 73 = .ok (.goto 4, 3) := by decide +kernel
theorem dX9_goesThrough_76 : decode cX9_goesThrough 76 = .ok (.iconst 0, 1) := by decide +kernel
theorem dX9_goesThrough_77 : decode cX9_goesThrough 77 = .ok (.istore 4, 2) := by decide +kernel
theorem dX9_goesThrough_79 : decode cX9_goesThrough 79 = .ok (.iload 4, 2) := by decide +kernel
theorem dX9_goesThrough_81 : decode cX9_goesThrough 81 = .ok (.ifCond .eq 34, 3) := by decide +kernel
theorem dX9_goesThrough_84 : decode cX9_goesThrough 84 = .ok (.aload_n 0, 1) := by decide +kernel
theorem dX9_goesThrough_85 : decode cX9_goesThrough 85 = .ok (.getfield 24, 3) := by decide +kernel
theorem dX9_goesThrough_88 : decode cX9_goesThrough 88 = .ok (.aload_n 0, 1) := by decide +kernel
theorem dX9_goesThrough_89 : decode cX9_goesThrough 89 = .ok (.getfield 135, 3) := by decide +kernel
theorem dX9_goesThrough_92 : decode cX9_goesThrough 92 = .ok (.iaload, 1) := by decide +kernel
theorem dX9_goesThrough_93 : decode cX9_goesThrough 93 = .ok (.bipush 59, 2) := by decide +kernel
theorem dX9_goesThrough_95 : decode cX9_goesThrough 95 = .ok (.if_icmp .ne 9, 3) := by decide +kernel
theorem dX9_goesThrough_98 : decode cX9_goesThrough 98 = .ok (.iload_n 3, 1) := by decide +kernel
theorem dX9_goesThrough_99 : decode cX9_goesThrough 99 = .ok (.bipush 12, 2) := by decide +kernel
theorem dX9_goesThrough_101 : decode cX9_goesThrough 101 = .ok (.if_icmp .ne 14, 3) := by decide +kernel
theorem dX9_goesThrough_104 : decode cX9_goesThrough 104 = .ok (.aload_n 0, 1) := by decide +kernel
theorem dX9_goesThrough_105 : decode cX9_goesThrough 105 = .ok (.aload_n 0, 1) := by decide +kernel
theorem dX9_goesThrough_106 : decode cX9_goesThrough 106 = .ok (.getfield 135, 3) := by decide +kernel
theorem dX9_goesThrough_109 : decode cX9_goesThrough 109 = .ok (.putfield 146, 3) := by decide +kernel
theorem dX9_goesThrough_112 : decode cX9_goesThrough 112 = .ok (.iconst 0, 1) := by decide +kernel
theorem dX9_goesThrough_113 : decode cX9_goesThrough 113 = .ok (.istore 4, 2) := by decide +kernel
theorem dX9_goesThrough_115 : decode cX9_goesThrough 115 = .ok (.aload_n 0, 1) := by decide +kernel
theorem dX9_goesThrough_116 : decode cX9_goesThrough 116 = .ok (.dup, 1) := by decide +kernel
theorem dX9_goesThrough_117 : decode cX9_goesThrough 117 = .ok (.getfield 135, 3) := by decide +kernel
theorem dX9_goesThrough_120 : decode cX9_goesThrough 120 = .ok (.iconst 1, 1) := by decide +kernel
theorem dX9_goesThrough_121 : decode cX9_goesThrough 121 = .ok (.iadd, 1) := by decide +kernel
theorem dX9_goesThrough_122 : decode cX9_goesThrough 122 = .ok (.putfield 135, 3) := by decide +kernel
theorem dX9_goesThrough_125 : decode cX9_goesThrough 125 = .ok (.goto (-108), 3) := by decide +kernel
theorem dX9_goesThrough_128 : decode cX9_goesThrough 128 = .ok (.iload_n 2, 1) := by decide +kernel
theorem dX9_goesThrough_129 : decode cX9_goesThrough 129 = .ok (.ireturn, 1) := by decide +kernel
theorem dX9_read_0 : decode cX9_read 0 = .ok (.aload_n 0, 1) := by decide +kernel
theorem dX9_read_1 : decode cX9_read 1 = .ok (.iconst 0, 1) := by decide +kernel
theorem dX9_read_2 : decode cX9_read 2 = .ok (.invokevirtual 185, 3) := by decide +kernel
theorem dX9_read_5 : decode cX9_read 5 = .ok (.istore_n 1, 1) := by decide +kernel
theorem dX9_read_6 : decode cX9_read 6 = .ok (.aload_n 0, 1) := by decide +kernel
theorem dX9_read_7 : decode cX9_read 7 = .ok (.getfield 146, 3) := by decide +kernel
theorem dX9_read_10 : decode cX9_read 10 = .ok (.ifCond .ge 11, 3) := by decide +kernel
theorem dX9_read_13 : decode cX9_read 13 = .ok (.aload_n 0, 1) := by decide +kernel
theorem dX9_read_14 : decode cX9_read 14 = .ok (.iconst 1, 1) := by decide +kernel
theorem dX9_read_15 : decode cX9_read 15 = .ok (.invokevirtual 185, 3) := by decide +kernel
theorem dX9_read_18 : decode cX9_read 18 = .ok (.goto 10, 3) := by decide +kernel
theorem dX9_read_21 : decode cX9_read 21 = .ok (.bipush (-10), 2) := by decide +kernel
theorem dX9_read_23 : decode cX9_read 23 = .ok (.aload_n 0, 1) := by decide +kernel
theorem dX9_read_24 : decode cX9_read 24 = .ok (.getfield 146, 3) := by decide +kernel
theorem dX9_read_27 : decode cX9_read 27 = .ok (.isub, 1) := by decide +kernel
theorem dX9_read_28 : decode cX9_read 28 = .ok (.istore_n 1, 1) := by decide +kernel
theorem dX9_read_29 : decode cX9_read 29 = .ok (.aload_n 0, 1) := by decide +kernel
theorem dX9_read_30 : decode cX9_read 30 = .ok (.iconst 0, 1) := by decide +kernel
theorem dX9_read_31 : decode cX9_read 31 = .ok (.putfield 132, 3) := by decide +kernel
theorem dX9_read_34 : decode cX9_read 34 = .ok (.iload_n 1, 1) := by decide +kernel
theorem dX9_read_35 : decode cX9_read 35 = .ok (.ireturn, 1) := by decide +kernel
theorem dX9_findsPoints_0 : decode cX9_findsPoints 0 = .ok (.iconst 0, 1) := by decide +kernel
theorem dX9_findsPoints_1 : decode cX9_findsPoints 1 = .ok (.istore_n 1, 1) := by decide +kernel
theorem dX9_findsPoints_2 : decode cX9_findsPoints 2 = .ok (.iconst 0, 1) := by decide +kernel
theorem dX9_findsPoints_3 : decode cX9_findsPoints 3 = .ok (.istore_n 2, 1) := by decide +kernel
theorem dX9_findsPoints_4 : decode cX9_findsPoints 4 = .ok (.iload_n 2, 1) := by decide +kernel
theorem dX9_findsPoints_5 : decode cX9_findsPoints 5 = .ok (.aload_n 0, 1) := by decide +kernel
theorem dX9_findsPoints_6 : decode cX9_findsPoints 6 = .ok (.getfield 11, 3) := by decide +kernel
theorem dX9_findsPoints_9 : decode cX9_findsPoints 9 = .ok (.iconst 0, 1) := by decide +kernel
theorem dX9_findsPoints_10 : decode cX9_findsPoints 10 = .ok (.iaload, 1) := by decide +kernel
theorem dX9_findsPoints_11 : decode cX9_findsPoints 11 = .ok (.if_icmp .ge 44, 3) := by decide +kernel
theorem dX9_findsPoints_14 : decode cX9_findsPoints 14 = .ok (.aload_n 0, 1) := by decide +kernel
theorem dX9_findsPoints_15 : decode cX9_findsPoints 15 = .ok (.getfield 36, 3) := by decide +kernel
theorem dX9_findsPoints_18 : decode cX9_findsPoints 18 = .ok (.aload_n 0, 1) := by decide +kernel
theorem dX9_findsPoints_19 : decode cX9_findsPoints 19 = .ok (.getfield 11, 3) := by decide +kernel
theorem dX9_findsPoints_22 : decode cX9_findsPoints 22 = .ok (.bipush 7, 2) := by decide +kernel
theorem dX9_findsPoints_24 : decode cX9_findsPoints 24 = .ok (.iload_n 2, 1) := by decide +kernel
theorem dX9_findsPoints_25 : decode cX9_findsPoints 25 = .ok (.iadd, 1) := by decide +kernel
theorem dX9_findsPoints_26 : decode cX9_findsPoints 26 = .ok (.iaload, 1) := by decide +kernel
theorem dX9_findsPoints_27 : decode cX9_findsPoints 27 = .ok (.iload_n 1, 1) := by decide +kernel
theorem dX9_findsPoints_28 : decode cX9_findsPoints 28 = .ok (.iastore, 1) := by decide +kernel
theorem dX9_findsPoints_29 : decode cX9_findsPoints 29 = .ok (.iload_n 1, 1) := by decide +kernel
theorem dX9_findsPoints_30 : decode cX9_findsPoints 30 = .ok (.aload_n 0, 1) := by decide +kernel
theorem dX9_findsPoints_31 : decode cX9_findsPoints 31 = .ok (.getfield 11, 3) := by decide +kernel
theorem dX9_findsPoints_34 : decode cX9_findsPoints 34 = .ok (.bipush 12, 2) := by decide +kernel
theorem dX9_findsPoints_36 : decode cX9_findsPoints 36 = .ok (.aload_n 0, 1) := by decide +kernel
theorem dX9_findsPoints_37 : decode cX9_findsPoints 37 = .ok (.getfield 11, 3) := by decide +kernel
theorem dX9_findsPoints_40 : decode cX9_findsPoints 40 = .ok (.bipush 7, 2) := by decide +kernel
theorem dX9_findsPoints_42 : decode cX9_findsPoints 42 = .ok (.iload_n 2, 1) := by decide +kernel
theorem dX9_findsPoints_43 : decode cX9_findsPoints 43 = .ok (.iadd, 1) := by decide +kernel
theorem dX9_findsPoints_44 : decode cX9_findsPoints 44 = .ok (.iaload, 1) := by decide +kernel
theorem dX9_findsPoints_45 : decode cX9_findsPoints 45 = .ok (.iadd, 1) := by decide +kernel
theorem dX9_findsPoints_46 : decode cX9_findsPoints 46 = .ok (.iaload, 1) := by decide +kernel
theorem dX9_findsPoints_47 : decode cX9_findsPoints 47 = .ok (.iadd, 1) := by decide +kernel
theorem dX9_findsPoints_48 : decode cX9_findsPoints 48 = .ok (.istore_n 1, 1) := by decide +kernel
theorem dX9_findsPoints_49 : decode cX9_findsPoints 49 = .ok (.iinc 2 1, 3) := by decide +kernel
theorem dX9_findsPoints_52 : decode cX9_findsPoints 52 = .ok (.goto (-48), 3) := by decide +kernel
theorem dX9_findsPoints_55 : decode cX9_findsPoints 55 = .ok (.iconst 0, 1) := by decide +kernel
theorem dX9_findsPoints_56 : decode cX9_findsPoints 56 = .ok (.istore_n 1, 1) := by decide +kernel
theorem dX9_findsPoints_57 : decode cX9_findsPoints 57 = .ok (.iconst 0, 1) := by decide +kernel
theorem dX9_findsPoints_58 : decode cX9_findsPoints 58 = .ok (.istore_n 2, 1) := by decide +kernel
theorem dX9_findsPoints_59 : decode cX9_findsPoints 59 = .ok (.iload_n 2, 1) := by decide +kernel
theorem dX9_findsPoints_60 : decode cX9_findsPoints 60 = .ok (.aload_n 0, 1) := by decide +kernel
theorem dX9_findsPoints_61 : decode cX9_findsPoints 61 = .ok (.getfield 11, 3) := by decide +kernel
theorem dX9_findsPoints_64 : decode cX9_findsPoints 64 = .ok (.iconst 0, 1) := by decide +kernel
theorem dX9_findsPoints_65 : decode cX9_findsPoints 65 = .ok (.iaload, 1) := by decide +kernel
theorem dX9_findsPoints_66 : decode cX9_findsPoints 66 = .ok (.if_icmp .ge 66, 3) := by decide +kernel
theorem dX9_findsPoints_69 : decode cX9_findsPoints 69 = .ok (.aload_n 0, 1) := by decide +kernel
theorem dX9_findsPoints_70 : decode cX9_findsPoints 70 = .ok (.getfield 11, 3) := by decide +kernel
theorem dX9_findsPoints_73 : decode cX9_findsPoints 73 = .ok (.iconst 2, 1) := by decide +kernel
theorem dX9_findsPoints_74 : decode cX9_findsPoints 74 = .ok (.iload_n 2, 1) := by decide +kernel
theorem dX9_findsPoints_75 : decode cX9_findsPoints 75 = .ok (.iadd, 1) := by decide +kernel
theorem dX9_findsPoints_76 : decode cX9_findsPoints 76 = .ok (.iaload, 1) := by decide +kernel
theorem dX9_findsPoints_77 : decode cX9_findsPoints 77 = .ok (.istore_n 3, 1) := by decide +kernel
theorem dX9_findsPoints_78 : decode cX9_findsPoints 78 = .ok (.iconst 0, 1) := by decide +kernel
theorem dX9_findsPoints_79 : decode cX9_findsPoints 79 = .ok (.istore 4, 2) := by decide +kernel
theorem dX9_findsPoints_81 : decode cX9_findsPoints 81 = .ok (.iload 4, 2) := by decide +kernel
theorem dX9_findsPoints_83 : decode cX9_findsPoints 83 = .ok (.aload_n 0, 1) := by decide +kernel
theorem dX9_findsPoints_84 : decode cX9_findsPoints 84 = .ok (.getfield 11, 3) := by decide +kernel
theorem dX9_findsPoints_87 : decode cX9_findsPoints 87 = .ok (.bipush 12, 2) := by decide +kernel
theorem dX9_findsPoints_89 : decode cX9_findsPoints 89 = .ok (.iload_n 3, 1) := by decide +kernel
theorem dX9_findsPoints_90 : decode cX9_findsPoints 90 = .ok (.iadd, 1) := by decide +kernel
theorem dX9_findsPoints_91 : decode cX9_findsPoints 91 = .ok (.iaload, 1) := by decide +kernel
theorem dX9_findsPoints_92 : decode cX9_findsPoints 92 = .ok (.if_icmp .ge 34, 3) := by decide +kernel
theorem dX9_findsPoints_95 : decode cX9_findsPoints 95 = .ok (.aload_n 0, 1) := by decide +kernel
theorem dX9_findsPoints_96 : decode cX9_findsPoints 96 = .ok (.getfield 33, 3) := by decide +kernel
theorem dX9_findsPoints_99 : decode cX9_findsPoints 99 = .ok (.iload_n 1, 1) := by decide +kernel
theorem dX9_findsPoints_100 : decode cX9_findsPoints 100 = .ok (.iload_n 3, 1) := by decide +kernel
theorem dX9_findsPoints_101 : decode cX9_findsPoints 101 = .ok (.iastore, 1) := by decide +kernel
theorem dX9_findsPoints_102 : decode cX9_findsPoints 102 = .ok (.aload_n 0, 1) := by decide +kernel
theorem dX9_findsPoints_103 : decode cX9_findsPoints 103 = .ok (.getfield 30, 3) := by decide +kernel
theorem dX9_findsPoints_106 : decode cX9_findsPoints 106 = .ok (.iload_n 1, 1) := by decide +kernel
theorem dX9_findsPoints_107 : decode cX9_findsPoints 107 = .ok (.aload_n 0, 1) := by decide +kernel
theorem dX9_findsPoints_108 : decode cX9_findsPoints 108 = .ok (.getfield 36, 3) := by decide +kernel
theorem dX9_findsPoints_111 : decode cX9_findsPoints 111 = .ok (.iload_n 3, 1) := by decide +kernel
theorem dX9_findsPoints_112 : decode cX9_findsPoints 112 = .ok (.iaload, 1) := by decide +kernel
theorem dX9_findsPoints_113 : decode cX9_findsPoints 113 = .ok (.iload 4, 2) := by decide +kernel
theorem dX9_findsPoints_115 : decode cX9_findsPoints 115 = .ok (.iadd, 1) := by decide +kernel
theorem dX9_findsPoints_116 : decode cX9_findsPoints 116 = .ok (.iastore, 1) := by decide +kernel
theorem dX9_findsPoints_117 : decode cX9_findsPoints 117 = .ok (.iinc 1 1, 3) := by decide +kernel
theorem dX9_findsPoints_120 : decode cX9_findsPoints 120 = .ok (.iinc 4 1, 3) := by decide +kernel
theorem dX9_findsPoints_123 : decode cX9_findsPoints 123 = .ok (.goto (-42), 3) := by decide +kernel
theorem dX9_findsPoints_126 : decode cX9_findsPoints 126 = .ok (.iinc 2 1, 3) := by decide +kernel
theorem dX9_findsPoints_129 : decode cX9_findsPoints 129 = .ok (.goto (-70), 3) := by decide +kernel
theorem dX9_findsPoints_132 : decode cX9_findsPoints 132 = .ok (.iload_n 1, 1) := by decide +kernel
theorem dX9_findsPoints_133 : decode cX9_findsPoints 133 = .ok (.ireturn, 1) := by decide +kernel
theorem dX9_of_0 : decode cX9_of 0 = .ok (.aload_n 0, 1) := by decide +kernel
theorem dX9_of_1 : decode cX9_of 1 = .ok (.iload_n 1, 1) := by decide +kernel
theorem dX9_of_2 : decode cX9_of 2 = .ok (.invokevirtual 99, 3) := by decide +kernel
theorem dX9_of_5 : decode cX9_of 5 = .ok (.ifCond .eq 15, 3) := by decide +kernel
theorem dX9_of_8 : decode cX9_of 8 = .ok (.iload_n 2, 1) := by decide +kernel
theorem dX9_of_9 : decode cX9_of 9 = .ok (.i2l, 1) := by decide +kernel
theorem dX9_of_10 : decode cX9_of 10 = .ok (.lconst 0, 1) := by decide +kernel
theorem dX9_of_11 : decode cX9_of 11 = .ok (.ldc2_w 95, 3) := by decide +kernel
theorem dX9_of_14 : decode cX9_of 14 = .ok (.invokestatic 66, 3) := by decide +kernel
theorem dX9_of_17 : decode cX9_of 17 = .ok (.ifCond .ne 5, 3) := by decide +kernel
theorem dX9_of_20 : decode cX9_of 20 = .ok (.iconst (-1), 1) := by decide +kernel
theorem dX9_of_21 : decode cX9_of 21 = .ok (.ireturn, 1) := by decide +kernel
theorem dX9_of_22 : decode cX9_of 22 = .ok (.aload_n 0, 1) := by decide +kernel
theorem dX9_of_23 : decode cX9_of 23 = .ok (.getfield 11, 3) := by decide +kernel
theorem dX9_of_26 : decode cX9_of 26 = .ok (.iload_n 2, 1) := by decide +kernel
theorem dX9_of_27 : decode cX9_of 27 = .ok (.ifCond .ne 9, 3) := by decide +kernel
theorem dX9_of_30 : decode cX9_of 30 = .ok (.iconst 2, 1) := by decide +kernel
theorem dX9_of_31 : decode cX9_of 31 = .ok (.iload_n 1, 1) := by decide +kernel
theorem dX9_of_32 : decode cX9_of 32 = .ok (.iadd, 1) := by decide +kernel
theorem dX9_of_33 : decode cX9_of 33 = .ok (.goto 19, 3) := by decide +kernel
theorem dX9_of_36 : decode cX9_of 36 = .ok (.iload_n 2, 1) := by decide +kernel
theorem dX9_of_37 : decode cX9_of 37 = .ok (.iconst 1, 1) := by decide +kernel
theorem dX9_of_38 : decode cX9_of 38 = .ok (.if_icmp .ne 10, 3) := by decide +kernel
theorem dX9_of_41 : decode cX9_of 41 = .ok (.bipush 7, 2) := by decide +kernel
theorem dX9_of_43 : decode cX9_of 43 = .ok (.iload_n 1, 1) := by decide +kernel
theorem dX9_of_44 : decode cX9_of 44 = .ok (.iadd, 1) := by decide +kernel
theorem dX9_of_45 : decode cX9_of 45 = .ok (.goto 7, 3) := by decide +kernel
theorem dX9_of_48 : decode cX9_of 48 = .ok (.bipush 12, 2) := by decide +kernel
theorem dX9_of_50 : decode cX9_of 50 = .ok (.iload_n 1, 1) := by decide +kernel
theorem dX9_of_51 : decode cX9_of 51 = .ok (.iadd, 1) := by decide +kernel
theorem dX9_of_52 : decode cX9_of 52 = .ok (.iaload, 1) := by decide +kernel
theorem dX9_of_53 : decode cX9_of 53 = .ok (.ireturn, 1) := by decide +kernel
theorem dX9_rounds_0 : decode cX9_rounds 0 = .ok (.aload_n 0, 1) := by decide +kernel
theorem dX9_rounds_1 : decode cX9_rounds 1 = .ok (.invokevirtual 188, 3) := by decide +kernel
theorem dX9_rounds_4 : decode cX9_rounds 4 = .ok (.istore_n 1, 1) := by decide +kernel
theorem dX9_rounds_5 : decode cX9_rounds 5 = .ok (.iconst 0, 1) := by decide +kernel
theorem dX9_rounds_6 : decode cX9_rounds 6 = .ok (.istore_n 2, 1) := by decide +kernel
theorem dX9_rounds_7 : decode cX9_rounds 7 = .ok (.iload_n 2, 1) := by decide +kernel
theorem dX9_rounds_8 : decode cX9_rounds 8 = .ok (.iload_n 1, 1) := by decide +kernel
theorem dX9_rounds_9 : decode cX9_rounds 9 = .ok (.if_icmp .ge 16, 3) := by decide +kernel
theorem dX9_rounds_12 : decode cX9_rounds 12 = .ok (.aload_n 0, 1) := by decide +kernel
theorem dX9_rounds_13 : decode cX9_rounds 13 = .ok (.getfield 39, 3) := by decide +kernel
theorem dX9_rounds_16 : decode cX9_rounds 16 = .ok (.iload_n 2, 1) := by decide +kernel
theorem dX9_rounds_17 : decode cX9_rounds 17 = .ok (.iconst 0, 1) := by decide +kernel
theorem dX9_rounds_18 : decode cX9_rounds 18 = .ok (.bastore, 1) := by decide +kernel
theorem dX9_rounds_19 : decode cX9_rounds 19 = .ok (.iinc 2 1, 3) := by decide +kernel
theorem dX9_rounds_22 : decode cX9_rounds 22 = .ok (.goto (-15), 3) := by decide +kernel
theorem dX9_rounds_25 : decode cX9_rounds 25 = .ok (.iconst 0, 1) := by decide +kernel
theorem dX9_rounds_26 : decode cX9_rounds 26 = .ok (.istore_n 2, 1) := by decide +kernel
theorem dX9_rounds_27 : decode cX9_rounds 27 = .ok (.iconst 0, 1) := by decide +kernel
theorem dX9_rounds_28 : decode cX9_rounds 28 = .ok (.istore_n 3, 1) := by decide +kernel
theorem dX9_rounds_29 : decode cX9_rounds 29 = .ok (.iload_n 3, 1) := by decide +kernel
theorem dX9_rounds_30 : decode cX9_rounds 30 = .ok (.iload_n 1, 1) := by decide +kernel
theorem dX9_rounds_31 : decode cX9_rounds 31 = .ok (.if_icmp .ge 62, 3) := by decide +kernel
theorem dX9_rounds_34 : decode cX9_rounds 34 = .ok (.iload_n 2, 1) := by decide +kernel
theorem dX9_rounds_35 : decode cX9_rounds 35 = .ok (.aload_n 0, 1) := by decide +kernel
theorem dX9_rounds_36 : decode cX9_rounds 36 = .ok (.getfield 39, 3) := by decide +kernel
theorem dX9_rounds_39 : decode cX9_rounds 39 = .ok (.iload_n 3, 1) := by decide +kernel
theorem dX9_rounds_40 : decode cX9_rounds 40 = .ok (.baload, 1) := by decide +kernel
theorem dX9_rounds_41 : decode cX9_rounds 41 = .ok (.ifCond .ne 7, 3) := by decide +kernel
theorem dX9_rounds_44 : decode cX9_rounds 44 = .ok (.iconst 1, 1) := by decide +kernel
theorem dX9_rounds_45 : decode cX9_rounds 45 = .ok (.goto 4, 3) := by decide +kernel
theorem dX9_rounds_48 : decode cX9_rounds 48 = .ok (.iconst 0, 1) := by decide +kernel
theorem dX9_rounds_49 : decode cX9_rounds 49 = .ok (.invokestatic 181, 3) := by decide +kernel
theorem dX9_rounds_52 : decode cX9_rounds 52 = .ok (.iadd, 1) := by decide +kernel
theorem dX9_rounds_53 : decode cX9_rounds 53 = .ok (.istore_n 2, 1) := by decide +kernel
theorem dX9_rounds_54 : decode cX9_rounds 54 = .ok (.iload_n 3, 1) := by decide +kernel
theorem dX9_rounds_55 : decode cX9_rounds 55 = .ok (.istore 4, 2) := by decide +kernel
theorem dX9_rounds_57 : decode cX9_rounds 57 = .ok (.aload_n 0, 1) := by decide +kernel
theorem dX9_rounds_58 : decode cX9_rounds 58 = .ok (.getfield 39, 3) := by decide +kernel
theorem dX9_rounds_61 : decode cX9_rounds 61 = .ok (.iload 4, 2) := by decide +kernel
theorem dX9_rounds_63 : decode cX9_rounds 63 = .ok (.baload, 1) := by decide +kernel
theorem dX9_rounds_64 : decode cX9_rounds 64 = .ok (.ifCond .ne 23, 3) := by decide +kernel
theorem dX9_rounds_67 : decode cX9_rounds 67 = .ok (.aload_n 0, 1) := by decide +kernel
theorem dX9_rounds_68 : decode cX9_rounds 68 = .ok (.getfield 39, 3) := by decide +kernel
theorem dX9_rounds_71 : decode cX9_rounds 71 = .ok (.iload 4, 2) := by decide +kernel
theorem dX9_rounds_73 : decode cX9_rounds 73 = .ok (.iconst 1, 1) := by decide +kernel
theorem dX9_rounds_74 : decode cX9_rounds 74 = .ok (.bastore, 1) := by decide +kernel
theorem dX9_rounds_75 : decode cX9_rounds 75 = .ok (.aload_n 0, 1) := by decide +kernel
theorem dX9_rounds_76 : decode cX9_rounds 76 = .ok (.getfield 30, 3) := by decide +kernel
theorem dX9_rounds_79 : decode cX9_rounds 79 = .ok (.iload 4, 2) := by decide +kernel
theorem dX9_rounds_81 : decode cX9_rounds 81 = .ok (.iaload, 1) := by decide +kernel
theorem dX9_rounds_82 : decode cX9_rounds 82 = .ok (.istore 4, 2) := by decide +kernel
theorem dX9_rounds_84 : decode cX9_rounds 84 = .ok (.goto (-27), 3) := by decide +kernel
theorem dX9_rounds_87 : decode cX9_rounds 87 = .ok (.iinc 3 1, 3) := by decide +kernel
theorem dX9_rounds_90 : decode cX9_rounds 90 = .ok (.goto (-61), 3) := by decide +kernel
theorem dX9_rounds_93 : decode cX9_rounds 93 = .ok (.iload_n 2, 1) := by decide +kernel
theorem dX9_rounds_94 : decode cX9_rounds 94 = .ok (.ireturn, 1) := by decide +kernel
theorem dX9_ends_0 : decode cX9_ends 0 = .ok (.aload_n 0, 1) := by decide +kernel
theorem dX9_ends_1 : decode cX9_ends 1 = .ok (.getfield 11, 3) := by decide +kernel
theorem dX9_ends_4 : decode cX9_ends 4 = .ok (.iconst 0, 1) := by decide +kernel
theorem dX9_ends_5 : decode cX9_ends 5 = .ok (.aload_n 0, 1) := by decide +kernel
theorem dX9_ends_6 : decode cX9_ends 6 = .ok (.getfield 43, 3) := by decide +kernel
theorem dX9_ends_9 : decode cX9_ends 9 = .ok (.iconst 0, 1) := by decide +kernel
theorem dX9_ends_10 : decode cX9_ends 10 = .ok (.bipush 60, 2) := by decide +kernel
theorem dX9_ends_12 : decode cX9_ends 12 = .ok (.invokestatic 89, 3) := by decide +kernel
theorem dX9_ends_15 : decode cX9_ends 15 = .ok (.iconst 0, 1) := by decide +kernel
theorem dX9_ends_16 : decode cX9_ends 16 = .ok (.istore_n 1, 1) := by decide +kernel
theorem dX9_ends_17 : decode cX9_ends 17 = .ok (.iload_n 1, 1) := by decide +kernel
theorem dX9_ends_18 : decode cX9_ends 18 = .ok (.sipush 9999, 3) := by decide +kernel
theorem dX9_ends_21 : decode cX9_ends 21 = .ok (.if_icmp .ge 25, 3) := by decide +kernel
theorem dX9_ends_24 : decode cX9_ends 24 = .ok (.aload_n 0, 1) := by decide +kernel
theorem dX9_ends_25 : decode cX9_ends 25 = .ok (.invokevirtual 111, 3) := by decide +kernel
theorem dX9_ends_28 : decode cX9_ends 28 = .ok (.iconst (-1), 1) := by decide +kernel
theorem dX9_ends_29 : decode cX9_ends 29 = .ok (.if_icmp .eq 17, 3) := by decide +kernel
theorem dX9_ends_32 : decode cX9_ends 32 = .ok (.aload_n 0, 1) := by decide +kernel
theorem dX9_ends_33 : decode cX9_ends 33 = .ok (.aload_n 0, 1) := by decide +kernel
theorem dX9_ends_34 : decode cX9_ends 34 = .ok (.invokevirtual 111, 3) := by decide +kernel
theorem dX9_ends_37 : decode cX9_ends 37 = .ok (.invokevirtual 115, 3) := by decide +kernel
theorem dX9_ends_40 : decode cX9_ends 40 = .ok (.iinc 1 1, 3) := by decide +kernel
theorem dX9_ends_43 : decode cX9_ends 43 = .ok (.goto (-26), 3) := by decide +kernel
theorem dX9_ends_46 : decode cX9_ends 46 = .ok (.aload_n 0, 1) := by decide +kernel
theorem dX9_ends_47 : decode cX9_ends 47 = .ok (.getfield 43, 3) := by decide +kernel
theorem dX9_ends_50 : decode cX9_ends 50 = .ok (.iconst 0, 1) := by decide +kernel
theorem dX9_ends_51 : decode cX9_ends 51 = .ok (.aload_n 0, 1) := by decide +kernel
theorem dX9_ends_52 : decode cX9_ends 52 = .ok (.getfield 11, 3) := by decide +kernel
theorem dX9_ends_55 : decode cX9_ends 55 = .ok (.iconst 0, 1) := by decide +kernel
theorem dX9_ends_56 : decode cX9_ends 56 = .ok (.bipush 60, 2) := by decide +kernel
theorem dX9_ends_58 : decode cX9_ends 58 = .ok (.invokestatic 89, 3) := by decide +kernel
theorem dX9_ends_61 : decode cX9_ends 61 = .ok (.iload_n 1, 1) := by decide +kernel
theorem dX9_ends_62 : decode cX9_ends 62 = .ok (.ireturn, 1) := by decide +kernel
theorem dX9_nextOf_0 : decode cX9_nextOf 0 = .ok (.aload_n 0, 1) := by decide +kernel
theorem dX9_nextOf_1 : decode cX9_nextOf 1 = .ok (.iload_n 1, 1) := by decide +kernel
theorem dX9_nextOf_2 : decode cX9_nextOf 2 = .ok (.invokevirtual 103, 3) := by decide +kernel
theorem dX9_nextOf_5 : decode cX9_nextOf 5 = .ok (.pop, 1) := by decide +kernel
theorem dX9_nextOf_6 : decode cX9_nextOf 6 = .ok (.aload_n 0, 1) := by decide +kernel
theorem dX9_nextOf_7 : decode cX9_nextOf 7 = .ok (.getfield 11, 3) := by decide +kernel
theorem dX9_nextOf_10 : decode cX9_nextOf 10 = .ok (.iconst 0, 1) := by decide +kernel
theorem dX9_nextOf_11 : decode cX9_nextOf 11 = .ok (.iaload, 1) := by decide +kernel
theorem dX9_nextOf_12 : decode cX9_nextOf 12 = .ok (.istore_n 3, 1) := by decide +kernel
theorem dX9_nextOf_13 : decode cX9_nextOf 13 = .ok (.aload_n 0, 1) := by decide +kernel
theorem dX9_nextOf_14 : decode cX9_nextOf 14 = .ok (.getfield 21, 3) := by decide +kernel
theorem dX9_nextOf_17 : decode cX9_nextOf 17 = .ok (.iload_n 3, 1) := by decide +kernel
theorem dX9_nextOf_18 : decode cX9_nextOf 18 = .ok (.iconst 1, 1) := by decide +kernel
theorem dX9_nextOf_19 : decode cX9_nextOf 19 = .ok (.isub, 1) := by decide +kernel
theorem dX9_nextOf_20 : decode cX9_nextOf 20 = .ok (.iaload, 1) := by decide +kernel
theorem dX9_nextOf_21 : decode cX9_nextOf 21 = .ok (.istore 4, 2) := by decide +kernel
theorem dX9_nextOf_23 : decode cX9_nextOf 23 = .ok (.iload 4, 2) := by decide +kernel
theorem dX9_nextOf_25 : decode cX9_nextOf 25 = .ok (.iload_n 3, 1) := by decide +kernel
theorem dX9_nextOf_26 : decode cX9_nextOf 26 = .ok (.iconst 1, 1) := by decide +kernel
theorem dX9_nextOf_27 : decode cX9_nextOf 27 = .ok (.isub, 1) := by decide +kernel
theorem dX9_nextOf_28 : decode cX9_nextOf 28 = .ok (.if_icmp .ne 6, 3) := by decide +kernel
theorem dX9_nextOf_31 : decode cX9_nextOf 31 = .ok (.bipush (-5), 2) := by decide +kernel
theorem dX9_nextOf_33 : decode cX9_nextOf 33 = .ok (.ireturn, 1) := by decide +kernel
theorem dX9_nextOf_34 : decode cX9_nextOf 34 = .ok (.iconst 0, 1) := by decide +kernel
theorem dX9_nextOf_35 : decode cX9_nextOf 35 = .ok (.istore 5, 2) := by decide +kernel
theorem dX9_nextOf_37 : decode cX9_nextOf 37 = .ok (.iload_n 2, 1) := by decide +kernel
theorem dX9_nextOf_38 : decode cX9_nextOf 38 = .ok (.ifCond .ne 70, 3) := by decide +kernel
theorem dX9_nextOf_41 : decode cX9_nextOf 41 = .ok (.iconst 0, 1) := by decide +kernel
theorem dX9_nextOf_42 : decode cX9_nextOf 42 = .ok (.istore 6, 2) := by decide +kernel
theorem dX9_nextOf_44 : decode cX9_nextOf 44 = .ok (.iload 6, 2) := by decide +kernel
theorem dX9_nextOf_46 : decode cX9_nextOf 46 = .ok (.iload_n 3, 1) := by decide +kernel
theorem dX9_nextOf_47 : decode cX9_nextOf 47 = .ok (.iconst 1, 1) := by decide +kernel
theorem dX9_nextOf_48 : decode cX9_nextOf 48 = .ok (.isub, 1) := by decide +kernel
theorem dX9_nextOf_49 : decode cX9_nextOf 49 = .ok (.if_icmp .ge 56, 3) := by decide +kernel
theorem dX9_nextOf_52 : decode cX9_nextOf 52 = .ok (.bipush 10, 2) := by decide +kernel
theorem dX9_nextOf_54 : decode cX9_nextOf 54 = .ok (.iload 5, 2) := by decide +kernel
theorem dX9_nextOf_56 : decode cX9_nextOf 56 = .ok (.imul, 1) := by decide +kernel
theorem dX9_nextOf_57 : decode cX9_nextOf 57 = .ok (.aload_n 0, 1) := by decide +kernel
theorem dX9_nextOf_58 : decode cX9_nextOf 58 = .ok (.getfield 21, 3) := by decide +kernel
theorem dX9_nextOf_61 : decode cX9_nextOf 61 = .ok (.iload 6, 2) := by decide +kernel
theorem dX9_nextOf_63 : decode cX9_nextOf 63 = .ok (.iaload, 1) := by decide +kernel
theorem dX9_nextOf_64 : decode cX9_nextOf 64 = .ok (.iadd, 1) := by decide +kernel
theorem dX9_nextOf_65 : decode cX9_nextOf 65 = .ok (.iconst 1, 1) := by decide +kernel
theorem dX9_nextOf_66 : decode cX9_nextOf 66 = .ok (.iadd, 1) := by decide +kernel
theorem dX9_nextOf_67 : decode cX9_nextOf 67 = .ok (.istore 5, 2) := by decide +kernel
theorem dX9_nextOf_69 : decode cX9_nextOf 69 = .ok (.aload_n 0, 1) := by decide +kernel
theorem dX9_nextOf_70 : decode cX9_nextOf 70 = .ok (.getfield 21, 3) := by decide +kernel
theorem dX9_nextOf_73 : decode cX9_nextOf 73 = .ok (.iload 6, 2) := by decide +kernel
theorem dX9_nextOf_75 : decode cX9_nextOf 75 = .ok (.iaload, 1) := by decide +kernel
theorem dX9_nextOf_76 : decode cX9_nextOf 76 = .ok (.iload_n 3, 1) := by decide +kernel
theorem dX9_nextOf_77 : decode cX9_nextOf 77 = .ok (.iconst 1, 1) := by decide +kernel
theorem dX9_nextOf_78 : decode cX9_nextOf 78 = .ok (.isub, 1) := by decide +kernel
theorem dX9_nextOf_79 : decode cX9_nextOf 79 = .ok (.if_icmp .ne 16, 3) := by decide +kernel
theorem dX9_nextOf_82 : decode cX9_nextOf 82 = .ok (.bipush 10, 2) := by decide +kernel
theorem dX9_nextOf_84 : decode cX9_nextOf 84 = .ok (.iload 5, 2) := by decide +kernel
theorem dX9_nextOf_86 : decode cX9_nextOf 86 = .ok (.imul, 1) := by decide +kernel
theorem dX9_nextOf_87 : decode cX9_nextOf 87 = .ok (.iload 4, 2) := by decide +kernel
theorem dX9_nextOf_89 : decode cX9_nextOf 89 = .ok (.iadd, 1) := by decide +kernel
theorem dX9_nextOf_90 : decode cX9_nextOf 90 = .ok (.iconst 1, 1) := by decide +kernel
theorem dX9_nextOf_91 : decode cX9_nextOf 91 = .ok (.iadd, 1) := by decide +kernel
theorem dX9_nextOf_92 : decode cX9_nextOf 92 = .ok (.goto 5, 3) := by decide +kernel
theorem dX9_nextOf_95 : decode cX9_nextOf 95 = .ok (.iload 5, 2) := by decide +kernel
theorem dX9_nextOf_97 : decode cX9_nextOf 97 = .ok (.istore 5, 2) := by decide +kernel
theorem dX9_nextOf_99 : decode cX9_nextOf 99 = .ok (.iinc 6 1, 3) := by decide +kernel
theorem dX9_nextOf_102 : decode cX9_nextOf 102 = .ok (.goto (-58), 3) := by decide +kernel
theorem dX9_nextOf_105 : decode cX9_nextOf 105 = .ok (.iload 5, 2) := by decide +kernel
theorem dX9_nextOf_107 : decode cX9_nextOf 107 = .ok (.ireturn, 1) := by decide +kernel
theorem dX9_nextOf_108 : decode cX9_nextOf 108 = .ok (.iconst 0, 1) := by decide +kernel
theorem dX9_nextOf_109 : decode cX9_nextOf 109 = .ok (.istore 6, 2) := by decide +kernel
theorem dX9_nextOf_111 : decode cX9_nextOf 111 = .ok (.iload 6, 2) := by decide +kernel
theorem dX9_nextOf_113 : decode cX9_nextOf 113 = .ok (.iload_n 3, 1) := by decide +kernel
theorem dX9_nextOf_114 : decode cX9_nextOf 114 = .ok (.if_icmp .ge 70, 3) := by decide +kernel
theorem dX9_nextOf_117 : decode cX9_nextOf 117 = .ok (.bipush 10, 2) := by decide +kernel
theorem dX9_nextOf_119 : decode cX9_nextOf 119 = .ok (.iload 5, 2) := by decide +kernel
theorem dX9_nextOf_121 : decode cX9_nextOf 121 = .ok (.imul, 1) := by decide +kernel
theorem dX9_nextOf_122 : decode cX9_nextOf 122 = .ok (.iconst 1, 1) := by decide +kernel
theorem dX9_nextOf_123 : decode cX9_nextOf 123 = .ok (.iadd, 1) := by decide +kernel
theorem dX9_nextOf_124 : decode cX9_nextOf 124 = .ok (.aload_n 0, 1) := by decide +kernel
theorem dX9_nextOf_125 : decode cX9_nextOf 125 = .ok (.getfield 21, 3) := by decide +kernel
theorem dX9_nextOf_128 : decode cX9_nextOf 128 = .ok (.iload 6, 2) := by decide +kernel
theorem dX9_nextOf_130 : decode cX9_nextOf 130 = .ok (.iaload, 1) := by decide +kernel
theorem dX9_nextOf_131 : decode cX9_nextOf 131 = .ok (.iload_n 3, 1) := by decide +kernel
theorem dX9_nextOf_132 : decode cX9_nextOf 132 = .ok (.iconst 1, 1) := by decide +kernel
theorem dX9_nextOf_133 : decode cX9_nextOf 133 = .ok (.isub, 1) := by decide +kernel
theorem dX9_nextOf_134 : decode cX9_nextOf 134 = .ok (.if_icmp .ne 10, 3) := by decide +kernel
theorem dX9_nextOf_137 : decode cX9_nextOf 137 = .ok (.iload 4, 2) := by decide +kernel
theorem dX9_nextOf_139 : decode cX9_nextOf 139 = .ok (.iconst 1, 1) := by decide +kernel
theorem dX9_nextOf_140 : decode cX9_nextOf 140 = .ok (.iadd, 1) := by decide +kernel
theorem dX9_nextOf_141 : decode cX9_nextOf 141 = .ok (.goto 34, 3) := by decide +kernel
theorem dX9_nextOf_144 : decode cX9_nextOf 144 = .ok (.aload_n 0, 1) := by decide +kernel
theorem dX9_nextOf_145 : decode cX9_nextOf 145 = .ok (.getfield 21, 3) := by decide +kernel
theorem dX9_nextOf_148 : decode cX9_nextOf 148 = .ok (.iload 6, 2) := by decide +kernel
theorem dX9_nextOf_150 : decode cX9_nextOf 150 = .ok (.iaload, 1) := by decide +kernel
theorem dX9_nextOf_151 : decode cX9_nextOf 151 = .ok (.iload 4, 2) := by decide +kernel
theorem dX9_nextOf_153 : decode cX9_nextOf 153 = .ok (.if_icmp .le 15, 3) := by decide +kernel
theorem dX9_nextOf_156 : decode cX9_nextOf 156 = .ok (.aload_n 0, 1) := by decide +kernel
theorem dX9_nextOf_157 : decode cX9_nextOf 157 = .ok (.getfield 21, 3) := by decide +kernel
theorem dX9_nextOf_160 : decode cX9_nextOf 160 = .ok (.iload 6, 2) := by decide +kernel
theorem dX9_nextOf_162 : decode cX9_nextOf 162 = .ok (.iaload, 1) := by decide +kernel
theorem dX9_nextOf_163 : decode cX9_nextOf 163 = .ok (.iconst 1, 1) := by decide +kernel
theorem dX9_nextOf_164 : decode cX9_nextOf 164 = .ok (.iadd, 1) := by decide +kernel
theorem dX9_nextOf_165 : decode cX9_nextOf 165 = .ok (.goto 10, 3) := by decide +kernel
theorem dX9_nextOf_168 : decode cX9_nextOf 168 = .ok (.aload_n 0, 1) := by decide +kernel
theorem dX9_nextOf_169 : decode cX9_nextOf 169 = .ok (.getfield 21, 3) := by decide +kernel
theorem dX9_nextOf_172 : decode cX9_nextOf 172 = .ok (.iload 6, 2) := by decide +kernel
theorem dX9_nextOf_174 : decode cX9_nextOf 174 = .ok (.iaload, 1) := by decide +kernel
theorem dX9_nextOf_175 : decode cX9_nextOf 175 = .ok (.iadd, 1) := by decide +kernel
theorem dX9_nextOf_176 : decode cX9_nextOf 176 = .ok (.istore 5, 2) := by decide +kernel
theorem dX9_nextOf_178 : decode cX9_nextOf 178 = .ok (.iinc 6 1, 3) := by decide +kernel
theorem dX9_nextOf_181 : decode cX9_nextOf 181 = .ok (.goto (-70), 3) := by decide +kernel
theorem dX9_nextOf_184 : decode cX9_nextOf 184 = .ok (.iload 5, 2) := by decide +kernel
theorem dX9_nextOf_186 : decode cX9_nextOf 186 = .ok (.ireturn, 1) := by decide +kernel
theorem dX9_numberOf_0 : decode cX9_numberOf 0 = .ok (.iconst 0, 1) := by decide +kernel
theorem dX9_numberOf_1 : decode cX9_numberOf 1 = .ok (.istore_n 2, 1) := by decide +kernel
theorem dX9_numberOf_2 : decode cX9_numberOf 2 = .ok (.iload_n 2, 1) := by decide +kernel
theorem dX9_numberOf_3 : decode cX9_numberOf 3 = .ok (.aload_n 0, 1) := by decide +kernel
theorem dX9_numberOf_4 : decode cX9_numberOf 4 = .ok (.getfield 191, 3) := by decide +kernel
theorem dX9_numberOf_7 : decode cX9_numberOf 7 = .ok (.if_icmp .ge 21, 3) := by decide +kernel
theorem dX9_numberOf_10 : decode cX9_numberOf 10 = .ok (.aload_n 0, 1) := by decide +kernel
theorem dX9_numberOf_11 : decode cX9_numberOf 11 = .ok (.getfield 46, 3) := by decide +kernel
theorem dX9_numberOf_14 : decode cX9_numberOf 14 = .ok (.iload_n 2, 1) := by decide +kernel
theorem dX9_numberOf_15 : decode cX9_numberOf 15 = .ok (.iaload, 1) := by decide +kernel
theorem dX9_numberOf_16 : decode cX9_numberOf 16 = .ok (.iload_n 1, 1) := by decide +kernel
theorem dX9_numberOf_17 : decode cX9_numberOf 17 = .ok (.if_icmp .ne 5, 3) := by decide +kernel
theorem dX9_numberOf_20 : decode cX9_numberOf 20 = .ok (.iload_n 2, 1) := by decide +kernel
theorem dX9_numberOf_21 : decode cX9_numberOf 21 = .ok (.ireturn, 1) := by decide +kernel
theorem dX9_numberOf_22 : decode cX9_numberOf 22 = .ok (.iinc 2 1, 3) := by decide +kernel
theorem dX9_numberOf_25 : decode cX9_numberOf 25 = .ok (.goto (-23), 3) := by decide +kernel
theorem dX9_numberOf_28 : decode cX9_numberOf 28 = .ok (.iconst (-1), 1) := by decide +kernel
theorem dX9_numberOf_29 : decode cX9_numberOf 29 = .ok (.ireturn, 1) := by decide +kernel
theorem dX9_findsClass_0 : decode cX9_findsClass 0 = .ok (.aload_n 0, 1) := by decide +kernel
theorem dX9_findsClass_1 : decode cX9_findsClass 1 = .ok (.getfield 46, 3) := by decide +kernel
theorem dX9_findsClass_4 : decode cX9_findsClass 4 = .ok (.iconst 0, 1) := by decide +kernel
theorem dX9_findsClass_5 : decode cX9_findsClass 5 = .ok (.aload_n 0, 1) := by decide +kernel
theorem dX9_findsClass_6 : decode cX9_findsClass 6 = .ok (.invokevirtual 127, 3) := by decide +kernel
theorem dX9_findsClass_9 : decode cX9_findsClass 9 = .ok (.iastore, 1) := by decide +kernel
theorem dX9_findsClass_10 : decode cX9_findsClass 10 = .ok (.aload_n 0, 1) := by decide +kernel
theorem dX9_findsClass_11 : decode cX9_findsClass 11 = .ok (.getfield 49, 3) := by decide +kernel
theorem dX9_findsClass_14 : decode cX9_findsClass 14 = .ok (.iconst 0, 1) := by decide +kernel
theorem dX9_findsClass_15 : decode cX9_findsClass 15 = .ok (.iconst 0, 1) := by decide +kernel
theorem dX9_findsClass_16 : decode cX9_findsClass 16 = .ok (.iastore, 1) := by decide +kernel
theorem dX9_findsClass_17 : decode cX9_findsClass 17 = .ok (.aload_n 0, 1) := by decide +kernel
theorem dX9_findsClass_18 : decode cX9_findsClass 18 = .ok (.iconst 1, 1) := by decide +kernel
theorem dX9_findsClass_19 : decode cX9_findsClass 19 = .ok (.putfield 191, 3) := by decide +kernel
theorem dX9_findsClass_22 : decode cX9_findsClass 22 = .ok (.iconst 0, 1) := by decide +kernel
theorem dX9_findsClass_23 : decode cX9_findsClass 23 = .ok (.istore_n 1, 1) := by decide +kernel
theorem dX9_findsClass_24 : decode cX9_findsClass 24 = .ok (.iload_n 1, 1) := by decide +kernel
theorem dX9_findsClass_25 : decode cX9_findsClass 25 = .ok (.aload_n 0, 1) := by decide +kernel
theorem dX9_findsClass_26 : decode cX9_findsClass 26 = .ok (.getfield 191, 3) := by decide +kernel
theorem dX9_findsClass_29 : decode cX9_findsClass 29 = .ok (.if_icmp .ge 86, 3) := by decide +kernel
theorem dX9_findsClass_32 : decode cX9_findsClass 32 = .ok (.iconst 0, 1) := by decide +kernel
theorem dX9_findsClass_33 : decode cX9_findsClass 33 = .ok (.istore_n 2, 1) := by decide +kernel
theorem dX9_findsClass_34 : decode cX9_findsClass 34 = .ok (.iload_n 2, 1) := by decide +kernel
theorem dX9_findsClass_35 : decode cX9_findsClass 35 = .ok (.iconst 2, 1) := by decide +kernel
theorem dX9_findsClass_36 : decode cX9_findsClass 36 = .ok (.if_icmp .ge 73, 3) := by decide +kernel
theorem dX9_findsClass_39 : decode cX9_findsClass 39 = .ok (.aload_n 0, 1) := by decide +kernel
theorem dX9_findsClass_40 : decode cX9_findsClass 40 = .ok (.aload_n 0, 1) := by decide +kernel
theorem dX9_findsClass_41 : decode cX9_findsClass 41 = .ok (.getfield 46, 3) := by decide +kernel
theorem dX9_findsClass_44 : decode cX9_findsClass 44 = .ok (.iload_n 1, 1) := by decide +kernel
theorem dX9_findsClass_45 : decode cX9_findsClass 45 = .ok (.iaload, 1) := by decide +kernel
theorem dX9_findsClass_46 : decode cX9_findsClass 46 = .ok (.iload_n 2, 1) := by decide +kernel
theorem dX9_findsClass_47 : decode cX9_findsClass 47 = .ok (.invokevirtual 194, 3) := by decide +kernel
theorem dX9_findsClass_50 : decode cX9_findsClass 50 = .ok (.istore_n 3, 1) := by decide +kernel
theorem dX9_findsClass_51 : decode cX9_findsClass 51 = .ok (.iload_n 3, 1) := by decide +kernel
theorem dX9_findsClass_52 : decode cX9_findsClass 52 = .ok (.bipush (-5), 2) := by decide +kernel
theorem dX9_findsClass_54 : decode cX9_findsClass 54 = .ok (.if_icmp .eq 49, 3) := by decide +kernel
theorem dX9_findsClass_57 : decode cX9_findsClass 57 = .ok (.aload_n 0, 1) := by decide +kernel
theorem dX9_findsClass_58 : decode cX9_findsClass 58 = .ok (.iload_n 3, 1) := by decide +kernel
theorem dX9_findsClass_59 : decode cX9_findsClass 59 = .ok (.invokevirtual 197, 3) := by decide +kernel
theorem dX9_findsClass_62 : decode cX9_findsClass 62 = .ok (.iconst (-1), 1) := by decide +kernel
theorem dX9_findsClass_63 : decode cX9_findsClass 63 = .ok (.if_icmp .ne 40, 3) := by decide +kernel
theorem dX9_findsClass_66 : decode cX9_findsClass 66 = .ok (.aload_n 0, 1) := by decide +kernel
theorem dX9_findsClass_67 : decode cX9_findsClass 67 = .ok (.getfield 46, 3) := by decide +kernel
theorem dX9_findsClass_70 : decode cX9_findsClass 70 = .ok (.aload_n 0, 1) := by decide +kernel
theorem dX9_findsClass_71 : decode cX9_findsClass 71 = .ok (.getfield 191, 3) := by decide +kernel
theorem dX9_findsClass_74 : decode cX9_findsClass 74 = .ok (.iload_n 3, 1) := by decide +kernel
theorem dX9_findsClass_75 : decode cX9_findsClass 75 = .ok (.iastore, 1) := by decide +kernel
theorem dX9_findsClass_76 : decode cX9_findsClass 76 = .ok (.aload_n 0, 1) := by decide +kernel
theorem dX9_findsClass_77 : decode cX9_findsClass 77 = .ok (.getfield 49, 3) := by decide +kernel
theorem dX9_findsClass_80 : decode cX9_findsClass 80 = .ok (.aload_n 0, 1) := by decide +kernel
theorem dX9_findsClass_81 : decode cX9_findsClass 81 = .ok (.getfield 191, 3) := by decide +kernel
theorem dX9_findsClass_84 : decode cX9_findsClass 84 = .ok (.aload_n 0, 1) := by decide +kernel
theorem dX9_findsClass_85 : decode cX9_findsClass 85 = .ok (.getfield 49, 3) := by decide +kernel
theorem dX9_findsClass_88 : decode cX9_findsClass 88 = .ok (.iload_n 1, 1) := by decide +kernel
theorem dX9_findsClass_89 : decode cX9_findsClass 89 = .ok (.iaload, 1) := by decide +kernel
theorem dX9_findsClass_90 : decode cX9_findsClass 90 = .ok (.iconst 1, 1) := by decide +kernel
theorem dX9_findsClass_91 : decode cX9_findsClass 91 = .ok (.iadd, 1) := by decide +kernel
theorem dX9_findsClass_92 : decode cX9_findsClass 92 = .ok (.iastore, 1) := by decide +kernel
theorem dX9_findsClass_93 : decode cX9_findsClass 93 = .ok (.aload_n 0, 1) := by decide +kernel
theorem dX9_findsClass_94 : decode cX9_findsClass 94 = .ok (.dup, 1) := by decide +kernel
theorem dX9_findsClass_95 : decode cX9_findsClass 95 = .ok (.getfield 191, 3) := by decide +kernel
theorem dX9_findsClass_98 : decode cX9_findsClass 98 = .ok (.iconst 1, 1) := by decide +kernel
theorem dX9_findsClass_99 : decode cX9_findsClass 99 = .ok (.iadd, 1) := by decide +kernel
theorem dX9_findsClass_100 : decode cX9_findsClass 100 = .ok (.putfield 191, 3) := by decide +kernel
theorem dX9_findsClass_103 : decode cX9_findsClass 103 = .ok (.iinc 2 1, 3) := by decide +kernel
theorem dX9_findsClass_106 : decode cX9_findsClass 106 = .ok (.goto (-72), 3) := by decide +kernel
theorem dX9_findsClass_109 : decode cX9_findsClass 109 = .ok (.iinc 1 1, 3) := by decide +kernel
theorem dX9_findsClass_112 : decode cX9_findsClass 112 = .ok (.goto (-88), 3) := by decide +kernel
theorem dX9_findsClass_115 : decode cX9_findsClass 115 = .ok (.return_, 1) := by decide +kernel
theorem dX9_code_0 : decode cX9_code 0 = .ok (.iload_n 1, 1) := by decide +kernel
theorem dX9_code_1 : decode cX9_code 1 = .ok (.ifCond .ge 5, 3) := by decide +kernel
theorem dX9_code_4 : decode cX9_code 4 = .ok (.iconst (-1), 1) := by decide +kernel
theorem dX9_code_5 : decode cX9_code 5 = .ok (.ireturn, 1) := by decide +kernel
theorem dX9_code_6 : decode cX9_code 6 = .ok (.aload_n 0, 1) := by decide +kernel
theorem dX9_code_7 : decode cX9_code 7 = .ok (.invokevirtual 200, 3) := by decide +kernel
theorem dX9_code_10 : decode cX9_code 10 = .ok (.iconst 0, 1) := by decide +kernel
theorem dX9_code_11 : decode cX9_code 11 = .ok (.istore_n 2, 1) := by decide +kernel
theorem dX9_code_12 : decode cX9_code 12 = .ok (.iload_n 2, 1) := by decide +kernel
theorem dX9_code_13 : decode cX9_code 13 = .ok (.aload_n 0, 1) := by decide +kernel
theorem dX9_code_14 : decode cX9_code 14 = .ok (.getfield 191, 3) := by decide +kernel
theorem dX9_code_17 : decode cX9_code 17 = .ok (.if_icmp .ge 68, 3) := by decide +kernel
theorem dX9_code_20 : decode cX9_code 20 = .ok (.iconst 0, 1) := by decide +kernel
theorem dX9_code_21 : decode cX9_code 21 = .ok (.istore_n 3, 1) := by decide +kernel
theorem dX9_code_22 : decode cX9_code 22 = .ok (.iconst 0, 1) := by decide +kernel
theorem dX9_code_23 : decode cX9_code 23 = .ok (.istore 4, 2) := by decide +kernel
theorem dX9_code_25 : decode cX9_code 25 = .ok (.iload 4, 2) := by decide +kernel
theorem dX9_code_27 : decode cX9_code 27 = .ok (.aload_n 0, 1) := by decide +kernel
theorem dX9_code_28 : decode cX9_code 28 = .ok (.getfield 191, 3) := by decide +kernel
theorem dX9_code_31 : decode cX9_code 31 = .ok (.if_icmp .ge 36, 3) := by decide +kernel
theorem dX9_code_34 : decode cX9_code 34 = .ok (.iload_n 3, 1) := by decide +kernel
theorem dX9_code_35 : decode cX9_code 35 = .ok (.aload_n 0, 1) := by decide +kernel
theorem dX9_code_36 : decode cX9_code 36 = .ok (.getfield 46, 3) := by decide +kernel
theorem dX9_code_39 : decode cX9_code 39 = .ok (.iload 4, 2) := by decide +kernel
theorem dX9_code_41 : decode cX9_code 41 = .ok (.iaload, 1) := by decide +kernel
theorem dX9_code_42 : decode cX9_code 42 = .ok (.aload_n 0, 1) := by decide +kernel
theorem dX9_code_43 : decode cX9_code 43 = .ok (.getfield 46, 3) := by decide +kernel
theorem dX9_code_46 : decode cX9_code 46 = .ok (.iload_n 2, 1) := by decide +kernel
theorem dX9_code_47 : decode cX9_code 47 = .ok (.iaload, 1) := by decide +kernel
theorem dX9_code_48 : decode cX9_code 48 = .ok (.if_icmp .ge 7, 3) := by decide +kernel
theorem dX9_code_51 : decode cX9_code 51 = .ok (.iconst 1, 1) := by decide +kernel
theorem dX9_code_52 : decode cX9_code 52 = .ok (.goto 4, 3) := by decide +kernel
theorem dX9_code_55 : decode cX9_code 55 = .ok (.iconst 0, 1) := by decide +kernel
theorem dX9_code_56 : decode cX9_code 56 = .ok (.invokestatic 181, 3) := by decide +kernel
theorem dX9_code_59 : decode cX9_code 59 = .ok (.iadd, 1) := by decide +kernel
theorem dX9_code_60 : decode cX9_code 60 = .ok (.istore_n 3, 1) := by decide +kernel
theorem dX9_code_61 : decode cX9_code 61 = .ok (.iinc 4 1, 3) := by decide +kernel
theorem dX9_code_64 : decode cX9_code 64 = .ok (.goto (-39), 3) := by decide +kernel
theorem dX9_code_67 : decode cX9_code 67 = .ok (.iload_n 3, 1) := by decide +kernel
theorem dX9_code_68 : decode cX9_code 68 = .ok (.iload_n 1, 1) := by decide +kernel
theorem dX9_code_69 : decode cX9_code 69 = .ok (.if_icmp .ne 10, 3) := by decide +kernel
theorem dX9_code_72 : decode cX9_code 72 = .ok (.aload_n 0, 1) := by decide +kernel
theorem dX9_code_73 : decode cX9_code 73 = .ok (.getfield 46, 3) := by decide +kernel
theorem dX9_code_76 : decode cX9_code 76 = .ok (.iload_n 2, 1) := by decide +kernel
theorem dX9_code_77 : decode cX9_code 77 = .ok (.iaload, 1) := by decide +kernel
theorem dX9_code_78 : decode cX9_code 78 = .ok (.ireturn, 1) := by decide +kernel
theorem dX9_code_79 : decode cX9_code 79 = .ok (.iinc 2 1, 3) := by decide +kernel
theorem dX9_code_82 : decode cX9_code 82 = .ok (.goto (-70), 3) := by decide +kernel
theorem dX9_code_85 : decode cX9_code 85 = .ok (.bipush (-5), 2) := by decide +kernel
theorem dX9_code_87 : decode cX9_code 87 = .ok (.ireturn, 1) := by decide +kernel
theorem dX9_next_0 : decode cX9_next 0 = .ok (.iload_n 2, 1) := by decide +kernel
theorem dX9_next_1 : decode cX9_next 1 = .ok (.i2l, 1) := by decide +kernel
theorem dX9_next_2 : decode cX9_next 2 = .ok (.lconst 0, 1) := by decide +kernel
theorem dX9_next_3 : decode cX9_next 3 = .ok (.lconst 1, 1) := by decide +kernel
theorem dX9_next_4 : decode cX9_next 4 = .ok (.invokestatic 66, 3) := by decide +kernel
theorem dX9_next_7 : decode cX9_next 7 = .ok (.ifCond .ne 5, 3) := by decide +kernel
theorem dX9_next_10 : decode cX9_next 10 = .ok (.iconst (-1), 1) := by decide +kernel
theorem dX9_next_11 : decode cX9_next 11 = .ok (.ireturn, 1) := by decide +kernel
theorem dX9_next_12 : decode cX9_next 12 = .ok (.aload_n 0, 1) := by decide +kernel
theorem dX9_next_13 : decode cX9_next 13 = .ok (.iload_n 1, 1) := by decide +kernel
theorem dX9_next_14 : decode cX9_next 14 = .ok (.invokevirtual 103, 3) := by decide +kernel
theorem dX9_next_17 : decode cX9_next 17 = .ok (.ifCond .eq 12, 3) := by decide +kernel
theorem dX9_next_20 : decode cX9_next 20 = .ok (.aload_n 0, 1) := by decide +kernel
theorem dX9_next_21 : decode cX9_next 21 = .ok (.iload_n 1, 1) := by decide +kernel
theorem dX9_next_22 : decode cX9_next 22 = .ok (.iload_n 2, 1) := by decide +kernel
theorem dX9_next_23 : decode cX9_next 23 = .ok (.invokevirtual 194, 3) := by decide +kernel
theorem dX9_next_26 : decode cX9_next 26 = .ok (.goto 5, 3) := by decide +kernel
theorem dX9_next_29 : decode cX9_next 29 = .ok (.bipush (-2), 2) := by decide +kernel
theorem dX9_next_31 : decode cX9_next 31 = .ok (.ireturn, 1) := by decide +kernel
theorem dX9_meetingOf_0 : decode cX9_meetingOf 0 = .ok (.iload_n 1, 1) := by decide +kernel
theorem dX9_meetingOf_1 : decode cX9_meetingOf 1 = .ok (.ifCond .ne 16, 3) := by decide +kernel
theorem dX9_meetingOf_4 : decode cX9_meetingOf 4 = .ok (.aload_n 0, 1) := by decide +kernel
theorem dX9_meetingOf_5 : decode cX9_meetingOf 5 = .ok (.iconst 2, 1) := by decide +kernel
theorem dX9_meetingOf_6 : decode cX9_meetingOf 6 = .ok (.aload_n 0, 1) := by decide +kernel
theorem dX9_meetingOf_7 : decode cX9_meetingOf 7 = .ok (.getfield 11, 3) := by decide +kernel
theorem dX9_meetingOf_10 : decode cX9_meetingOf 10 = .ok (.bipush 7, 2) := by decide +kernel
theorem dX9_meetingOf_12 : decode cX9_meetingOf 12 = .ok (.iaload, 1) := by decide +kernel
theorem dX9_meetingOf_13 : decode cX9_meetingOf 13 = .ok (.invokevirtual 78, 3) := by decide +kernel
theorem dX9_meetingOf_16 : decode cX9_meetingOf 16 = .ok (.ireturn, 1) := by decide +kernel
theorem dX9_meetingOf_17 : decode cX9_meetingOf 17 = .ok (.aload_n 0, 1) := by decide +kernel
theorem dX9_meetingOf_18 : decode cX9_meetingOf 18 = .ok (.bipush 7, 2) := by decide +kernel
theorem dX9_meetingOf_20 : decode cX9_meetingOf 20 = .ok (.aload_n 0, 1) := by decide +kernel
theorem dX9_meetingOf_21 : decode cX9_meetingOf 21 = .ok (.getfield 11, 3) := by decide +kernel
theorem dX9_meetingOf_24 : decode cX9_meetingOf 24 = .ok (.iconst 2, 1) := by decide +kernel
theorem dX9_meetingOf_25 : decode cX9_meetingOf 25 = .ok (.iload_n 1, 1) := by decide +kernel
theorem dX9_meetingOf_26 : decode cX9_meetingOf 26 = .ok (.iadd, 1) := by decide +kernel
theorem dX9_meetingOf_27 : decode cX9_meetingOf 27 = .ok (.iconst 1, 1) := by decide +kernel
theorem dX9_meetingOf_28 : decode cX9_meetingOf 28 = .ok (.isub, 1) := by decide +kernel
theorem dX9_meetingOf_29 : decode cX9_meetingOf 29 = .ok (.iaload, 1) := by decide +kernel
theorem dX9_meetingOf_30 : decode cX9_meetingOf 30 = .ok (.invokevirtual 78, 3) := by decide +kernel
theorem dX9_meetingOf_33 : decode cX9_meetingOf 33 = .ok (.istore_n 2, 1) := by decide +kernel
theorem dX9_meetingOf_34 : decode cX9_meetingOf 34 = .ok (.iload_n 2, 1) := by decide +kernel
theorem dX9_meetingOf_35 : decode cX9_meetingOf 35 = .ok (.iconst 1, 1) := by decide +kernel
theorem dX9_meetingOf_36 : decode cX9_meetingOf 36 = .ok (.iadd, 1) := by decide +kernel
theorem dX9_meetingOf_37 : decode cX9_meetingOf 37 = .ok (.aload_n 0, 1) := by decide +kernel
theorem dX9_meetingOf_38 : decode cX9_meetingOf 38 = .ok (.getfield 11, 3) := by decide +kernel
theorem dX9_meetingOf_41 : decode cX9_meetingOf 41 = .ok (.iconst 0, 1) := by decide +kernel
theorem dX9_meetingOf_42 : decode cX9_meetingOf 42 = .ok (.iaload, 1) := by decide +kernel
theorem dX9_meetingOf_43 : decode cX9_meetingOf 43 = .ok (.if_icmp .ne 12, 3) := by decide +kernel
theorem dX9_meetingOf_46 : decode cX9_meetingOf 46 = .ok (.aload_n 0, 1) := by decide +kernel
theorem dX9_meetingOf_47 : decode cX9_meetingOf 47 = .ok (.getfield 11, 3) := by decide +kernel
theorem dX9_meetingOf_50 : decode cX9_meetingOf 50 = .ok (.iconst 0, 1) := by decide +kernel
theorem dX9_meetingOf_51 : decode cX9_meetingOf 51 = .ok (.iaload, 1) := by decide +kernel
theorem dX9_meetingOf_52 : decode cX9_meetingOf 52 = .ok (.goto 19, 3) := by decide +kernel
theorem dX9_meetingOf_55 : decode cX9_meetingOf 55 = .ok (.aload_n 0, 1) := by decide +kernel
theorem dX9_meetingOf_56 : decode cX9_meetingOf 56 = .ok (.iconst 2, 1) := by decide +kernel
theorem dX9_meetingOf_57 : decode cX9_meetingOf 57 = .ok (.aload_n 0, 1) := by decide +kernel
theorem dX9_meetingOf_58 : decode cX9_meetingOf 58 = .ok (.getfield 11, 3) := by decide +kernel
theorem dX9_meetingOf_61 : decode cX9_meetingOf 61 = .ok (.bipush 7, 2) := by decide +kernel
theorem dX9_meetingOf_63 : decode cX9_meetingOf 63 = .ok (.iload_n 2, 1) := by decide +kernel
theorem dX9_meetingOf_64 : decode cX9_meetingOf 64 = .ok (.iadd, 1) := by decide +kernel
theorem dX9_meetingOf_65 : decode cX9_meetingOf 65 = .ok (.iconst 1, 1) := by decide +kernel
theorem dX9_meetingOf_66 : decode cX9_meetingOf 66 = .ok (.iadd, 1) := by decide +kernel
theorem dX9_meetingOf_67 : decode cX9_meetingOf 67 = .ok (.iaload, 1) := by decide +kernel
theorem dX9_meetingOf_68 : decode cX9_meetingOf 68 = .ok (.invokevirtual 78, 3) := by decide +kernel
theorem dX9_meetingOf_71 : decode cX9_meetingOf 71 = .ok (.ireturn, 1) := by decide +kernel
theorem dX9_meeting_0 : decode cX9_meeting 0 = .ok (.iload_n 1, 1) := by decide +kernel
theorem dX9_meeting_1 : decode cX9_meeting 1 = .ok (.i2l, 1) := by decide +kernel
theorem dX9_meeting_2 : decode cX9_meeting 2 = .ok (.lconst 0, 1) := by decide +kernel
theorem dX9_meeting_3 : decode cX9_meeting 3 = .ok (.aload_n 0, 1) := by decide +kernel
theorem dX9_meeting_4 : decode cX9_meeting 4 = .ok (.getfield 11, 3) := by decide +kernel
theorem dX9_meeting_7 : decode cX9_meeting 7 = .ok (.iconst 0, 1) := by decide +kernel
theorem dX9_meeting_8 : decode cX9_meeting 8 = .ok (.iaload, 1) := by decide +kernel
theorem dX9_meeting_9 : decode cX9_meeting 9 = .ok (.i2l, 1) := by decide +kernel
theorem dX9_meeting_10 : decode cX9_meeting 10 = .ok (.invokestatic 66, 3) := by decide +kernel
theorem dX9_meeting_13 : decode cX9_meeting 13 = .ok (.ifCond .eq 11, 3) := by decide +kernel
theorem dX9_meeting_16 : decode cX9_meeting 16 = .ok (.aload_n 0, 1) := by decide +kernel
theorem dX9_meeting_17 : decode cX9_meeting 17 = .ok (.iload_n 1, 1) := by decide +kernel
theorem dX9_meeting_18 : decode cX9_meeting 18 = .ok (.invokevirtual 203, 3) := by decide +kernel
theorem dX9_meeting_21 : decode cX9_meeting 21 = .ok (.goto 4, 3) := by decide +kernel
theorem dX9_meeting_24 : decode cX9_meeting 24 = .ok (.iconst (-1), 1) := by decide +kernel
theorem dX9_meeting_25 : decode cX9_meeting 25 = .ok (.ireturn, 1) := by decide +kernel
theorem dX9_corners_0 : decode cX9_corners 0 = .ok (.iconst 0, 1) := by decide +kernel
theorem dX9_corners_1 : decode cX9_corners 1 = .ok (.istore_n 1, 1) := by decide +kernel
theorem dX9_corners_2 : decode cX9_corners 2 = .ok (.iconst 0, 1) := by decide +kernel
theorem dX9_corners_3 : decode cX9_corners 3 = .ok (.istore_n 2, 1) := by decide +kernel
theorem dX9_corners_4 : decode cX9_corners 4 = .ok (.iconst 0, 1) := by decide +kernel
theorem dX9_corners_5 : decode cX9_corners 5 = .ok (.istore_n 3, 1) := by decide +kernel
theorem dX9_corners_6 : decode cX9_corners 6 = .ok (.iload_n 3, 1) := by decide +kernel
theorem dX9_corners_7 : decode cX9_corners 7 = .ok (.aload_n 0, 1) := by decide +kernel
theorem dX9_corners_8 : decode cX9_corners 8 = .ok (.getfield 11, 3) := by decide +kernel
theorem dX9_corners_11 : decode cX9_corners 11 = .ok (.iconst 0, 1) := by decide +kernel
theorem dX9_corners_12 : decode cX9_corners 12 = .ok (.iaload, 1) := by decide +kernel
theorem dX9_corners_13 : decode cX9_corners 13 = .ok (.if_icmp .gt 58, 3) := by decide +kernel
theorem dX9_corners_16 : decode cX9_corners 16 = .ok (.iload_n 2, 1) := by decide +kernel
theorem dX9_corners_17 : decode cX9_corners 17 = .ok (.iload_n 1, 1) := by decide +kernel
theorem dX9_corners_18 : decode cX9_corners 18 = .ok (.iload_n 3, 1) := by decide +kernel
theorem dX9_corners_19 : decode cX9_corners 19 = .ok (.ishr, 1) := by decide +kernel
theorem dX9_corners_20 : decode cX9_corners 20 = .ok (.iconst 1, 1) := by decide +kernel
theorem dX9_corners_21 : decode cX9_corners 21 = .ok (.iand, 1) := by decide +kernel
theorem dX9_corners_22 : decode cX9_corners 22 = .ok (.ifCond .ne 7, 3) := by decide +kernel
theorem dX9_corners_25 : decode cX9_corners 25 = .ok (.iconst 1, 1) := by decide +kernel
theorem dX9_corners_26 : decode cX9_corners 26 = .ok (.goto 4, 3) := by decide +kernel
theorem dX9_corners_29 : decode cX9_corners 29 = .ok (.iconst 0, 1) := by decide +kernel
theorem dX9_corners_30 : decode cX9_corners 30 = .ok (.invokestatic 181, 3) := by decide +kernel
theorem dX9_corners_33 : decode cX9_corners 33 = .ok (.iadd, 1) := by decide +kernel
theorem dX9_corners_34 : decode cX9_corners 34 = .ok (.istore_n 2, 1) := by decide +kernel
theorem dX9_corners_35 : decode cX9_corners 35 = .ok (.iload_n 3, 1) := by decide +kernel
theorem dX9_corners_36 : decode cX9_corners 36 = .ok (.istore 4, 2) := by decide +kernel
theorem dX9_corners_38 : decode cX9_corners 38 = .ok (.iload_n 1, 1) := by decide +kernel
theorem dX9_corners_39 : decode cX9_corners 39 = .ok (.iload 4, 2) := by decide +kernel
theorem dX9_corners_41 : decode cX9_corners 41 = .ok (.ishr, 1) := by decide +kernel
theorem dX9_corners_42 : decode cX9_corners 42 = .ok (.iconst 1, 1) := by decide +kernel
theorem dX9_corners_43 : decode cX9_corners 43 = .ok (.iand, 1) := by decide +kernel
theorem dX9_corners_44 : decode cX9_corners 44 = .ok (.ifCond .ne 21, 3) := by decide +kernel
theorem dX9_corners_47 : decode cX9_corners 47 = .ok (.iload_n 1, 1) := by decide +kernel
theorem dX9_corners_48 : decode cX9_corners 48 = .ok (.iconst 1, 1) := by decide +kernel
theorem dX9_corners_49 : decode cX9_corners 49 = .ok (.iload 4, 2) := by decide +kernel
theorem dX9_corners_51 : decode cX9_corners 51 = .ok (.ishl, 1) := by decide +kernel
theorem dX9_corners_52 : decode cX9_corners 52 = .ok (.ior, 1) := by decide +kernel
theorem dX9_corners_53 : decode cX9_corners 53 = .ok (.istore_n 1, 1) := by decide +kernel
theorem dX9_corners_54 : decode cX9_corners 54 = .ok (.aload_n 0, 1) := by decide +kernel
theorem dX9_corners_55 : decode cX9_corners 55 = .ok (.iload 4, 2) := by decide +kernel
theorem dX9_corners_57 : decode cX9_corners 57 = .ok (.invokevirtual 203, 3) := by decide +kernel
theorem dX9_corners_60 : decode cX9_corners 60 = .ok (.istore 4, 2) := by decide +kernel
theorem dX9_corners_62 : decode cX9_corners 62 = .ok (.goto (-24), 3) := by decide +kernel
theorem dX9_corners_65 : decode cX9_corners 65 = .ok (.iinc 3 1, 3) := by decide +kernel
theorem dX9_corners_68 : decode cX9_corners 68 = .ok (.goto (-62), 3) := by decide +kernel
theorem dX9_corners_71 : decode cX9_corners 71 = .ok (.iload_n 2, 1) := by decide +kernel
theorem dX9_corners_72 : decode cX9_corners 72 = .ok (.ireturn, 1) := by decide +kernel
theorem dX9_told_0 : decode cX9_told 0 = .ok (.iload_n 1, 1) := by decide +kernel
theorem dX9_told_1 : decode cX9_told 1 = .ok (.tableswitch 175 0 10 #[59, 66, 71, 76, 83, 91, 100, 132, 137, 165, 170], 59) := by decide +kernel
theorem dX9_told_60 : decode cX9_told 60 = .ok (.aload_n 0, 1) := by decide +kernel
theorem dX9_told_61 : decode cX9_told 61 = .ok (.getfield 11, 3) := by decide +kernel
theorem dX9_told_64 : decode cX9_told 64 = .ok (.iconst 0, 1) := by decide +kernel
theorem dX9_told_65 : decode cX9_told 65 = .ok (.iaload, 1) := by decide +kernel
theorem dX9_told_66 : decode cX9_told 66 = .ok (.ireturn, 1) := by decide +kernel
theorem dX9_told_67 : decode cX9_told 67 = .ok (.aload_n 0, 1) := by decide +kernel
theorem dX9_told_68 : decode cX9_told 68 = .ok (.invokevirtual 121, 3) := by decide +kernel
theorem dX9_told_71 : decode cX9_told 71 = .ok (.ireturn, 1) := by decide +kernel
theorem dX9_told_72 : decode cX9_told 72 = .ok (.aload_n 0, 1) := by decide +kernel
theorem dX9_told_73 : decode cX9_told 73 = .ok (.invokevirtual 127, 3) := by decide +kernel
theorem dX9_told_76 : decode cX9_told 76 = .ok (.ireturn, 1) := by decide +kernel
theorem dX9_told_77 : decode cX9_told 77 = .ok (.aload_n 0, 1) := by decide +kernel
theorem dX9_told_78 : decode cX9_told 78 = .ok (.getfield 11, 3) := by decide +kernel
theorem dX9_told_81 : decode cX9_told 81 = .ok (.iconst 1, 1) := by decide +kernel
theorem dX9_told_82 : decode cX9_told 82 = .ok (.iaload, 1) := by decide +kernel
theorem dX9_told_83 : decode cX9_told 83 = .ok (.ireturn, 1) := by decide +kernel
theorem dX9_told_84 : decode cX9_told 84 = .ok (.aload_n 0, 1) := by decide +kernel
theorem dX9_told_85 : decode cX9_told 85 = .ok (.invokevirtual 206, 3) := by decide +kernel
theorem dX9_told_88 : decode cX9_told 88 = .ok (.invokestatic 181, 3) := by decide +kernel
theorem dX9_told_91 : decode cX9_told 91 = .ok (.ireturn, 1) := by decide +kernel
theorem dX9_told_92 : decode cX9_told 92 = .ok (.aload_n 0, 1) := by decide +kernel
theorem dX9_told_93 : decode cX9_told 93 = .ok (.invokevirtual 200, 3) := by decide +kernel
theorem dX9_told_96 : decode cX9_told 96 = .ok (.aload_n 0, 1) := by decide +kernel
theorem dX9_told_97 : decode cX9_told 97 = .ok (.getfield 191, 3) := by decide +kernel
theorem dX9_told_100 : decode cX9_told 100 = .ok (.ireturn, 1) := by decide +kernel
theorem dX9_told_101 : decode cX9_told 101 = .ok (.aload_n 0, 1) := by decide +kernel
theorem dX9_told_102 : decode cX9_told 102 = .ok (.invokevirtual 200, 3) := by decide +kernel
theorem dX9_told_105 : decode cX9_told 105 = .ok (.aload_n 0, 1) := by decide +kernel
theorem dX9_told_106 : decode cX9_told 106 = .ok (.aload_n 0, 1) := by decide +kernel
theorem dX9_told_107 : decode cX9_told 107 = .ok (.getfield 11, 3) := by decide +kernel
theorem dX9_told_110 : decode cX9_told 110 = .ok (.iconst 1, 1) := by decide +kernel
theorem dX9_told_111 : decode cX9_told 111 = .ok (.iaload, 1) := by decide +kernel
theorem dX9_told_112 : decode cX9_told 112 = .ok (.invokevirtual 197, 3) := by decide +kernel
theorem dX9_told_115 : decode cX9_told 115 = .ok (.istore_n 2, 1) := by decide +kernel
theorem dX9_told_116 : decode cX9_told 116 = .ok (.iload_n 2, 1) := by decide +kernel
theorem dX9_told_117 : decode cX9_told 117 = .ok (.iconst (-1), 1) := by decide +kernel
theorem dX9_told_118 : decode cX9_told 118 = .ok (.if_icmp .ne 8, 3) := by decide +kernel
theorem dX9_told_121 : decode cX9_told 121 = .ok (.bipush (-5), 2) := by decide +kernel
theorem dX9_told_123 : decode cX9_told 123 = .ok (.goto 9, 3) := by decide +kernel
theorem dX9_told_126 : decode cX9_told 126 = .ok (.aload_n 0, 1) := by decide +kernel
theorem dX9_told_127 : decode cX9_told 127 = .ok (.getfield 49, 3) := by decide +kernel
theorem dX9_told_130 : decode cX9_told 130 = .ok (.iload_n 2, 1) := by decide +kernel
theorem dX9_told_131 : decode cX9_told 131 = .ok (.iaload, 1) := by decide +kernel
theorem dX9_told_132 : decode cX9_told 132 = .ok (.ireturn, 1) := by decide +kernel
theorem dX9_told_133 : decode cX9_told 133 = .ok (.aload_n 0, 1) := by decide +kernel
theorem dX9_told_134 : decode cX9_told 134 = .ok (.invokevirtual 209, 3) := by decide +kernel
theorem dX9_told_137 : decode cX9_told 137 = .ok (.ireturn, 1) := by decide +kernel
theorem dX9_told_138 : decode cX9_told 138 = .ok (.aload_n 0, 1) := by decide +kernel
theorem dX9_told_139 : decode cX9_told 139 = .ok (.invokevirtual 206, 3) := by decide +kernel
theorem dX9_told_142 : decode cX9_told 142 = .ok (.ifCond .eq 21, 3) := by decide +kernel
theorem dX9_told_145 : decode cX9_told 145 = .ok (.aload_n 0, 1) := by decide +kernel
theorem dX9_told_146 : decode cX9_told 146 = .ok (.getfield 11, 3) := by decide +kernel
theorem dX9_told_149 : decode cX9_told 149 = .ok (.iconst 0, 1) := by decide +kernel
theorem dX9_told_150 : decode cX9_told 150 = .ok (.iaload, 1) := by decide +kernel
theorem dX9_told_151 : decode cX9_told 151 = .ok (.iconst 1, 1) := by decide +kernel
theorem dX9_told_152 : decode cX9_told 152 = .ok (.iadd, 1) := by decide +kernel
theorem dX9_told_153 : decode cX9_told 153 = .ok (.aload_n 0, 1) := by decide +kernel
theorem dX9_told_154 : decode cX9_told 154 = .ok (.invokevirtual 209, 3) := by decide +kernel
theorem dX9_told_157 : decode cX9_told 157 = .ok (.isub, 1) := by decide +kernel
theorem dX9_told_158 : decode cX9_told 158 = .ok (.iconst 2, 1) := by decide +kernel
theorem dX9_told_159 : decode cX9_told 159 = .ok (.idiv, 1) := by decide +kernel
theorem dX9_told_160 : decode cX9_told 160 = .ok (.goto 5, 3) := by decide +kernel
theorem dX9_told_163 : decode cX9_told 163 = .ok (.bipush (-5), 2) := by decide +kernel
theorem dX9_told_165 : decode cX9_told 165 = .ok (.ireturn, 1) := by decide +kernel
theorem dX9_told_166 : decode cX9_told 166 = .ok (.aload_n 0, 1) := by decide +kernel
theorem dX9_told_167 : decode cX9_told 167 = .ok (.invokevirtual 212, 3) := by decide +kernel
theorem dX9_told_170 : decode cX9_told 170 = .ok (.ireturn, 1) := by decide +kernel
theorem dX9_told_171 : decode cX9_told 171 = .ok (.aload_n 0, 1) := by decide +kernel
theorem dX9_told_172 : decode cX9_told 172 = .ok (.invokevirtual 215, 3) := by decide +kernel
theorem dX9_told_175 : decode cX9_told 175 = .ok (.ireturn, 1) := by decide +kernel
theorem dX9_told_176 : decode cX9_told 176 = .ok (.iconst (-1), 1) := by decide +kernel
theorem dX9_told_177 : decode cX9_told 177 = .ok (.ireturn, 1) := by decide +kernel
theorem dX9_point_0 : decode cX9_point 0 = .ok (.iload_n 1, 1) := by decide +kernel
theorem dX9_point_1 : decode cX9_point 1 = .ok (.i2l, 1) := by decide +kernel
theorem dX9_point_2 : decode cX9_point 2 = .ok (.lconst 0, 1) := by decide +kernel
theorem dX9_point_3 : decode cX9_point 3 = .ok (.aload_n 0, 1) := by decide +kernel
theorem dX9_point_4 : decode cX9_point 4 = .ok (.invokevirtual 121, 3) := by decide +kernel
theorem dX9_point_7 : decode cX9_point 7 = .ok (.iconst 1, 1) := by decide +kernel
theorem dX9_point_8 : decode cX9_point 8 = .ok (.isub, 1) := by decide +kernel
theorem dX9_point_9 : decode cX9_point 9 = .ok (.i2l, 1) := by decide +kernel
theorem dX9_point_10 : decode cX9_point 10 = .ok (.invokestatic 66, 3) := by decide +kernel
theorem dX9_point_13 : decode cX9_point 13 = .ok (.ifCond .eq 15, 3) := by decide +kernel
theorem dX9_point_16 : decode cX9_point 16 = .ok (.iload_n 2, 1) := by decide +kernel
theorem dX9_point_17 : decode cX9_point 17 = .ok (.i2l, 1) := by decide +kernel
theorem dX9_point_18 : decode cX9_point 18 = .ok (.lconst 0, 1) := by decide +kernel
theorem dX9_point_19 : decode cX9_point 19 = .ok (.ldc2_w 95, 3) := by decide +kernel
theorem dX9_point_22 : decode cX9_point 22 = .ok (.invokestatic 66, 3) := by decide +kernel
theorem dX9_point_25 : decode cX9_point 25 = .ok (.ifCond .ne 5, 3) := by decide +kernel
theorem dX9_point_28 : decode cX9_point 28 = .ok (.iconst (-1), 1) := by decide +kernel
theorem dX9_point_29 : decode cX9_point 29 = .ok (.ireturn, 1) := by decide +kernel
theorem dX9_point_30 : decode cX9_point 30 = .ok (.aload_n 0, 1) := by decide +kernel
theorem dX9_point_31 : decode cX9_point 31 = .ok (.invokevirtual 188, 3) := by decide +kernel
theorem dX9_point_34 : decode cX9_point 34 = .ok (.pop, 1) := by decide +kernel
theorem dX9_point_35 : decode cX9_point 35 = .ok (.iload_n 2, 1) := by decide +kernel
theorem dX9_point_36 : decode cX9_point 36 = .ok (.iconst 2, 1) := by decide +kernel
theorem dX9_point_37 : decode cX9_point 37 = .ok (.if_icmp .ge 23, 3) := by decide +kernel
theorem dX9_point_40 : decode cX9_point 40 = .ok (.iload_n 2, 1) := by decide +kernel
theorem dX9_point_41 : decode cX9_point 41 = .ok (.ifCond .ne 12, 3) := by decide +kernel
theorem dX9_point_44 : decode cX9_point 44 = .ok (.aload_n 0, 1) := by decide +kernel
theorem dX9_point_45 : decode cX9_point 45 = .ok (.getfield 30, 3) := by decide +kernel
theorem dX9_point_48 : decode cX9_point 48 = .ok (.iload_n 1, 1) := by decide +kernel
theorem dX9_point_49 : decode cX9_point 49 = .ok (.iaload, 1) := by decide +kernel
theorem dX9_point_50 : decode cX9_point 50 = .ok (.goto 9, 3) := by decide +kernel
theorem dX9_point_53 : decode cX9_point 53 = .ok (.aload_n 0, 1) := by decide +kernel
theorem dX9_point_54 : decode cX9_point 54 = .ok (.getfield 33, 3) := by decide +kernel
theorem dX9_point_57 : decode cX9_point 57 = .ok (.iload_n 1, 1) := by decide +kernel
theorem dX9_point_58 : decode cX9_point 58 = .ok (.iaload, 1) := by decide +kernel
theorem dX9_point_59 : decode cX9_point 59 = .ok (.ireturn, 1) := by decide +kernel
theorem dX9_point_60 : decode cX9_point 60 = .ok (.iconst 1, 1) := by decide +kernel
theorem dX9_point_61 : decode cX9_point 61 = .ok (.istore_n 3, 1) := by decide +kernel
theorem dX9_point_62 : decode cX9_point 62 = .ok (.aload_n 0, 1) := by decide +kernel
theorem dX9_point_63 : decode cX9_point 63 = .ok (.getfield 30, 3) := by decide +kernel
theorem dX9_point_66 : decode cX9_point 66 = .ok (.iload_n 1, 1) := by decide +kernel
theorem dX9_point_67 : decode cX9_point 67 = .ok (.iaload, 1) := by decide +kernel
theorem dX9_point_68 : decode cX9_point 68 = .ok (.istore 4, 2) := by decide +kernel
theorem dX9_point_70 : decode cX9_point 70 = .ok (.iload 4, 2) := by decide +kernel
theorem dX9_point_72 : decode cX9_point 72 = .ok (.iload_n 1, 1) := by decide +kernel
theorem dX9_point_73 : decode cX9_point 73 = .ok (.if_icmp .eq 18, 3) := by decide +kernel
theorem dX9_point_76 : decode cX9_point 76 = .ok (.iinc 3 1, 3) := by decide +kernel
theorem dX9_point_79 : decode cX9_point 79 = .ok (.aload_n 0, 1) := by decide +kernel
theorem dX9_point_80 : decode cX9_point 80 = .ok (.getfield 30, 3) := by decide +kernel
theorem dX9_point_83 : decode cX9_point 83 = .ok (.iload 4, 2) := by decide +kernel
theorem dX9_point_85 : decode cX9_point 85 = .ok (.iaload, 1) := by decide +kernel
theorem dX9_point_86 : decode cX9_point 86 = .ok (.istore 4, 2) := by decide +kernel
theorem dX9_point_88 : decode cX9_point 88 = .ok (.goto (-18), 3) := by decide +kernel
theorem dX9_point_91 : decode cX9_point 91 = .ok (.iload_n 3, 1) := by decide +kernel
theorem dX9_point_92 : decode cX9_point 92 = .ok (.ireturn, 1) := by decide +kernel
theorem dX9_gone_0 : decode cX9_gone 0 = .ok (.iload_n 1, 1) := by decide +kernel
theorem dX9_gone_1 : decode cX9_gone 1 = .ok (.i2l, 1) := by decide +kernel
theorem dX9_gone_2 : decode cX9_gone 2 = .ok (.lconst 0, 1) := by decide +kernel
theorem dX9_gone_3 : decode cX9_gone 3 = .ok (.aload_n 0, 1) := by decide +kernel
theorem dX9_gone_4 : decode cX9_gone 4 = .ok (.invokevirtual 121, 3) := by decide +kernel
theorem dX9_gone_7 : decode cX9_gone 7 = .ok (.iconst 1, 1) := by decide +kernel
theorem dX9_gone_8 : decode cX9_gone 8 = .ok (.isub, 1) := by decide +kernel
theorem dX9_gone_9 : decode cX9_gone 9 = .ok (.i2l, 1) := by decide +kernel
theorem dX9_gone_10 : decode cX9_gone 10 = .ok (.invokestatic 66, 3) := by decide +kernel
theorem dX9_gone_13 : decode cX9_gone 13 = .ok (.ifCond .ne 5, 3) := by decide +kernel
theorem dX9_gone_16 : decode cX9_gone 16 = .ok (.iconst (-1), 1) := by decide +kernel
theorem dX9_gone_17 : decode cX9_gone 17 = .ok (.ireturn, 1) := by decide +kernel
theorem dX9_gone_18 : decode cX9_gone 18 = .ok (.iload_n 2, 1) := by decide +kernel
theorem dX9_gone_19 : decode cX9_gone 19 = .ok (.i2l, 1) := by decide +kernel
theorem dX9_gone_20 : decode cX9_gone 20 = .ok (.lconst 0, 1) := by decide +kernel
theorem dX9_gone_21 : decode cX9_gone 21 = .ok (.ldc2_w 218, 3) := by decide +kernel
theorem dX9_gone_24 : decode cX9_gone 24 = .ok (.invokestatic 66, 3) := by decide +kernel
theorem dX9_gone_27 : decode cX9_gone 27 = .ok (.ifCond .ne 6, 3) := by decide +kernel
theorem dX9_gone_30 : decode cX9_gone 30 = .ok (.bipush (-2), 2) := by decide +kernel
theorem dX9_gone_32 : decode cX9_gone 32 = .ok (.ireturn, 1) := by decide +kernel
theorem dX9_gone_33 : decode cX9_gone 33 = .ok (.aload_n 0, 1) := by decide +kernel
theorem dX9_gone_34 : decode cX9_gone 34 = .ok (.invokevirtual 188, 3) := by decide +kernel
theorem dX9_gone_37 : decode cX9_gone 37 = .ok (.pop, 1) := by decide +kernel
theorem dX9_gone_38 : decode cX9_gone 38 = .ok (.iload_n 1, 1) := by decide +kernel
theorem dX9_gone_39 : decode cX9_gone 39 = .ok (.istore_n 3, 1) := by decide +kernel
theorem dX9_gone_40 : decode cX9_gone 40 = .ok (.iconst 0, 1) := by decide +kernel
theorem dX9_gone_41 : decode cX9_gone 41 = .ok (.istore 4, 2) := by decide +kernel
theorem dX9_gone_43 : decode cX9_gone 43 = .ok (.iload 4, 2) := by decide +kernel
theorem dX9_gone_45 : decode cX9_gone 45 = .ok (.iload_n 2, 1) := by decide +kernel
theorem dX9_gone_46 : decode cX9_gone 46 = .ok (.if_icmp .ge 16, 3) := by decide +kernel
theorem dX9_gone_49 : decode cX9_gone 49 = .ok (.aload_n 0, 1) := by decide +kernel
theorem dX9_gone_50 : decode cX9_gone 50 = .ok (.getfield 30, 3) := by decide +kernel
theorem dX9_gone_53 : decode cX9_gone 53 = .ok (.iload_n 3, 1) := by decide +kernel
theorem dX9_gone_54 : decode cX9_gone 54 = .ok (.iaload, 1) := by decide +kernel
theorem dX9_gone_55 : decode cX9_gone 55 = .ok (.istore_n 3, 1) := by decide +kernel
theorem dX9_gone_56 : decode cX9_gone 56 = .ok (.iinc 4 1, 3) := by decide +kernel
theorem dX9_gone_59 : decode cX9_gone 59 = .ok (.goto (-16), 3) := by decide +kernel
theorem dX9_gone_62 : decode cX9_gone 62 = .ok (.iload_n 3, 1) := by decide +kernel
theorem dX9_gone_63 : decode cX9_gone 63 = .ok (.ireturn, 1) := by decide +kernel
theorem dX9_see_0 : decode cX9_see 0 = .ok (.iload_n 1, 1) := by decide +kernel
theorem dX9_see_1 : decode cX9_see 1 = .ok (.iconst (-1), 1) := by decide +kernel
theorem dX9_see_2 : decode cX9_see 2 = .ok (.if_icmp .ne 13, 3) := by decide +kernel
theorem dX9_see_5 : decode cX9_see 5 = .ok (.aload_n 0, 1) := by decide +kernel
theorem dX9_see_6 : decode cX9_see 6 = .ok (.getfield 11, 3) := by decide +kernel
theorem dX9_see_9 : decode cX9_see 9 = .ok (.bipush 17, 2) := by decide +kernel
theorem dX9_see_11 : decode cX9_see 11 = .ok (.iconst 0, 1) := by decide +kernel
theorem dX9_see_12 : decode cX9_see 12 = .ok (.iastore, 1) := by decide +kernel
theorem dX9_see_13 : decode cX9_see 13 = .ok (.iconst 0, 1) := by decide +kernel
theorem dX9_see_14 : decode cX9_see 14 = .ok (.ireturn, 1) := by decide +kernel
theorem dX9_see_15 : decode cX9_see 15 = .ok (.iload_n 1, 1) := by decide +kernel
theorem dX9_see_16 : decode cX9_see 16 = .ok (.i2l, 1) := by decide +kernel
theorem dX9_see_17 : decode cX9_see 17 = .ok (.lconst 0, 1) := by decide +kernel
theorem dX9_see_18 : decode cX9_see 18 = .ok (.ldc2_w 220, 3) := by decide +kernel
theorem dX9_see_21 : decode cX9_see 21 = .ok (.invokestatic 66, 3) := by decide +kernel
theorem dX9_see_24 : decode cX9_see 24 = .ok (.ifCond .eq 15, 3) := by decide +kernel
theorem dX9_see_27 : decode cX9_see 27 = .ok (.iload_n 2, 1) := by decide +kernel
theorem dX9_see_28 : decode cX9_see 28 = .ok (.i2l, 1) := by decide +kernel
theorem dX9_see_29 : decode cX9_see 29 = .ok (.lconst 0, 1) := by decide +kernel
theorem dX9_see_30 : decode cX9_see 30 = .ok (.ldc2_w 220, 3) := by decide +kernel
theorem dX9_see_33 : decode cX9_see 33 = .ok (.invokestatic 66, 3) := by decide +kernel
theorem dX9_see_36 : decode cX9_see 36 = .ok (.ifCond .ne 6, 3) := by decide +kernel
theorem dX9_see_39 : decode cX9_see 39 = .ok (.bipush (-2), 2) := by decide +kernel
theorem dX9_see_41 : decode cX9_see 41 = .ok (.ireturn, 1) := by decide +kernel
theorem dX9_see_42 : decode cX9_see 42 = .ok (.aload_n 0, 1) := by decide +kernel
theorem dX9_see_43 : decode cX9_see 43 = .ok (.getfield 11, 3) := by decide +kernel
theorem dX9_see_46 : decode cX9_see 46 = .ok (.bipush 17, 2) := by decide +kernel
theorem dX9_see_48 : decode cX9_see 48 = .ok (.iaload, 1) := by decide +kernel
theorem dX9_see_49 : decode cX9_see 49 = .ok (.iconst 4, 1) := by decide +kernel
theorem dX9_see_50 : decode cX9_see 50 = .ok (.if_icmp .ne 6, 3) := by decide +kernel
theorem dX9_see_53 : decode cX9_see 53 = .ok (.bipush (-4), 2) := by decide +kernel
theorem dX9_see_55 : decode cX9_see 55 = .ok (.ireturn, 1) := by decide +kernel
theorem dX9_see_56 : decode cX9_see 56 = .ok (.aload_n 0, 1) := by decide +kernel
theorem dX9_see_57 : decode cX9_see 57 = .ok (.getfield 11, 3) := by decide +kernel
theorem dX9_see_60 : decode cX9_see 60 = .ok (.bipush 18, 2) := by decide +kernel
theorem dX9_see_62 : decode cX9_see 62 = .ok (.iconst 2, 1) := by decide +kernel
theorem dX9_see_63 : decode cX9_see 63 = .ok (.aload_n 0, 1) := by decide +kernel
theorem dX9_see_64 : decode cX9_see 64 = .ok (.getfield 11, 3) := by decide +kernel
theorem dX9_see_67 : decode cX9_see 67 = .ok (.bipush 17, 2) := by decide +kernel
theorem dX9_see_69 : decode cX9_see 69 = .ok (.iaload, 1) := by decide +kernel
theorem dX9_see_70 : decode cX9_see 70 = .ok (.imul, 1) := by decide +kernel
theorem dX9_see_71 : decode cX9_see 71 = .ok (.iadd, 1) := by decide +kernel
theorem dX9_see_72 : decode cX9_see 72 = .ok (.iload_n 1, 1) := by decide +kernel
theorem dX9_see_73 : decode cX9_see 73 = .ok (.iastore, 1) := by decide +kernel
theorem dX9_see_74 : decode cX9_see 74 = .ok (.aload_n 0, 1) := by decide +kernel
theorem dX9_see_75 : decode cX9_see 75 = .ok (.getfield 11, 3) := by decide +kernel
theorem dX9_see_78 : decode cX9_see 78 = .ok (.bipush 18, 2) := by decide +kernel
theorem dX9_see_80 : decode cX9_see 80 = .ok (.iconst 2, 1) := by decide +kernel
theorem dX9_see_81 : decode cX9_see 81 = .ok (.aload_n 0, 1) := by decide +kernel
theorem dX9_see_82 : decode cX9_see 82 = .ok (.getfield 11, 3) := by decide +kernel
theorem dX9_see_85 : decode cX9_see 85 = .ok (.bipush 17, 2) := by decide +kernel
theorem dX9_see_87 : decode cX9_see 87 = .ok (.iaload, 1) := by decide +kernel
theorem dX9_see_88 : decode cX9_see 88 = .ok (.imul, 1) := by decide +kernel
theorem dX9_see_89 : decode cX9_see 89 = .ok (.iadd, 1) := by decide +kernel
theorem dX9_see_90 : decode cX9_see 90 = .ok (.iconst 1, 1) := by decide +kernel
theorem dX9_see_91 : decode cX9_see 91 = .ok (.iadd, 1) := by decide +kernel
theorem dX9_see_92 : decode cX9_see 92 = .ok (.iload_n 2, 1) := by decide +kernel
theorem dX9_see_93 : decode cX9_see 93 = .ok (.iastore, 1) := by decide +kernel
theorem dX9_see_94 : decode cX9_see 94 = .ok (.aload_n 0, 1) := by decide +kernel
theorem dX9_see_95 : decode cX9_see 95 = .ok (.getfield 11, 3) := by decide +kernel
theorem dX9_see_98 : decode cX9_see 98 = .ok (.bipush 17, 2) := by decide +kernel
theorem dX9_see_100 : decode cX9_see 100 = .ok (.dup2, 1) := by decide +kernel
theorem dX9_see_101 : decode cX9_see 101 = .ok (.iaload, 1) := by decide +kernel
theorem dX9_see_102 : decode cX9_see 102 = .ok (.iconst 1, 1) := by decide +kernel
theorem dX9_see_103 : decode cX9_see 103 = .ok (.iadd, 1) := by decide +kernel
theorem dX9_see_104 : decode cX9_see 104 = .ok (.iastore, 1) := by decide +kernel
theorem dX9_see_105 : decode cX9_see 105 = .ok (.aload_n 0, 1) := by decide +kernel
theorem dX9_see_106 : decode cX9_see 106 = .ok (.getfield 11, 3) := by decide +kernel
theorem dX9_see_109 : decode cX9_see 109 = .ok (.bipush 17, 2) := by decide +kernel
theorem dX9_see_111 : decode cX9_see 111 = .ok (.iaload, 1) := by decide +kernel
theorem dX9_see_112 : decode cX9_see 112 = .ok (.ireturn, 1) := by decide +kernel
theorem dX9_isAllSeen_0 : decode cX9_isAllSeen 0 = .ok (.aload_n 0, 1) := by decide +kernel
theorem dX9_isAllSeen_1 : decode cX9_isAllSeen 1 = .ok (.invokevirtual 188, 3) := by decide +kernel
theorem dX9_isAllSeen_4 : decode cX9_isAllSeen 4 = .ok (.istore_n 1, 1) := by decide +kernel
theorem dX9_isAllSeen_5 : decode cX9_isAllSeen 5 = .ok (.iconst 0, 1) := by decide +kernel
theorem dX9_isAllSeen_6 : decode cX9_isAllSeen 6 = .ok (.istore_n 2, 1) := by decide +kernel
theorem dX9_isAllSeen_7 : decode cX9_isAllSeen 7 = .ok (.iload_n 2, 1) := by decide +kernel
theorem dX9_isAllSeen_8 : decode cX9_isAllSeen 8 = .ok (.aload_n 0, 1) := by decide +kernel
theorem dX9_isAllSeen_9 : decode cX9_isAllSeen 9 = .ok (.getfield 11, 3) := by decide +kernel
theorem dX9_isAllSeen_12 : decode cX9_isAllSeen 12 = .ok (.bipush 17, 2) := by decide +kernel
theorem dX9_isAllSeen_14 : decode cX9_isAllSeen 14 = .ok (.iaload, 1) := by decide +kernel
theorem dX9_isAllSeen_15 : decode cX9_isAllSeen 15 = .ok (.if_icmp .ge 50, 3) := by decide +kernel
theorem dX9_isAllSeen_18 : decode cX9_isAllSeen 18 = .ok (.aload_n 0, 1) := by decide +kernel
theorem dX9_isAllSeen_19 : decode cX9_isAllSeen 19 = .ok (.getfield 11, 3) := by decide +kernel
theorem dX9_isAllSeen_22 : decode cX9_isAllSeen 22 = .ok (.bipush 18, 2) := by decide +kernel
theorem dX9_isAllSeen_24 : decode cX9_isAllSeen 24 = .ok (.iconst 2, 1) := by decide +kernel
theorem dX9_isAllSeen_25 : decode cX9_isAllSeen 25 = .ok (.iload_n 2, 1) := by decide +kernel
theorem dX9_isAllSeen_26 : decode cX9_isAllSeen 26 = .ok (.imul, 1) := by decide +kernel
theorem dX9_isAllSeen_27 : decode cX9_isAllSeen 27 = .ok (.iadd, 1) := by decide +kernel
theorem dX9_isAllSeen_28 : decode cX9_isAllSeen 28 = .ok (.iaload, 1) := by decide +kernel
theorem dX9_isAllSeen_29 : decode cX9_isAllSeen 29 = .ok (.istore_n 3, 1) := by decide +kernel
theorem dX9_isAllSeen_30 : decode cX9_isAllSeen 30 = .ok (.iload_n 3, 1) := by decide +kernel
theorem dX9_isAllSeen_31 : decode cX9_isAllSeen 31 = .ok (.iload_n 1, 1) := by decide +kernel
theorem dX9_isAllSeen_32 : decode cX9_isAllSeen 32 = .ok (.if_icmp .ge 25, 3) := by decide +kernel
theorem dX9_isAllSeen_35 : decode cX9_isAllSeen 35 = .ok (.aload_n 0, 1) := by decide +kernel
theorem dX9_isAllSeen_36 : decode cX9_isAllSeen 36 = .ok (.getfield 30, 3) := by decide +kernel
theorem dX9_isAllSeen_39 : decode cX9_isAllSeen 39 = .ok (.iload_n 3, 1) := by decide +kernel
theorem dX9_isAllSeen_40 : decode cX9_isAllSeen 40 = .ok (.iaload, 1) := by decide +kernel
theorem dX9_isAllSeen_41 : decode cX9_isAllSeen 41 = .ok (.aload_n 0, 1) := by decide +kernel
theorem dX9_isAllSeen_42 : decode cX9_isAllSeen 42 = .ok (.getfield 11, 3) := by decide +kernel
theorem dX9_isAllSeen_45 : decode cX9_isAllSeen 45 = .ok (.bipush 18, 2) := by decide +kernel
theorem dX9_isAllSeen_47 : decode cX9_isAllSeen 47 = .ok (.iconst 2, 1) := by decide +kernel
theorem dX9_isAllSeen_48 : decode cX9_isAllSeen 48 = .ok (.iload_n 2, 1) := by decide +kernel
theorem dX9_isAllSeen_49 : decode cX9_isAllSeen 49 = .ok (.imul, 1) := by decide +kernel
theorem dX9_isAllSeen_50 : decode cX9_isAllSeen 50 = .ok (.iadd, 1) := by decide +kernel
theorem dX9_isAllSeen_51 : decode cX9_isAllSeen 51 = .ok (.iconst 1, 1) := by decide +kernel
theorem dX9_isAllSeen_52 : decode cX9_isAllSeen 52 = .ok (.iadd, 1) := by decide +kernel
theorem dX9_isAllSeen_53 : decode cX9_isAllSeen 53 = .ok (.iaload, 1) := by decide +kernel
theorem dX9_isAllSeen_54 : decode cX9_isAllSeen 54 = .ok (.if_icmp .eq 5, 3) := by decide +kernel
theorem dX9_isAllSeen_57 : decode cX9_isAllSeen 57 = .ok (.iconst 0, 1) := by decide +kernel
theorem dX9_isAllSeen_58 : decode cX9_isAllSeen 58 = .ok (.ireturn, 1) := by decide +kernel
theorem dX9_isAllSeen_59 : decode cX9_isAllSeen 59 = .ok (.iinc 2 1, 3) := by decide +kernel
theorem dX9_isAllSeen_62 : decode cX9_isAllSeen 62 = .ok (.goto (-55), 3) := by decide +kernel
theorem dX9_isAllSeen_65 : decode cX9_isAllSeen 65 = .ok (.iconst 1, 1) := by decide +kernel
theorem dX9_isAllSeen_66 : decode cX9_isAllSeen 66 = .ok (.ireturn, 1) := by decide +kernel
theorem dX9_fits_0 : decode cX9_fits 0 = .ok (.aload_n 0, 1) := by decide +kernel
theorem dX9_fits_1 : decode cX9_fits 1 = .ok (.iload_n 1, 1) := by decide +kernel
theorem dX9_fits_2 : decode cX9_fits 2 = .ok (.invokevirtual 99, 3) := by decide +kernel
theorem dX9_fits_5 : decode cX9_fits 5 = .ok (.ifCond .eq 13, 3) := by decide +kernel
theorem dX9_fits_8 : decode cX9_fits 8 = .ok (.iload_n 2, 1) := by decide +kernel
theorem dX9_fits_9 : decode cX9_fits 9 = .ok (.i2l, 1) := by decide +kernel
theorem dX9_fits_10 : decode cX9_fits 10 = .ok (.lconst 0, 1) := by decide +kernel
theorem dX9_fits_11 : decode cX9_fits 11 = .ok (.lconst 1, 1) := by decide +kernel
theorem dX9_fits_12 : decode cX9_fits 12 = .ok (.invokestatic 66, 3) := by decide +kernel
theorem dX9_fits_15 : decode cX9_fits 15 = .ok (.ifCond .ne 5, 3) := by decide +kernel
theorem dX9_fits_18 : decode cX9_fits 18 = .ok (.iconst (-1), 1) := by decide +kernel
theorem dX9_fits_19 : decode cX9_fits 19 = .ok (.ireturn, 1) := by decide +kernel
theorem dX9_fits_20 : decode cX9_fits 20 = .ok (.aload_n 0, 1) := by decide +kernel
theorem dX9_fits_21 : decode cX9_fits 21 = .ok (.getfield 11, 3) := by decide +kernel
theorem dX9_fits_24 : decode cX9_fits 24 = .ok (.bipush 12, 2) := by decide +kernel
theorem dX9_fits_26 : decode cX9_fits 26 = .ok (.iload_n 1, 1) := by decide +kernel
theorem dX9_fits_27 : decode cX9_fits 27 = .ok (.iadd, 1) := by decide +kernel
theorem dX9_fits_28 : decode cX9_fits 28 = .ok (.iaload, 1) := by decide +kernel
theorem dX9_fits_29 : decode cX9_fits 29 = .ok (.istore_n 3, 1) := by decide +kernel
theorem dX9_fits_30 : decode cX9_fits 30 = .ok (.iconst 0, 1) := by decide +kernel
theorem dX9_fits_31 : decode cX9_fits 31 = .ok (.istore 4, 2) := by decide +kernel
theorem dX9_fits_33 : decode cX9_fits 33 = .ok (.bipush (-5), 2) := by decide +kernel
theorem dX9_fits_35 : decode cX9_fits 35 = .ok (.istore 5, 2) := by decide +kernel
theorem dX9_fits_37 : decode cX9_fits 37 = .ok (.iconst 1, 1) := by decide +kernel
theorem dX9_fits_38 : decode cX9_fits 38 = .ok (.istore 6, 2) := by decide +kernel
theorem dX9_fits_40 : decode cX9_fits 40 = .ok (.iload 6, 2) := by decide +kernel
theorem dX9_fits_42 : decode cX9_fits 42 = .ok (.bipush 40, 2) := by decide +kernel
theorem dX9_fits_44 : decode cX9_fits 44 = .ok (.if_icmp .gt 44, 3) := by decide +kernel
theorem dX9_fits_47 : decode cX9_fits 47 = .ok (.aload_n 0, 1) := by decide +kernel
theorem dX9_fits_48 : decode cX9_fits 48 = .ok (.getfield 11, 3) := by decide +kernel
theorem dX9_fits_51 : decode cX9_fits 51 = .ok (.bipush 12, 2) := by decide +kernel
theorem dX9_fits_53 : decode cX9_fits 53 = .ok (.iload_n 1, 1) := by decide +kernel
theorem dX9_fits_54 : decode cX9_fits 54 = .ok (.iadd, 1) := by decide +kernel
theorem dX9_fits_55 : decode cX9_fits 55 = .ok (.iload 6, 2) := by decide +kernel
theorem dX9_fits_57 : decode cX9_fits 57 = .ok (.iastore, 1) := by decide +kernel
theorem dX9_fits_58 : decode cX9_fits 58 = .ok (.aload_n 0, 1) := by decide +kernel
theorem dX9_fits_59 : decode cX9_fits 59 = .ok (.invokevirtual 222, 3) := by decide +kernel
theorem dX9_fits_62 : decode cX9_fits 62 = .ok (.ifCond .eq 20, 3) := by decide +kernel
theorem dX9_fits_65 : decode cX9_fits 65 = .ok (.iload 4, 2) := by decide +kernel
theorem dX9_fits_67 : decode cX9_fits 67 = .ok (.ifCond .ne 8, 3) := by decide +kernel
theorem dX9_fits_70 : decode cX9_fits 70 = .ok (.iload 6, 2) := by decide +kernel
theorem dX9_fits_72 : decode cX9_fits 72 = .ok (.goto 5, 3) := by decide +kernel
theorem dX9_fits_75 : decode cX9_fits 75 = .ok (.iload 5, 2) := by decide +kernel
theorem dX9_fits_77 : decode cX9_fits 77 = .ok (.istore 5, 2) := by decide +kernel
theorem dX9_fits_79 : decode cX9_fits 79 = .ok (.iinc 4 1, 3) := by decide +kernel
theorem dX9_fits_82 : decode cX9_fits 82 = .ok (.iinc 6 1, 3) := by decide +kernel
theorem dX9_fits_85 : decode cX9_fits 85 = .ok (.goto (-45), 3) := by decide +kernel
theorem dX9_fits_88 : decode cX9_fits 88 = .ok (.aload_n 0, 1) := by decide +kernel
theorem dX9_fits_89 : decode cX9_fits 89 = .ok (.getfield 11, 3) := by decide +kernel
theorem dX9_fits_92 : decode cX9_fits 92 = .ok (.bipush 12, 2) := by decide +kernel
theorem dX9_fits_94 : decode cX9_fits 94 = .ok (.iload_n 1, 1) := by decide +kernel
theorem dX9_fits_95 : decode cX9_fits 95 = .ok (.iadd, 1) := by decide +kernel
theorem dX9_fits_96 : decode cX9_fits 96 = .ok (.iload_n 3, 1) := by decide +kernel
theorem dX9_fits_97 : decode cX9_fits 97 = .ok (.iastore, 1) := by decide +kernel
theorem dX9_fits_98 : decode cX9_fits 98 = .ok (.iload_n 2, 1) := by decide +kernel
theorem dX9_fits_99 : decode cX9_fits 99 = .ok (.ifCond .ne 8, 3) := by decide +kernel
theorem dX9_fits_102 : decode cX9_fits 102 = .ok (.iload 4, 2) := by decide +kernel
theorem dX9_fits_104 : decode cX9_fits 104 = .ok (.goto 5, 3) := by decide +kernel
theorem dX9_fits_107 : decode cX9_fits 107 = .ok (.iload 5, 2) := by decide +kernel
theorem dX9_fits_109 : decode cX9_fits 109 = .ok (.ireturn, 1) := by decide +kernel
theorem dX9_told__0 : decode cX9_told_ 0 = .ok (.lload_n 0, 1) := by decide +kernel
theorem dX9_told__1 : decode cX9_told_ 1 = .ok (.lstore 5, 2) := by decide +kernel
theorem dX9_told__3 : decode cX9_told_ 3 = .ok (.lload_n 2, 1) := by decide +kernel
theorem dX9_told__4 : decode cX9_told_ 4 = .ok (.lstore 7, 2) := by decide +kernel
theorem dX9_told__6 : decode cX9_told_ 6 = .ok (.lload 7, 2) := by decide +kernel
theorem dX9_told__8 : decode cX9_told_ 8 = .ok (.lconst 0, 1) := by decide +kernel
theorem dX9_told__9 : decode cX9_told_ 9 = .ok (.lcmp, 1) := by decide +kernel
theorem dX9_told__10 : decode cX9_told_ 10 = .ok (.ifCond .eq 21, 3) := by decide +kernel
theorem dX9_told__13 : decode cX9_told_ 13 = .ok (.lload 5, 2) := by decide +kernel
theorem dX9_told__15 : decode cX9_told_ 15 = .ok (.lload 7, 2) := by decide +kernel
theorem dX9_told__17 : decode cX9_told_ 17 = .ok (.lrem, 1) := by decide +kernel
theorem dX9_told__18 : decode cX9_told_ 18 = .ok (.lstore 9, 2) := by decide +kernel
theorem dX9_told__20 : decode cX9_told_ 20 = .ok (.lload 7, 2) := by decide +kernel
theorem dX9_told__22 : decode cX9_told_ 22 = .ok (.lstore 5, 2) := by decide +kernel
theorem dX9_told__24 : decode cX9_told_ 24 = .ok (.lload 9, 2) := by decide +kernel
theorem dX9_told__26 : decode cX9_told_ 26 = .ok (.lstore 7, 2) := by decide +kernel
theorem dX9_told__28 : decode cX9_told_ 28 = .ok (.goto (-22), 3) := by decide +kernel
theorem dX9_told__31 : decode cX9_told_ 31 = .ok (.iload 4, 2) := by decide +kernel
theorem dX9_told__33 : decode cX9_told_ 33 = .ok (.ifCond .ne 10, 3) := by decide +kernel
theorem dX9_told__36 : decode cX9_told_ 36 = .ok (.lload_n 0, 1) := by decide +kernel
theorem dX9_told__37 : decode cX9_told_ 37 = .ok (.lload 5, 2) := by decide +kernel
theorem dX9_told__39 : decode cX9_told_ 39 = .ok (.ldiv, 1) := by decide +kernel
theorem dX9_told__40 : decode cX9_told_ 40 = .ok (.goto 7, 3) := by decide +kernel
theorem dX9_told__43 : decode cX9_told_ 43 = .ok (.lload_n 2, 1) := by decide +kernel
theorem dX9_told__44 : decode cX9_told_ 44 = .ok (.lload 5, 2) := by decide +kernel
theorem dX9_told__46 : decode cX9_told_ 46 = .ok (.ldiv, 1) := by decide +kernel
theorem dX9_told__47 : decode cX9_told_ 47 = .ok (.lreturn, 1) := by decide +kernel
theorem dX9_odds_0 : decode cX9_odds 0 = .ok (.iload_n 1, 1) := by decide +kernel
theorem dX9_odds_1 : decode cX9_odds 1 = .ok (.i2l, 1) := by decide +kernel
theorem dX9_odds_2 : decode cX9_odds 2 = .ok (.lconst 0, 1) := by decide +kernel
theorem dX9_odds_3 : decode cX9_odds 3 = .ok (.lconst 1, 1) := by decide +kernel
theorem dX9_odds_4 : decode cX9_odds 4 = .ok (.invokestatic 66, 3) := by decide +kernel
theorem dX9_odds_7 : decode cX9_odds 7 = .ok (.ifCond .ne 7, 3) := by decide +kernel
theorem dX9_odds_10 : decode cX9_odds 10 = .ok (.ldc2_w 225, 3) := by decide +kernel
theorem dX9_odds_13 : decode cX9_odds 13 = .ok (.lreturn, 1) := by decide +kernel
theorem dX9_odds_14 : decode cX9_odds 14 = .ok (.aload_n 0, 1) := by decide +kernel
theorem dX9_odds_15 : decode cX9_odds 15 = .ok (.invokevirtual 188, 3) := by decide +kernel
theorem dX9_odds_18 : decode cX9_odds 18 = .ok (.istore_n 2, 1) := by decide +kernel
theorem dX9_odds_19 : decode cX9_odds 19 = .ok (.iconst 0, 1) := by decide +kernel
theorem dX9_odds_20 : decode cX9_odds 20 = .ok (.istore_n 3, 1) := by decide +kernel
theorem dX9_odds_21 : decode cX9_odds 21 = .ok (.iconst 0, 1) := by decide +kernel
theorem dX9_odds_22 : decode cX9_odds 22 = .ok (.istore 4, 2) := by decide +kernel
theorem dX9_odds_24 : decode cX9_odds 24 = .ok (.iload 4, 2) := by decide +kernel
theorem dX9_odds_26 : decode cX9_odds 26 = .ok (.iload_n 2, 1) := by decide +kernel
theorem dX9_odds_27 : decode cX9_odds 27 = .ok (.if_icmp .ge 32, 3) := by decide +kernel
theorem dX9_odds_30 : decode cX9_odds 30 = .ok (.iload_n 3, 1) := by decide +kernel
theorem dX9_odds_31 : decode cX9_odds 31 = .ok (.aload_n 0, 1) := by decide +kernel
theorem dX9_odds_32 : decode cX9_odds 32 = .ok (.getfield 30, 3) := by decide +kernel
theorem dX9_odds_35 : decode cX9_odds 35 = .ok (.iload 4, 2) := by decide +kernel
theorem dX9_odds_37 : decode cX9_odds 37 = .ok (.iaload, 1) := by decide +kernel
theorem dX9_odds_38 : decode cX9_odds 38 = .ok (.iload 4, 2) := by decide +kernel
theorem dX9_odds_40 : decode cX9_odds 40 = .ok (.if_icmp .ge 7, 3) := by decide +kernel
theorem dX9_odds_43 : decode cX9_odds 43 = .ok (.iconst 1, 1) := by decide +kernel
theorem dX9_odds_44 : decode cX9_odds 44 = .ok (.goto 4, 3) := by decide +kernel
theorem dX9_odds_47 : decode cX9_odds 47 = .ok (.iconst 0, 1) := by decide +kernel
theorem dX9_odds_48 : decode cX9_odds 48 = .ok (.invokestatic 181, 3) := by decide +kernel
theorem dX9_odds_51 : decode cX9_odds 51 = .ok (.iadd, 1) := by decide +kernel
theorem dX9_odds_52 : decode cX9_odds 52 = .ok (.istore_n 3, 1) := by decide +kernel
theorem dX9_odds_53 : decode cX9_odds 53 = .ok (.iinc 4 1, 3) := by decide +kernel
theorem dX9_odds_56 : decode cX9_odds 56 = .ok (.goto (-32), 3) := by decide +kernel
theorem dX9_odds_59 : decode cX9_odds 59 = .ok (.iload_n 3, 1) := by decide +kernel
theorem dX9_odds_60 : decode cX9_odds 60 = .ok (.i2l, 1) := by decide +kernel
theorem dX9_odds_61 : decode cX9_odds 61 = .ok (.iload_n 2, 1) := by decide +kernel
theorem dX9_odds_62 : decode cX9_odds 62 = .ok (.i2l, 1) := by decide +kernel
theorem dX9_odds_63 : decode cX9_odds 63 = .ok (.iload_n 1, 1) := by decide +kernel
theorem dX9_odds_64 : decode cX9_odds 64 = .ok (.invokestatic 227, 3) := by decide +kernel
theorem dX9_odds_67 : decode cX9_odds 67 = .ok (.lreturn, 1) := by decide +kernel
theorem dX9_mean_0 : decode cX9_mean 0 = .ok (.iload_n 1, 1) := by decide +kernel
theorem dX9_mean_1 : decode cX9_mean 1 = .ok (.i2l, 1) := by decide +kernel
theorem dX9_mean_2 : decode cX9_mean 2 = .ok (.lconst 0, 1) := by decide +kernel
theorem dX9_mean_3 : decode cX9_mean 3 = .ok (.lconst 1, 1) := by decide +kernel
theorem dX9_mean_4 : decode cX9_mean 4 = .ok (.invokestatic 66, 3) := by decide +kernel
theorem dX9_mean_7 : decode cX9_mean 7 = .ok (.ifCond .ne 7, 3) := by decide +kernel
theorem dX9_mean_10 : decode cX9_mean 10 = .ok (.ldc2_w 225, 3) := by decide +kernel
theorem dX9_mean_13 : decode cX9_mean 13 = .ok (.lreturn, 1) := by decide +kernel
theorem dX9_mean_14 : decode cX9_mean 14 = .ok (.aload_n 0, 1) := by decide +kernel
theorem dX9_mean_15 : decode cX9_mean 15 = .ok (.invokevirtual 188, 3) := by decide +kernel
theorem dX9_mean_18 : decode cX9_mean 18 = .ok (.istore_n 2, 1) := by decide +kernel
theorem dX9_mean_19 : decode cX9_mean 19 = .ok (.iconst 0, 1) := by decide +kernel
theorem dX9_mean_20 : decode cX9_mean 20 = .ok (.istore_n 3, 1) := by decide +kernel
theorem dX9_mean_21 : decode cX9_mean 21 = .ok (.iconst 0, 1) := by decide +kernel
theorem dX9_mean_22 : decode cX9_mean 22 = .ok (.istore 4, 2) := by decide +kernel
theorem dX9_mean_24 : decode cX9_mean 24 = .ok (.iload 4, 2) := by decide +kernel
theorem dX9_mean_26 : decode cX9_mean 26 = .ok (.iload_n 2, 1) := by decide +kernel
theorem dX9_mean_27 : decode cX9_mean 27 = .ok (.if_icmp .ge 47, 3) := by decide +kernel
theorem dX9_mean_30 : decode cX9_mean 30 = .ok (.iload_n 3, 1) := by decide +kernel
theorem dX9_mean_31 : decode cX9_mean 31 = .ok (.aload_n 0, 1) := by decide +kernel
theorem dX9_mean_32 : decode cX9_mean 32 = .ok (.getfield 30, 3) := by decide +kernel
theorem dX9_mean_35 : decode cX9_mean 35 = .ok (.iload 4, 2) := by decide +kernel
theorem dX9_mean_37 : decode cX9_mean 37 = .ok (.iaload, 1) := by decide +kernel
theorem dX9_mean_38 : decode cX9_mean 38 = .ok (.iload 4, 2) := by decide +kernel
theorem dX9_mean_40 : decode cX9_mean 40 = .ok (.if_icmp .ge 16, 3) := by decide +kernel
theorem dX9_mean_43 : decode cX9_mean 43 = .ok (.iload 4, 2) := by decide +kernel
theorem dX9_mean_45 : decode cX9_mean 45 = .ok (.aload_n 0, 1) := by decide +kernel
theorem dX9_mean_46 : decode cX9_mean 46 = .ok (.getfield 30, 3) := by decide +kernel
theorem dX9_mean_49 : decode cX9_mean 49 = .ok (.iload 4, 2) := by decide +kernel
theorem dX9_mean_51 : decode cX9_mean 51 = .ok (.iaload, 1) := by decide +kernel
theorem dX9_mean_52 : decode cX9_mean 52 = .ok (.isub, 1) := by decide +kernel
theorem dX9_mean_53 : decode cX9_mean 53 = .ok (.goto 13, 3) := by decide +kernel
theorem dX9_mean_56 : decode cX9_mean 56 = .ok (.aload_n 0, 1) := by decide +kernel
theorem dX9_mean_57 : decode cX9_mean 57 = .ok (.getfield 30, 3) := by decide +kernel
theorem dX9_mean_60 : decode cX9_mean 60 = .ok (.iload 4, 2) := by decide +kernel
theorem dX9_mean_62 : decode cX9_mean 62 = .ok (.iaload, 1) := by decide +kernel
theorem dX9_mean_63 : decode cX9_mean 63 = .ok (.iload 4, 2) := by decide +kernel
theorem dX9_mean_65 : decode cX9_mean 65 = .ok (.isub, 1) := by decide +kernel
theorem dX9_mean_66 : decode cX9_mean 66 = .ok (.iadd, 1) := by decide +kernel
theorem dX9_mean_67 : decode cX9_mean 67 = .ok (.istore_n 3, 1) := by decide +kernel
theorem dX9_mean_68 : decode cX9_mean 68 = .ok (.iinc 4 1, 3) := by decide +kernel
theorem dX9_mean_71 : decode cX9_mean 71 = .ok (.goto (-47), 3) := by decide +kernel
theorem dX9_mean_74 : decode cX9_mean 74 = .ok (.iload_n 3, 1) := by decide +kernel
theorem dX9_mean_75 : decode cX9_mean 75 = .ok (.i2l, 1) := by decide +kernel
theorem dX9_mean_76 : decode cX9_mean 76 = .ok (.iload_n 2, 1) := by decide +kernel
theorem dX9_mean_77 : decode cX9_mean 77 = .ok (.i2l, 1) := by decide +kernel
theorem dX9_mean_78 : decode cX9_mean 78 = .ok (.iload_n 1, 1) := by decide +kernel
theorem dX9_mean_79 : decode cX9_mean 79 = .ok (.invokestatic 227, 3) := by decide +kernel
theorem dX9_mean_82 : decode cX9_mean 82 = .ok (.lreturn, 1) := by decide +kernel
theorem dX9_event_0 : decode cX9_event 0 = .ok (.iload_n 1, 1) := by decide +kernel
theorem dX9_event_1 : decode cX9_event 1 = .ok (.iconst (-1), 1) := by decide +kernel
theorem dX9_event_2 : decode cX9_event 2 = .ok (.if_icmp .ne 13, 3) := by decide +kernel
theorem dX9_event_5 : decode cX9_event 5 = .ok (.aload_n 0, 1) := by decide +kernel
theorem dX9_event_6 : decode cX9_event 6 = .ok (.getfield 11, 3) := by decide +kernel
theorem dX9_event_9 : decode cX9_event 9 = .ok (.bipush 26, 2) := by decide +kernel
theorem dX9_event_11 : decode cX9_event 11 = .ok (.iconst 0, 1) := by decide +kernel
theorem dX9_event_12 : decode cX9_event 12 = .ok (.iastore, 1) := by decide +kernel
theorem dX9_event_13 : decode cX9_event 13 = .ok (.iconst 0, 1) := by decide +kernel
theorem dX9_event_14 : decode cX9_event 14 = .ok (.ireturn, 1) := by decide +kernel
theorem dX9_event_15 : decode cX9_event 15 = .ok (.iload_n 1, 1) := by decide +kernel
theorem dX9_event_16 : decode cX9_event 16 = .ok (.i2l, 1) := by decide +kernel
theorem dX9_event_17 : decode cX9_event 17 = .ok (.lconst 0, 1) := by decide +kernel
theorem dX9_event_18 : decode cX9_event 18 = .ok (.ldc2_w 95, 3) := by decide +kernel
theorem dX9_event_21 : decode cX9_event 21 = .ok (.invokestatic 66, 3) := by decide +kernel
theorem dX9_event_24 : decode cX9_event 24 = .ok (.ifCond .eq 31, 3) := by decide +kernel
theorem dX9_event_27 : decode cX9_event 27 = .ok (.iload_n 1, 1) := by decide +kernel
theorem dX9_event_28 : decode cX9_event 28 = .ok (.iconst 1, 1) := by decide +kernel
theorem dX9_event_29 : decode cX9_event 29 = .ok (.if_icmp .ne 11, 3) := by decide +kernel
theorem dX9_event_32 : decode cX9_event 32 = .ok (.aload_n 0, 1) := by decide +kernel
theorem dX9_event_33 : decode cX9_event 33 = .ok (.iload_n 2, 1) := by decide +kernel
theorem dX9_event_34 : decode cX9_event 34 = .ok (.invokevirtual 99, 3) := by decide +kernel
theorem dX9_event_37 : decode cX9_event 37 = .ok (.ifCond .eq 18, 3) := by decide +kernel
theorem dX9_event_40 : decode cX9_event 40 = .ok (.iload_n 1, 1) := by decide +kernel
theorem dX9_event_41 : decode cX9_event 41 = .ok (.iconst 2, 1) := by decide +kernel
theorem dX9_event_42 : decode cX9_event 42 = .ok (.if_icmp .ne 15, 3) := by decide +kernel
theorem dX9_event_45 : decode cX9_event 45 = .ok (.iload_n 2, 1) := by decide +kernel
theorem dX9_event_46 : decode cX9_event 46 = .ok (.i2l, 1) := by decide +kernel
theorem dX9_event_47 : decode cX9_event 47 = .ok (.lconst 0, 1) := by decide +kernel
theorem dX9_event_48 : decode cX9_event 48 = .ok (.lconst 1, 1) := by decide +kernel
theorem dX9_event_49 : decode cX9_event 49 = .ok (.invokestatic 66, 3) := by decide +kernel
theorem dX9_event_52 : decode cX9_event 52 = .ok (.ifCond .ne 5, 3) := by decide +kernel
theorem dX9_event_55 : decode cX9_event 55 = .ok (.iconst (-1), 1) := by decide +kernel
theorem dX9_event_56 : decode cX9_event 56 = .ok (.ireturn, 1) := by decide +kernel
theorem dX9_event_57 : decode cX9_event 57 = .ok (.iload_n 1, 1) := by decide +kernel
theorem dX9_event_58 : decode cX9_event 58 = .ok (.ifCond .ne 10, 3) := by decide +kernel
theorem dX9_event_61 : decode cX9_event 61 = .ok (.iload_n 2, 1) := by decide +kernel
theorem dX9_event_62 : decode cX9_event 62 = .ok (.ifCond .eq 6, 3) := by decide +kernel
theorem dX9_event_65 : decode cX9_event 65 = .ok (.bipush (-2), 2) := by decide +kernel
theorem dX9_event_67 : decode cX9_event 67 = .ok (.ireturn, 1) := by decide +kernel
theorem dX9_event_68 : decode cX9_event 68 = .ok (.aload_n 0, 1) := by decide +kernel
theorem dX9_event_69 : decode cX9_event 69 = .ok (.getfield 11, 3) := by decide +kernel
theorem dX9_event_72 : decode cX9_event 72 = .ok (.bipush 26, 2) := by decide +kernel
theorem dX9_event_74 : decode cX9_event 74 = .ok (.iaload, 1) := by decide +kernel
theorem dX9_event_75 : decode cX9_event 75 = .ok (.bipush 8, 2) := by decide +kernel
theorem dX9_event_77 : decode cX9_event 77 = .ok (.if_icmp .ne 6, 3) := by decide +kernel
theorem dX9_event_80 : decode cX9_event 80 = .ok (.bipush (-4), 2) := by decide +kernel
theorem dX9_event_82 : decode cX9_event 82 = .ok (.ireturn, 1) := by decide +kernel
theorem dX9_event_83 : decode cX9_event 83 = .ok (.aload_n 0, 1) := by decide +kernel
theorem dX9_event_84 : decode cX9_event 84 = .ok (.getfield 11, 3) := by decide +kernel
theorem dX9_event_87 : decode cX9_event 87 = .ok (.bipush 27, 2) := by decide +kernel
theorem dX9_event_89 : decode cX9_event 89 = .ok (.iconst 2, 1) := by decide +kernel
theorem dX9_event_90 : decode cX9_event 90 = .ok (.aload_n 0, 1) := by decide +kernel
theorem dX9_event_91 : decode cX9_event 91 = .ok (.getfield 11, 3) := by decide +kernel
theorem dX9_event_94 : decode cX9_event 94 = .ok (.bipush 26, 2) := by decide +kernel
theorem dX9_event_96 : decode cX9_event 96 = .ok (.iaload, 1) := by decide +kernel
theorem dX9_event_97 : decode cX9_event 97 = .ok (.imul, 1) := by decide +kernel
theorem dX9_event_98 : decode cX9_event 98 = .ok (.iadd, 1) := by decide +kernel
theorem dX9_event_99 : decode cX9_event 99 = .ok (.iload_n 1, 1) := by decide +kernel
theorem dX9_event_100 : decode cX9_event 100 = .ok (.iastore, 1) := by decide +kernel
theorem dX9_event_101 : decode cX9_event 101 = .ok (.aload_n 0, 1) := by decide +kernel
theorem dX9_event_102 : decode cX9_event 102 = .ok (.getfield 11, 3) := by decide +kernel
theorem dX9_event_105 : decode cX9_event 105 = .ok (.bipush 27, 2) := by decide +kernel
theorem dX9_event_107 : decode cX9_event 107 = .ok (.iconst 2, 1) := by decide +kernel
theorem dX9_event_108 : decode cX9_event 108 = .ok (.aload_n 0, 1) := by decide +kernel
theorem dX9_event_109 : decode cX9_event 109 = .ok (.getfield 11, 3) := by decide +kernel
theorem dX9_event_112 : decode cX9_event 112 = .ok (.bipush 26, 2) := by decide +kernel
theorem dX9_event_114 : decode cX9_event 114 = .ok (.iaload, 1) := by decide +kernel
theorem dX9_event_115 : decode cX9_event 115 = .ok (.imul, 1) := by decide +kernel
theorem dX9_event_116 : decode cX9_event 116 = .ok (.iadd, 1) := by decide +kernel
theorem dX9_event_117 : decode cX9_event 117 = .ok (.iconst 1, 1) := by decide +kernel
theorem dX9_event_118 : decode cX9_event 118 = .ok (.iadd, 1) := by decide +kernel
theorem dX9_event_119 : decode cX9_event 119 = .ok (.iload_n 2, 1) := by decide +kernel
theorem dX9_event_120 : decode cX9_event 120 = .ok (.iastore, 1) := by decide +kernel
theorem dX9_event_121 : decode cX9_event 121 = .ok (.aload_n 0, 1) := by decide +kernel
theorem dX9_event_122 : decode cX9_event 122 = .ok (.getfield 11, 3) := by decide +kernel
theorem dX9_event_125 : decode cX9_event 125 = .ok (.bipush 26, 2) := by decide +kernel
theorem dX9_event_127 : decode cX9_event 127 = .ok (.dup2, 1) := by decide +kernel
theorem dX9_event_128 : decode cX9_event 128 = .ok (.iaload, 1) := by decide +kernel
theorem dX9_event_129 : decode cX9_event 129 = .ok (.iconst 1, 1) := by decide +kernel
theorem dX9_event_130 : decode cX9_event 130 = .ok (.iadd, 1) := by decide +kernel
theorem dX9_event_131 : decode cX9_event 131 = .ok (.iastore, 1) := by decide +kernel
theorem dX9_event_132 : decode cX9_event 132 = .ok (.aload_n 0, 1) := by decide +kernel
theorem dX9_event_133 : decode cX9_event 133 = .ok (.getfield 11, 3) := by decide +kernel
theorem dX9_event_136 : decode cX9_event 136 = .ok (.bipush 26, 2) := by decide +kernel
theorem dX9_event_138 : decode cX9_event 138 = .ok (.iaload, 1) := by decide +kernel
theorem dX9_event_139 : decode cX9_event 139 = .ok (.ireturn, 1) := by decide +kernel
theorem dX9_happens_0 : decode cX9_happens 0 = .ok (.iload_n 1, 1) := by decide +kernel
theorem dX9_happens_1 : decode cX9_happens 1 = .ok (.ifCond .ne 19, 3) := by decide +kernel
theorem dX9_happens_4 : decode cX9_happens 4 = .ok (.aload_n 0, 1) := by decide +kernel
theorem dX9_happens_5 : decode cX9_happens 5 = .ok (.invokevirtual 111, 3) := by decide +kernel
theorem dX9_happens_8 : decode cX9_happens 8 = .ok (.iconst (-1), 1) := by decide +kernel
theorem dX9_happens_9 : decode cX9_happens 9 = .ok (.if_icmp .eq 11, 3) := by decide +kernel
theorem dX9_happens_12 : decode cX9_happens 12 = .ok (.aload_n 0, 1) := by decide +kernel
theorem dX9_happens_13 : decode cX9_happens 13 = .ok (.aload_n 0, 1) := by decide +kernel
theorem dX9_happens_14 : decode cX9_happens 14 = .ok (.invokevirtual 111, 3) := by decide +kernel
theorem dX9_happens_17 : decode cX9_happens 17 = .ok (.invokevirtual 115, 3) := by decide +kernel
theorem dX9_happens_20 : decode cX9_happens 20 = .ok (.iload_n 1, 1) := by decide +kernel
theorem dX9_happens_21 : decode cX9_happens 21 = .ok (.iconst 1, 1) := by decide +kernel
theorem dX9_happens_22 : decode cX9_happens 22 = .ok (.if_icmp .ne 38, 3) := by decide +kernel
theorem dX9_happens_25 : decode cX9_happens 25 = .ok (.aload_n 0, 1) := by decide +kernel
theorem dX9_happens_26 : decode cX9_happens 26 = .ok (.iload_n 2, 1) := by decide +kernel
theorem dX9_happens_27 : decode cX9_happens 27 = .ok (.invokevirtual 99, 3) := by decide +kernel
theorem dX9_happens_30 : decode cX9_happens 30 = .ok (.ifCond .eq 30, 3) := by decide +kernel
theorem dX9_happens_33 : decode cX9_happens 33 = .ok (.aload_n 0, 1) := by decide +kernel
theorem dX9_happens_34 : decode cX9_happens 34 = .ok (.getfield 11, 3) := by decide +kernel
theorem dX9_happens_37 : decode cX9_happens 37 = .ok (.bipush 12, 2) := by decide +kernel
theorem dX9_happens_39 : decode cX9_happens 39 = .ok (.iload_n 2, 1) := by decide +kernel
theorem dX9_happens_40 : decode cX9_happens 40 = .ok (.iadd, 1) := by decide +kernel
theorem dX9_happens_41 : decode cX9_happens 41 = .ok (.iaload, 1) := by decide +kernel
theorem dX9_happens_42 : decode cX9_happens 42 = .ok (.bipush 99, 2) := by decide +kernel
theorem dX9_happens_44 : decode cX9_happens 44 = .ok (.if_icmp .ge 16, 3) := by decide +kernel
theorem dX9_happens_47 : decode cX9_happens 47 = .ok (.aload_n 0, 1) := by decide +kernel
theorem dX9_happens_48 : decode cX9_happens 48 = .ok (.getfield 11, 3) := by decide +kernel
theorem dX9_happens_51 : decode cX9_happens 51 = .ok (.bipush 12, 2) := by decide +kernel
theorem dX9_happens_53 : decode cX9_happens 53 = .ok (.iload_n 2, 1) := by decide +kernel
theorem dX9_happens_54 : decode cX9_happens 54 = .ok (.iadd, 1) := by decide +kernel
theorem dX9_happens_55 : decode cX9_happens 55 = .ok (.dup2, 1) := by decide +kernel
theorem dX9_happens_56 : decode cX9_happens 56 = .ok (.iaload, 1) := by decide +kernel
theorem dX9_happens_57 : decode cX9_happens 57 = .ok (.iconst 1, 1) := by decide +kernel
theorem dX9_happens_58 : decode cX9_happens 58 = .ok (.iadd, 1) := by decide +kernel
theorem dX9_happens_59 : decode cX9_happens 59 = .ok (.iastore, 1) := by decide +kernel
theorem dX9_happens_60 : decode cX9_happens 60 = .ok (.iload_n 1, 1) := by decide +kernel
theorem dX9_happens_61 : decode cX9_happens 61 = .ok (.iconst 2, 1) := by decide +kernel
theorem dX9_happens_62 : decode cX9_happens 62 = .ok (.if_icmp .ne 94, 3) := by decide +kernel
theorem dX9_happens_65 : decode cX9_happens 65 = .ok (.aload_n 0, 1) := by decide +kernel
theorem dX9_happens_66 : decode cX9_happens 66 = .ok (.iload_n 2, 1) := by decide +kernel
theorem dX9_happens_67 : decode cX9_happens 67 = .ok (.ifCond .ne 7, 3) := by decide +kernel
theorem dX9_happens_70 : decode cX9_happens 70 = .ok (.iconst 2, 1) := by decide +kernel
theorem dX9_happens_71 : decode cX9_happens 71 = .ok (.goto 5, 3) := by decide +kernel
theorem dX9_happens_74 : decode cX9_happens 74 = .ok (.bipush 7, 2) := by decide +kernel
theorem dX9_happens_76 : decode cX9_happens 76 = .ok (.invokevirtual 74, 3) := by decide +kernel
theorem dX9_happens_79 : decode cX9_happens 79 = .ok (.istore_n 3, 1) := by decide +kernel
theorem dX9_happens_80 : decode cX9_happens 80 = .ok (.iload_n 2, 1) := by decide +kernel
theorem dX9_happens_81 : decode cX9_happens 81 = .ok (.ifCond .ne 8, 3) := by decide +kernel
theorem dX9_happens_84 : decode cX9_happens 84 = .ok (.bipush 7, 2) := by decide +kernel
theorem dX9_happens_86 : decode cX9_happens 86 = .ok (.goto 4, 3) := by decide +kernel
theorem dX9_happens_89 : decode cX9_happens 89 = .ok (.iconst 2, 1) := by decide +kernel
theorem dX9_happens_90 : decode cX9_happens 90 = .ok (.istore 4, 2) := by decide +kernel
theorem dX9_happens_92 : decode cX9_happens 92 = .ok (.aload_n 0, 1) := by decide +kernel
theorem dX9_happens_93 : decode cX9_happens 93 = .ok (.iload 4, 2) := by decide +kernel
theorem dX9_happens_95 : decode cX9_happens 95 = .ok (.iload_n 3, 1) := by decide +kernel
theorem dX9_happens_96 : decode cX9_happens 96 = .ok (.invokevirtual 78, 3) := by decide +kernel
theorem dX9_happens_99 : decode cX9_happens 99 = .ok (.istore 5, 2) := by decide +kernel
theorem dX9_happens_101 : decode cX9_happens 101 = .ok (.iload 5, 2) := by decide +kernel
theorem dX9_happens_103 : decode cX9_happens 103 = .ok (.iconst 1, 1) := by decide +kernel
theorem dX9_happens_104 : decode cX9_happens 104 = .ok (.iadd, 1) := by decide +kernel
theorem dX9_happens_105 : decode cX9_happens 105 = .ok (.aload_n 0, 1) := by decide +kernel
theorem dX9_happens_106 : decode cX9_happens 106 = .ok (.getfield 11, 3) := by decide +kernel
theorem dX9_happens_109 : decode cX9_happens 109 = .ok (.iconst 0, 1) := by decide +kernel
theorem dX9_happens_110 : decode cX9_happens 110 = .ok (.iaload, 1) := by decide +kernel
theorem dX9_happens_111 : decode cX9_happens 111 = .ok (.if_icmp .ge 45, 3) := by decide +kernel
theorem dX9_happens_114 : decode cX9_happens 114 = .ok (.aload_n 0, 1) := by decide +kernel
theorem dX9_happens_115 : decode cX9_happens 115 = .ok (.getfield 11, 3) := by decide +kernel
theorem dX9_happens_118 : decode cX9_happens 118 = .ok (.bipush 12, 2) := by decide +kernel
theorem dX9_happens_120 : decode cX9_happens 120 = .ok (.iload_n 3, 1) := by decide +kernel
theorem dX9_happens_121 : decode cX9_happens 121 = .ok (.iadd, 1) := by decide +kernel
theorem dX9_happens_122 : decode cX9_happens 122 = .ok (.iaload, 1) := by decide +kernel
theorem dX9_happens_123 : decode cX9_happens 123 = .ok (.aload_n 0, 1) := by decide +kernel
theorem dX9_happens_124 : decode cX9_happens 124 = .ok (.getfield 11, 3) := by decide +kernel
theorem dX9_happens_127 : decode cX9_happens 127 = .ok (.bipush 12, 2) := by decide +kernel
theorem dX9_happens_129 : decode cX9_happens 129 = .ok (.aload_n 0, 1) := by decide +kernel
theorem dX9_happens_130 : decode cX9_happens 130 = .ok (.getfield 11, 3) := by decide +kernel
theorem dX9_happens_133 : decode cX9_happens 133 = .ok (.iload 4, 2) := by decide +kernel
theorem dX9_happens_135 : decode cX9_happens 135 = .ok (.iload 5, 2) := by decide +kernel
theorem dX9_happens_137 : decode cX9_happens 137 = .ok (.iadd, 1) := by decide +kernel
theorem dX9_happens_138 : decode cX9_happens 138 = .ok (.iconst 1, 1) := by decide +kernel
theorem dX9_happens_139 : decode cX9_happens 139 = .ok (.iadd, 1) := by decide +kernel
theorem dX9_happens_140 : decode cX9_happens 140 = .ok (.iaload, 1) := by decide +kernel
theorem dX9_happens_141 : decode cX9_happens 141 = .ok (.iadd, 1) := by decide +kernel
theorem dX9_happens_142 : decode cX9_happens 142 = .ok (.iaload, 1) := by decide +kernel
theorem dX9_happens_143 : decode cX9_happens 143 = .ok (.iadd, 1) := by decide +kernel
theorem dX9_happens_144 : decode cX9_happens 144 = .ok (.bipush 99, 2) := by decide +kernel
theorem dX9_happens_146 : decode cX9_happens 146 = .ok (.if_icmp .gt 10, 3) := by decide +kernel
theorem dX9_happens_149 : decode cX9_happens 149 = .ok (.aload_n 0, 1) := by decide +kernel
theorem dX9_happens_150 : decode cX9_happens 150 = .ok (.iload_n 2, 1) := by decide +kernel
theorem dX9_happens_151 : decode cX9_happens 151 = .ok (.invokevirtual 118, 3) := by decide +kernel
theorem dX9_happens_154 : decode cX9_happens 154 = .ok (.istore 6, 2) := by decide +kernel
theorem dX9_happens_156 : decode cX9_happens 156 = .ok (.return_, 1) := by decide +kernel
theorem dX9_after_0 : decode cX9_after 0 = .ok (.iload_n 1, 1) := by decide +kernel
theorem dX9_after_1 : decode cX9_after 1 = .ok (.i2l, 1) := by decide +kernel
theorem dX9_after_2 : decode cX9_after 2 = .ok (.lconst 0, 1) := by decide +kernel
theorem dX9_after_3 : decode cX9_after 3 = .ok (.ldc2_w 95, 3) := by decide +kernel
theorem dX9_after_6 : decode cX9_after 6 = .ok (.invokestatic 66, 3) := by decide +kernel
theorem dX9_after_9 : decode cX9_after 9 = .ok (.ifCond .ne 5, 3) := by decide +kernel
theorem dX9_after_12 : decode cX9_after 12 = .ok (.iconst (-1), 1) := by decide +kernel
theorem dX9_after_13 : decode cX9_after 13 = .ok (.ireturn, 1) := by decide +kernel
theorem dX9_after_14 : decode cX9_after 14 = .ok (.aload_n 0, 1) := by decide +kernel
theorem dX9_after_15 : decode cX9_after 15 = .ok (.getfield 11, 3) := by decide +kernel
theorem dX9_after_18 : decode cX9_after 18 = .ok (.iconst 0, 1) := by decide +kernel
theorem dX9_after_19 : decode cX9_after 19 = .ok (.aload_n 0, 1) := by decide +kernel
theorem dX9_after_20 : decode cX9_after 20 = .ok (.getfield 43, 3) := by decide +kernel
theorem dX9_after_23 : decode cX9_after 23 = .ok (.iconst 0, 1) := by decide +kernel
theorem dX9_after_24 : decode cX9_after 24 = .ok (.bipush 60, 2) := by decide +kernel
theorem dX9_after_26 : decode cX9_after 26 = .ok (.invokestatic 89, 3) := by decide +kernel
theorem dX9_after_29 : decode cX9_after 29 = .ok (.iconst 0, 1) := by decide +kernel
theorem dX9_after_30 : decode cX9_after 30 = .ok (.istore_n 2, 1) := by decide +kernel
theorem dX9_after_31 : decode cX9_after 31 = .ok (.iload_n 2, 1) := by decide +kernel
theorem dX9_after_32 : decode cX9_after 32 = .ok (.aload_n 0, 1) := by decide +kernel
theorem dX9_after_33 : decode cX9_after 33 = .ok (.getfield 43, 3) := by decide +kernel
theorem dX9_after_36 : decode cX9_after 36 = .ok (.bipush 26, 2) := by decide +kernel
theorem dX9_after_38 : decode cX9_after 38 = .ok (.iaload, 1) := by decide +kernel
theorem dX9_after_39 : decode cX9_after 39 = .ok (.if_icmp .ge 37, 3) := by decide +kernel
theorem dX9_after_42 : decode cX9_after 42 = .ok (.aload_n 0, 1) := by decide +kernel
theorem dX9_after_43 : decode cX9_after 43 = .ok (.aload_n 0, 1) := by decide +kernel
theorem dX9_after_44 : decode cX9_after 44 = .ok (.getfield 43, 3) := by decide +kernel
theorem dX9_after_47 : decode cX9_after 47 = .ok (.bipush 27, 2) := by decide +kernel
theorem dX9_after_49 : decode cX9_after 49 = .ok (.iconst 2, 1) := by decide +kernel
theorem dX9_after_50 : decode cX9_after 50 = .ok (.iload_n 2, 1) := by decide +kernel
theorem dX9_after_51 : decode cX9_after 51 = .ok (.imul, 1) := by decide +kernel
theorem dX9_after_52 : decode cX9_after 52 = .ok (.iadd, 1) := by decide +kernel
theorem dX9_after_53 : decode cX9_after 53 = .ok (.iaload, 1) := by decide +kernel
theorem dX9_after_54 : decode cX9_after 54 = .ok (.aload_n 0, 1) := by decide +kernel
theorem dX9_after_55 : decode cX9_after 55 = .ok (.getfield 43, 3) := by decide +kernel
theorem dX9_after_58 : decode cX9_after 58 = .ok (.bipush 27, 2) := by decide +kernel
