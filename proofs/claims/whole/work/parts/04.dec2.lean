theorem dX12_goesOn_131 : decode cX12_goesOn 131 = .ok (.aload_n 0, 1) := by decide +kernel
theorem dX12_goesOn_132 : decode cX12_goesOn 132 = .ok (.iconst 0, 1) := by decide +kernel
theorem dX12_goesOn_133 : decode cX12_goesOn 133 = .ok (.putfield 90, 3) := by decide +kernel
theorem dX12_goesOn_136 : decode cX12_goesOn 136 = .ok (.aload_n 0, 1) := by decide +kernel
theorem dX12_goesOn_137 : decode cX12_goesOn 137 = .ok (.aload_n 0, 1) := by decide +kernel
theorem dX12_goesOn_138 : decode cX12_goesOn 138 = .ok (.getfield 73, 3) := by decide +kernel
theorem dX12_goesOn_141 : decode cX12_goesOn 141 = .ok (.invokevirtual 76, 3) := by decide +kernel
theorem dX12_goesOn_144 : decode cX12_goesOn 144 = .ok (.bipush 48, 2) := by decide +kernel
theorem dX12_goesOn_146 : decode cX12_goesOn 146 = .ok (.bipush 57, 2) := by decide +kernel
theorem dX12_goesOn_148 : decode cX12_goesOn 148 = .ok (.invokestatic 86, 3) := by decide +kernel
theorem dX12_goesOn_151 : decode cX12_goesOn 151 = .ok (.ifCond .eq 59, 3) := by decide +kernel
theorem dX12_goesOn_154 : decode cX12_goesOn 154 = .ok (.aload_n 0, 1) := by decide +kernel
theorem dX12_goesOn_155 : decode cX12_goesOn 155 = .ok (.aload_n 0, 1) := by decide +kernel
theorem dX12_goesOn_156 : decode cX12_goesOn 156 = .ok (.getfield 73, 3) := by decide +kernel
theorem dX12_goesOn_159 : decode cX12_goesOn 159 = .ok (.aload_n 0, 1) := by decide +kernel
theorem dX12_goesOn_160 : decode cX12_goesOn 160 = .ok (.getfield 80, 3) := by decide +kernel
theorem dX12_goesOn_163 : decode cX12_goesOn 163 = .ok (.isub, 1) := by decide +kernel
theorem dX12_goesOn_164 : decode cX12_goesOn 164 = .ok (.iconst 3, 1) := by decide +kernel
theorem dX12_goesOn_165 : decode cX12_goesOn 165 = .ok (.if_icmp .ge 25, 3) := by decide +kernel
theorem dX12_goesOn_168 : decode cX12_goesOn 168 = .ok (.bipush 10, 2) := by decide +kernel
theorem dX12_goesOn_170 : decode cX12_goesOn 170 = .ok (.aload_n 0, 1) := by decide +kernel
theorem dX12_goesOn_171 : decode cX12_goesOn 171 = .ok (.getfield 90, 3) := by decide +kernel
theorem dX12_goesOn_174 : decode cX12_goesOn 174 = .ok (.imul, 1) := by decide +kernel
theorem dX12_goesOn_175 : decode cX12_goesOn 175 = .ok (.aload_n 0, 1) := by decide +kernel
theorem dX12_goesOn_176 : decode cX12_goesOn 176 = .ok (.aload_n 0, 1) := by decide +kernel
theorem dX12_goesOn_177 : decode cX12_goesOn 177 = .ok (.getfield 73, 3) := by decide +kernel
theorem dX12_goesOn_180 : decode cX12_goesOn 180 = .ok (.invokevirtual 76, 3) := by decide +kernel
theorem dX12_goesOn_183 : decode cX12_goesOn 183 = .ok (.iadd, 1) := by decide +kernel
theorem dX12_goesOn_184 : decode cX12_goesOn 184 = .ok (.bipush 48, 2) := by decide +kernel
theorem dX12_goesOn_186 : decode cX12_goesOn 186 = .ok (.isub, 1) := by decide +kernel
theorem dX12_goesOn_187 : decode cX12_goesOn 187 = .ok (.goto 7, 3) := by decide +kernel
theorem dX12_goesOn_190 : decode cX12_goesOn 190 = .ok (.aload_n 0, 1) := by decide +kernel
theorem dX12_goesOn_191 : decode cX12_goesOn 191 = .ok (.getfield 90, 3) := by decide +kernel
theorem dX12_goesOn_194 : decode cX12_goesOn 194 = .ok (.putfield 90, 3) := by decide +kernel
theorem dX12_goesOn_197 : decode cX12_goesOn 197 = .ok (.aload_n 0, 1) := by decide +kernel
theorem dX12_goesOn_198 : decode cX12_goesOn 198 = .ok (.dup, 1) := by decide +kernel
theorem dX12_goesOn_199 : decode cX12_goesOn 199 = .ok (.getfield 73, 3) := by decide +kernel
theorem dX12_goesOn_202 : decode cX12_goesOn 202 = .ok (.iconst 1, 1) := by decide +kernel
theorem dX12_goesOn_203 : decode cX12_goesOn 203 = .ok (.iadd, 1) := by decide +kernel
theorem dX12_goesOn_204 : decode cX12_goesOn 204 = .ok (.putfield 73, 3) := by decide +kernel
theorem dX12_goesOn_207 : decode cX12_goesOn 207 = .ok (.goto (-71), 3) := by decide +kernel
theorem dX12_goesOn_210 : decode cX12_goesOn 210 = .ok (.aload_n 0, 1) := by decide +kernel
theorem dX12_goesOn_211 : decode cX12_goesOn 211 = .ok (.aload_n 0, 1) := by decide +kernel
theorem dX12_goesOn_212 : decode cX12_goesOn 212 = .ok (.getfield 73, 3) := by decide +kernel
theorem dX12_goesOn_215 : decode cX12_goesOn 215 = .ok (.aload_n 0, 1) := by decide +kernel
theorem dX12_goesOn_216 : decode cX12_goesOn 216 = .ok (.getfield 80, 3) := by decide +kernel
theorem dX12_goesOn_219 : decode cX12_goesOn 219 = .ok (.isub, 1) := by decide +kernel
theorem dX12_goesOn_220 : decode cX12_goesOn 220 = .ok (.iconst 3, 1) := by decide +kernel
theorem dX12_goesOn_221 : decode cX12_goesOn 221 = .ok (.if_icmp .le 7, 3) := by decide +kernel
theorem dX12_goesOn_224 : decode cX12_goesOn 224 = .ok (.iconst 1, 1) := by decide +kernel
theorem dX12_goesOn_225 : decode cX12_goesOn 225 = .ok (.goto 4, 3) := by decide +kernel
theorem dX12_goesOn_228 : decode cX12_goesOn 228 = .ok (.iconst 3, 1) := by decide +kernel
theorem dX12_goesOn_229 : decode cX12_goesOn 229 = .ok (.putfield 83, 3) := by decide +kernel
theorem dX12_goesOn_232 : decode cX12_goesOn 232 = .ok (.return_, 1) := by decide +kernel
theorem dX12_goesOn_233 : decode cX12_goesOn 233 = .ok (.aload_n 0, 1) := by decide +kernel
theorem dX12_goesOn_234 : decode cX12_goesOn 234 = .ok (.dup, 1) := by decide +kernel
theorem dX12_goesOn_235 : decode cX12_goesOn 235 = .ok (.getfield 73, 3) := by decide +kernel
theorem dX12_goesOn_238 : decode cX12_goesOn 238 = .ok (.iconst 1, 1) := by decide +kernel
theorem dX12_goesOn_239 : decode cX12_goesOn 239 = .ok (.iadd, 1) := by decide +kernel
theorem dX12_goesOn_240 : decode cX12_goesOn 240 = .ok (.putfield 73, 3) := by decide +kernel
theorem dX12_goesOn_243 : decode cX12_goesOn 243 = .ok (.aload_n 0, 1) := by decide +kernel
theorem dX12_goesOn_244 : decode cX12_goesOn 244 = .ok (.iload_n 1, 1) := by decide +kernel
theorem dX12_goesOn_245 : decode cX12_goesOn 245 = .ok (.bipush 59, 2) := by decide +kernel
theorem dX12_goesOn_247 : decode cX12_goesOn 247 = .ok (.if_icmp .eq 9, 3) := by decide +kernel
theorem dX12_goesOn_250 : decode cX12_goesOn 250 = .ok (.iload_n 1, 1) := by decide +kernel
theorem dX12_goesOn_251 : decode cX12_goesOn 251 = .ok (.bipush 44, 2) := by decide +kernel
theorem dX12_goesOn_253 : decode cX12_goesOn 253 = .ok (.if_icmp .ne 7, 3) := by decide +kernel
theorem dX12_goesOn_256 : decode cX12_goesOn 256 = .ok (.iload_n 1, 1) := by decide +kernel
theorem dX12_goesOn_257 : decode cX12_goesOn 257 = .ok (.goto 4, 3) := by decide +kernel
theorem dX12_goesOn_260 : decode cX12_goesOn 260 = .ok (.iconst 1, 1) := by decide +kernel
theorem dX12_goesOn_261 : decode cX12_goesOn 261 = .ok (.putfield 83, 3) := by decide +kernel
theorem dX12_goesOn_264 : decode cX12_goesOn 264 = .ok (.return_, 1) := by decide +kernel
theorem dX12_isWord_0 : decode cX12_isWord 0 = .ok (.aload_n 0, 1) := by decide +kernel
theorem dX12_isWord_1 : decode cX12_isWord 1 = .ok (.getfield 83, 3) := by decide +kernel
theorem dX12_isWord_4 : decode cX12_isWord 4 = .ok (.iconst 2, 1) := by decide +kernel
theorem dX12_isWord_5 : decode cX12_isWord 5 = .ok (.if_icmp .ne 19, 3) := by decide +kernel
theorem dX12_isWord_8 : decode cX12_isWord 8 = .ok (.aload_n 0, 1) := by decide +kernel
theorem dX12_isWord_9 : decode cX12_isWord 9 = .ok (.getfield 73, 3) := by decide +kernel
theorem dX12_isWord_12 : decode cX12_isWord 12 = .ok (.aload_n 0, 1) := by decide +kernel
theorem dX12_isWord_13 : decode cX12_isWord 13 = .ok (.getfield 80, 3) := by decide +kernel
theorem dX12_isWord_16 : decode cX12_isWord 16 = .ok (.isub, 1) := by decide +kernel
theorem dX12_isWord_17 : decode cX12_isWord 17 = .ok (.aload_n 1, 1) := by decide +kernel
theorem dX12_isWord_18 : decode cX12_isWord 18 = .ok (.invokevirtual 93, 3) := by decide +kernel
theorem dX12_isWord_21 : decode cX12_isWord 21 = .ok (.if_icmp .eq 5, 3) := by decide +kernel
theorem dX12_isWord_24 : decode cX12_isWord 24 = .ok (.iconst 0, 1) := by decide +kernel
theorem dX12_isWord_25 : decode cX12_isWord 25 = .ok (.ireturn, 1) := by decide +kernel
theorem dX12_isWord_26 : decode cX12_isWord 26 = .ok (.iconst 0, 1) := by decide +kernel
theorem dX12_isWord_27 : decode cX12_isWord 27 = .ok (.istore_n 2, 1) := by decide +kernel
theorem dX12_isWord_28 : decode cX12_isWord 28 = .ok (.iload_n 2, 1) := by decide +kernel
theorem dX12_isWord_29 : decode cX12_isWord 29 = .ok (.aload_n 1, 1) := by decide +kernel
theorem dX12_isWord_30 : decode cX12_isWord 30 = .ok (.invokevirtual 93, 3) := by decide +kernel
theorem dX12_isWord_33 : decode cX12_isWord 33 = .ok (.if_icmp .ge 30, 3) := by decide +kernel
theorem dX12_isWord_36 : decode cX12_isWord 36 = .ok (.aload_n 0, 1) := by decide +kernel
theorem dX12_isWord_37 : decode cX12_isWord 37 = .ok (.getfield 13, 3) := by decide +kernel
theorem dX12_isWord_40 : decode cX12_isWord 40 = .ok (.aload_n 0, 1) := by decide +kernel
theorem dX12_isWord_41 : decode cX12_isWord 41 = .ok (.getfield 80, 3) := by decide +kernel
theorem dX12_isWord_44 : decode cX12_isWord 44 = .ok (.iload_n 2, 1) := by decide +kernel
theorem dX12_isWord_45 : decode cX12_isWord 45 = .ok (.iadd, 1) := by decide +kernel
theorem dX12_isWord_46 : decode cX12_isWord 46 = .ok (.iaload, 1) := by decide +kernel
theorem dX12_isWord_47 : decode cX12_isWord 47 = .ok (.aload_n 1, 1) := by decide +kernel
theorem dX12_isWord_48 : decode cX12_isWord 48 = .ok (.iload_n 2, 1) := by decide +kernel
theorem dX12_isWord_49 : decode cX12_isWord 49 = .ok (.invokevirtual 99, 3) := by decide +kernel
theorem dX12_isWord_52 : decode cX12_isWord 52 = .ok (.if_icmp .eq 5, 3) := by decide +kernel
theorem dX12_isWord_55 : decode cX12_isWord 55 = .ok (.iconst 0, 1) := by decide +kernel
theorem dX12_isWord_56 : decode cX12_isWord 56 = .ok (.ireturn, 1) := by decide +kernel
theorem dX12_isWord_57 : decode cX12_isWord 57 = .ok (.iinc 2 1, 3) := by decide +kernel
theorem dX12_isWord_60 : decode cX12_isWord 60 = .ok (.goto (-32), 3) := by decide +kernel
theorem dX12_isWord_63 : decode cX12_isWord 63 = .ok (.iconst 1, 1) := by decide +kernel
theorem dX12_isWord_64 : decode cX12_isWord 64 = .ok (.ireturn, 1) := by decide +kernel
theorem dX12_errs_0 : decode cX12_errs 0 = .ok (.aload_n 0, 1) := by decide +kernel
theorem dX12_errs_1 : decode cX12_errs 1 = .ok (.iload_n 1, 1) := by decide +kernel
theorem dX12_errs_2 : decode cX12_errs 2 = .ok (.putfield 103, 3) := by decide +kernel
theorem dX12_errs_5 : decode cX12_errs 5 = .ok (.aload_n 0, 1) := by decide +kernel
theorem dX12_errs_6 : decode cX12_errs 6 = .ok (.aload_n 0, 1) := by decide +kernel
theorem dX12_errs_7 : decode cX12_errs 7 = .ok (.getfield 80, 3) := by decide +kernel
theorem dX12_errs_10 : decode cX12_errs 10 = .ok (.putfield 106, 3) := by decide +kernel
theorem dX12_errs_13 : decode cX12_errs 13 = .ok (.iconst (-1), 1) := by decide +kernel
theorem dX12_errs_14 : decode cX12_errs 14 = .ok (.ireturn, 1) := by decide +kernel
theorem dX12_passes_0 : decode cX12_passes 0 = .ok (.aload_n 0, 1) := by decide +kernel
theorem dX12_passes_1 : decode cX12_passes 1 = .ok (.getfield 83, 3) := by decide +kernel
theorem dX12_passes_4 : decode cX12_passes 4 = .ok (.iconst 3, 1) := by decide +kernel
theorem dX12_passes_5 : decode cX12_passes 5 = .ok (.if_icmp .eq 9, 3) := by decide +kernel
theorem dX12_passes_8 : decode cX12_passes 8 = .ok (.aload_n 0, 1) := by decide +kernel
theorem dX12_passes_9 : decode cX12_passes 9 = .ok (.iconst 1, 1) := by decide +kernel
theorem dX12_passes_10 : decode cX12_passes 10 = .ok (.invokevirtual 109, 3) := by decide +kernel
theorem dX12_passes_13 : decode cX12_passes 13 = .ok (.ireturn, 1) := by decide +kernel
theorem dX12_passes_14 : decode cX12_passes 14 = .ok (.aload_n 0, 1) := by decide +kernel
theorem dX12_passes_15 : decode cX12_passes 15 = .ok (.getfield 90, 3) := by decide +kernel
theorem dX12_passes_18 : decode cX12_passes 18 = .ok (.istore_n 3, 1) := by decide +kernel
theorem dX12_passes_19 : decode cX12_passes 19 = .ok (.iload_n 3, 1) := by decide +kernel
theorem dX12_passes_20 : decode cX12_passes 20 = .ok (.iload_n 1, 1) := by decide +kernel
theorem dX12_passes_21 : decode cX12_passes 21 = .ok (.iload_n 2, 1) := by decide +kernel
theorem dX12_passes_22 : decode cX12_passes 22 = .ok (.invokestatic 86, 3) := by decide +kernel
theorem dX12_passes_25 : decode cX12_passes 25 = .ok (.ifCond .ne 9, 3) := by decide +kernel
theorem dX12_passes_28 : decode cX12_passes 28 = .ok (.aload_n 0, 1) := by decide +kernel
theorem dX12_passes_29 : decode cX12_passes 29 = .ok (.iconst 4, 1) := by decide +kernel
theorem dX12_passes_30 : decode cX12_passes 30 = .ok (.invokevirtual 109, 3) := by decide +kernel
theorem dX12_passes_33 : decode cX12_passes 33 = .ok (.ireturn, 1) := by decide +kernel
theorem dX12_passes_34 : decode cX12_passes 34 = .ok (.aload_n 0, 1) := by decide +kernel
theorem dX12_passes_35 : decode cX12_passes 35 = .ok (.invokevirtual 112, 3) := by decide +kernel
theorem dX12_passes_38 : decode cX12_passes 38 = .ok (.iload_n 3, 1) := by decide +kernel
theorem dX12_passes_39 : decode cX12_passes 39 = .ok (.ireturn, 1) := by decide +kernel
theorem dX12_after_0 : decode cX12_after 0 = .ok (.aload_n 0, 1) := by decide +kernel
theorem dX12_after_1 : decode cX12_after 1 = .ok (.aload_n 1, 1) := by decide +kernel
theorem dX12_after_2 : decode cX12_after 2 = .ok (.invokevirtual 115, 3) := by decide +kernel
theorem dX12_after_5 : decode cX12_after 5 = .ok (.ifCond .ne 9, 3) := by decide +kernel
theorem dX12_after_8 : decode cX12_after 8 = .ok (.aload_n 0, 1) := by decide +kernel
theorem dX12_after_9 : decode cX12_after 9 = .ok (.iconst 1, 1) := by decide +kernel
theorem dX12_after_10 : decode cX12_after 10 = .ok (.invokevirtual 109, 3) := by decide +kernel
theorem dX12_after_13 : decode cX12_after 13 = .ok (.ireturn, 1) := by decide +kernel
theorem dX12_after_14 : decode cX12_after 14 = .ok (.aload_n 0, 1) := by decide +kernel
theorem dX12_after_15 : decode cX12_after 15 = .ok (.invokevirtual 112, 3) := by decide +kernel
theorem dX12_after_18 : decode cX12_after 18 = .ok (.aload_n 0, 1) := by decide +kernel
theorem dX12_after_19 : decode cX12_after 19 = .ok (.iload_n 2, 1) := by decide +kernel
theorem dX12_after_20 : decode cX12_after 20 = .ok (.iload_n 3, 1) := by decide +kernel
theorem dX12_after_21 : decode cX12_after 21 = .ok (.invokevirtual 119, 3) := by decide +kernel
theorem dX12_after_24 : decode cX12_after 24 = .ok (.ireturn, 1) := by decide +kernel
theorem dX12_lays_0 : decode cX12_lays 0 = .ok (.aload_n 0, 1) := by decide +kernel
theorem dX12_lays_1 : decode cX12_lays 1 = .ok (.getfield 20, 3) := by decide +kernel
theorem dX12_lays_4 : decode cX12_lays 4 = .ok (.iload_n 1, 1) := by decide +kernel
theorem dX12_lays_5 : decode cX12_lays 5 = .ok (.iload_n 2, 1) := by decide +kernel
theorem dX12_lays_6 : decode cX12_lays 6 = .ok (.iastore, 1) := by decide +kernel
theorem dX12_lays_7 : decode cX12_lays 7 = .ok (.iload_n 2, 1) := by decide +kernel
theorem dX12_lays_8 : decode cX12_lays 8 = .ok (.iconst (-1), 1) := by decide +kernel
theorem dX12_lays_9 : decode cX12_lays 9 = .ok (.if_icmp .eq 7, 3) := by decide +kernel
theorem dX12_lays_12 : decode cX12_lays 12 = .ok (.iconst 1, 1) := by decide +kernel
theorem dX12_lays_13 : decode cX12_lays 13 = .ok (.goto 4, 3) := by decide +kernel
theorem dX12_lays_16 : decode cX12_lays 16 = .ok (.iconst 0, 1) := by decide +kernel
theorem dX12_lays_17 : decode cX12_lays 17 = .ok (.ireturn, 1) := by decide +kernel
theorem dX12_isName_0 : decode cX12_isName 0 = .ok (.aload_n 0, 1) := by decide +kernel
theorem dX12_isName_1 : decode cX12_isName 1 = .ok (.getfield 83, 3) := by decide +kernel
theorem dX12_isName_4 : decode cX12_isName 4 = .ok (.iconst 2, 1) := by decide +kernel
theorem dX12_isName_5 : decode cX12_isName 5 = .ok (.if_icmp .ne 97, 3) := by decide +kernel
theorem dX12_isName_8 : decode cX12_isName 8 = .ok (.aload_n 0, 1) := by decide +kernel
theorem dX12_isName_9 : decode cX12_isName 9 = .ok (.ldc 123, 2) := by decide +kernel
theorem dX12_isName_11 : decode cX12_isName 11 = .ok (.invokevirtual 115, 3) := by decide +kernel
theorem dX12_isName_14 : decode cX12_isName 14 = .ok (.ifCond .ne 88, 3) := by decide +kernel
theorem dX12_isName_17 : decode cX12_isName 17 = .ok (.aload_n 0, 1) := by decide +kernel
theorem dX12_isName_18 : decode cX12_isName 18 = .ok (.ldc 125, 2) := by decide +kernel
theorem dX12_isName_20 : decode cX12_isName 20 = .ok (.invokevirtual 115, 3) := by decide +kernel
theorem dX12_isName_23 : decode cX12_isName 23 = .ok (.ifCond .ne 79, 3) := by decide +kernel
theorem dX12_isName_26 : decode cX12_isName 26 = .ok (.aload_n 0, 1) := by decide +kernel
theorem dX12_isName_27 : decode cX12_isName 27 = .ok (.ldc 127, 2) := by decide +kernel
theorem dX12_isName_29 : decode cX12_isName 29 = .ok (.invokevirtual 115, 3) := by decide +kernel
theorem dX12_isName_32 : decode cX12_isName 32 = .ok (.ifCond .ne 70, 3) := by decide +kernel
theorem dX12_isName_35 : decode cX12_isName 35 = .ok (.aload_n 0, 1) := by decide +kernel
theorem dX12_isName_36 : decode cX12_isName 36 = .ok (.ldc 129, 2) := by decide +kernel
theorem dX12_isName_38 : decode cX12_isName 38 = .ok (.invokevirtual 115, 3) := by decide +kernel
theorem dX12_isName_41 : decode cX12_isName 41 = .ok (.ifCond .ne 61, 3) := by decide +kernel
theorem dX12_isName_44 : decode cX12_isName 44 = .ok (.aload_n 0, 1) := by decide +kernel
theorem dX12_isName_45 : decode cX12_isName 45 = .ok (.ldc 131, 2) := by decide +kernel
theorem dX12_isName_47 : decode cX12_isName 47 = .ok (.invokevirtual 115, 3) := by decide +kernel
theorem dX12_isName_50 : decode cX12_isName 50 = .ok (.ifCond .ne 52, 3) := by decide +kernel
theorem dX12_isName_53 : decode cX12_isName 53 = .ok (.aload_n 0, 1) := by decide +kernel
theorem dX12_isName_54 : decode cX12_isName 54 = .ok (.ldc 133, 2) := by decide +kernel
theorem dX12_isName_56 : decode cX12_isName 56 = .ok (.invokevirtual 115, 3) := by decide +kernel
theorem dX12_isName_59 : decode cX12_isName 59 = .ok (.ifCond .ne 43, 3) := by decide +kernel
theorem dX12_isName_62 : decode cX12_isName 62 = .ok (.aload_n 0, 1) := by decide +kernel
theorem dX12_isName_63 : decode cX12_isName 63 = .ok (.ldc 135, 2) := by decide +kernel
theorem dX12_isName_65 : decode cX12_isName 65 = .ok (.invokevirtual 115, 3) := by decide +kernel
theorem dX12_isName_68 : decode cX12_isName 68 = .ok (.ifCond .ne 34, 3) := by decide +kernel
theorem dX12_isName_71 : decode cX12_isName 71 = .ok (.aload_n 0, 1) := by decide +kernel
theorem dX12_isName_72 : decode cX12_isName 72 = .ok (.ldc 137, 2) := by decide +kernel
theorem dX12_isName_74 : decode cX12_isName 74 = .ok (.invokevirtual 115, 3) := by decide +kernel
theorem dX12_isName_77 : decode cX12_isName 77 = .ok (.ifCond .ne 25, 3) := by decide +kernel
theorem dX12_isName_80 : decode cX12_isName 80 = .ok (.aload_n 0, 1) := by decide +kernel
theorem dX12_isName_81 : decode cX12_isName 81 = .ok (.ldc 139, 2) := by decide +kernel
theorem dX12_isName_83 : decode cX12_isName 83 = .ok (.invokevirtual 115, 3) := by decide +kernel
theorem dX12_isName_86 : decode cX12_isName 86 = .ok (.ifCond .ne 16, 3) := by decide +kernel
theorem dX12_isName_89 : decode cX12_isName 89 = .ok (.aload_n 0, 1) := by decide +kernel
theorem dX12_isName_90 : decode cX12_isName 90 = .ok (.ldc 141, 2) := by decide +kernel
theorem dX12_isName_92 : decode cX12_isName 92 = .ok (.invokevirtual 115, 3) := by decide +kernel
theorem dX12_isName_95 : decode cX12_isName 95 = .ok (.ifCond .ne 7, 3) := by decide +kernel
theorem dX12_isName_98 : decode cX12_isName 98 = .ok (.iconst 1, 1) := by decide +kernel
theorem dX12_isName_99 : decode cX12_isName 99 = .ok (.goto 4, 3) := by decide +kernel
theorem dX12_isName_102 : decode cX12_isName 102 = .ok (.iconst 0, 1) := by decide +kernel
theorem dX12_isName_103 : decode cX12_isName 103 = .ok (.ireturn, 1) := by decide +kernel
theorem dX12_spelt_0 : decode cX12_spelt 0 = .ok (.lconst 0, 1) := by decide +kernel
theorem dX12_spelt_1 : decode cX12_spelt 1 = .ok (.lstore_n 1, 1) := by decide +kernel
theorem dX12_spelt_2 : decode cX12_spelt 2 = .ok (.aload_n 0, 1) := by decide +kernel
theorem dX12_spelt_3 : decode cX12_spelt 3 = .ok (.getfield 80, 3) := by decide +kernel
theorem dX12_spelt_6 : decode cX12_spelt 6 = .ok (.istore_n 3, 1) := by decide +kernel
theorem dX12_spelt_7 : decode cX12_spelt 7 = .ok (.iload_n 3, 1) := by decide +kernel
theorem dX12_spelt_8 : decode cX12_spelt 8 = .ok (.aload_n 0, 1) := by decide +kernel
theorem dX12_spelt_9 : decode cX12_spelt 9 = .ok (.getfield 73, 3) := by decide +kernel
theorem dX12_spelt_12 : decode cX12_spelt 12 = .ok (.if_icmp .ge 23, 3) := by decide +kernel
theorem dX12_spelt_15 : decode cX12_spelt 15 = .ok (.ldc2_w 143, 3) := by decide +kernel
theorem dX12_spelt_18 : decode cX12_spelt 18 = .ok (.lload_n 1, 1) := by decide +kernel
theorem dX12_spelt_19 : decode cX12_spelt 19 = .ok (.lmul, 1) := by decide +kernel
theorem dX12_spelt_20 : decode cX12_spelt 20 = .ok (.aload_n 0, 1) := by decide +kernel
theorem dX12_spelt_21 : decode cX12_spelt 21 = .ok (.getfield 13, 3) := by decide +kernel
theorem dX12_spelt_24 : decode cX12_spelt 24 = .ok (.iload_n 3, 1) := by decide +kernel
theorem dX12_spelt_25 : decode cX12_spelt 25 = .ok (.iaload, 1) := by decide +kernel
theorem dX12_spelt_26 : decode cX12_spelt 26 = .ok (.i2l, 1) := by decide +kernel
theorem dX12_spelt_27 : decode cX12_spelt 27 = .ok (.ladd, 1) := by decide +kernel
theorem dX12_spelt_28 : decode cX12_spelt 28 = .ok (.lstore_n 1, 1) := by decide +kernel
theorem dX12_spelt_29 : decode cX12_spelt 29 = .ok (.iinc 3 1, 3) := by decide +kernel
theorem dX12_spelt_32 : decode cX12_spelt 32 = .ok (.goto (-25), 3) := by decide +kernel
theorem dX12_spelt_35 : decode cX12_spelt 35 = .ok (.lload_n 1, 1) := by decide +kernel
theorem dX12_spelt_36 : decode cX12_spelt 36 = .ok (.lreturn, 1) := by decide +kernel
theorem dX12_told_0 : decode cX12_told 0 = .ok (.iconst 0, 1) := by decide +kernel
theorem dX12_told_1 : decode cX12_told 1 = .ok (.istore_n 1, 1) := by decide +kernel
theorem dX12_told_2 : decode cX12_told 2 = .ok (.iload_n 1, 1) := by decide +kernel
theorem dX12_told_3 : decode cX12_told 3 = .ok (.aload_n 0, 1) := by decide +kernel
theorem dX12_told_4 : decode cX12_told 4 = .ok (.getfield 145, 3) := by decide +kernel
theorem dX12_told_7 : decode cX12_told 7 = .ok (.if_icmp .ge 30, 3) := by decide +kernel
theorem dX12_told_10 : decode cX12_told 10 = .ok (.aload_n 0, 1) := by decide +kernel
theorem dX12_told_11 : decode cX12_told 11 = .ok (.getfield 30, 3) := by decide +kernel
theorem dX12_told_14 : decode cX12_told 14 = .ok (.iload_n 1, 1) := by decide +kernel
theorem dX12_told_15 : decode cX12_told 15 = .ok (.laload, 1) := by decide +kernel
theorem dX12_told_16 : decode cX12_told 16 = .ok (.aload_n 0, 1) := by decide +kernel
theorem dX12_told_17 : decode cX12_told 17 = .ok (.invokevirtual 148, 3) := by decide +kernel
theorem dX12_told_20 : decode cX12_told 20 = .ok (.lcmp, 1) := by decide +kernel
theorem dX12_told_21 : decode cX12_told 21 = .ok (.ifCond .ne 10, 3) := by decide +kernel
theorem dX12_told_24 : decode cX12_told 24 = .ok (.aload_n 0, 1) := by decide +kernel
theorem dX12_told_25 : decode cX12_told 25 = .ok (.getfield 33, 3) := by decide +kernel
theorem dX12_told_28 : decode cX12_told 28 = .ok (.iload_n 1, 1) := by decide +kernel
theorem dX12_told_29 : decode cX12_told 29 = .ok (.iaload, 1) := by decide +kernel
theorem dX12_told_30 : decode cX12_told 30 = .ok (.ireturn, 1) := by decide +kernel
theorem dX12_told_31 : decode cX12_told 31 = .ok (.iinc 1 1, 3) := by decide +kernel
theorem dX12_told_34 : decode cX12_told 34 = .ok (.goto (-32), 3) := by decide +kernel
theorem dX12_told_37 : decode cX12_told 37 = .ok (.iconst (-1), 1) := by decide +kernel
theorem dX12_told_38 : decode cX12_told 38 = .ok (.ireturn, 1) := by decide +kernel
theorem dX12_passesNew_0 : decode cX12_passesNew 0 = .ok (.aload_n 0, 1) := by decide +kernel
theorem dX12_passesNew_1 : decode cX12_passesNew 1 = .ok (.invokevirtual 152, 3) := by decide +kernel
theorem dX12_passesNew_4 : decode cX12_passesNew 4 = .ok (.ifCond .ne 11, 3) := by decide +kernel
theorem dX12_passesNew_7 : decode cX12_passesNew 7 = .ok (.aload_n 0, 1) := by decide +kernel
theorem dX12_passesNew_8 : decode cX12_passesNew 8 = .ok (.iconst 1, 1) := by decide +kernel
theorem dX12_passesNew_9 : decode cX12_passesNew 9 = .ok (.invokevirtual 109, 3) := by decide +kernel
theorem dX12_passesNew_12 : decode cX12_passesNew 12 = .ok (.pop, 1) := by decide +kernel
theorem dX12_passesNew_13 : decode cX12_passesNew 13 = .ok (.iconst 0, 1) := by decide +kernel
theorem dX12_passesNew_14 : decode cX12_passesNew 14 = .ok (.ireturn, 1) := by decide +kernel
theorem dX12_passesNew_15 : decode cX12_passesNew 15 = .ok (.aload_n 0, 1) := by decide +kernel
theorem dX12_passesNew_16 : decode cX12_passesNew 16 = .ok (.invokevirtual 156, 3) := by decide +kernel
theorem dX12_passesNew_19 : decode cX12_passesNew 19 = .ok (.iconst (-1), 1) := by decide +kernel
theorem dX12_passesNew_20 : decode cX12_passesNew 20 = .ok (.if_icmp .eq 11, 3) := by decide +kernel
theorem dX12_passesNew_23 : decode cX12_passesNew 23 = .ok (.aload_n 0, 1) := by decide +kernel
theorem dX12_passesNew_24 : decode cX12_passesNew 24 = .ok (.iconst 3, 1) := by decide +kernel
theorem dX12_passesNew_25 : decode cX12_passesNew 25 = .ok (.invokevirtual 109, 3) := by decide +kernel
theorem dX12_passesNew_28 : decode cX12_passesNew 28 = .ok (.pop, 1) := by decide +kernel
theorem dX12_passesNew_29 : decode cX12_passesNew 29 = .ok (.iconst 0, 1) := by decide +kernel
theorem dX12_passesNew_30 : decode cX12_passesNew 30 = .ok (.ireturn, 1) := by decide +kernel
theorem dX12_passesNew_31 : decode cX12_passesNew 31 = .ok (.aload_n 0, 1) := by decide +kernel
theorem dX12_passesNew_32 : decode cX12_passesNew 32 = .ok (.aload_n 0, 1) := by decide +kernel
theorem dX12_passesNew_33 : decode cX12_passesNew 33 = .ok (.invokevirtual 148, 3) := by decide +kernel
theorem dX12_passesNew_36 : decode cX12_passesNew 36 = .ok (.putfield 159, 3) := by decide +kernel
theorem dX12_passesNew_39 : decode cX12_passesNew 39 = .ok (.aload_n 0, 1) := by decide +kernel
theorem dX12_passesNew_40 : decode cX12_passesNew 40 = .ok (.invokevirtual 112, 3) := by decide +kernel
theorem dX12_passesNew_43 : decode cX12_passesNew 43 = .ok (.iconst 1, 1) := by decide +kernel
theorem dX12_passesNew_44 : decode cX12_passesNew 44 = .ok (.ireturn, 1) := by decide +kernel
theorem dX12_tells_0 : decode cX12_tells 0 = .ok (.aload_n 0, 1) := by decide +kernel
theorem dX12_tells_1 : decode cX12_tells 1 = .ok (.getfield 30, 3) := by decide +kernel
theorem dX12_tells_4 : decode cX12_tells 4 = .ok (.aload_n 0, 1) := by decide +kernel
theorem dX12_tells_5 : decode cX12_tells 5 = .ok (.getfield 145, 3) := by decide +kernel
theorem dX12_tells_8 : decode cX12_tells 8 = .ok (.lload_n 1, 1) := by decide +kernel
theorem dX12_tells_9 : decode cX12_tells 9 = .ok (.lastore, 1) := by decide +kernel
theorem dX12_tells_10 : decode cX12_tells 10 = .ok (.aload_n 0, 1) := by decide +kernel
theorem dX12_tells_11 : decode cX12_tells 11 = .ok (.getfield 33, 3) := by decide +kernel
theorem dX12_tells_14 : decode cX12_tells 14 = .ok (.aload_n 0, 1) := by decide +kernel
theorem dX12_tells_15 : decode cX12_tells 15 = .ok (.getfield 145, 3) := by decide +kernel
theorem dX12_tells_18 : decode cX12_tells 18 = .ok (.iload_n 3, 1) := by decide +kernel
theorem dX12_tells_19 : decode cX12_tells 19 = .ok (.iastore, 1) := by decide +kernel
theorem dX12_tells_20 : decode cX12_tells 20 = .ok (.aload_n 0, 1) := by decide +kernel
theorem dX12_tells_21 : decode cX12_tells 21 = .ok (.dup, 1) := by decide +kernel
theorem dX12_tells_22 : decode cX12_tells 22 = .ok (.getfield 145, 3) := by decide +kernel
theorem dX12_tells_25 : decode cX12_tells 25 = .ok (.iconst 1, 1) := by decide +kernel
theorem dX12_tells_26 : decode cX12_tells 26 = .ok (.iadd, 1) := by decide +kernel
theorem dX12_tells_27 : decode cX12_tells 27 = .ok (.putfield 145, 3) := by decide +kernel
theorem dX12_tells_30 : decode cX12_tells 30 = .ok (.return_, 1) := by decide +kernel
theorem dX12_here_0 : decode cX12_here 0 = .ok (.aload_n 0, 1) := by decide +kernel
theorem dX12_here_1 : decode cX12_here 1 = .ok (.invokevirtual 152, 3) := by decide +kernel
theorem dX12_here_4 : decode cX12_here 4 = .ok (.ifCond .ne 9, 3) := by decide +kernel
theorem dX12_here_7 : decode cX12_here 7 = .ok (.aload_n 0, 1) := by decide +kernel
theorem dX12_here_8 : decode cX12_here 8 = .ok (.iconst 1, 1) := by decide +kernel
theorem dX12_here_9 : decode cX12_here 9 = .ok (.invokevirtual 109, 3) := by decide +kernel
theorem dX12_here_12 : decode cX12_here 12 = .ok (.ireturn, 1) := by decide +kernel
theorem dX12_here_13 : decode cX12_here 13 = .ok (.aload_n 0, 1) := by decide +kernel
theorem dX12_here_14 : decode cX12_here 14 = .ok (.invokevirtual 156, 3) := by decide +kernel
theorem dX12_here_17 : decode cX12_here 17 = .ok (.istore_n 2, 1) := by decide +kernel
theorem dX12_here_18 : decode cX12_here 18 = .ok (.iload_n 2, 1) := by decide +kernel
theorem dX12_here_19 : decode cX12_here 19 = .ok (.iconst (-1), 1) := by decide +kernel
theorem dX12_here_20 : decode cX12_here 20 = .ok (.if_icmp .eq 14, 3) := by decide +kernel
theorem dX12_here_23 : decode cX12_here 23 = .ok (.iload_n 2, 1) := by decide +kernel
theorem dX12_here_24 : decode cX12_here 24 = .ok (.bipush 100, 2) := by decide +kernel
theorem dX12_here_26 : decode cX12_here 26 = .ok (.idiv, 1) := by decide +kernel
theorem dX12_here_27 : decode cX12_here 27 = .ok (.iload_n 1, 1) := by decide +kernel
theorem dX12_here_28 : decode cX12_here 28 = .ok (.bipush 100, 2) := by decide +kernel
theorem dX12_here_30 : decode cX12_here 30 = .ok (.idiv, 1) := by decide +kernel
theorem dX12_here_31 : decode cX12_here 31 = .ok (.if_icmp .eq 11, 3) := by decide +kernel
theorem dX12_here_34 : decode cX12_here 34 = .ok (.aload_n 0, 1) := by decide +kernel
theorem dX12_here_35 : decode cX12_here 35 = .ok (.iconst 2, 1) := by decide +kernel
theorem dX12_here_36 : decode cX12_here 36 = .ok (.invokevirtual 109, 3) := by decide +kernel
theorem dX12_here_39 : decode cX12_here 39 = .ok (.goto 6, 3) := by decide +kernel
theorem dX12_here_42 : decode cX12_here 42 = .ok (.iload_n 2, 1) := by decide +kernel
theorem dX12_here_43 : decode cX12_here 43 = .ok (.iload_n 1, 1) := by decide +kernel
theorem dX12_here_44 : decode cX12_here 44 = .ok (.isub, 1) := by decide +kernel
theorem dX12_here_45 : decode cX12_here 45 = .ok (.ireturn, 1) := by decide +kernel
theorem dX12_passesOne_0 : decode cX12_passesOne 0 = .ok (.aload_n 0, 1) := by decide +kernel
theorem dX12_passesOne_1 : decode cX12_passesOne 1 = .ok (.iload_n 1, 1) := by decide +kernel
theorem dX12_passesOne_2 : decode cX12_passesOne 2 = .ok (.invokevirtual 163, 3) := by decide +kernel
theorem dX12_passesOne_5 : decode cX12_passesOne 5 = .ok (.istore_n 2, 1) := by decide +kernel
theorem dX12_passesOne_6 : decode cX12_passesOne 6 = .ok (.iload_n 2, 1) := by decide +kernel
theorem dX12_passesOne_7 : decode cX12_passesOne 7 = .ok (.iconst (-1), 1) := by decide +kernel
theorem dX12_passesOne_8 : decode cX12_passesOne 8 = .ok (.if_icmp .eq 7, 3) := by decide +kernel
theorem dX12_passesOne_11 : decode cX12_passesOne 11 = .ok (.aload_n 0, 1) := by decide +kernel
theorem dX12_passesOne_12 : decode cX12_passesOne 12 = .ok (.invokevirtual 112, 3) := by decide +kernel
theorem dX12_passesOne_15 : decode cX12_passesOne 15 = .ok (.iload_n 2, 1) := by decide +kernel
theorem dX12_passesOne_16 : decode cX12_passesOne 16 = .ok (.ireturn, 1) := by decide +kernel
theorem dX12_begins_0 : decode cX12_begins 0 = .ok (.iload_n 1, 1) := by decide +kernel
theorem dX12_begins_1 : decode cX12_begins 1 = .ok (.ifCond .ne 11, 3) := by decide +kernel
theorem dX12_begins_4 : decode cX12_begins 4 = .ok (.aload_n 0, 1) := by decide +kernel
theorem dX12_begins_5 : decode cX12_begins 5 = .ok (.iconst 5, 1) := by decide +kernel
theorem dX12_begins_6 : decode cX12_begins 6 = .ok (.invokevirtual 109, 3) := by decide +kernel
theorem dX12_begins_9 : decode cX12_begins 9 = .ok (.pop, 1) := by decide +kernel
theorem dX12_begins_10 : decode cX12_begins 10 = .ok (.iconst 0, 1) := by decide +kernel
theorem dX12_begins_11 : decode cX12_begins 11 = .ok (.ireturn, 1) := by decide +kernel
theorem dX12_begins_12 : decode cX12_begins 12 = .ok (.aload_n 0, 1) := by decide +kernel
theorem dX12_begins_13 : decode cX12_begins 13 = .ok (.getfield 166, 3) := by decide +kernel
theorem dX12_begins_16 : decode cX12_begins 16 = .ok (.ifCond .ne 12, 3) := by decide +kernel
theorem dX12_begins_19 : decode cX12_begins 19 = .ok (.aload_n 0, 1) := by decide +kernel
theorem dX12_begins_20 : decode cX12_begins 20 = .ok (.bipush 6, 2) := by decide +kernel
theorem dX12_begins_22 : decode cX12_begins 22 = .ok (.invokevirtual 109, 3) := by decide +kernel
theorem dX12_begins_25 : decode cX12_begins 25 = .ok (.pop, 1) := by decide +kernel
theorem dX12_begins_26 : decode cX12_begins 26 = .ok (.iconst 0, 1) := by decide +kernel
theorem dX12_begins_27 : decode cX12_begins 27 = .ok (.ireturn, 1) := by decide +kernel
theorem dX12_begins_28 : decode cX12_begins 28 = .ok (.aload_n 0, 1) := by decide +kernel
theorem dX12_begins_29 : decode cX12_begins 29 = .ok (.invokevirtual 112, 3) := by decide +kernel
theorem dX12_begins_32 : decode cX12_begins 32 = .ok (.iconst 1, 1) := by decide +kernel
theorem dX12_begins_33 : decode cX12_begins 33 = .ok (.ireturn, 1) := by decide +kernel
theorem dX12_readBoard_0 : decode cX12_readBoard 0 = .ok (.aload_n 0, 1) := by decide +kernel
theorem dX12_readBoard_1 : decode cX12_readBoard 1 = .ok (.getfield 166, 3) := by decide +kernel
theorem dX12_readBoard_4 : decode cX12_readBoard 4 = .ok (.ifCond .eq 11, 3) := by decide +kernel
theorem dX12_readBoard_7 : decode cX12_readBoard 7 = .ok (.aload_n 0, 1) := by decide +kernel
theorem dX12_readBoard_8 : decode cX12_readBoard 8 = .ok (.iconst 3, 1) := by decide +kernel
theorem dX12_readBoard_9 : decode cX12_readBoard 9 = .ok (.invokevirtual 109, 3) := by decide +kernel
theorem dX12_readBoard_12 : decode cX12_readBoard 12 = .ok (.pop, 1) := by decide +kernel
theorem dX12_readBoard_13 : decode cX12_readBoard 13 = .ok (.iconst 0, 1) := by decide +kernel
theorem dX12_readBoard_14 : decode cX12_readBoard 14 = .ok (.ireturn, 1) := by decide +kernel
theorem dX12_readBoard_15 : decode cX12_readBoard 15 = .ok (.aload_n 0, 1) := by decide +kernel
theorem dX12_readBoard_16 : decode cX12_readBoard 16 = .ok (.invokevirtual 112, 3) := by decide +kernel
theorem dX12_readBoard_19 : decode cX12_readBoard 19 = .ok (.aload_n 0, 1) := by decide +kernel
theorem dX12_readBoard_20 : decode cX12_readBoard 20 = .ok (.aload_n 0, 1) := by decide +kernel
theorem dX12_readBoard_21 : decode cX12_readBoard 21 = .ok (.iconst 0, 1) := by decide +kernel
theorem dX12_readBoard_22 : decode cX12_readBoard 22 = .ok (.aload_n 0, 1) := by decide +kernel
theorem dX12_readBoard_23 : decode cX12_readBoard 23 = .ok (.ldc 170, 2) := by decide +kernel
theorem dX12_readBoard_25 : decode cX12_readBoard 25 = .ok (.iconst 0, 1) := by decide +kernel
theorem dX12_readBoard_26 : decode cX12_readBoard 26 = .ok (.bipush 99, 2) := by decide +kernel
theorem dX12_readBoard_28 : decode cX12_readBoard 28 = .ok (.invokevirtual 172, 3) := by decide +kernel
theorem dX12_readBoard_31 : decode cX12_readBoard 31 = .ok (.invokevirtual 176, 3) := by decide +kernel
theorem dX12_readBoard_34 : decode cX12_readBoard 34 = .ok (.ifCond .eq 24, 3) := by decide +kernel
theorem dX12_readBoard_37 : decode cX12_readBoard 37 = .ok (.aload_n 0, 1) := by decide +kernel
theorem dX12_readBoard_38 : decode cX12_readBoard 38 = .ok (.iconst 1, 1) := by decide +kernel
theorem dX12_readBoard_39 : decode cX12_readBoard 39 = .ok (.aload_n 0, 1) := by decide +kernel
theorem dX12_readBoard_40 : decode cX12_readBoard 40 = .ok (.ldc 180, 2) := by decide +kernel
theorem dX12_readBoard_42 : decode cX12_readBoard 42 = .ok (.iconst 0, 1) := by decide +kernel
theorem dX12_readBoard_43 : decode cX12_readBoard 43 = .ok (.bipush 99, 2) := by decide +kernel
theorem dX12_readBoard_45 : decode cX12_readBoard 45 = .ok (.invokevirtual 172, 3) := by decide +kernel
theorem dX12_readBoard_48 : decode cX12_readBoard 48 = .ok (.invokevirtual 176, 3) := by decide +kernel
theorem dX12_readBoard_51 : decode cX12_readBoard 51 = .ok (.ifCond .eq 7, 3) := by decide +kernel
theorem dX12_readBoard_54 : decode cX12_readBoard 54 = .ok (.iconst 1, 1) := by decide +kernel
theorem dX12_readBoard_55 : decode cX12_readBoard 55 = .ok (.goto 4, 3) := by decide +kernel
theorem dX12_readBoard_58 : decode cX12_readBoard 58 = .ok (.iconst 0, 1) := by decide +kernel
theorem dX12_readBoard_59 : decode cX12_readBoard 59 = .ok (.putfield 166, 3) := by decide +kernel
theorem dX12_readBoard_62 : decode cX12_readBoard 62 = .ok (.aload_n 0, 1) := by decide +kernel
theorem dX12_readBoard_63 : decode cX12_readBoard 63 = .ok (.getfield 166, 3) := by decide +kernel
theorem dX12_readBoard_66 : decode cX12_readBoard 66 = .ok (.ireturn, 1) := by decide +kernel
theorem dX12_readSide_0 : decode cX12_readSide 0 = .ok (.aload_n 0, 1) := by decide +kernel
theorem dX12_readSide_1 : decode cX12_readSide 1 = .ok (.ldc 182, 2) := by decide +kernel
theorem dX12_readSide_3 : decode cX12_readSide 3 = .ok (.invokevirtual 115, 3) := by decide +kernel
theorem dX12_readSide_6 : decode cX12_readSide 6 = .ok (.ifCond .eq 7, 3) := by decide +kernel
theorem dX12_readSide_9 : decode cX12_readSide 9 = .ok (.iconst 0, 1) := by decide +kernel
theorem dX12_readSide_10 : decode cX12_readSide 10 = .ok (.goto 47, 3) := by decide +kernel
theorem dX12_readSide_13 : decode cX12_readSide 13 = .ok (.aload_n 0, 1) := by decide +kernel
theorem dX12_readSide_14 : decode cX12_readSide 14 = .ok (.ldc 184, 2) := by decide +kernel
theorem dX12_readSide_16 : decode cX12_readSide 16 = .ok (.invokevirtual 115, 3) := by decide +kernel
theorem dX12_readSide_19 : decode cX12_readSide 19 = .ok (.ifCond .eq 7, 3) := by decide +kernel
theorem dX12_readSide_22 : decode cX12_readSide 22 = .ok (.iconst 1, 1) := by decide +kernel
theorem dX12_readSide_23 : decode cX12_readSide 23 = .ok (.goto 34, 3) := by decide +kernel
theorem dX12_readSide_26 : decode cX12_readSide 26 = .ok (.aload_n 0, 1) := by decide +kernel
theorem dX12_readSide_27 : decode cX12_readSide 27 = .ok (.ldc 186, 2) := by decide +kernel
theorem dX12_readSide_29 : decode cX12_readSide 29 = .ok (.invokevirtual 115, 3) := by decide +kernel
theorem dX12_readSide_32 : decode cX12_readSide 32 = .ok (.ifCond .eq 7, 3) := by decide +kernel
theorem dX12_readSide_35 : decode cX12_readSide 35 = .ok (.iconst 2, 1) := by decide +kernel
theorem dX12_readSide_36 : decode cX12_readSide 36 = .ok (.goto 21, 3) := by decide +kernel
theorem dX12_readSide_39 : decode cX12_readSide 39 = .ok (.aload_n 0, 1) := by decide +kernel
theorem dX12_readSide_40 : decode cX12_readSide 40 = .ok (.ldc 188, 2) := by decide +kernel
theorem dX12_readSide_42 : decode cX12_readSide 42 = .ok (.invokevirtual 115, 3) := by decide +kernel
theorem dX12_readSide_45 : decode cX12_readSide 45 = .ok (.ifCond .eq 7, 3) := by decide +kernel
theorem dX12_readSide_48 : decode cX12_readSide 48 = .ok (.iconst 3, 1) := by decide +kernel
theorem dX12_readSide_49 : decode cX12_readSide 49 = .ok (.goto 8, 3) := by decide +kernel
theorem dX12_readSide_52 : decode cX12_readSide 52 = .ok (.aload_n 0, 1) := by decide +kernel
theorem dX12_readSide_53 : decode cX12_readSide 53 = .ok (.iconst 1, 1) := by decide +kernel
theorem dX12_readSide_54 : decode cX12_readSide 54 = .ok (.invokevirtual 109, 3) := by decide +kernel
theorem dX12_readSide_57 : decode cX12_readSide 57 = .ok (.istore_n 1, 1) := by decide +kernel
theorem dX12_readSide_58 : decode cX12_readSide 58 = .ok (.iload_n 1, 1) := by decide +kernel
theorem dX12_readSide_59 : decode cX12_readSide 59 = .ok (.iconst (-1), 1) := by decide +kernel
theorem dX12_readSide_60 : decode cX12_readSide 60 = .ok (.if_icmp .eq 7, 3) := by decide +kernel
theorem dX12_readSide_63 : decode cX12_readSide 63 = .ok (.aload_n 0, 1) := by decide +kernel
theorem dX12_readSide_64 : decode cX12_readSide 64 = .ok (.invokevirtual 112, 3) := by decide +kernel
theorem dX12_readSide_67 : decode cX12_readSide 67 = .ok (.iload_n 1, 1) := by decide +kernel
theorem dX12_readSide_68 : decode cX12_readSide 68 = .ok (.ireturn, 1) := by decide +kernel
theorem dX12_readNode_0 : decode cX12_readNode 0 = .ok (.aload_n 0, 1) := by decide +kernel
theorem dX12_readNode_1 : decode cX12_readNode 1 = .ok (.getfield 20, 3) := by decide +kernel
theorem dX12_readNode_4 : decode cX12_readNode 4 = .ok (.iconst 2, 1) := by decide +kernel
theorem dX12_readNode_5 : decode cX12_readNode 5 = .ok (.iaload, 1) := by decide +kernel
theorem dX12_readNode_6 : decode cX12_readNode 6 = .ok (.istore_n 1, 1) := by decide +kernel
theorem dX12_readNode_7 : decode cX12_readNode 7 = .ok (.aload_n 0, 1) := by decide +kernel
theorem dX12_readNode_8 : decode cX12_readNode 8 = .ok (.iload_n 1, 1) := by decide +kernel
theorem dX12_readNode_9 : decode cX12_readNode 9 = .ok (.bipush 14, 2) := by decide +kernel
theorem dX12_readNode_11 : decode cX12_readNode 11 = .ok (.if_icmp .ge 7, 3) := by decide +kernel
theorem dX12_readNode_14 : decode cX12_readNode 14 = .ok (.iconst 1, 1) := by decide +kernel
theorem dX12_readNode_15 : decode cX12_readNode 15 = .ok (.goto 4, 3) := by decide +kernel
theorem dX12_readNode_18 : decode cX12_readNode 18 = .ok (.iconst 0, 1) := by decide +kernel
theorem dX12_readNode_19 : decode cX12_readNode 19 = .ok (.invokevirtual 190, 3) := by decide +kernel
theorem dX12_readNode_22 : decode cX12_readNode 22 = .ok (.ifCond .eq 10, 3) := by decide +kernel
theorem dX12_readNode_25 : decode cX12_readNode 25 = .ok (.aload_n 0, 1) := by decide +kernel
theorem dX12_readNode_26 : decode cX12_readNode 26 = .ok (.invokevirtual 194, 3) := by decide +kernel
theorem dX12_readNode_29 : decode cX12_readNode 29 = .ok (.ifCond .ne 5, 3) := by decide +kernel
theorem dX12_readNode_32 : decode cX12_readNode 32 = .ok (.iconst 0, 1) := by decide +kernel
theorem dX12_readNode_33 : decode cX12_readNode 33 = .ok (.ireturn, 1) := by decide +kernel
theorem dX12_readNode_34 : decode cX12_readNode 34 = .ok (.aload_n 0, 1) := by decide +kernel
theorem dX12_readNode_35 : decode cX12_readNode 35 = .ok (.getfield 159, 3) := by decide +kernel
theorem dX12_readNode_38 : decode cX12_readNode 38 = .ok (.lstore_n 2, 1) := by decide +kernel
theorem dX12_readNode_39 : decode cX12_readNode 39 = .ok (.aload_n 0, 1) := by decide +kernel
theorem dX12_readNode_40 : decode cX12_readNode 40 = .ok (.getfield 20, 3) := by decide +kernel
theorem dX12_readNode_43 : decode cX12_readNode 43 = .ok (.bipush 7, 2) := by decide +kernel
theorem dX12_readNode_45 : decode cX12_readNode 45 = .ok (.iload_n 1, 1) := by decide +kernel
theorem dX12_readNode_46 : decode cX12_readNode 46 = .ok (.iadd, 1) := by decide +kernel
theorem dX12_readNode_47 : decode cX12_readNode 47 = .ok (.bipush (-2), 2) := by decide +kernel
theorem dX12_readNode_49 : decode cX12_readNode 49 = .ok (.iastore, 1) := by decide +kernel
theorem dX12_readNode_50 : decode cX12_readNode 50 = .ok (.aload_n 0, 1) := by decide +kernel
theorem dX12_readNode_51 : decode cX12_readNode 51 = .ok (.getfield 20, 3) := by decide +kernel
theorem dX12_readNode_54 : decode cX12_readNode 54 = .ok (.bipush 21, 2) := by decide +kernel
theorem dX12_readNode_56 : decode cX12_readNode 56 = .ok (.iload_n 1, 1) := by decide +kernel
theorem dX12_readNode_57 : decode cX12_readNode 57 = .ok (.iadd, 1) := by decide +kernel
theorem dX12_readNode_58 : decode cX12_readNode 58 = .ok (.iconst 0, 1) := by decide +kernel
theorem dX12_readNode_59 : decode cX12_readNode 59 = .ok (.iastore, 1) := by decide +kernel
theorem dX12_readNode_60 : decode cX12_readNode 60 = .ok (.iload_n 1, 1) := by decide +kernel
theorem dX12_readNode_61 : decode cX12_readNode 61 = .ok (.ifCond .le 78, 3) := by decide +kernel
theorem dX12_readNode_64 : decode cX12_readNode 64 = .ok (.aload_n 0, 1) := by decide +kernel
theorem dX12_readNode_65 : decode cX12_readNode 65 = .ok (.ldc 135, 2) := by decide +kernel
theorem dX12_readNode_67 : decode cX12_readNode 67 = .ok (.invokevirtual 115, 3) := by decide +kernel
theorem dX12_readNode_70 : decode cX12_readNode 70 = .ok (.ifCond .ne 11, 3) := by decide +kernel
theorem dX12_readNode_73 : decode cX12_readNode 73 = .ok (.aload_n 0, 1) := by decide +kernel
theorem dX12_readNode_74 : decode cX12_readNode 74 = .ok (.iconst 1, 1) := by decide +kernel
theorem dX12_readNode_75 : decode cX12_readNode 75 = .ok (.invokevirtual 109, 3) := by decide +kernel
theorem dX12_readNode_78 : decode cX12_readNode 78 = .ok (.pop, 1) := by decide +kernel
theorem dX12_readNode_79 : decode cX12_readNode 79 = .ok (.iconst 0, 1) := by decide +kernel
theorem dX12_readNode_80 : decode cX12_readNode 80 = .ok (.ireturn, 1) := by decide +kernel
theorem dX12_readNode_81 : decode cX12_readNode 81 = .ok (.aload_n 0, 1) := by decide +kernel
theorem dX12_readNode_82 : decode cX12_readNode 82 = .ok (.invokevirtual 112, 3) := by decide +kernel
theorem dX12_readNode_85 : decode cX12_readNode 85 = .ok (.aload_n 0, 1) := by decide +kernel
theorem dX12_readNode_86 : decode cX12_readNode 86 = .ok (.bipush 7, 2) := by decide +kernel
theorem dX12_readNode_88 : decode cX12_readNode 88 = .ok (.iload_n 1, 1) := by decide +kernel
theorem dX12_readNode_89 : decode cX12_readNode 89 = .ok (.iadd, 1) := by decide +kernel
theorem dX12_readNode_90 : decode cX12_readNode 90 = .ok (.aload_n 0, 1) := by decide +kernel
theorem dX12_readNode_91 : decode cX12_readNode 91 = .ok (.iconst 0, 1) := by decide +kernel
theorem dX12_readNode_92 : decode cX12_readNode 92 = .ok (.invokevirtual 197, 3) := by decide +kernel
theorem dX12_readNode_95 : decode cX12_readNode 95 = .ok (.invokevirtual 176, 3) := by decide +kernel
theorem dX12_readNode_98 : decode cX12_readNode 98 = .ok (.ifCond .eq 39, 3) := by decide +kernel
theorem dX12_readNode_101 : decode cX12_readNode 101 = .ok (.aload_n 0, 1) := by decide +kernel
theorem dX12_readNode_102 : decode cX12_readNode 102 = .ok (.bipush 35, 2) := by decide +kernel
theorem dX12_readNode_104 : decode cX12_readNode 104 = .ok (.iload_n 1, 1) := by decide +kernel
theorem dX12_readNode_105 : decode cX12_readNode 105 = .ok (.iadd, 1) := by decide +kernel
theorem dX12_readNode_106 : decode cX12_readNode 106 = .ok (.aload_n 0, 1) := by decide +kernel
theorem dX12_readNode_107 : decode cX12_readNode 107 = .ok (.invokevirtual 200, 3) := by decide +kernel
theorem dX12_readNode_110 : decode cX12_readNode 110 = .ok (.invokevirtual 176, 3) := by decide +kernel
theorem dX12_readNode_113 : decode cX12_readNode 113 = .ok (.ifCond .eq 24, 3) := by decide +kernel
theorem dX12_readNode_116 : decode cX12_readNode 116 = .ok (.aload_n 0, 1) := by decide +kernel
theorem dX12_readNode_117 : decode cX12_readNode 117 = .ok (.bipush 21, 2) := by decide +kernel
theorem dX12_readNode_119 : decode cX12_readNode 119 = .ok (.iload_n 1, 1) := by decide +kernel
theorem dX12_readNode_120 : decode cX12_readNode 120 = .ok (.iadd, 1) := by decide +kernel
theorem dX12_readNode_121 : decode cX12_readNode 121 = .ok (.aload_n 0, 1) := by decide +kernel
theorem dX12_readNode_122 : decode cX12_readNode 122 = .ok (.ldc 203, 2) := by decide +kernel
theorem dX12_readNode_124 : decode cX12_readNode 124 = .ok (.iconst 1, 1) := by decide +kernel
theorem dX12_readNode_125 : decode cX12_readNode 125 = .ok (.sipush 999, 3) := by decide +kernel
theorem dX12_readNode_128 : decode cX12_readNode 128 = .ok (.invokevirtual 172, 3) := by decide +kernel
theorem dX12_readNode_131 : decode cX12_readNode 131 = .ok (.invokevirtual 176, 3) := by decide +kernel
theorem dX12_readNode_134 : decode cX12_readNode 134 = .ok (.ifCond .ne 5, 3) := by decide +kernel
theorem dX12_readNode_137 : decode cX12_readNode 137 = .ok (.iconst 0, 1) := by decide +kernel
theorem dX12_readNode_138 : decode cX12_readNode 138 = .ok (.ireturn, 1) := by decide +kernel
theorem dX12_readNode_139 : decode cX12_readNode 139 = .ok (.aload_n 0, 1) := by decide +kernel
theorem dX12_readNode_140 : decode cX12_readNode 140 = .ok (.lload_n 2, 1) := by decide +kernel
theorem dX12_readNode_141 : decode cX12_readNode 141 = .ok (.iload_n 1, 1) := by decide +kernel
theorem dX12_readNode_142 : decode cX12_readNode 142 = .ok (.invokevirtual 205, 3) := by decide +kernel
theorem dX12_readNode_145 : decode cX12_readNode 145 = .ok (.aload_n 0, 1) := by decide +kernel
theorem dX12_readNode_146 : decode cX12_readNode 146 = .ok (.getfield 20, 3) := by decide +kernel
theorem dX12_readNode_149 : decode cX12_readNode 149 = .ok (.iconst 2, 1) := by decide +kernel
theorem dX12_readNode_150 : decode cX12_readNode 150 = .ok (.dup2, 1) := by decide +kernel
theorem dX12_readNode_151 : decode cX12_readNode 151 = .ok (.iaload, 1) := by decide +kernel
theorem dX12_readNode_152 : decode cX12_readNode 152 = .ok (.iconst 1, 1) := by decide +kernel
theorem dX12_readNode_153 : decode cX12_readNode 153 = .ok (.iadd, 1) := by decide +kernel
theorem dX12_readNode_154 : decode cX12_readNode 154 = .ok (.iastore, 1) := by decide +kernel
theorem dX12_readNode_155 : decode cX12_readNode 155 = .ok (.iconst 1, 1) := by decide +kernel
theorem dX12_readNode_156 : decode cX12_readNode 156 = .ok (.ireturn, 1) := by decide +kernel
theorem dX12_readOption_0 : decode cX12_readOption 0 = .ok (.aload_n 0, 1) := by decide +kernel
theorem dX12_readOption_1 : decode cX12_readOption 1 = .ok (.getfield 20, 3) := by decide +kernel
theorem dX12_readOption_4 : decode cX12_readOption 4 = .ok (.iconst 3, 1) := by decide +kernel
theorem dX12_readOption_5 : decode cX12_readOption 5 = .ok (.iaload, 1) := by decide +kernel
theorem dX12_readOption_6 : decode cX12_readOption 6 = .ok (.istore_n 1, 1) := by decide +kernel
theorem dX12_readOption_7 : decode cX12_readOption 7 = .ok (.aload_n 0, 1) := by decide +kernel
theorem dX12_readOption_8 : decode cX12_readOption 8 = .ok (.iload_n 1, 1) := by decide +kernel
theorem dX12_readOption_9 : decode cX12_readOption 9 = .ok (.iconst 4, 1) := by decide +kernel
theorem dX12_readOption_10 : decode cX12_readOption 10 = .ok (.if_icmp .ge 7, 3) := by decide +kernel
theorem dX12_readOption_13 : decode cX12_readOption 13 = .ok (.iconst 1, 1) := by decide +kernel
theorem dX12_readOption_14 : decode cX12_readOption 14 = .ok (.goto 4, 3) := by decide +kernel
theorem dX12_readOption_17 : decode cX12_readOption 17 = .ok (.iconst 0, 1) := by decide +kernel
theorem dX12_readOption_18 : decode cX12_readOption 18 = .ok (.invokevirtual 190, 3) := by decide +kernel
theorem dX12_readOption_21 : decode cX12_readOption 21 = .ok (.ifCond .eq 10, 3) := by decide +kernel
theorem dX12_readOption_24 : decode cX12_readOption 24 = .ok (.aload_n 0, 1) := by decide +kernel
theorem dX12_readOption_25 : decode cX12_readOption 25 = .ok (.invokevirtual 194, 3) := by decide +kernel
theorem dX12_readOption_28 : decode cX12_readOption 28 = .ok (.ifCond .ne 5, 3) := by decide +kernel
theorem dX12_readOption_31 : decode cX12_readOption 31 = .ok (.iconst 0, 1) := by decide +kernel
theorem dX12_readOption_32 : decode cX12_readOption 32 = .ok (.ireturn, 1) := by decide +kernel
theorem dX12_readOption_33 : decode cX12_readOption 33 = .ok (.aload_n 0, 1) := by decide +kernel
theorem dX12_readOption_34 : decode cX12_readOption 34 = .ok (.aload_n 0, 1) := by decide +kernel
theorem dX12_readOption_35 : decode cX12_readOption 35 = .ok (.getfield 159, 3) := by decide +kernel
theorem dX12_readOption_38 : decode cX12_readOption 38 = .ok (.bipush 100, 2) := by decide +kernel
theorem dX12_readOption_40 : decode cX12_readOption 40 = .ok (.iload_n 1, 1) := by decide +kernel
theorem dX12_readOption_41 : decode cX12_readOption 41 = .ok (.iadd, 1) := by decide +kernel
theorem dX12_readOption_42 : decode cX12_readOption 42 = .ok (.invokevirtual 205, 3) := by decide +kernel
theorem dX12_readOption_45 : decode cX12_readOption 45 = .ok (.aload_n 0, 1) := by decide +kernel
theorem dX12_readOption_46 : decode cX12_readOption 46 = .ok (.getfield 20, 3) := by decide +kernel
theorem dX12_readOption_49 : decode cX12_readOption 49 = .ok (.iconst 3, 1) := by decide +kernel
theorem dX12_readOption_50 : decode cX12_readOption 50 = .ok (.dup2, 1) := by decide +kernel
theorem dX12_readOption_51 : decode cX12_readOption 51 = .ok (.iaload, 1) := by decide +kernel
theorem dX12_readOption_52 : decode cX12_readOption 52 = .ok (.iconst 1, 1) := by decide +kernel
theorem dX12_readOption_53 : decode cX12_readOption 53 = .ok (.iadd, 1) := by decide +kernel
theorem dX12_readOption_54 : decode cX12_readOption 54 = .ok (.iastore, 1) := by decide +kernel
theorem dX12_readOption_55 : decode cX12_readOption 55 = .ok (.iconst 1, 1) := by decide +kernel
theorem dX12_readOption_56 : decode cX12_readOption 56 = .ok (.ireturn, 1) := by decide +kernel
theorem dX12_readWhen_0 : decode cX12_readWhen 0 = .ok (.aload_n 0, 1) := by decide +kernel
theorem dX12_readWhen_1 : decode cX12_readWhen 1 = .ok (.getfield 20, 3) := by decide +kernel
theorem dX12_readWhen_4 : decode cX12_readWhen 4 = .ok (.iload_n 1, 1) := by decide +kernel
theorem dX12_readWhen_5 : decode cX12_readWhen 5 = .ok (.bipush (-2), 2) := by decide +kernel
theorem dX12_readWhen_7 : decode cX12_readWhen 7 = .ok (.iastore, 1) := by decide +kernel
theorem dX12_readWhen_8 : decode cX12_readWhen 8 = .ok (.aload_n 0, 1) := by decide +kernel
theorem dX12_readWhen_9 : decode cX12_readWhen 9 = .ok (.getfield 20, 3) := by decide +kernel
theorem dX12_readWhen_12 : decode cX12_readWhen 12 = .ok (.iload_n 1, 1) := by decide +kernel
theorem dX12_readWhen_13 : decode cX12_readWhen 13 = .ok (.iconst 1, 1) := by decide +kernel
theorem dX12_readWhen_14 : decode cX12_readWhen 14 = .ok (.iadd, 1) := by decide +kernel
theorem dX12_readWhen_15 : decode cX12_readWhen 15 = .ok (.bipush (-2), 2) := by decide +kernel
theorem dX12_readWhen_17 : decode cX12_readWhen 17 = .ok (.iastore, 1) := by decide +kernel
theorem dX12_readWhen_18 : decode cX12_readWhen 18 = .ok (.aload_n 0, 1) := by decide +kernel
theorem dX12_readWhen_19 : decode cX12_readWhen 19 = .ok (.ldc 137, 2) := by decide +kernel
theorem dX12_readWhen_21 : decode cX12_readWhen 21 = .ok (.invokevirtual 115, 3) := by decide +kernel
theorem dX12_readWhen_24 : decode cX12_readWhen 24 = .ok (.ifCond .ne 14, 3) := by decide +kernel
theorem dX12_readWhen_27 : decode cX12_readWhen 27 = .ok (.aload_n 0, 1) := by decide +kernel
theorem dX12_readWhen_28 : decode cX12_readWhen 28 = .ok (.ldc 139, 2) := by decide +kernel
theorem dX12_readWhen_30 : decode cX12_readWhen 30 = .ok (.invokevirtual 115, 3) := by decide +kernel
theorem dX12_readWhen_33 : decode cX12_readWhen 33 = .ok (.ifCond .ne 5, 3) := by decide +kernel
theorem dX12_readWhen_36 : decode cX12_readWhen 36 = .ok (.iconst 1, 1) := by decide +kernel
theorem dX12_readWhen_37 : decode cX12_readWhen 37 = .ok (.ireturn, 1) := by decide +kernel
theorem dX12_readWhen_38 : decode cX12_readWhen 38 = .ok (.aload_n 0, 1) := by decide +kernel
theorem dX12_readWhen_39 : decode cX12_readWhen 39 = .ok (.getfield 20, 3) := by decide +kernel
theorem dX12_readWhen_42 : decode cX12_readWhen 42 = .ok (.iload_n 1, 1) := by decide +kernel
theorem dX12_readWhen_43 : decode cX12_readWhen 43 = .ok (.iconst 1, 1) := by decide +kernel
theorem dX12_readWhen_44 : decode cX12_readWhen 44 = .ok (.iadd, 1) := by decide +kernel
theorem dX12_readWhen_45 : decode cX12_readWhen 45 = .ok (.aload_n 0, 1) := by decide +kernel
theorem dX12_readWhen_46 : decode cX12_readWhen 46 = .ok (.ldc 137, 2) := by decide +kernel
theorem dX12_readWhen_48 : decode cX12_readWhen 48 = .ok (.invokevirtual 115, 3) := by decide +kernel
theorem dX12_readWhen_51 : decode cX12_readWhen 51 = .ok (.ifCond .eq 7, 3) := by decide +kernel
theorem dX12_readWhen_54 : decode cX12_readWhen 54 = .ok (.iconst 1, 1) := by decide +kernel
theorem dX12_readWhen_55 : decode cX12_readWhen 55 = .ok (.goto 4, 3) := by decide +kernel
theorem dX12_readWhen_58 : decode cX12_readWhen 58 = .ok (.iconst 0, 1) := by decide +kernel
theorem dX12_readWhen_59 : decode cX12_readWhen 59 = .ok (.iastore, 1) := by decide +kernel
theorem dX12_readWhen_60 : decode cX12_readWhen 60 = .ok (.aload_n 0, 1) := by decide +kernel
theorem dX12_readWhen_61 : decode cX12_readWhen 61 = .ok (.invokevirtual 112, 3) := by decide +kernel
theorem dX12_readWhen_64 : decode cX12_readWhen 64 = .ok (.aload_n 0, 1) := by decide +kernel
theorem dX12_readWhen_65 : decode cX12_readWhen 65 = .ok (.iload_n 1, 1) := by decide +kernel
theorem dX12_readWhen_66 : decode cX12_readWhen 66 = .ok (.aload_n 0, 1) := by decide +kernel
theorem dX12_readWhen_67 : decode cX12_readWhen 67 = .ok (.bipush 100, 2) := by decide +kernel
theorem dX12_readWhen_69 : decode cX12_readWhen 69 = .ok (.invokevirtual 197, 3) := by decide +kernel
theorem dX12_readWhen_72 : decode cX12_readWhen 72 = .ok (.invokevirtual 176, 3) := by decide +kernel
theorem dX12_readWhen_75 : decode cX12_readWhen 75 = .ok (.ireturn, 1) := by decide +kernel
theorem dX12_readPlug_0 : decode cX12_readPlug 0 = .ok (.aload_n 0, 1) := by decide +kernel
theorem dX12_readPlug_1 : decode cX12_readPlug 1 = .ok (.getfield 20, 3) := by decide +kernel
theorem dX12_readPlug_4 : decode cX12_readPlug 4 = .ok (.iconst 4, 1) := by decide +kernel
theorem dX12_readPlug_5 : decode cX12_readPlug 5 = .ok (.iaload, 1) := by decide +kernel
theorem dX12_readPlug_6 : decode cX12_readPlug 6 = .ok (.istore_n 1, 1) := by decide +kernel
theorem dX12_readPlug_7 : decode cX12_readPlug 7 = .ok (.aload_n 0, 1) := by decide +kernel
theorem dX12_readPlug_8 : decode cX12_readPlug 8 = .ok (.iload_n 1, 1) := by decide +kernel
theorem dX12_readPlug_9 : decode cX12_readPlug 9 = .ok (.bipush 8, 2) := by decide +kernel
theorem dX12_readPlug_11 : decode cX12_readPlug 11 = .ok (.if_icmp .ge 7, 3) := by decide +kernel
theorem dX12_readPlug_14 : decode cX12_readPlug 14 = .ok (.iconst 1, 1) := by decide +kernel
theorem dX12_readPlug_15 : decode cX12_readPlug 15 = .ok (.goto 4, 3) := by decide +kernel
theorem dX12_readPlug_18 : decode cX12_readPlug 18 = .ok (.iconst 0, 1) := by decide +kernel
theorem dX12_readPlug_19 : decode cX12_readPlug 19 = .ok (.invokevirtual 190, 3) := by decide +kernel
theorem dX12_readPlug_22 : decode cX12_readPlug 22 = .ok (.ifCond .eq 10, 3) := by decide +kernel
theorem dX12_readPlug_25 : decode cX12_readPlug 25 = .ok (.aload_n 0, 1) := by decide +kernel
theorem dX12_readPlug_26 : decode cX12_readPlug 26 = .ok (.invokevirtual 194, 3) := by decide +kernel
theorem dX12_readPlug_29 : decode cX12_readPlug 29 = .ok (.ifCond .ne 5, 3) := by decide +kernel
theorem dX12_readPlug_32 : decode cX12_readPlug 32 = .ok (.iconst 0, 1) := by decide +kernel
theorem dX12_readPlug_33 : decode cX12_readPlug 33 = .ok (.ireturn, 1) := by decide +kernel
theorem dX12_readPlug_34 : decode cX12_readPlug 34 = .ok (.aload_n 0, 1) := by decide +kernel
theorem dX12_readPlug_35 : decode cX12_readPlug 35 = .ok (.getfield 159, 3) := by decide +kernel
theorem dX12_readPlug_38 : decode cX12_readPlug 38 = .ok (.lstore_n 2, 1) := by decide +kernel
theorem dX12_readPlug_39 : decode cX12_readPlug 39 = .ok (.bipush 49, 2) := by decide +kernel
theorem dX12_readPlug_41 : decode cX12_readPlug 41 = .ok (.bipush 6, 2) := by decide +kernel
theorem dX12_readPlug_43 : decode cX12_readPlug 43 = .ok (.iload_n 1, 1) := by decide +kernel
theorem dX12_readPlug_44 : decode cX12_readPlug 44 = .ok (.imul, 1) := by decide +kernel
theorem dX12_readPlug_45 : decode cX12_readPlug 45 = .ok (.iadd, 1) := by decide +kernel
theorem dX12_readPlug_46 : decode cX12_readPlug 46 = .ok (.istore 4, 2) := by decide +kernel
theorem dX12_readPlug_48 : decode cX12_readPlug 48 = .ok (.aload_n 0, 1) := by decide +kernel
theorem dX12_readPlug_49 : decode cX12_readPlug 49 = .ok (.ldc 209, 2) := by decide +kernel
theorem dX12_readPlug_51 : decode cX12_readPlug 51 = .ok (.invokevirtual 115, 3) := by decide +kernel
theorem dX12_readPlug_54 : decode cX12_readPlug 54 = .ok (.ifCond .ne 11, 3) := by decide +kernel
theorem dX12_readPlug_57 : decode cX12_readPlug 57 = .ok (.aload_n 0, 1) := by decide +kernel
theorem dX12_readPlug_58 : decode cX12_readPlug 58 = .ok (.iconst 1, 1) := by decide +kernel
theorem dX12_readPlug_59 : decode cX12_readPlug 59 = .ok (.invokevirtual 109, 3) := by decide +kernel
theorem dX12_readPlug_62 : decode cX12_readPlug 62 = .ok (.pop, 1) := by decide +kernel
theorem dX12_readPlug_63 : decode cX12_readPlug 63 = .ok (.iconst 0, 1) := by decide +kernel
theorem dX12_readPlug_64 : decode cX12_readPlug 64 = .ok (.ireturn, 1) := by decide +kernel
theorem dX12_readPlug_65 : decode cX12_readPlug 65 = .ok (.aload_n 0, 1) := by decide +kernel
theorem dX12_readPlug_66 : decode cX12_readPlug 66 = .ok (.invokevirtual 112, 3) := by decide +kernel
theorem dX12_readPlug_69 : decode cX12_readPlug 69 = .ok (.aload_n 0, 1) := by decide +kernel
theorem dX12_readPlug_70 : decode cX12_readPlug 70 = .ok (.iload 4, 2) := by decide +kernel
theorem dX12_readPlug_72 : decode cX12_readPlug 72 = .ok (.iconst 0, 1) := by decide +kernel
theorem dX12_readPlug_73 : decode cX12_readPlug 73 = .ok (.iadd, 1) := by decide +kernel
theorem dX12_readPlug_74 : decode cX12_readPlug 74 = .ok (.aload_n 0, 1) := by decide +kernel
theorem dX12_readPlug_75 : decode cX12_readPlug 75 = .ok (.iconst 0, 1) := by decide +kernel
theorem dX12_readPlug_76 : decode cX12_readPlug 76 = .ok (.invokevirtual 197, 3) := by decide +kernel
theorem dX12_readPlug_79 : decode cX12_readPlug 79 = .ok (.invokevirtual 176, 3) := by decide +kernel
theorem dX12_readPlug_82 : decode cX12_readPlug 82 = .ok (.ifCond .eq 82, 3) := by decide +kernel
theorem dX12_readPlug_85 : decode cX12_readPlug 85 = .ok (.aload_n 0, 1) := by decide +kernel
theorem dX12_readPlug_86 : decode cX12_readPlug 86 = .ok (.iload 4, 2) := by decide +kernel
theorem dX12_readPlug_88 : decode cX12_readPlug 88 = .ok (.iconst 1, 1) := by decide +kernel
theorem dX12_readPlug_89 : decode cX12_readPlug 89 = .ok (.iadd, 1) := by decide +kernel
theorem dX12_readPlug_90 : decode cX12_readPlug 90 = .ok (.aload_n 0, 1) := by decide +kernel
theorem dX12_readPlug_91 : decode cX12_readPlug 91 = .ok (.ldc 211, 2) := by decide +kernel
theorem dX12_readPlug_93 : decode cX12_readPlug 93 = .ok (.iconst 1, 1) := by decide +kernel
theorem dX12_readPlug_94 : decode cX12_readPlug 94 = .ok (.bipush 12, 2) := by decide +kernel
theorem dX12_readPlug_96 : decode cX12_readPlug 96 = .ok (.invokevirtual 172, 3) := by decide +kernel
theorem dX12_readPlug_99 : decode cX12_readPlug 99 = .ok (.invokevirtual 176, 3) := by decide +kernel
theorem dX12_readPlug_102 : decode cX12_readPlug 102 = .ok (.ifCond .eq 62, 3) := by decide +kernel
theorem dX12_readPlug_105 : decode cX12_readPlug 105 = .ok (.aload_n 0, 1) := by decide +kernel
theorem dX12_readPlug_106 : decode cX12_readPlug 106 = .ok (.iload 4, 2) := by decide +kernel
theorem dX12_readPlug_108 : decode cX12_readPlug 108 = .ok (.iconst 2, 1) := by decide +kernel
theorem dX12_readPlug_109 : decode cX12_readPlug 109 = .ok (.iadd, 1) := by decide +kernel
theorem dX12_readPlug_110 : decode cX12_readPlug 110 = .ok (.aload_n 0, 1) := by decide +kernel
theorem dX12_readPlug_111 : decode cX12_readPlug 111 = .ok (.ldc 213, 2) := by decide +kernel
theorem dX12_readPlug_113 : decode cX12_readPlug 113 = .ok (.iconst 1, 1) := by decide +kernel
theorem dX12_readPlug_114 : decode cX12_readPlug 114 = .ok (.bipush 9, 2) := by decide +kernel
theorem dX12_readPlug_116 : decode cX12_readPlug 116 = .ok (.invokevirtual 172, 3) := by decide +kernel
theorem dX12_readPlug_119 : decode cX12_readPlug 119 = .ok (.invokevirtual 176, 3) := by decide +kernel
theorem dX12_readPlug_122 : decode cX12_readPlug 122 = .ok (.ifCond .eq 42, 3) := by decide +kernel
theorem dX12_readPlug_125 : decode cX12_readPlug 125 = .ok (.aload_n 0, 1) := by decide +kernel
theorem dX12_readPlug_126 : decode cX12_readPlug 126 = .ok (.iload 4, 2) := by decide +kernel
theorem dX12_readPlug_128 : decode cX12_readPlug 128 = .ok (.iconst 3, 1) := by decide +kernel
theorem dX12_readPlug_129 : decode cX12_readPlug 129 = .ok (.iadd, 1) := by decide +kernel
theorem dX12_readPlug_130 : decode cX12_readPlug 130 = .ok (.aload_n 0, 1) := by decide +kernel
theorem dX12_readPlug_131 : decode cX12_readPlug 131 = .ok (.ldc 215, 2) := by decide +kernel
theorem dX12_readPlug_133 : decode cX12_readPlug 133 = .ok (.aload_n 0, 1) := by decide +kernel
theorem dX12_readPlug_134 : decode cX12_readPlug 134 = .ok (.getfield 20, 3) := by decide +kernel
theorem dX12_readPlug_137 : decode cX12_readPlug 137 = .ok (.iload 4, 2) := by decide +kernel
theorem dX12_readPlug_139 : decode cX12_readPlug 139 = .ok (.iconst 2, 1) := by decide +kernel
theorem dX12_readPlug_140 : decode cX12_readPlug 140 = .ok (.iadd, 1) := by decide +kernel
theorem dX12_readPlug_141 : decode cX12_readPlug 141 = .ok (.iaload, 1) := by decide +kernel
theorem dX12_readPlug_142 : decode cX12_readPlug 142 = .ok (.bipush 9, 2) := by decide +kernel
theorem dX12_readPlug_144 : decode cX12_readPlug 144 = .ok (.invokevirtual 172, 3) := by decide +kernel
theorem dX12_readPlug_147 : decode cX12_readPlug 147 = .ok (.invokevirtual 176, 3) := by decide +kernel
theorem dX12_readPlug_150 : decode cX12_readPlug 150 = .ok (.ifCond .eq 14, 3) := by decide +kernel
theorem dX12_readPlug_153 : decode cX12_readPlug 153 = .ok (.aload_n 0, 1) := by decide +kernel
theorem dX12_readPlug_154 : decode cX12_readPlug 154 = .ok (.iload 4, 2) := by decide +kernel
theorem dX12_readPlug_156 : decode cX12_readPlug 156 = .ok (.iconst 4, 1) := by decide +kernel
theorem dX12_readPlug_157 : decode cX12_readPlug 157 = .ok (.iadd, 1) := by decide +kernel
theorem dX12_readPlug_158 : decode cX12_readPlug 158 = .ok (.invokevirtual 217, 3) := by decide +kernel
theorem dX12_readPlug_161 : decode cX12_readPlug 161 = .ok (.ifCond .ne 5, 3) := by decide +kernel
theorem dX12_readPlug_164 : decode cX12_readPlug 164 = .ok (.iconst 0, 1) := by decide +kernel
theorem dX12_readPlug_165 : decode cX12_readPlug 165 = .ok (.ireturn, 1) := by decide +kernel
theorem dX12_readPlug_166 : decode cX12_readPlug 166 = .ok (.aload_n 0, 1) := by decide +kernel
theorem dX12_readPlug_167 : decode cX12_readPlug 167 = .ok (.lload_n 2, 1) := by decide +kernel
theorem dX12_readPlug_168 : decode cX12_readPlug 168 = .ok (.sipush 200, 3) := by decide +kernel
theorem dX12_readPlug_171 : decode cX12_readPlug 171 = .ok (.iload_n 1, 1) := by decide +kernel
theorem dX12_readPlug_172 : decode cX12_readPlug 172 = .ok (.iadd, 1) := by decide +kernel
theorem dX12_readPlug_173 : decode cX12_readPlug 173 = .ok (.invokevirtual 205, 3) := by decide +kernel
theorem dX12_readPlug_176 : decode cX12_readPlug 176 = .ok (.aload_n 0, 1) := by decide +kernel
theorem dX12_readPlug_177 : decode cX12_readPlug 177 = .ok (.getfield 20, 3) := by decide +kernel
theorem dX12_readPlug_180 : decode cX12_readPlug 180 = .ok (.iconst 4, 1) := by decide +kernel
theorem dX12_readPlug_181 : decode cX12_readPlug 181 = .ok (.dup2, 1) := by decide +kernel
theorem dX12_readPlug_182 : decode cX12_readPlug 182 = .ok (.iaload, 1) := by decide +kernel
theorem dX12_readPlug_183 : decode cX12_readPlug 183 = .ok (.iconst 1, 1) := by decide +kernel
theorem dX12_readPlug_184 : decode cX12_readPlug 184 = .ok (.iadd, 1) := by decide +kernel
theorem dX12_readPlug_185 : decode cX12_readPlug 185 = .ok (.iastore, 1) := by decide +kernel
theorem dX12_readPlug_186 : decode cX12_readPlug 186 = .ok (.iconst 1, 1) := by decide +kernel
theorem dX12_readPlug_187 : decode cX12_readPlug 187 = .ok (.ireturn, 1) := by decide +kernel
theorem dX12_readKind_0 : decode cX12_readKind 0 = .ok (.aload_n 0, 1) := by decide +kernel
theorem dX12_readKind_1 : decode cX12_readKind 1 = .ok (.ldc 221, 2) := by decide +kernel
theorem dX12_readKind_3 : decode cX12_readKind 3 = .ok (.invokevirtual 115, 3) := by decide +kernel
theorem dX12_readKind_6 : decode cX12_readKind 6 = .ok (.ifCond .eq 7, 3) := by decide +kernel
theorem dX12_readKind_9 : decode cX12_readKind 9 = .ok (.iconst 0, 1) := by decide +kernel
theorem dX12_readKind_10 : decode cX12_readKind 10 = .ok (.goto 34, 3) := by decide +kernel
theorem dX12_readKind_13 : decode cX12_readKind 13 = .ok (.aload_n 0, 1) := by decide +kernel
theorem dX12_readKind_14 : decode cX12_readKind 14 = .ok (.ldc 223, 2) := by decide +kernel
theorem dX12_readKind_16 : decode cX12_readKind 16 = .ok (.invokevirtual 115, 3) := by decide +kernel
theorem dX12_readKind_19 : decode cX12_readKind 19 = .ok (.ifCond .eq 7, 3) := by decide +kernel
theorem dX12_readKind_22 : decode cX12_readKind 22 = .ok (.iconst 1, 1) := by decide +kernel
theorem dX12_readKind_23 : decode cX12_readKind 23 = .ok (.goto 21, 3) := by decide +kernel
theorem dX12_readKind_26 : decode cX12_readKind 26 = .ok (.aload_n 0, 1) := by decide +kernel
theorem dX12_readKind_27 : decode cX12_readKind 27 = .ok (.ldc 225, 2) := by decide +kernel
theorem dX12_readKind_29 : decode cX12_readKind 29 = .ok (.invokevirtual 115, 3) := by decide +kernel
theorem dX12_readKind_32 : decode cX12_readKind 32 = .ok (.ifCond .eq 7, 3) := by decide +kernel
theorem dX12_readKind_35 : decode cX12_readKind 35 = .ok (.iconst 2, 1) := by decide +kernel
theorem dX12_readKind_36 : decode cX12_readKind 36 = .ok (.goto 8, 3) := by decide +kernel
theorem dX12_readKind_39 : decode cX12_readKind 39 = .ok (.aload_n 0, 1) := by decide +kernel
theorem dX12_readKind_40 : decode cX12_readKind 40 = .ok (.iconst 1, 1) := by decide +kernel
theorem dX12_readKind_41 : decode cX12_readKind 41 = .ok (.invokevirtual 109, 3) := by decide +kernel
theorem dX12_readKind_44 : decode cX12_readKind 44 = .ok (.istore_n 1, 1) := by decide +kernel
theorem dX12_readKind_45 : decode cX12_readKind 45 = .ok (.iload_n 1, 1) := by decide +kernel
theorem dX12_readKind_46 : decode cX12_readKind 46 = .ok (.iconst (-1), 1) := by decide +kernel
theorem dX12_readKind_47 : decode cX12_readKind 47 = .ok (.if_icmp .eq 7, 3) := by decide +kernel
theorem dX12_readKind_50 : decode cX12_readKind 50 = .ok (.aload_n 0, 1) := by decide +kernel
theorem dX12_readKind_51 : decode cX12_readKind 51 = .ok (.invokevirtual 112, 3) := by decide +kernel
theorem dX12_readKind_54 : decode cX12_readKind 54 = .ok (.iload_n 1, 1) := by decide +kernel
theorem dX12_readKind_55 : decode cX12_readKind 55 = .ok (.ireturn, 1) := by decide +kernel
theorem dX12_readPin_0 : decode cX12_readPin 0 = .ok (.aload_n 0, 1) := by decide +kernel
theorem dX12_readPin_1 : decode cX12_readPin 1 = .ok (.sipush 200, 3) := by decide +kernel
theorem dX12_readPin_4 : decode cX12_readPin 4 = .ok (.invokevirtual 197, 3) := by decide +kernel
theorem dX12_readPin_7 : decode cX12_readPin 7 = .ok (.istore_n 2, 1) := by decide +kernel
theorem dX12_readPin_8 : decode cX12_readPin 8 = .ok (.iload_n 2, 1) := by decide +kernel
theorem dX12_readPin_9 : decode cX12_readPin 9 = .ok (.iconst (-1), 1) := by decide +kernel
theorem dX12_readPin_10 : decode cX12_readPin 10 = .ok (.if_icmp .ne 5, 3) := by decide +kernel
theorem dX12_readPin_13 : decode cX12_readPin 13 = .ok (.iconst 0, 1) := by decide +kernel
theorem dX12_readPin_14 : decode cX12_readPin 14 = .ok (.ireturn, 1) := by decide +kernel
theorem dX12_readPin_15 : decode cX12_readPin 15 = .ok (.aload_n 0, 1) := by decide +kernel
theorem dX12_readPin_16 : decode cX12_readPin 16 = .ok (.getfield 83, 3) := by decide +kernel
theorem dX12_readPin_19 : decode cX12_readPin 19 = .ok (.iconst 3, 1) := by decide +kernel
theorem dX12_readPin_20 : decode cX12_readPin 20 = .ok (.if_icmp .eq 11, 3) := by decide +kernel
theorem dX12_readPin_23 : decode cX12_readPin 23 = .ok (.aload_n 0, 1) := by decide +kernel
theorem dX12_readPin_24 : decode cX12_readPin 24 = .ok (.iconst 1, 1) := by decide +kernel
theorem dX12_readPin_25 : decode cX12_readPin 25 = .ok (.invokevirtual 109, 3) := by decide +kernel
theorem dX12_readPin_28 : decode cX12_readPin 28 = .ok (.pop, 1) := by decide +kernel
theorem dX12_readPin_29 : decode cX12_readPin 29 = .ok (.iconst 0, 1) := by decide +kernel
theorem dX12_readPin_30 : decode cX12_readPin 30 = .ok (.ireturn, 1) := by decide +kernel
theorem dX12_readPin_31 : decode cX12_readPin 31 = .ok (.aload_n 0, 1) := by decide +kernel
theorem dX12_readPin_32 : decode cX12_readPin 32 = .ok (.getfield 90, 3) := by decide +kernel
theorem dX12_readPin_35 : decode cX12_readPin 35 = .ok (.aload_n 0, 1) := by decide +kernel
theorem dX12_readPin_36 : decode cX12_readPin 36 = .ok (.getfield 20, 3) := by decide +kernel
theorem dX12_readPin_39 : decode cX12_readPin 39 = .ok (.bipush 49, 2) := by decide +kernel
theorem dX12_readPin_41 : decode cX12_readPin 41 = .ok (.bipush 6, 2) := by decide +kernel
theorem dX12_readPin_43 : decode cX12_readPin 43 = .ok (.iload_n 2, 1) := by decide +kernel
theorem dX12_readPin_44 : decode cX12_readPin 44 = .ok (.imul, 1) := by decide +kernel
theorem dX12_readPin_45 : decode cX12_readPin 45 = .ok (.iadd, 1) := by decide +kernel
theorem dX12_readPin_46 : decode cX12_readPin 46 = .ok (.iconst 1, 1) := by decide +kernel
theorem dX12_readPin_47 : decode cX12_readPin 47 = .ok (.iadd, 1) := by decide +kernel
theorem dX12_readPin_48 : decode cX12_readPin 48 = .ok (.iaload, 1) := by decide +kernel
theorem dX12_readPin_49 : decode cX12_readPin 49 = .ok (.if_icmp .lt 11, 3) := by decide +kernel
theorem dX12_readPin_52 : decode cX12_readPin 52 = .ok (.aload_n 0, 1) := by decide +kernel
theorem dX12_readPin_53 : decode cX12_readPin 53 = .ok (.iconst 4, 1) := by decide +kernel
theorem dX12_readPin_54 : decode cX12_readPin 54 = .ok (.invokevirtual 109, 3) := by decide +kernel
theorem dX12_readPin_57 : decode cX12_readPin 57 = .ok (.pop, 1) := by decide +kernel
theorem dX12_readPin_58 : decode cX12_readPin 58 = .ok (.iconst 0, 1) := by decide +kernel
theorem dX12_readPin_59 : decode cX12_readPin 59 = .ok (.ireturn, 1) := by decide +kernel
theorem dX12_readPin_60 : decode cX12_readPin 60 = .ok (.aload_n 0, 1) := by decide +kernel
theorem dX12_readPin_61 : decode cX12_readPin 61 = .ok (.getfield 20, 3) := by decide +kernel
theorem dX12_readPin_64 : decode cX12_readPin 64 = .ok (.iload_n 1, 1) := by decide +kernel
theorem dX12_readPin_65 : decode cX12_readPin 65 = .ok (.iconst 2, 1) := by decide +kernel
theorem dX12_readPin_66 : decode cX12_readPin 66 = .ok (.iadd, 1) := by decide +kernel
theorem dX12_readPin_67 : decode cX12_readPin 67 = .ok (.iaload, 1) := by decide +kernel
theorem dX12_readPin_68 : decode cX12_readPin 68 = .ok (.istore_n 3, 1) := by decide +kernel
theorem dX12_readPin_69 : decode cX12_readPin 69 = .ok (.iconst 0, 1) := by decide +kernel
theorem dX12_readPin_70 : decode cX12_readPin 70 = .ok (.istore 4, 2) := by decide +kernel
theorem dX12_readPin_72 : decode cX12_readPin 72 = .ok (.iload 4, 2) := by decide +kernel
theorem dX12_readPin_74 : decode cX12_readPin 74 = .ok (.iload_n 3, 1) := by decide +kernel
theorem dX12_readPin_75 : decode cX12_readPin 75 = .ok (.if_icmp .ge 58, 3) := by decide +kernel
theorem dX12_readPin_78 : decode cX12_readPin 78 = .ok (.aload_n 0, 1) := by decide +kernel
theorem dX12_readPin_79 : decode cX12_readPin 79 = .ok (.getfield 20, 3) := by decide +kernel
theorem dX12_readPin_82 : decode cX12_readPin 82 = .ok (.iload_n 1, 1) := by decide +kernel
theorem dX12_readPin_83 : decode cX12_readPin 83 = .ok (.bipush 6, 2) := by decide +kernel
theorem dX12_readPin_85 : decode cX12_readPin 85 = .ok (.iadd, 1) := by decide +kernel
theorem dX12_readPin_86 : decode cX12_readPin 86 = .ok (.iconst 2, 1) := by decide +kernel
theorem dX12_readPin_87 : decode cX12_readPin 87 = .ok (.iload 4, 2) := by decide +kernel
theorem dX12_readPin_89 : decode cX12_readPin 89 = .ok (.imul, 1) := by decide +kernel
theorem dX12_readPin_90 : decode cX12_readPin 90 = .ok (.iadd, 1) := by decide +kernel
theorem dX12_readPin_91 : decode cX12_readPin 91 = .ok (.iaload, 1) := by decide +kernel
theorem dX12_readPin_92 : decode cX12_readPin 92 = .ok (.iload_n 2, 1) := by decide +kernel
theorem dX12_readPin_93 : decode cX12_readPin 93 = .ok (.if_icmp .ne 34, 3) := by decide +kernel
theorem dX12_readPin_96 : decode cX12_readPin 96 = .ok (.aload_n 0, 1) := by decide +kernel
theorem dX12_readPin_97 : decode cX12_readPin 97 = .ok (.getfield 20, 3) := by decide +kernel
theorem dX12_readPin_100 : decode cX12_readPin 100 = .ok (.iload_n 1, 1) := by decide +kernel
theorem dX12_readPin_101 : decode cX12_readPin 101 = .ok (.bipush 6, 2) := by decide +kernel
theorem dX12_readPin_103 : decode cX12_readPin 103 = .ok (.iadd, 1) := by decide +kernel
theorem dX12_readPin_104 : decode cX12_readPin 104 = .ok (.iconst 2, 1) := by decide +kernel
theorem dX12_readPin_105 : decode cX12_readPin 105 = .ok (.iload 4, 2) := by decide +kernel
theorem dX12_readPin_107 : decode cX12_readPin 107 = .ok (.imul, 1) := by decide +kernel
theorem dX12_readPin_108 : decode cX12_readPin 108 = .ok (.iadd, 1) := by decide +kernel
theorem dX12_readPin_109 : decode cX12_readPin 109 = .ok (.iconst 1, 1) := by decide +kernel
theorem dX12_readPin_110 : decode cX12_readPin 110 = .ok (.iadd, 1) := by decide +kernel
theorem dX12_readPin_111 : decode cX12_readPin 111 = .ok (.iaload, 1) := by decide +kernel
theorem dX12_readPin_112 : decode cX12_readPin 112 = .ok (.aload_n 0, 1) := by decide +kernel
theorem dX12_readPin_113 : decode cX12_readPin 113 = .ok (.getfield 90, 3) := by decide +kernel
theorem dX12_readPin_116 : decode cX12_readPin 116 = .ok (.if_icmp .ne 11, 3) := by decide +kernel
theorem dX12_readPin_119 : decode cX12_readPin 119 = .ok (.aload_n 0, 1) := by decide +kernel
theorem dX12_readPin_120 : decode cX12_readPin 120 = .ok (.iconst 3, 1) := by decide +kernel
theorem dX12_readPin_121 : decode cX12_readPin 121 = .ok (.invokevirtual 109, 3) := by decide +kernel
theorem dX12_readPin_124 : decode cX12_readPin 124 = .ok (.pop, 1) := by decide +kernel
theorem dX12_readPin_125 : decode cX12_readPin 125 = .ok (.iconst 0, 1) := by decide +kernel
theorem dX12_readPin_126 : decode cX12_readPin 126 = .ok (.ireturn, 1) := by decide +kernel
theorem dX12_readPin_127 : decode cX12_readPin 127 = .ok (.iinc 4 1, 3) := by decide +kernel
theorem dX12_readPin_130 : decode cX12_readPin 130 = .ok (.goto (-58), 3) := by decide +kernel
theorem dX12_readPin_133 : decode cX12_readPin 133 = .ok (.aload_n 0, 1) := by decide +kernel
theorem dX12_readPin_134 : decode cX12_readPin 134 = .ok (.getfield 20, 3) := by decide +kernel
theorem dX12_readPin_137 : decode cX12_readPin 137 = .ok (.iload_n 1, 1) := by decide +kernel
theorem dX12_readPin_138 : decode cX12_readPin 138 = .ok (.bipush 6, 2) := by decide +kernel
theorem dX12_readPin_140 : decode cX12_readPin 140 = .ok (.iadd, 1) := by decide +kernel
theorem dX12_readPin_141 : decode cX12_readPin 141 = .ok (.iconst 2, 1) := by decide +kernel
theorem dX12_readPin_142 : decode cX12_readPin 142 = .ok (.iload_n 3, 1) := by decide +kernel
theorem dX12_readPin_143 : decode cX12_readPin 143 = .ok (.imul, 1) := by decide +kernel
theorem dX12_readPin_144 : decode cX12_readPin 144 = .ok (.iadd, 1) := by decide +kernel
theorem dX12_readPin_145 : decode cX12_readPin 145 = .ok (.iload_n 2, 1) := by decide +kernel
theorem dX12_readPin_146 : decode cX12_readPin 146 = .ok (.iastore, 1) := by decide +kernel
theorem dX12_readPin_147 : decode cX12_readPin 147 = .ok (.aload_n 0, 1) := by decide +kernel
theorem dX12_readPin_148 : decode cX12_readPin 148 = .ok (.getfield 20, 3) := by decide +kernel
theorem dX12_readPin_151 : decode cX12_readPin 151 = .ok (.iload_n 1, 1) := by decide +kernel
theorem dX12_readPin_152 : decode cX12_readPin 152 = .ok (.bipush 6, 2) := by decide +kernel
theorem dX12_readPin_154 : decode cX12_readPin 154 = .ok (.iadd, 1) := by decide +kernel
theorem dX12_readPin_155 : decode cX12_readPin 155 = .ok (.iconst 2, 1) := by decide +kernel
theorem dX12_readPin_156 : decode cX12_readPin 156 = .ok (.iload_n 3, 1) := by decide +kernel
theorem dX12_readPin_157 : decode cX12_readPin 157 = .ok (.imul, 1) := by decide +kernel
theorem dX12_readPin_158 : decode cX12_readPin 158 = .ok (.iadd, 1) := by decide +kernel
theorem dX12_readPin_159 : decode cX12_readPin 159 = .ok (.iconst 1, 1) := by decide +kernel
theorem dX12_readPin_160 : decode cX12_readPin 160 = .ok (.iadd, 1) := by decide +kernel
theorem dX12_readPin_161 : decode cX12_readPin 161 = .ok (.aload_n 0, 1) := by decide +kernel
theorem dX12_readPin_162 : decode cX12_readPin 162 = .ok (.getfield 90, 3) := by decide +kernel
theorem dX12_readPin_165 : decode cX12_readPin 165 = .ok (.iastore, 1) := by decide +kernel
theorem dX12_readPin_166 : decode cX12_readPin 166 = .ok (.aload_n 0, 1) := by decide +kernel
theorem dX12_readPin_167 : decode cX12_readPin 167 = .ok (.getfield 20, 3) := by decide +kernel
theorem dX12_readPin_170 : decode cX12_readPin 170 = .ok (.iload_n 1, 1) := by decide +kernel
theorem dX12_readPin_171 : decode cX12_readPin 171 = .ok (.iconst 2, 1) := by decide +kernel
theorem dX12_readPin_172 : decode cX12_readPin 172 = .ok (.iadd, 1) := by decide +kernel
theorem dX12_readPin_173 : decode cX12_readPin 173 = .ok (.dup2, 1) := by decide +kernel
theorem dX12_readPin_174 : decode cX12_readPin 174 = .ok (.iaload, 1) := by decide +kernel
theorem dX12_readPin_175 : decode cX12_readPin 175 = .ok (.iconst 1, 1) := by decide +kernel
theorem dX12_readPin_176 : decode cX12_readPin 176 = .ok (.iadd, 1) := by decide +kernel
theorem dX12_readPin_177 : decode cX12_readPin 177 = .ok (.iastore, 1) := by decide +kernel
theorem dX12_readPin_178 : decode cX12_readPin 178 = .ok (.aload_n 0, 1) := by decide +kernel
theorem dX12_readPin_179 : decode cX12_readPin 179 = .ok (.invokevirtual 112, 3) := by decide +kernel
theorem dX12_readPin_182 : decode cX12_readPin 182 = .ok (.iconst 1, 1) := by decide +kernel
theorem dX12_readPin_183 : decode cX12_readPin 183 = .ok (.ireturn, 1) := by decide +kernel
theorem dX12_readNet_0 : decode cX12_readNet 0 = .ok (.aload_n 0, 1) := by decide +kernel
theorem dX12_readNet_1 : decode cX12_readNet 1 = .ok (.getfield 20, 3) := by decide +kernel
theorem dX12_readNet_4 : decode cX12_readNet 4 = .ok (.iconst 5, 1) := by decide +kernel
theorem dX12_readNet_5 : decode cX12_readNet 5 = .ok (.iaload, 1) := by decide +kernel
theorem dX12_readNet_6 : decode cX12_readNet 6 = .ok (.istore_n 1, 1) := by decide +kernel
theorem dX12_readNet_7 : decode cX12_readNet 7 = .ok (.aload_n 0, 1) := by decide +kernel
theorem dX12_readNet_8 : decode cX12_readNet 8 = .ok (.iload_n 1, 1) := by decide +kernel
theorem dX12_readNet_9 : decode cX12_readNet 9 = .ok (.bipush 10, 2) := by decide +kernel
theorem dX12_readNet_11 : decode cX12_readNet 11 = .ok (.if_icmp .ge 7, 3) := by decide +kernel
theorem dX12_readNet_14 : decode cX12_readNet 14 = .ok (.iconst 1, 1) := by decide +kernel
theorem dX12_readNet_15 : decode cX12_readNet 15 = .ok (.goto 4, 3) := by decide +kernel
theorem dX12_readNet_18 : decode cX12_readNet 18 = .ok (.iconst 0, 1) := by decide +kernel
theorem dX12_readNet_19 : decode cX12_readNet 19 = .ok (.invokevirtual 190, 3) := by decide +kernel
theorem dX12_readNet_22 : decode cX12_readNet 22 = .ok (.ifCond .eq 10, 3) := by decide +kernel
theorem dX12_readNet_25 : decode cX12_readNet 25 = .ok (.aload_n 0, 1) := by decide +kernel
theorem dX12_readNet_26 : decode cX12_readNet 26 = .ok (.invokevirtual 194, 3) := by decide +kernel
theorem dX12_readNet_29 : decode cX12_readNet 29 = .ok (.ifCond .ne 5, 3) := by decide +kernel
theorem dX12_readNet_32 : decode cX12_readNet 32 = .ok (.iconst 0, 1) := by decide +kernel
theorem dX12_readNet_33 : decode cX12_readNet 33 = .ok (.ireturn, 1) := by decide +kernel
theorem dX12_readNet_34 : decode cX12_readNet 34 = .ok (.aload_n 0, 1) := by decide +kernel
theorem dX12_readNet_35 : decode cX12_readNet 35 = .ok (.getfield 159, 3) := by decide +kernel
theorem dX12_readNet_38 : decode cX12_readNet 38 = .ok (.lstore_n 2, 1) := by decide +kernel
theorem dX12_readNet_39 : decode cX12_readNet 39 = .ok (.bipush 97, 2) := by decide +kernel
theorem dX12_readNet_41 : decode cX12_readNet 41 = .ok (.bipush 16, 2) := by decide +kernel
theorem dX12_readNet_43 : decode cX12_readNet 43 = .ok (.iload_n 1, 1) := by decide +kernel
theorem dX12_readNet_44 : decode cX12_readNet 44 = .ok (.imul, 1) := by decide +kernel
theorem dX12_readNet_45 : decode cX12_readNet 45 = .ok (.iadd, 1) := by decide +kernel
theorem dX12_readNet_46 : decode cX12_readNet 46 = .ok (.istore 4, 2) := by decide +kernel
theorem dX12_readNet_48 : decode cX12_readNet 48 = .ok (.aload_n 0, 1) := by decide +kernel
theorem dX12_readNet_49 : decode cX12_readNet 49 = .ok (.getfield 20, 3) := by decide +kernel
theorem dX12_readNet_52 : decode cX12_readNet 52 = .ok (.iload 4, 2) := by decide +kernel
theorem dX12_readNet_54 : decode cX12_readNet 54 = .ok (.iconst 2, 1) := by decide +kernel
theorem dX12_readNet_55 : decode cX12_readNet 55 = .ok (.iadd, 1) := by decide +kernel
theorem dX12_readNet_56 : decode cX12_readNet 56 = .ok (.iconst 0, 1) := by decide +kernel
theorem dX12_readNet_57 : decode cX12_readNet 57 = .ok (.iastore, 1) := by decide +kernel
theorem dX12_readNet_58 : decode cX12_readNet 58 = .ok (.aload_n 0, 1) := by decide +kernel
theorem dX12_readNet_59 : decode cX12_readNet 59 = .ok (.getfield 20, 3) := by decide +kernel
theorem dX12_readNet_62 : decode cX12_readNet 62 = .ok (.iload 4, 2) := by decide +kernel
theorem dX12_readNet_64 : decode cX12_readNet 64 = .ok (.iconst 5, 1) := by decide +kernel
theorem dX12_readNet_65 : decode cX12_readNet 65 = .ok (.iadd, 1) := by decide +kernel
theorem dX12_readNet_66 : decode cX12_readNet 66 = .ok (.bipush (-2), 2) := by decide +kernel
theorem dX12_readNet_68 : decode cX12_readNet 68 = .ok (.iastore, 1) := by decide +kernel
theorem dX12_readNet_69 : decode cX12_readNet 69 = .ok (.aload_n 0, 1) := by decide +kernel
theorem dX12_readNet_70 : decode cX12_readNet 70 = .ok (.iload 4, 2) := by decide +kernel
theorem dX12_readNet_72 : decode cX12_readNet 72 = .ok (.iconst 0, 1) := by decide +kernel
theorem dX12_readNet_73 : decode cX12_readNet 73 = .ok (.iadd, 1) := by decide +kernel
theorem dX12_readNet_74 : decode cX12_readNet 74 = .ok (.aload_n 0, 1) := by decide +kernel
theorem dX12_readNet_75 : decode cX12_readNet 75 = .ok (.invokevirtual 227, 3) := by decide +kernel
theorem dX12_readNet_78 : decode cX12_readNet 78 = .ok (.invokevirtual 176, 3) := by decide +kernel
theorem dX12_readNet_81 : decode cX12_readNet 81 = .ok (.ifCond .eq 34, 3) := by decide +kernel
theorem dX12_readNet_84 : decode cX12_readNet 84 = .ok (.aload_n 0, 1) := by decide +kernel
theorem dX12_readNet_85 : decode cX12_readNet 85 = .ok (.iload 4, 2) := by decide +kernel
theorem dX12_readNet_87 : decode cX12_readNet 87 = .ok (.iconst 1, 1) := by decide +kernel
theorem dX12_readNet_88 : decode cX12_readNet 88 = .ok (.iadd, 1) := by decide +kernel
theorem dX12_readNet_89 : decode cX12_readNet 89 = .ok (.aload_n 0, 1) := by decide +kernel
theorem dX12_readNet_90 : decode cX12_readNet 90 = .ok (.ldc 213, 2) := by decide +kernel
theorem dX12_readNet_92 : decode cX12_readNet 92 = .ok (.iconst 1, 1) := by decide +kernel
theorem dX12_readNet_93 : decode cX12_readNet 93 = .ok (.bipush 9, 2) := by decide +kernel
theorem dX12_readNet_95 : decode cX12_readNet 95 = .ok (.invokevirtual 172, 3) := by decide +kernel
theorem dX12_readNet_98 : decode cX12_readNet 98 = .ok (.invokevirtual 176, 3) := by decide +kernel
theorem dX12_readNet_101 : decode cX12_readNet 101 = .ok (.ifCond .eq 14, 3) := by decide +kernel
theorem dX12_readNet_104 : decode cX12_readNet 104 = .ok (.aload_n 0, 1) := by decide +kernel
theorem dX12_readNet_105 : decode cX12_readNet 105 = .ok (.iload 4, 2) := by decide +kernel
theorem dX12_readNet_107 : decode cX12_readNet 107 = .ok (.iconst 3, 1) := by decide +kernel
theorem dX12_readNet_108 : decode cX12_readNet 108 = .ok (.iadd, 1) := by decide +kernel
theorem dX12_readNet_109 : decode cX12_readNet 109 = .ok (.invokevirtual 217, 3) := by decide +kernel
theorem dX12_readNet_112 : decode cX12_readNet 112 = .ok (.ifCond .ne 5, 3) := by decide +kernel
theorem dX12_readNet_115 : decode cX12_readNet 115 = .ok (.iconst 0, 1) := by decide +kernel
theorem dX12_readNet_116 : decode cX12_readNet 116 = .ok (.ireturn, 1) := by decide +kernel
theorem dX12_readNet_117 : decode cX12_readNet 117 = .ok (.aload_n 0, 1) := by decide +kernel
theorem dX12_readNet_118 : decode cX12_readNet 118 = .ok (.ldc 141, 2) := by decide +kernel
theorem dX12_readNet_120 : decode cX12_readNet 120 = .ok (.invokevirtual 115, 3) := by decide +kernel
theorem dX12_readNet_123 : decode cX12_readNet 123 = .ok (.ifCond .ne 11, 3) := by decide +kernel
theorem dX12_readNet_126 : decode cX12_readNet 126 = .ok (.aload_n 0, 1) := by decide +kernel
theorem dX12_readNet_127 : decode cX12_readNet 127 = .ok (.iconst 1, 1) := by decide +kernel
theorem dX12_readNet_128 : decode cX12_readNet 128 = .ok (.invokevirtual 109, 3) := by decide +kernel
theorem dX12_readNet_131 : decode cX12_readNet 131 = .ok (.pop, 1) := by decide +kernel
theorem dX12_readNet_132 : decode cX12_readNet 132 = .ok (.iconst 0, 1) := by decide +kernel
theorem dX12_readNet_133 : decode cX12_readNet 133 = .ok (.ireturn, 1) := by decide +kernel
theorem dX12_readNet_134 : decode cX12_readNet 134 = .ok (.aload_n 0, 1) := by decide +kernel
theorem dX12_readNet_135 : decode cX12_readNet 135 = .ok (.invokevirtual 112, 3) := by decide +kernel
theorem dX12_readNet_138 : decode cX12_readNet 138 = .ok (.aload_n 0, 1) := by decide +kernel
theorem dX12_readNet_139 : decode cX12_readNet 139 = .ok (.iload 4, 2) := by decide +kernel
theorem dX12_readNet_141 : decode cX12_readNet 141 = .ok (.invokevirtual 230, 3) := by decide +kernel
theorem dX12_readNet_144 : decode cX12_readNet 144 = .ok (.ifCond .ne 5, 3) := by decide +kernel
theorem dX12_readNet_147 : decode cX12_readNet 147 = .ok (.iconst 0, 1) := by decide +kernel
theorem dX12_readNet_148 : decode cX12_readNet 148 = .ok (.ireturn, 1) := by decide +kernel
theorem dX12_readNet_149 : decode cX12_readNet 149 = .ok (.aload_n 0, 1) := by decide +kernel
theorem dX12_readNet_150 : decode cX12_readNet 150 = .ok (.getfield 83, 3) := by decide +kernel
theorem dX12_readNet_153 : decode cX12_readNet 153 = .ok (.bipush 44, 2) := by decide +kernel
theorem dX12_readNet_155 : decode cX12_readNet 155 = .ok (.if_icmp .ne 31, 3) := by decide +kernel
theorem dX12_readNet_158 : decode cX12_readNet 158 = .ok (.aload_n 0, 1) := by decide +kernel
theorem dX12_readNet_159 : decode cX12_readNet 159 = .ok (.getfield 20, 3) := by decide +kernel
theorem dX12_readNet_162 : decode cX12_readNet 162 = .ok (.iload 4, 2) := by decide +kernel
theorem dX12_readNet_164 : decode cX12_readNet 164 = .ok (.iconst 2, 1) := by decide +kernel
theorem dX12_readNet_165 : decode cX12_readNet 165 = .ok (.iadd, 1) := by decide +kernel
theorem dX12_readNet_166 : decode cX12_readNet 166 = .ok (.iaload, 1) := by decide +kernel
theorem dX12_readNet_167 : decode cX12_readNet 167 = .ok (.iconst 5, 1) := by decide +kernel
theorem dX12_readNet_168 : decode cX12_readNet 168 = .ok (.if_icmp .ge 18, 3) := by decide +kernel
theorem dX12_readNet_171 : decode cX12_readNet 171 = .ok (.aload_n 0, 1) := by decide +kernel
theorem dX12_readNet_172 : decode cX12_readNet 172 = .ok (.invokevirtual 112, 3) := by decide +kernel
theorem dX12_readNet_175 : decode cX12_readNet 175 = .ok (.aload_n 0, 1) := by decide +kernel
theorem dX12_readNet_176 : decode cX12_readNet 176 = .ok (.iload 4, 2) := by decide +kernel
theorem dX12_readNet_178 : decode cX12_readNet 178 = .ok (.invokevirtual 230, 3) := by decide +kernel
theorem dX12_readNet_181 : decode cX12_readNet 181 = .ok (.ifCond .ne (-32), 3) := by decide +kernel
theorem dX12_readNet_184 : decode cX12_readNet 184 = .ok (.iconst 0, 1) := by decide +kernel
theorem dX12_readNet_185 : decode cX12_readNet 185 = .ok (.ireturn, 1) := by decide +kernel
theorem dX12_readNet_186 : decode cX12_readNet 186 = .ok (.aload_n 0, 1) := by decide +kernel
theorem dX12_readNet_187 : decode cX12_readNet 187 = .ok (.getfield 20, 3) := by decide +kernel
theorem dX12_readNet_190 : decode cX12_readNet 190 = .ok (.iload 4, 2) := by decide +kernel
theorem dX12_readNet_192 : decode cX12_readNet 192 = .ok (.iconst 2, 1) := by decide +kernel
theorem dX12_readNet_193 : decode cX12_readNet 193 = .ok (.iadd, 1) := by decide +kernel
theorem dX12_readNet_194 : decode cX12_readNet 194 = .ok (.iaload, 1) := by decide +kernel
theorem dX12_readNet_195 : decode cX12_readNet 195 = .ok (.iconst 2, 1) := by decide +kernel
theorem dX12_readNet_196 : decode cX12_readNet 196 = .ok (.if_icmp .lt 19, 3) := by decide +kernel
theorem dX12_readNet_199 : decode cX12_readNet 199 = .ok (.aload_n 0, 1) := by decide +kernel
theorem dX12_readNet_200 : decode cX12_readNet 200 = .ok (.getfield 83, 3) := by decide +kernel
theorem dX12_readNet_203 : decode cX12_readNet 203 = .ok (.bipush 59, 2) := by decide +kernel
theorem dX12_readNet_205 : decode cX12_readNet 205 = .ok (.if_icmp .eq 18, 3) := by decide +kernel
theorem dX12_readNet_208 : decode cX12_readNet 208 = .ok (.aload_n 0, 1) := by decide +kernel
theorem dX12_readNet_209 : decode cX12_readNet 209 = .ok (.getfield 83, 3) := by decide +kernel
theorem dX12_readNet_212 : decode cX12_readNet 212 = .ok (.ifCond .eq 11, 3) := by decide +kernel
theorem dX12_readNet_215 : decode cX12_readNet 215 = .ok (.aload_n 0, 1) := by decide +kernel
theorem dX12_readNet_216 : decode cX12_readNet 216 = .ok (.iconst 1, 1) := by decide +kernel
theorem dX12_readNet_217 : decode cX12_readNet 217 = .ok (.invokevirtual 109, 3) := by decide +kernel
theorem dX12_readNet_220 : decode cX12_readNet 220 = .ok (.pop, 1) := by decide +kernel
theorem dX12_readNet_221 : decode cX12_readNet 221 = .ok (.iconst 0, 1) := by decide +kernel
theorem dX12_readNet_222 : decode cX12_readNet 222 = .ok (.ireturn, 1) := by decide +kernel
theorem dX12_readNet_223 : decode cX12_readNet 223 = .ok (.aload_n 0, 1) := by decide +kernel
theorem dX12_readNet_224 : decode cX12_readNet 224 = .ok (.lload_n 2, 1) := by decide +kernel
theorem dX12_readNet_225 : decode cX12_readNet 225 = .ok (.sipush 300, 3) := by decide +kernel
theorem dX12_readNet_228 : decode cX12_readNet 228 = .ok (.iload_n 1, 1) := by decide +kernel
theorem dX12_readNet_229 : decode cX12_readNet 229 = .ok (.iadd, 1) := by decide +kernel
theorem dX12_readNet_230 : decode cX12_readNet 230 = .ok (.invokevirtual 205, 3) := by decide +kernel
theorem dX12_readNet_233 : decode cX12_readNet 233 = .ok (.aload_n 0, 1) := by decide +kernel
theorem dX12_readNet_234 : decode cX12_readNet 234 = .ok (.getfield 20, 3) := by decide +kernel
theorem dX12_readNet_237 : decode cX12_readNet 237 = .ok (.iconst 5, 1) := by decide +kernel
theorem dX12_readNet_238 : decode cX12_readNet 238 = .ok (.dup2, 1) := by decide +kernel
theorem dX12_readNet_239 : decode cX12_readNet 239 = .ok (.iaload, 1) := by decide +kernel
theorem dX12_readNet_240 : decode cX12_readNet 240 = .ok (.iconst 1, 1) := by decide +kernel
theorem dX12_readNet_241 : decode cX12_readNet 241 = .ok (.iadd, 1) := by decide +kernel
theorem dX12_readNet_242 : decode cX12_readNet 242 = .ok (.iastore, 1) := by decide +kernel
theorem dX12_readNet_243 : decode cX12_readNet 243 = .ok (.iconst 1, 1) := by decide +kernel
theorem dX12_readNet_244 : decode cX12_readNet 244 = .ok (.ireturn, 1) := by decide +kernel
theorem dX12_readBuild_0 : decode cX12_readBuild 0 = .ok (.aload_n 0, 1) := by decide +kernel
theorem dX12_readBuild_1 : decode cX12_readBuild 1 = .ok (.getfield 20, 3) := by decide +kernel
theorem dX12_readBuild_4 : decode cX12_readBuild 4 = .ok (.bipush 6, 2) := by decide +kernel
theorem dX12_readBuild_6 : decode cX12_readBuild 6 = .ok (.iaload, 1) := by decide +kernel
theorem dX12_readBuild_7 : decode cX12_readBuild 7 = .ok (.istore_n 1, 1) := by decide +kernel
theorem dX12_readBuild_8 : decode cX12_readBuild 8 = .ok (.aload_n 0, 1) := by decide +kernel
theorem dX12_readBuild_9 : decode cX12_readBuild 9 = .ok (.iload_n 1, 1) := by decide +kernel
theorem dX12_readBuild_10 : decode cX12_readBuild 10 = .ok (.iconst 5, 1) := by decide +kernel
theorem dX12_readBuild_11 : decode cX12_readBuild 11 = .ok (.if_icmp .ge 7, 3) := by decide +kernel
theorem dX12_readBuild_14 : decode cX12_readBuild 14 = .ok (.iconst 1, 1) := by decide +kernel
theorem dX12_readBuild_15 : decode cX12_readBuild 15 = .ok (.goto 4, 3) := by decide +kernel
theorem dX12_readBuild_18 : decode cX12_readBuild 18 = .ok (.iconst 0, 1) := by decide +kernel
theorem dX12_readBuild_19 : decode cX12_readBuild 19 = .ok (.invokevirtual 190, 3) := by decide +kernel
theorem dX12_readBuild_22 : decode cX12_readBuild 22 = .ok (.ifCond .eq 26, 3) := by decide +kernel
theorem dX12_readBuild_25 : decode cX12_readBuild 25 = .ok (.aload_n 0, 1) := by decide +kernel
theorem dX12_readBuild_26 : decode cX12_readBuild 26 = .ok (.sipush 257, 3) := by decide +kernel
theorem dX12_readBuild_29 : decode cX12_readBuild 29 = .ok (.iconst 2, 1) := by decide +kernel
theorem dX12_readBuild_30 : decode cX12_readBuild 30 = .ok (.iload_n 1, 1) := by decide +kernel
theorem dX12_readBuild_31 : decode cX12_readBuild 31 = .ok (.imul, 1) := by decide +kernel
theorem dX12_readBuild_32 : decode cX12_readBuild 32 = .ok (.iadd, 1) := by decide +kernel
theorem dX12_readBuild_33 : decode cX12_readBuild 33 = .ok (.iconst 1, 1) := by decide +kernel
theorem dX12_readBuild_34 : decode cX12_readBuild 34 = .ok (.iadd, 1) := by decide +kernel
theorem dX12_readBuild_35 : decode cX12_readBuild 35 = .ok (.aload_n 0, 1) := by decide +kernel
theorem dX12_readBuild_36 : decode cX12_readBuild 36 = .ok (.iconst 1, 1) := by decide +kernel
theorem dX12_readBuild_37 : decode cX12_readBuild 37 = .ok (.bipush 99, 2) := by decide +kernel
theorem dX12_readBuild_39 : decode cX12_readBuild 39 = .ok (.invokevirtual 119, 3) := by decide +kernel
theorem dX12_readBuild_42 : decode cX12_readBuild 42 = .ok (.invokevirtual 176, 3) := by decide +kernel
theorem dX12_readBuild_45 : decode cX12_readBuild 45 = .ok (.ifCond .ne 5, 3) := by decide +kernel
theorem dX12_readBuild_48 : decode cX12_readBuild 48 = .ok (.iconst 0, 1) := by decide +kernel
theorem dX12_readBuild_49 : decode cX12_readBuild 49 = .ok (.ireturn, 1) := by decide +kernel
theorem dX12_readBuild_50 : decode cX12_readBuild 50 = .ok (.iconst 0, 1) := by decide +kernel
theorem dX12_readBuild_51 : decode cX12_readBuild 51 = .ok (.istore_n 2, 1) := by decide +kernel
theorem dX12_readBuild_52 : decode cX12_readBuild 52 = .ok (.aload_n 0, 1) := by decide +kernel
theorem dX12_readBuild_53 : decode cX12_readBuild 53 = .ok (.getfield 83, 3) := by decide +kernel
theorem dX12_readBuild_56 : decode cX12_readBuild 56 = .ok (.bipush 59, 2) := by decide +kernel
theorem dX12_readBuild_58 : decode cX12_readBuild 58 = .ok (.if_icmp .eq 54, 3) := by decide +kernel
theorem dX12_readBuild_61 : decode cX12_readBuild 61 = .ok (.aload_n 0, 1) := by decide +kernel
theorem dX12_readBuild_62 : decode cX12_readBuild 62 = .ok (.getfield 83, 3) := by decide +kernel
theorem dX12_readBuild_65 : decode cX12_readBuild 65 = .ok (.ifCond .eq 47, 3) := by decide +kernel
theorem dX12_readBuild_68 : decode cX12_readBuild 68 = .ok (.aload_n 0, 1) := by decide +kernel
theorem dX12_readBuild_69 : decode cX12_readBuild 69 = .ok (.bipush 100, 2) := by decide +kernel
theorem dX12_readBuild_71 : decode cX12_readBuild 71 = .ok (.invokevirtual 163, 3) := by decide +kernel
theorem dX12_readBuild_74 : decode cX12_readBuild 74 = .ok (.istore_n 3, 1) := by decide +kernel
theorem dX12_readBuild_75 : decode cX12_readBuild 75 = .ok (.iload_n 3, 1) := by decide +kernel
theorem dX12_readBuild_76 : decode cX12_readBuild 76 = .ok (.iconst (-1), 1) := by decide +kernel
theorem dX12_readBuild_77 : decode cX12_readBuild 77 = .ok (.if_icmp .ne 5, 3) := by decide +kernel
theorem dX12_readBuild_80 : decode cX12_readBuild 80 = .ok (.iconst 0, 1) := by decide +kernel
theorem dX12_readBuild_81 : decode cX12_readBuild 81 = .ok (.ireturn, 1) := by decide +kernel
theorem dX12_readBuild_82 : decode cX12_readBuild 82 = .ok (.iload_n 2, 1) := by decide +kernel
theorem dX12_readBuild_83 : decode cX12_readBuild 83 = .ok (.iload_n 3, 1) := by decide +kernel
theorem dX12_readBuild_84 : decode cX12_readBuild 84 = .ok (.ishr, 1) := by decide +kernel
theorem dX12_readBuild_85 : decode cX12_readBuild 85 = .ok (.iconst 1, 1) := by decide +kernel
theorem dX12_readBuild_86 : decode cX12_readBuild 86 = .ok (.iand, 1) := by decide +kernel
theorem dX12_readBuild_87 : decode cX12_readBuild 87 = .ok (.iconst 1, 1) := by decide +kernel
theorem dX12_readBuild_88 : decode cX12_readBuild 88 = .ok (.if_icmp .ne 11, 3) := by decide +kernel
theorem dX12_readBuild_91 : decode cX12_readBuild 91 = .ok (.aload_n 0, 1) := by decide +kernel
theorem dX12_readBuild_92 : decode cX12_readBuild 92 = .ok (.iconst 3, 1) := by decide +kernel
theorem dX12_readBuild_93 : decode cX12_readBuild 93 = .ok (.invokevirtual 109, 3) := by decide +kernel
theorem dX12_readBuild_96 : decode cX12_readBuild 96 = .ok (.pop, 1) := by decide +kernel
theorem dX12_readBuild_97 : decode cX12_readBuild 97 = .ok (.iconst 0, 1) := by decide +kernel
theorem dX12_readBuild_98 : decode cX12_readBuild 98 = .ok (.ireturn, 1) := by decide +kernel
theorem dX12_readBuild_99 : decode cX12_readBuild 99 = .ok (.iload_n 2, 1) := by decide +kernel
theorem dX12_readBuild_100 : decode cX12_readBuild 100 = .ok (.iconst 1, 1) := by decide +kernel
theorem dX12_readBuild_101 : decode cX12_readBuild 101 = .ok (.iload_n 3, 1) := by decide +kernel
theorem dX12_readBuild_102 : decode cX12_readBuild 102 = .ok (.ishl, 1) := by decide +kernel
theorem dX12_readBuild_103 : decode cX12_readBuild 103 = .ok (.ior, 1) := by decide +kernel
theorem dX12_readBuild_104 : decode cX12_readBuild 104 = .ok (.istore_n 2, 1) := by decide +kernel
theorem dX12_readBuild_105 : decode cX12_readBuild 105 = .ok (.aload_n 0, 1) := by decide +kernel
theorem dX12_readBuild_106 : decode cX12_readBuild 106 = .ok (.invokevirtual 112, 3) := by decide +kernel
theorem dX12_readBuild_109 : decode cX12_readBuild 109 = .ok (.goto (-57), 3) := by decide +kernel
theorem dX12_readBuild_112 : decode cX12_readBuild 112 = .ok (.iconst 0, 1) := by decide +kernel
theorem dX12_readBuild_113 : decode cX12_readBuild 113 = .ok (.istore_n 3, 1) := by decide +kernel
theorem dX12_readBuild_114 : decode cX12_readBuild 114 = .ok (.iload_n 3, 1) := by decide +kernel
theorem dX12_readBuild_115 : decode cX12_readBuild 115 = .ok (.iload_n 1, 1) := by decide +kernel
theorem dX12_readBuild_116 : decode cX12_readBuild 116 = .ok (.if_icmp .ge 34, 3) := by decide +kernel
theorem dX12_readBuild_119 : decode cX12_readBuild 119 = .ok (.aload_n 0, 1) := by decide +kernel
theorem dX12_readBuild_120 : decode cX12_readBuild 120 = .ok (.getfield 20, 3) := by decide +kernel
theorem dX12_readBuild_123 : decode cX12_readBuild 123 = .ok (.sipush 257, 3) := by decide +kernel
theorem dX12_readBuild_126 : decode cX12_readBuild 126 = .ok (.iconst 2, 1) := by decide +kernel
theorem dX12_readBuild_127 : decode cX12_readBuild 127 = .ok (.iload_n 3, 1) := by decide +kernel
theorem dX12_readBuild_128 : decode cX12_readBuild 128 = .ok (.imul, 1) := by decide +kernel
theorem dX12_readBuild_129 : decode cX12_readBuild 129 = .ok (.iadd, 1) := by decide +kernel
theorem dX12_readBuild_130 : decode cX12_readBuild 130 = .ok (.iaload, 1) := by decide +kernel
theorem dX12_readBuild_131 : decode cX12_readBuild 131 = .ok (.iload_n 2, 1) := by decide +kernel
theorem dX12_readBuild_132 : decode cX12_readBuild 132 = .ok (.if_icmp .ne 12, 3) := by decide +kernel
theorem dX12_readBuild_135 : decode cX12_readBuild 135 = .ok (.aload_n 0, 1) := by decide +kernel
theorem dX12_readBuild_136 : decode cX12_readBuild 136 = .ok (.bipush 7, 2) := by decide +kernel
theorem dX12_readBuild_138 : decode cX12_readBuild 138 = .ok (.invokevirtual 109, 3) := by decide +kernel
theorem dX12_readBuild_141 : decode cX12_readBuild 141 = .ok (.pop, 1) := by decide +kernel
theorem dX12_readBuild_142 : decode cX12_readBuild 142 = .ok (.iconst 0, 1) := by decide +kernel
theorem dX12_readBuild_143 : decode cX12_readBuild 143 = .ok (.ireturn, 1) := by decide +kernel
theorem dX12_readBuild_144 : decode cX12_readBuild 144 = .ok (.iinc 3 1, 3) := by decide +kernel
theorem dX12_readBuild_147 : decode cX12_readBuild 147 = .ok (.goto (-33), 3) := by decide +kernel
theorem dX12_readBuild_150 : decode cX12_readBuild 150 = .ok (.aload_n 0, 1) := by decide +kernel
theorem dX12_readBuild_151 : decode cX12_readBuild 151 = .ok (.getfield 20, 3) := by decide +kernel
theorem dX12_readBuild_154 : decode cX12_readBuild 154 = .ok (.sipush 257, 3) := by decide +kernel
theorem dX12_readBuild_157 : decode cX12_readBuild 157 = .ok (.iconst 2, 1) := by decide +kernel
theorem dX12_readBuild_158 : decode cX12_readBuild 158 = .ok (.iload_n 1, 1) := by decide +kernel
theorem dX12_readBuild_159 : decode cX12_readBuild 159 = .ok (.imul, 1) := by decide +kernel
theorem dX12_readBuild_160 : decode cX12_readBuild 160 = .ok (.iadd, 1) := by decide +kernel
theorem dX12_readBuild_161 : decode cX12_readBuild 161 = .ok (.iload_n 2, 1) := by decide +kernel
theorem dX12_readBuild_162 : decode cX12_readBuild 162 = .ok (.iastore, 1) := by decide +kernel
theorem dX12_readBuild_163 : decode cX12_readBuild 163 = .ok (.aload_n 0, 1) := by decide +kernel
theorem dX12_readBuild_164 : decode cX12_readBuild 164 = .ok (.getfield 20, 3) := by decide +kernel
theorem dX12_readBuild_167 : decode cX12_readBuild 167 = .ok (.bipush 6, 2) := by decide +kernel
theorem dX12_readBuild_169 : decode cX12_readBuild 169 = .ok (.dup2, 1) := by decide +kernel
theorem dX12_readBuild_170 : decode cX12_readBuild 170 = .ok (.iaload, 1) := by decide +kernel
theorem dX12_readBuild_171 : decode cX12_readBuild 171 = .ok (.iconst 1, 1) := by decide +kernel
theorem dX12_readBuild_172 : decode cX12_readBuild 172 = .ok (.iadd, 1) := by decide +kernel
theorem dX12_readBuild_173 : decode cX12_readBuild 173 = .ok (.iastore, 1) := by decide +kernel
theorem dX12_readBuild_174 : decode cX12_readBuild 174 = .ok (.iconst 1, 1) := by decide +kernel
theorem dX12_readBuild_175 : decode cX12_readBuild 175 = .ok (.ireturn, 1) := by decide +kernel
theorem dX12_readLine_0 : decode cX12_readLine 0 = .ok (.aload_n 0, 1) := by decide +kernel
theorem dX12_readLine_1 : decode cX12_readLine 1 = .ok (.ldc 123, 2) := by decide +kernel
theorem dX12_readLine_3 : decode cX12_readLine 3 = .ok (.invokevirtual 115, 3) := by decide +kernel
theorem dX12_readLine_6 : decode cX12_readLine 6 = .ok (.ifCond .eq 8, 3) := by decide +kernel
theorem dX12_readLine_9 : decode cX12_readLine 9 = .ok (.aload_n 0, 1) := by decide +kernel
theorem dX12_readLine_10 : decode cX12_readLine 10 = .ok (.invokevirtual 233, 3) := by decide +kernel
theorem dX12_readLine_13 : decode cX12_readLine 13 = .ok (.ireturn, 1) := by decide +kernel
theorem dX12_readLine_14 : decode cX12_readLine 14 = .ok (.aload_n 0, 1) := by decide +kernel
theorem dX12_readLine_15 : decode cX12_readLine 15 = .ok (.ldc 125, 2) := by decide +kernel
theorem dX12_readLine_17 : decode cX12_readLine 17 = .ok (.invokevirtual 115, 3) := by decide +kernel
theorem dX12_readLine_20 : decode cX12_readLine 20 = .ok (.ifCond .eq 8, 3) := by decide +kernel
theorem dX12_readLine_23 : decode cX12_readLine 23 = .ok (.aload_n 0, 1) := by decide +kernel
theorem dX12_readLine_24 : decode cX12_readLine 24 = .ok (.invokevirtual 236, 3) := by decide +kernel
theorem dX12_readLine_27 : decode cX12_readLine 27 = .ok (.ireturn, 1) := by decide +kernel
theorem dX12_readLine_28 : decode cX12_readLine 28 = .ok (.aload_n 0, 1) := by decide +kernel
theorem dX12_readLine_29 : decode cX12_readLine 29 = .ok (.ldc 127, 2) := by decide +kernel
theorem dX12_readLine_31 : decode cX12_readLine 31 = .ok (.invokevirtual 115, 3) := by decide +kernel
theorem dX12_readLine_34 : decode cX12_readLine 34 = .ok (.ifCond .eq 8, 3) := by decide +kernel
theorem dX12_readLine_37 : decode cX12_readLine 37 = .ok (.aload_n 0, 1) := by decide +kernel
theorem dX12_readLine_38 : decode cX12_readLine 38 = .ok (.invokevirtual 239, 3) := by decide +kernel
theorem dX12_readLine_41 : decode cX12_readLine 41 = .ok (.ireturn, 1) := by decide +kernel
theorem dX12_readLine_42 : decode cX12_readLine 42 = .ok (.aload_n 0, 1) := by decide +kernel
theorem dX12_readLine_43 : decode cX12_readLine 43 = .ok (.ldc 129, 2) := by decide +kernel
theorem dX12_readLine_45 : decode cX12_readLine 45 = .ok (.invokevirtual 115, 3) := by decide +kernel
theorem dX12_readLine_48 : decode cX12_readLine 48 = .ok (.ifCond .eq 8, 3) := by decide +kernel
theorem dX12_readLine_51 : decode cX12_readLine 51 = .ok (.aload_n 0, 1) := by decide +kernel
theorem dX12_readLine_52 : decode cX12_readLine 52 = .ok (.invokevirtual 242, 3) := by decide +kernel
theorem dX12_readLine_55 : decode cX12_readLine 55 = .ok (.ireturn, 1) := by decide +kernel
theorem dX12_readLine_56 : decode cX12_readLine 56 = .ok (.aload_n 0, 1) := by decide +kernel
theorem dX12_readLine_57 : decode cX12_readLine 57 = .ok (.ldc 131, 2) := by decide +kernel
theorem dX12_readLine_59 : decode cX12_readLine 59 = .ok (.invokevirtual 115, 3) := by decide +kernel
theorem dX12_readLine_62 : decode cX12_readLine 62 = .ok (.ifCond .eq 8, 3) := by decide +kernel
theorem dX12_readLine_65 : decode cX12_readLine 65 = .ok (.aload_n 0, 1) := by decide +kernel
theorem dX12_readLine_66 : decode cX12_readLine 66 = .ok (.invokevirtual 245, 3) := by decide +kernel
theorem dX12_readLine_69 : decode cX12_readLine 69 = .ok (.ireturn, 1) := by decide +kernel
theorem dX12_readLine_70 : decode cX12_readLine 70 = .ok (.aload_n 0, 1) := by decide +kernel
theorem dX12_readLine_71 : decode cX12_readLine 71 = .ok (.ldc 133, 2) := by decide +kernel
theorem dX12_readLine_73 : decode cX12_readLine 73 = .ok (.invokevirtual 115, 3) := by decide +kernel
theorem dX12_readLine_76 : decode cX12_readLine 76 = .ok (.ifCond .eq 8, 3) := by decide +kernel
theorem dX12_readLine_79 : decode cX12_readLine 79 = .ok (.aload_n 0, 1) := by decide +kernel
theorem dX12_readLine_80 : decode cX12_readLine 80 = .ok (.invokevirtual 248, 3) := by decide +kernel
theorem dX12_readLine_83 : decode cX12_readLine 83 = .ok (.ireturn, 1) := by decide +kernel
theorem dX12_readLine_84 : decode cX12_readLine 84 = .ok (.aload_n 0, 1) := by decide +kernel
theorem dX12_readLine_85 : decode cX12_readLine 85 = .ok (.iconst 1, 1) := by decide +kernel
theorem dX12_readLine_86 : decode cX12_readLine 86 = .ok (.invokevirtual 109, 3) := by decide +kernel
theorem dX12_readLine_89 : decode cX12_readLine 89 = .ok (.pop, 1) := by decide +kernel
theorem dX12_readLine_90 : decode cX12_readLine 90 = .ok (.iconst 0, 1) := by decide +kernel
theorem dX12_readLine_91 : decode cX12_readLine 91 = .ok (.ireturn, 1) := by decide +kernel
theorem dX12_readAll_0 : decode cX12_readAll 0 = .ok (.aload_n 0, 1) := by decide +kernel
theorem dX12_readAll_1 : decode cX12_readAll 1 = .ok (.iload_n 1, 1) := by decide +kernel
theorem dX12_readAll_2 : decode cX12_readAll 2 = .ok (.putfield 70, 3) := by decide +kernel
theorem dX12_readAll_5 : decode cX12_readAll 5 = .ok (.aload_n 0, 1) := by decide +kernel
theorem dX12_readAll_6 : decode cX12_readAll 6 = .ok (.iconst 0, 1) := by decide +kernel
theorem dX12_readAll_7 : decode cX12_readAll 7 = .ok (.putfield 73, 3) := by decide +kernel
theorem dX12_readAll_10 : decode cX12_readAll 10 = .ok (.aload_n 0, 1) := by decide +kernel
theorem dX12_readAll_11 : decode cX12_readAll 11 = .ok (.iconst 0, 1) := by decide +kernel
theorem dX12_readAll_12 : decode cX12_readAll 12 = .ok (.putfield 166, 3) := by decide +kernel
theorem dX12_readAll_15 : decode cX12_readAll 15 = .ok (.aload_n 0, 1) := by decide +kernel
theorem dX12_readAll_16 : decode cX12_readAll 16 = .ok (.iconst 0, 1) := by decide +kernel
theorem dX12_readAll_17 : decode cX12_readAll 17 = .ok (.putfield 145, 3) := by decide +kernel
theorem dX12_readAll_20 : decode cX12_readAll 20 = .ok (.iconst 2, 1) := by decide +kernel
theorem dX12_readAll_21 : decode cX12_readAll 21 = .ok (.istore_n 2, 1) := by decide +kernel
theorem dX12_readAll_22 : decode cX12_readAll 22 = .ok (.iload_n 2, 1) := by decide +kernel
theorem dX12_readAll_23 : decode cX12_readAll 23 = .ok (.bipush 6, 2) := by decide +kernel
theorem dX12_readAll_25 : decode cX12_readAll 25 = .ok (.if_icmp .gt 16, 3) := by decide +kernel
theorem dX12_readAll_28 : decode cX12_readAll 28 = .ok (.aload_n 0, 1) := by decide +kernel
theorem dX12_readAll_29 : decode cX12_readAll 29 = .ok (.getfield 20, 3) := by decide +kernel
theorem dX12_readAll_32 : decode cX12_readAll 32 = .ok (.iload_n 2, 1) := by decide +kernel
theorem dX12_readAll_33 : decode cX12_readAll 33 = .ok (.iconst 0, 1) := by decide +kernel
theorem dX12_readAll_34 : decode cX12_readAll 34 = .ok (.iastore, 1) := by decide +kernel
theorem dX12_readAll_35 : decode cX12_readAll 35 = .ok (.iinc 2 1, 3) := by decide +kernel
theorem dX12_readAll_38 : decode cX12_readAll 38 = .ok (.goto (-16), 3) := by decide +kernel
theorem dX12_readAll_41 : decode cX12_readAll 41 = .ok (.aload_n 0, 1) := by decide +kernel
theorem dX12_readAll_42 : decode cX12_readAll 42 = .ok (.invokevirtual 112, 3) := by decide +kernel
theorem dX12_readAll_45 : decode cX12_readAll 45 = .ok (.aload_n 0, 1) := by decide +kernel
theorem dX12_readAll_46 : decode cX12_readAll 46 = .ok (.invokevirtual 251, 3) := by decide +kernel
theorem dX12_readAll_49 : decode cX12_readAll 49 = .ok (.ifCond .ne 5, 3) := by decide +kernel
theorem dX12_readAll_52 : decode cX12_readAll 52 = .ok (.iconst 0, 1) := by decide +kernel
theorem dX12_readAll_53 : decode cX12_readAll 53 = .ok (.ireturn, 1) := by decide +kernel
theorem dX12_readAll_54 : decode cX12_readAll 54 = .ok (.aload_n 0, 1) := by decide +kernel
theorem dX12_readAll_55 : decode cX12_readAll 55 = .ok (.getfield 83, 3) := by decide +kernel
theorem dX12_readAll_58 : decode cX12_readAll 58 = .ok (.bipush 59, 2) := by decide +kernel
theorem dX12_readAll_60 : decode cX12_readAll 60 = .ok (.if_icmp .ne 16, 3) := by decide +kernel
theorem dX12_readAll_63 : decode cX12_readAll 63 = .ok (.aload_n 0, 1) := by decide +kernel
theorem dX12_readAll_64 : decode cX12_readAll 64 = .ok (.invokevirtual 112, 3) := by decide +kernel
theorem dX12_readAll_67 : decode cX12_readAll 67 = .ok (.aload_n 0, 1) := by decide +kernel
theorem dX12_readAll_68 : decode cX12_readAll 68 = .ok (.invokevirtual 251, 3) := by decide +kernel
theorem dX12_readAll_71 : decode cX12_readAll 71 = .ok (.ifCond .ne (-17), 3) := by decide +kernel
theorem dX12_readAll_74 : decode cX12_readAll 74 = .ok (.iconst 0, 1) := by decide +kernel
theorem dX12_readAll_75 : decode cX12_readAll 75 = .ok (.ireturn, 1) := by decide +kernel
theorem dX12_readAll_76 : decode cX12_readAll 76 = .ok (.aload_n 0, 1) := by decide +kernel
theorem dX12_readAll_77 : decode cX12_readAll 77 = .ok (.getfield 83, 3) := by decide +kernel
theorem dX12_readAll_80 : decode cX12_readAll 80 = .ok (.ifCond .ne 12, 3) := by decide +kernel
theorem dX12_readAll_83 : decode cX12_readAll 83 = .ok (.aload_n 0, 1) := by decide +kernel
theorem dX12_readAll_84 : decode cX12_readAll 84 = .ok (.getfield 20, 3) := by decide +kernel
theorem dX12_readAll_87 : decode cX12_readAll 87 = .ok (.iconst 5, 1) := by decide +kernel
theorem dX12_readAll_88 : decode cX12_readAll 88 = .ok (.iaload, 1) := by decide +kernel
theorem dX12_readAll_89 : decode cX12_readAll 89 = .ok (.ifCond .ne 23, 3) := by decide +kernel
theorem dX12_readAll_92 : decode cX12_readAll 92 = .ok (.aload_n 0, 1) := by decide +kernel
theorem dX12_readAll_93 : decode cX12_readAll 93 = .ok (.aload_n 0, 1) := by decide +kernel
theorem dX12_readAll_94 : decode cX12_readAll 94 = .ok (.getfield 83, 3) := by decide +kernel
theorem dX12_readAll_97 : decode cX12_readAll 97 = .ok (.ifCond .eq 7, 3) := by decide +kernel
theorem dX12_readAll_100 : decode cX12_readAll 100 = .ok (.iconst 1, 1) := by decide +kernel
theorem dX12_readAll_101 : decode cX12_readAll 101 = .ok (.goto 5, 3) := by decide +kernel
theorem dX12_readAll_104 : decode cX12_readAll 104 = .ok (.bipush 6, 2) := by decide +kernel
theorem dX12_readAll_106 : decode cX12_readAll 106 = .ok (.invokevirtual 109, 3) := by decide +kernel
theorem dX12_readAll_109 : decode cX12_readAll 109 = .ok (.pop, 1) := by decide +kernel
theorem dX12_readAll_110 : decode cX12_readAll 110 = .ok (.iconst 0, 1) := by decide +kernel
theorem dX12_readAll_111 : decode cX12_readAll 111 = .ok (.ireturn, 1) := by decide +kernel
theorem dX12_readAll_112 : decode cX12_readAll 112 = .ok (.iconst 1, 1) := by decide +kernel
theorem dX12_readAll_113 : decode cX12_readAll 113 = .ok (.ireturn, 1) := by decide +kernel
theorem dX12_harness_0 : decode cX12_harness 0 = .ok (.aload_n 0, 1) := by decide +kernel
theorem dX12_harness_1 : decode cX12_harness 1 = .ok (.iload_n 1, 1) := by decide +kernel
theorem dX12_harness_2 : decode cX12_harness 2 = .ok (.iconst 0, 1) := by decide +kernel
theorem dX12_harness_3 : decode cX12_harness 3 = .ok (.aload_n 0, 1) := by decide +kernel
theorem dX12_harness_4 : decode cX12_harness 4 = .ok (.getfield 63, 3) := by decide +kernel
theorem dX12_harness_7 : decode cX12_harness 7 = .ok (.invokestatic 86, 3) := by decide +kernel
theorem dX12_harness_10 : decode cX12_harness 10 = .ok (.ifCond .eq 7, 3) := by decide +kernel
theorem dX12_harness_13 : decode cX12_harness 13 = .ok (.iconst 0, 1) := by decide +kernel
theorem dX12_harness_14 : decode cX12_harness 14 = .ok (.goto 4, 3) := by decide +kernel
theorem dX12_harness_17 : decode cX12_harness 17 = .ok (.iconst 2, 1) := by decide +kernel
theorem dX12_harness_18 : decode cX12_harness 18 = .ok (.invokevirtual 254, 3) := by decide +kernel
theorem dX12_harness_21 : decode cX12_harness 21 = .ok (.ifCond .eq 5, 3) := by decide +kernel
theorem dX12_harness_24 : decode cX12_harness 24 = .ok (.iconst (-1), 1) := by decide +kernel
theorem dX12_harness_25 : decode cX12_harness 25 = .ok (.ireturn, 1) := by decide +kernel
theorem dX12_harness_26 : decode cX12_harness 26 = .ok (.aload_n 0, 1) := by decide +kernel
theorem dX12_harness_27 : decode cX12_harness 27 = .ok (.iconst 0, 1) := by decide +kernel
theorem dX12_harness_28 : decode cX12_harness 28 = .ok (.putfield 63, 3) := by decide +kernel
theorem dX12_harness_31 : decode cX12_harness 31 = .ok (.aload_n 0, 1) := by decide +kernel
theorem dX12_harness_32 : decode cX12_harness 32 = .ok (.iconst 0, 1) := by decide +kernel
theorem dX12_harness_33 : decode cX12_harness 33 = .ok (.putfield 257, 3) := by decide +kernel
theorem dX12_harness_36 : decode cX12_harness 36 = .ok (.aload_n 0, 1) := by decide +kernel
theorem dX12_harness_37 : decode cX12_harness 37 = .ok (.iload_n 1, 1) := by decide +kernel
theorem dX12_harness_38 : decode cX12_harness 38 = .ok (.invokevirtual 260, 3) := by decide +kernel
theorem dX12_harness_41 : decode cX12_harness 41 = .ok (.ifCond .ne 25, 3) := by decide +kernel
theorem dX12_harness_44 : decode cX12_harness 44 = .ok (.aload_n 0, 1) := by decide +kernel
theorem dX12_harness_45 : decode cX12_harness 45 = .ok (.aload_n 0, 1) := by decide +kernel
theorem dX12_harness_46 : decode cX12_harness 46 = .ok (.getfield 103, 3) := by decide +kernel
theorem dX12_harness_49 : decode cX12_harness 49 = .ok (.putfield 257, 3) := by decide +kernel
theorem dX12_harness_52 : decode cX12_harness 52 = .ok (.aload_n 0, 1) := by decide +kernel
theorem dX12_harness_53 : decode cX12_harness 53 = .ok (.aload_n 0, 1) := by decide +kernel
theorem dX12_harness_54 : decode cX12_harness 54 = .ok (.getfield 106, 3) := by decide +kernel
theorem dX12_harness_57 : decode cX12_harness 57 = .ok (.putfield 9, 3) := by decide +kernel
theorem dX12_harness_60 : decode cX12_harness 60 = .ok (.aload_n 0, 1) := by decide +kernel
theorem dX12_harness_61 : decode cX12_harness 61 = .ok (.iconst 4, 1) := by decide +kernel
theorem dX12_harness_62 : decode cX12_harness 62 = .ok (.invokevirtual 263, 3) := by decide +kernel
theorem dX12_harness_65 : decode cX12_harness 65 = .ok (.ireturn, 1) := by decide +kernel
theorem dX12_harness_66 : decode cX12_harness 66 = .ok (.iconst 0, 1) := by decide +kernel
theorem dX12_harness_67 : decode cX12_harness 67 = .ok (.istore_n 2, 1) := by decide +kernel
theorem dX12_harness_68 : decode cX12_harness 68 = .ok (.iload_n 2, 1) := by decide +kernel
theorem dX12_harness_69 : decode cX12_harness 69 = .ok (.sipush 267, 3) := by decide +kernel
theorem dX12_harness_72 : decode cX12_harness 72 = .ok (.if_icmp .ge 21, 3) := by decide +kernel
theorem dX12_harness_75 : decode cX12_harness 75 = .ok (.aload_n 0, 1) := by decide +kernel
theorem dX12_harness_76 : decode cX12_harness 76 = .ok (.getfield 17, 3) := by decide +kernel
theorem dX12_harness_79 : decode cX12_harness 79 = .ok (.iload_n 2, 1) := by decide +kernel
theorem dX12_harness_80 : decode cX12_harness 80 = .ok (.aload_n 0, 1) := by decide +kernel
theorem dX12_harness_81 : decode cX12_harness 81 = .ok (.getfield 20, 3) := by decide +kernel
theorem dX12_harness_84 : decode cX12_harness 84 = .ok (.iload_n 2, 1) := by decide +kernel
theorem dX12_harness_85 : decode cX12_harness 85 = .ok (.iaload, 1) := by decide +kernel
theorem dX12_harness_86 : decode cX12_harness 86 = .ok (.iastore, 1) := by decide +kernel
theorem dX12_harness_87 : decode cX12_harness 87 = .ok (.iinc 2 1, 3) := by decide +kernel
theorem dX12_harness_90 : decode cX12_harness 90 = .ok (.goto (-22), 3) := by decide +kernel
theorem dX12_harness_93 : decode cX12_harness 93 = .ok (.iconst 0, 1) := by decide +kernel
theorem dX12_harness_94 : decode cX12_harness 94 = .ok (.istore_n 2, 1) := by decide +kernel
theorem dX12_harness_95 : decode cX12_harness 95 = .ok (.iload_n 2, 1) := by decide +kernel
theorem dX12_harness_96 : decode cX12_harness 96 = .ok (.bipush 36, 2) := by decide +kernel
theorem dX12_harness_98 : decode cX12_harness 98 = .ok (.if_icmp .ge 33, 3) := by decide +kernel
theorem dX12_harness_101 : decode cX12_harness 101 = .ok (.aload_n 0, 1) := by decide +kernel
theorem dX12_harness_102 : decode cX12_harness 102 = .ok (.getfield 23, 3) := by decide +kernel
theorem dX12_harness_105 : decode cX12_harness 105 = .ok (.iload_n 2, 1) := by decide +kernel
theorem dX12_harness_106 : decode cX12_harness 106 = .ok (.aload_n 0, 1) := by decide +kernel
theorem dX12_harness_107 : decode cX12_harness 107 = .ok (.getfield 30, 3) := by decide +kernel
theorem dX12_harness_110 : decode cX12_harness 110 = .ok (.iload_n 2, 1) := by decide +kernel
theorem dX12_harness_111 : decode cX12_harness 111 = .ok (.laload, 1) := by decide +kernel
theorem dX12_harness_112 : decode cX12_harness 112 = .ok (.lastore, 1) := by decide +kernel
theorem dX12_harness_113 : decode cX12_harness 113 = .ok (.aload_n 0, 1) := by decide +kernel
theorem dX12_harness_114 : decode cX12_harness 114 = .ok (.getfield 27, 3) := by decide +kernel
theorem dX12_harness_117 : decode cX12_harness 117 = .ok (.iload_n 2, 1) := by decide +kernel
theorem dX12_harness_118 : decode cX12_harness 118 = .ok (.aload_n 0, 1) := by decide +kernel
theorem dX12_harness_119 : decode cX12_harness 119 = .ok (.getfield 33, 3) := by decide +kernel
theorem dX12_harness_122 : decode cX12_harness 122 = .ok (.iload_n 2, 1) := by decide +kernel
theorem dX12_harness_123 : decode cX12_harness 123 = .ok (.iaload, 1) := by decide +kernel
theorem dX12_harness_124 : decode cX12_harness 124 = .ok (.iastore, 1) := by decide +kernel
theorem dX12_harness_125 : decode cX12_harness 125 = .ok (.iinc 2 1, 3) := by decide +kernel
theorem dX12_harness_128 : decode cX12_harness 128 = .ok (.goto (-33), 3) := by decide +kernel
theorem dX12_harness_131 : decode cX12_harness 131 = .ok (.aload_n 0, 1) := by decide +kernel
theorem dX12_harness_132 : decode cX12_harness 132 = .ok (.aload_n 0, 1) := by decide +kernel
theorem dX12_harness_133 : decode cX12_harness 133 = .ok (.getfield 145, 3) := by decide +kernel
theorem dX12_harness_136 : decode cX12_harness 136 = .ok (.putfield 266, 3) := by decide +kernel
theorem dX12_harness_139 : decode cX12_harness 139 = .ok (.aload_n 0, 1) := by decide +kernel
theorem dX12_harness_140 : decode cX12_harness 140 = .ok (.iconst 1, 1) := by decide +kernel
theorem dX12_harness_141 : decode cX12_harness 141 = .ok (.putfield 269, 3) := by decide +kernel
theorem dX12_harness_144 : decode cX12_harness 144 = .ok (.aload_n 0, 1) := by decide +kernel
theorem dX12_harness_145 : decode cX12_harness 145 = .ok (.iconst 0, 1) := by decide +kernel
theorem dX12_harness_146 : decode cX12_harness 146 = .ok (.putfield 272, 3) := by decide +kernel
theorem dX12_harness_149 : decode cX12_harness 149 = .ok (.aload_n 0, 1) := by decide +kernel
theorem dX12_harness_150 : decode cX12_harness 150 = .ok (.getfield 17, 3) := by decide +kernel
theorem dX12_harness_153 : decode cX12_harness 153 = .ok (.iconst 5, 1) := by decide +kernel
theorem dX12_harness_154 : decode cX12_harness 154 = .ok (.iaload, 1) := by decide +kernel
theorem dX12_harness_155 : decode cX12_harness 155 = .ok (.ireturn, 1) := by decide +kernel
theorem dX12_fault_0 : decode cX12_fault 0 = .ok (.aload_n 0, 1) := by decide +kernel
theorem dX12_fault_1 : decode cX12_fault 1 = .ok (.iconst 0, 1) := by decide +kernel
theorem dX12_fault_2 : decode cX12_fault 2 = .ok (.putfield 57, 3) := by decide +kernel
theorem dX12_fault_5 : decode cX12_fault 5 = .ok (.aload_n 0, 1) := by decide +kernel
theorem dX12_fault_6 : decode cX12_fault 6 = .ok (.getfield 257, 3) := by decide +kernel
theorem dX12_fault_9 : decode cX12_fault 9 = .ok (.ireturn, 1) := by decide +kernel
theorem dX12_where_0 : decode cX12_where 0 = .ok (.aload_n 0, 1) := by decide +kernel
theorem dX12_where_1 : decode cX12_where 1 = .ok (.iconst 0, 1) := by decide +kernel
theorem dX12_where_2 : decode cX12_where 2 = .ok (.putfield 57, 3) := by decide +kernel
theorem dX12_where_5 : decode cX12_where 5 = .ok (.aload_n 0, 1) := by decide +kernel
theorem dX12_where_6 : decode cX12_where 6 = .ok (.getfield 60, 3) := by decide +kernel
theorem dX12_where_9 : decode cX12_where 9 = .ok (.iconst 4, 1) := by decide +kernel
theorem dX12_where_10 : decode cX12_where 10 = .ok (.if_icmp .ne 10, 3) := by decide +kernel
theorem dX12_where_13 : decode cX12_where 13 = .ok (.aload_n 0, 1) := by decide +kernel
theorem dX12_where_14 : decode cX12_where 14 = .ok (.getfield 9, 3) := by decide +kernel
theorem dX12_where_17 : decode cX12_where 17 = .ok (.goto 4, 3) := by decide +kernel
theorem dX12_where_20 : decode cX12_where 20 = .ok (.iconst (-1), 1) := by decide +kernel
theorem dX12_where_21 : decode cX12_where 21 = .ok (.ireturn, 1) := by decide +kernel
theorem dX12_about_0 : decode cX12_about 0 = .ok (.aload_n 0, 1) := by decide +kernel
theorem dX12_about_1 : decode cX12_about 1 = .ok (.aload_n 0, 1) := by decide +kernel
theorem dX12_about_2 : decode cX12_about 2 = .ok (.getfield 269, 3) := by decide +kernel
theorem dX12_about_5 : decode cX12_about 5 = .ok (.ifCond .eq 17, 3) := by decide +kernel
theorem dX12_about_8 : decode cX12_about 8 = .ok (.iload_n 1, 1) := by decide +kernel
theorem dX12_about_9 : decode cX12_about 9 = .ok (.iconst 0, 1) := by decide +kernel
theorem dX12_about_10 : decode cX12_about 10 = .ok (.bipush 6, 2) := by decide +kernel
theorem dX12_about_12 : decode cX12_about 12 = .ok (.invokestatic 86, 3) := by decide +kernel
theorem dX12_about_15 : decode cX12_about 15 = .ok (.ifCond .eq 7, 3) := by decide +kernel
theorem dX12_about_18 : decode cX12_about 18 = .ok (.iconst 1, 1) := by decide +kernel
theorem dX12_about_19 : decode cX12_about 19 = .ok (.goto 4, 3) := by decide +kernel
theorem dX12_about_22 : decode cX12_about 22 = .ok (.iconst 0, 1) := by decide +kernel
theorem dX12_about_23 : decode cX12_about 23 = .ok (.invokestatic 275, 3) := by decide +kernel
theorem dX12_about_26 : decode cX12_about 26 = .ok (.invokevirtual 254, 3) := by decide +kernel
theorem dX12_about_29 : decode cX12_about 29 = .ok (.ifCond .eq 7, 3) := by decide +kernel
theorem dX12_about_32 : decode cX12_about 32 = .ok (.iconst (-1), 1) := by decide +kernel
theorem dX12_about_33 : decode cX12_about 33 = .ok (.goto 9, 3) := by decide +kernel
theorem dX12_about_36 : decode cX12_about 36 = .ok (.aload_n 0, 1) := by decide +kernel
theorem dX12_about_37 : decode cX12_about 37 = .ok (.getfield 17, 3) := by decide +kernel
theorem dX12_about_40 : decode cX12_about 40 = .ok (.iload_n 1, 1) := by decide +kernel
theorem dX12_about_41 : decode cX12_about 41 = .ok (.iaload, 1) := by decide +kernel
theorem dX12_about_42 : decode cX12_about 42 = .ok (.ireturn, 1) := by decide +kernel
theorem dX12_named_0 : decode cX12_named 0 = .ok (.aload_n 0, 1) := by decide +kernel
theorem dX12_named_1 : decode cX12_named 1 = .ok (.aload_n 0, 1) := by decide +kernel
theorem dX12_named_2 : decode cX12_named 2 = .ok (.getfield 269, 3) := by decide +kernel
theorem dX12_named_5 : decode cX12_named 5 = .ok (.invokestatic 275, 3) := by decide +kernel
theorem dX12_named_8 : decode cX12_named 8 = .ok (.invokevirtual 254, 3) := by decide +kernel
theorem dX12_named_11 : decode cX12_named 11 = .ok (.ifCond .eq 5, 3) := by decide +kernel
theorem dX12_named_14 : decode cX12_named 14 = .ok (.iconst (-1), 1) := by decide +kernel
theorem dX12_named_15 : decode cX12_named 15 = .ok (.ireturn, 1) := by decide +kernel
theorem dX12_named_16 : decode cX12_named 16 = .ok (.iconst 0, 1) := by decide +kernel
theorem dX12_named_17 : decode cX12_named 17 = .ok (.istore_n 3, 1) := by decide +kernel
theorem dX12_named_18 : decode cX12_named 18 = .ok (.iload_n 3, 1) := by decide +kernel
theorem dX12_named_19 : decode cX12_named 19 = .ok (.aload_n 0, 1) := by decide +kernel
theorem dX12_named_20 : decode cX12_named 20 = .ok (.getfield 266, 3) := by decide +kernel
theorem dX12_named_23 : decode cX12_named 23 = .ok (.if_icmp .ge 27, 3) := by decide +kernel
theorem dX12_named_26 : decode cX12_named 26 = .ok (.aload_n 0, 1) := by decide +kernel
theorem dX12_named_27 : decode cX12_named 27 = .ok (.getfield 23, 3) := by decide +kernel
theorem dX12_named_30 : decode cX12_named 30 = .ok (.iload_n 3, 1) := by decide +kernel
theorem dX12_named_31 : decode cX12_named 31 = .ok (.laload, 1) := by decide +kernel
theorem dX12_named_32 : decode cX12_named 32 = .ok (.lload_n 1, 1) := by decide +kernel
theorem dX12_named_33 : decode cX12_named 33 = .ok (.lcmp, 1) := by decide +kernel
theorem dX12_named_34 : decode cX12_named 34 = .ok (.ifCond .ne 10, 3) := by decide +kernel
theorem dX12_named_37 : decode cX12_named 37 = .ok (.aload_n 0, 1) := by decide +kernel
theorem dX12_named_38 : decode cX12_named 38 = .ok (.getfield 27, 3) := by decide +kernel
theorem dX12_named_41 : decode cX12_named 41 = .ok (.iload_n 3, 1) := by decide +kernel
theorem dX12_named_42 : decode cX12_named 42 = .ok (.iaload, 1) := by decide +kernel
theorem dX12_named_43 : decode cX12_named 43 = .ok (.ireturn, 1) := by decide +kernel
theorem dX12_named_44 : decode cX12_named 44 = .ok (.iinc 3 1, 3) := by decide +kernel
theorem dX12_named_47 : decode cX12_named 47 = .ok (.goto (-29), 3) := by decide +kernel
theorem dX12_named_50 : decode cX12_named 50 = .ok (.aload_n 0, 1) := by decide +kernel
theorem dX12_named_51 : decode cX12_named 51 = .ok (.iconst 1, 1) := by decide +kernel
theorem dX12_named_52 : decode cX12_named 52 = .ok (.invokevirtual 263, 3) := by decide +kernel
theorem dX12_named_55 : decode cX12_named 55 = .ok (.ireturn, 1) := by decide +kernel
theorem dX12_isNode_0 : decode cX12_isNode 0 = .ok (.aload_n 0, 1) := by decide +kernel
theorem dX12_isNode_1 : decode cX12_isNode 1 = .ok (.getfield 269, 3) := by decide +kernel
theorem dX12_isNode_4 : decode cX12_isNode 4 = .ok (.ifCond .eq 23, 3) := by decide +kernel
theorem dX12_isNode_7 : decode cX12_isNode 7 = .ok (.iload_n 1, 1) := by decide +kernel
theorem dX12_isNode_8 : decode cX12_isNode 8 = .ok (.iconst 0, 1) := by decide +kernel
theorem dX12_isNode_9 : decode cX12_isNode 9 = .ok (.aload_n 0, 1) := by decide +kernel
theorem dX12_isNode_10 : decode cX12_isNode 10 = .ok (.getfield 17, 3) := by decide +kernel
theorem dX12_isNode_13 : decode cX12_isNode 13 = .ok (.iconst 2, 1) := by decide +kernel
theorem dX12_isNode_14 : decode cX12_isNode 14 = .ok (.iaload, 1) := by decide +kernel
theorem dX12_isNode_15 : decode cX12_isNode 15 = .ok (.iconst 1, 1) := by decide +kernel
theorem dX12_isNode_16 : decode cX12_isNode 16 = .ok (.isub, 1) := by decide +kernel
theorem dX12_isNode_17 : decode cX12_isNode 17 = .ok (.invokestatic 86, 3) := by decide +kernel
theorem dX12_isNode_20 : decode cX12_isNode 20 = .ok (.ifCond .eq 7, 3) := by decide +kernel
theorem dX12_isNode_23 : decode cX12_isNode 23 = .ok (.iconst 1, 1) := by decide +kernel
theorem dX12_isNode_24 : decode cX12_isNode 24 = .ok (.goto 4, 3) := by decide +kernel
theorem dX12_isNode_27 : decode cX12_isNode 27 = .ok (.iconst 0, 1) := by decide +kernel
theorem dX12_isNode_28 : decode cX12_isNode 28 = .ok (.ireturn, 1) := by decide +kernel
theorem dX12_isBeyond_0 : decode cX12_isBeyond 0 = .ok (.iload_n 1, 1) := by decide +kernel
theorem dX12_isBeyond_1 : decode cX12_isBeyond 1 = .ok (.istore_n 3, 1) := by decide +kernel
theorem dX12_isBeyond_2 : decode cX12_isBeyond 2 = .ok (.iload_n 3, 1) := by decide +kernel
theorem dX12_isBeyond_3 : decode cX12_isBeyond 3 = .ok (.bipush (-2), 2) := by decide +kernel
theorem dX12_isBeyond_5 : decode cX12_isBeyond 5 = .ok (.if_icmp .eq 21, 3) := by decide +kernel
theorem dX12_isBeyond_8 : decode cX12_isBeyond 8 = .ok (.iload_n 3, 1) := by decide +kernel
theorem dX12_isBeyond_9 : decode cX12_isBeyond 9 = .ok (.iload_n 2, 1) := by decide +kernel
theorem dX12_isBeyond_10 : decode cX12_isBeyond 10 = .ok (.if_icmp .eq 16, 3) := by decide +kernel
theorem dX12_isBeyond_13 : decode cX12_isBeyond 13 = .ok (.aload_n 0, 1) := by decide +kernel
theorem dX12_isBeyond_14 : decode cX12_isBeyond 14 = .ok (.getfield 17, 3) := by decide +kernel
theorem dX12_isBeyond_17 : decode cX12_isBeyond 17 = .ok (.bipush 7, 2) := by decide +kernel
theorem dX12_isBeyond_19 : decode cX12_isBeyond 19 = .ok (.iload_n 3, 1) := by decide +kernel
theorem dX12_isBeyond_20 : decode cX12_isBeyond 20 = .ok (.iadd, 1) := by decide +kernel
theorem dX12_isBeyond_21 : decode cX12_isBeyond 21 = .ok (.iaload, 1) := by decide +kernel
theorem dX12_isBeyond_22 : decode cX12_isBeyond 22 = .ok (.istore_n 3, 1) := by decide +kernel
theorem dX12_isBeyond_23 : decode cX12_isBeyond 23 = .ok (.goto (-21), 3) := by decide +kernel
theorem dX12_isBeyond_26 : decode cX12_isBeyond 26 = .ok (.iload_n 3, 1) := by decide +kernel
theorem dX12_isBeyond_27 : decode cX12_isBeyond 27 = .ok (.iload_n 2, 1) := by decide +kernel
theorem dX12_isBeyond_28 : decode cX12_isBeyond 28 = .ok (.if_icmp .ne 7, 3) := by decide +kernel
theorem dX12_isBeyond_31 : decode cX12_isBeyond 31 = .ok (.iconst 1, 1) := by decide +kernel
theorem dX12_isBeyond_32 : decode cX12_isBeyond 32 = .ok (.goto 4, 3) := by decide +kernel
theorem dX12_isBeyond_35 : decode cX12_isBeyond 35 = .ok (.iconst 0, 1) := by decide +kernel
theorem dX12_isBeyond_36 : decode cX12_isBeyond 36 = .ok (.ireturn, 1) := by decide +kernel
theorem dX12_isBetween_0 : decode cX12_isBetween 0 = .ok (.aload_n 0, 1) := by decide +kernel
theorem dX12_isBetween_1 : decode cX12_isBetween 1 = .ok (.iload_n 1, 1) := by decide +kernel
theorem dX12_isBetween_2 : decode cX12_isBetween 2 = .ok (.iload_n 3, 1) := by decide +kernel
theorem dX12_isBetween_3 : decode cX12_isBetween 3 = .ok (.invokevirtual 279, 3) := by decide +kernel
theorem dX12_isBetween_6 : decode cX12_isBetween 6 = .ok (.aload_n 0, 1) := by decide +kernel
theorem dX12_isBetween_7 : decode cX12_isBetween 7 = .ok (.iload_n 2, 1) := by decide +kernel
theorem dX12_isBetween_8 : decode cX12_isBetween 8 = .ok (.iload_n 3, 1) := by decide +kernel
theorem dX12_isBetween_9 : decode cX12_isBetween 9 = .ok (.invokevirtual 279, 3) := by decide +kernel
theorem dX12_isBetween_12 : decode cX12_isBetween 12 = .ok (.if_icmp .eq 7, 3) := by decide +kernel
theorem dX12_isBetween_15 : decode cX12_isBetween 15 = .ok (.iconst 1, 1) := by decide +kernel
theorem dX12_isBetween_16 : decode cX12_isBetween 16 = .ok (.goto 4, 3) := by decide +kernel
theorem dX12_isBetween_19 : decode cX12_isBetween 19 = .ok (.iconst 0, 1) := by decide +kernel
theorem dX12_isBetween_20 : decode cX12_isBetween 20 = .ok (.ireturn, 1) := by decide +kernel
theorem dX12_farOf_0 : decode cX12_farOf 0 = .ok (.iconst 0, 1) := by decide +kernel
theorem dX12_farOf_1 : decode cX12_farOf 1 = .ok (.istore_n 3, 1) := by decide +kernel
theorem dX12_farOf_2 : decode cX12_farOf 2 = .ok (.iconst 1, 1) := by decide +kernel
theorem dX12_farOf_3 : decode cX12_farOf 3 = .ok (.istore 4, 2) := by decide +kernel
theorem dX12_farOf_5 : decode cX12_farOf 5 = .ok (.iload 4, 2) := by decide +kernel
theorem dX12_farOf_7 : decode cX12_farOf 7 = .ok (.aload_n 0, 1) := by decide +kernel
theorem dX12_farOf_8 : decode cX12_farOf 8 = .ok (.getfield 17, 3) := by decide +kernel
theorem dX12_farOf_11 : decode cX12_farOf 11 = .ok (.iconst 2, 1) := by decide +kernel
theorem dX12_farOf_12 : decode cX12_farOf 12 = .ok (.iaload, 1) := by decide +kernel
theorem dX12_farOf_13 : decode cX12_farOf 13 = .ok (.if_icmp .ge 37, 3) := by decide +kernel
theorem dX12_farOf_16 : decode cX12_farOf 16 = .ok (.iload_n 3, 1) := by decide +kernel
theorem dX12_farOf_17 : decode cX12_farOf 17 = .ok (.aload_n 0, 1) := by decide +kernel
theorem dX12_farOf_18 : decode cX12_farOf 18 = .ok (.iload_n 1, 1) := by decide +kernel
theorem dX12_farOf_19 : decode cX12_farOf 19 = .ok (.iload_n 2, 1) := by decide +kernel
theorem dX12_farOf_20 : decode cX12_farOf 20 = .ok (.iload 4, 2) := by decide +kernel
theorem dX12_farOf_22 : decode cX12_farOf 22 = .ok (.invokevirtual 282, 3) := by decide +kernel
theorem dX12_farOf_25 : decode cX12_farOf 25 = .ok (.ifCond .eq 16, 3) := by decide +kernel
theorem dX12_farOf_28 : decode cX12_farOf 28 = .ok (.aload_n 0, 1) := by decide +kernel
theorem dX12_farOf_29 : decode cX12_farOf 29 = .ok (.getfield 17, 3) := by decide +kernel
theorem dX12_farOf_32 : decode cX12_farOf 32 = .ok (.bipush 21, 2) := by decide +kernel
theorem dX12_farOf_34 : decode cX12_farOf 34 = .ok (.iload 4, 2) := by decide +kernel
theorem dX12_farOf_36 : decode cX12_farOf 36 = .ok (.iadd, 1) := by decide +kernel
theorem dX12_farOf_37 : decode cX12_farOf 37 = .ok (.iaload, 1) := by decide +kernel
theorem dX12_farOf_38 : decode cX12_farOf 38 = .ok (.goto 4, 3) := by decide +kernel
theorem dX12_farOf_41 : decode cX12_farOf 41 = .ok (.iconst 0, 1) := by decide +kernel
theorem dX12_farOf_42 : decode cX12_farOf 42 = .ok (.iadd, 1) := by decide +kernel
theorem dX12_farOf_43 : decode cX12_farOf 43 = .ok (.istore_n 3, 1) := by decide +kernel
theorem dX12_farOf_44 : decode cX12_farOf 44 = .ok (.iinc 4 1, 3) := by decide +kernel
theorem dX12_farOf_47 : decode cX12_farOf 47 = .ok (.goto (-42), 3) := by decide +kernel
theorem dX12_farOf_50 : decode cX12_farOf 50 = .ok (.iload_n 3, 1) := by decide +kernel
theorem dX12_farOf_51 : decode cX12_farOf 51 = .ok (.ireturn, 1) := by decide +kernel
theorem dX12_node_0 : decode cX12_node 0 = .ok (.aload_n 0, 1) := by decide +kernel
theorem dX12_node_1 : decode cX12_node 1 = .ok (.aload_n 0, 1) := by decide +kernel
theorem dX12_node_2 : decode cX12_node 2 = .ok (.iload_n 1, 1) := by decide +kernel
theorem dX12_node_3 : decode cX12_node 3 = .ok (.invokevirtual 285, 3) := by decide +kernel
theorem dX12_node_6 : decode cX12_node 6 = .ok (.ifCond .eq 16, 3) := by decide +kernel
theorem dX12_node_9 : decode cX12_node 9 = .ok (.iload_n 2, 1) := by decide +kernel
theorem dX12_node_10 : decode cX12_node 10 = .ok (.iconst 0, 1) := by decide +kernel
theorem dX12_node_11 : decode cX12_node 11 = .ok (.iconst 2, 1) := by decide +kernel
theorem dX12_node_12 : decode cX12_node 12 = .ok (.invokestatic 86, 3) := by decide +kernel
theorem dX12_node_15 : decode cX12_node 15 = .ok (.ifCond .eq 7, 3) := by decide +kernel
theorem dX12_node_18 : decode cX12_node 18 = .ok (.iconst 1, 1) := by decide +kernel
theorem dX12_node_19 : decode cX12_node 19 = .ok (.goto 4, 3) := by decide +kernel
theorem dX12_node_22 : decode cX12_node 22 = .ok (.iconst 0, 1) := by decide +kernel
theorem dX12_node_23 : decode cX12_node 23 = .ok (.invokestatic 275, 3) := by decide +kernel
theorem dX12_node_26 : decode cX12_node 26 = .ok (.invokevirtual 254, 3) := by decide +kernel
theorem dX12_node_29 : decode cX12_node 29 = .ok (.ifCond .eq 5, 3) := by decide +kernel
theorem dX12_node_32 : decode cX12_node 32 = .ok (.iconst (-1), 1) := by decide +kernel
theorem dX12_node_33 : decode cX12_node 33 = .ok (.ireturn, 1) := by decide +kernel
theorem dX12_node_34 : decode cX12_node 34 = .ok (.iload_n 2, 1) := by decide +kernel
theorem dX12_node_35 : decode cX12_node 35 = .ok (.iconst 2, 1) := by decide +kernel
theorem dX12_node_36 : decode cX12_node 36 = .ok (.if_icmp .ge 22, 3) := by decide +kernel
theorem dX12_node_39 : decode cX12_node 39 = .ok (.aload_n 0, 1) := by decide +kernel
theorem dX12_node_40 : decode cX12_node 40 = .ok (.getfield 17, 3) := by decide +kernel
theorem dX12_node_43 : decode cX12_node 43 = .ok (.iload_n 2, 1) := by decide +kernel
theorem dX12_node_44 : decode cX12_node 44 = .ok (.ifCond .ne 8, 3) := by decide +kernel
theorem dX12_node_47 : decode cX12_node 47 = .ok (.bipush 7, 2) := by decide +kernel
theorem dX12_node_49 : decode cX12_node 49 = .ok (.goto 5, 3) := by decide +kernel
theorem dX12_node_52 : decode cX12_node 52 = .ok (.bipush 21, 2) := by decide +kernel
theorem dX12_node_54 : decode cX12_node 54 = .ok (.iload_n 1, 1) := by decide +kernel
theorem dX12_node_55 : decode cX12_node 55 = .ok (.iadd, 1) := by decide +kernel
theorem dX12_node_56 : decode cX12_node 56 = .ok (.iaload, 1) := by decide +kernel
theorem dX12_node_57 : decode cX12_node 57 = .ok (.ireturn, 1) := by decide +kernel
theorem dX12_node_58 : decode cX12_node 58 = .ok (.iconst 0, 1) := by decide +kernel
theorem dX12_node_59 : decode cX12_node 59 = .ok (.istore_n 3, 1) := by decide +kernel
theorem dX12_node_60 : decode cX12_node 60 = .ok (.iconst 1, 1) := by decide +kernel
theorem dX12_node_61 : decode cX12_node 61 = .ok (.istore 4, 2) := by decide +kernel
theorem dX12_node_63 : decode cX12_node 63 = .ok (.iload 4, 2) := by decide +kernel
theorem dX12_node_65 : decode cX12_node 65 = .ok (.aload_n 0, 1) := by decide +kernel
theorem dX12_node_66 : decode cX12_node 66 = .ok (.getfield 17, 3) := by decide +kernel
theorem dX12_node_69 : decode cX12_node 69 = .ok (.iconst 2, 1) := by decide +kernel
theorem dX12_node_70 : decode cX12_node 70 = .ok (.iaload, 1) := by decide +kernel
theorem dX12_node_71 : decode cX12_node 71 = .ok (.if_icmp .ge 31, 3) := by decide +kernel
theorem dX12_node_74 : decode cX12_node 74 = .ok (.iload_n 3, 1) := by decide +kernel
theorem dX12_node_75 : decode cX12_node 75 = .ok (.aload_n 0, 1) := by decide +kernel
theorem dX12_node_76 : decode cX12_node 76 = .ok (.getfield 17, 3) := by decide +kernel
theorem dX12_node_79 : decode cX12_node 79 = .ok (.bipush 7, 2) := by decide +kernel
theorem dX12_node_81 : decode cX12_node 81 = .ok (.iload 4, 2) := by decide +kernel
theorem dX12_node_83 : decode cX12_node 83 = .ok (.iadd, 1) := by decide +kernel
theorem dX12_node_84 : decode cX12_node 84 = .ok (.iaload, 1) := by decide +kernel
theorem dX12_node_85 : decode cX12_node 85 = .ok (.iload_n 1, 1) := by decide +kernel
theorem dX12_node_86 : decode cX12_node 86 = .ok (.if_icmp .ne 7, 3) := by decide +kernel
theorem dX12_node_89 : decode cX12_node 89 = .ok (.iconst 1, 1) := by decide +kernel
theorem dX12_node_90 : decode cX12_node 90 = .ok (.goto 4, 3) := by decide +kernel
theorem dX12_node_93 : decode cX12_node 93 = .ok (.iconst 0, 1) := by decide +kernel
theorem dX12_node_94 : decode cX12_node 94 = .ok (.iadd, 1) := by decide +kernel
theorem dX12_node_95 : decode cX12_node 95 = .ok (.istore_n 3, 1) := by decide +kernel
theorem dX12_node_96 : decode cX12_node 96 = .ok (.iinc 4 1, 3) := by decide +kernel
theorem dX12_node_99 : decode cX12_node 99 = .ok (.goto (-36), 3) := by decide +kernel
theorem dX12_node_102 : decode cX12_node 102 = .ok (.iload_n 3, 1) := by decide +kernel
theorem dX12_node_103 : decode cX12_node 103 = .ok (.ireturn, 1) := by decide +kernel
theorem dX12_far_0 : decode cX12_far 0 = .ok (.aload_n 0, 1) := by decide +kernel
theorem dX12_far_1 : decode cX12_far 1 = .ok (.aload_n 0, 1) := by decide +kernel
theorem dX12_far_2 : decode cX12_far 2 = .ok (.iload_n 1, 1) := by decide +kernel
theorem dX12_far_3 : decode cX12_far 3 = .ok (.invokevirtual 285, 3) := by decide +kernel
theorem dX12_far_6 : decode cX12_far 6 = .ok (.ifCond .eq 15, 3) := by decide +kernel
theorem dX12_far_9 : decode cX12_far 9 = .ok (.aload_n 0, 1) := by decide +kernel
theorem dX12_far_10 : decode cX12_far 10 = .ok (.iload_n 2, 1) := by decide +kernel
theorem dX12_far_11 : decode cX12_far 11 = .ok (.invokevirtual 285, 3) := by decide +kernel
theorem dX12_far_14 : decode cX12_far 14 = .ok (.ifCond .eq 7, 3) := by decide +kernel
theorem dX12_far_17 : decode cX12_far 17 = .ok (.iconst 1, 1) := by decide +kernel
theorem dX12_far_18 : decode cX12_far 18 = .ok (.goto 4, 3) := by decide +kernel
theorem dX12_far_21 : decode cX12_far 21 = .ok (.iconst 0, 1) := by decide +kernel
theorem dX12_far_22 : decode cX12_far 22 = .ok (.invokestatic 275, 3) := by decide +kernel
theorem dX12_far_25 : decode cX12_far 25 = .ok (.invokevirtual 254, 3) := by decide +kernel
theorem dX12_far_28 : decode cX12_far 28 = .ok (.ifCond .eq 7, 3) := by decide +kernel
theorem dX12_far_31 : decode cX12_far 31 = .ok (.iconst (-1), 1) := by decide +kernel
theorem dX12_far_32 : decode cX12_far 32 = .ok (.goto 9, 3) := by decide +kernel
theorem dX12_far_35 : decode cX12_far 35 = .ok (.aload_n 0, 1) := by decide +kernel
theorem dX12_far_36 : decode cX12_far 36 = .ok (.iload_n 1, 1) := by decide +kernel
theorem dX12_far_37 : decode cX12_far 37 = .ok (.iload_n 2, 1) := by decide +kernel
theorem dX12_far_38 : decode cX12_far 38 = .ok (.invokevirtual 288, 3) := by decide +kernel
theorem dX12_far_41 : decode cX12_far 41 = .ok (.ireturn, 1) := by decide +kernel
theorem dX12_nextTo_0 : decode cX12_nextTo 0 = .ok (.aload_n 0, 1) := by decide +kernel
theorem dX12_nextTo_1 : decode cX12_nextTo 1 = .ok (.iload_n 2, 1) := by decide +kernel
theorem dX12_nextTo_2 : decode cX12_nextTo 2 = .ok (.iload_n 1, 1) := by decide +kernel
theorem dX12_nextTo_3 : decode cX12_nextTo 3 = .ok (.invokevirtual 279, 3) := by decide +kernel
theorem dX12_nextTo_6 : decode cX12_nextTo 6 = .ok (.ifCond .ne 13, 3) := by decide +kernel
theorem dX12_nextTo_9 : decode cX12_nextTo 9 = .ok (.aload_n 0, 1) := by decide +kernel
theorem dX12_nextTo_10 : decode cX12_nextTo 10 = .ok (.getfield 17, 3) := by decide +kernel
theorem dX12_nextTo_13 : decode cX12_nextTo 13 = .ok (.bipush 7, 2) := by decide +kernel
theorem dX12_nextTo_15 : decode cX12_nextTo 15 = .ok (.iload_n 1, 1) := by decide +kernel
theorem dX12_nextTo_16 : decode cX12_nextTo 16 = .ok (.iadd, 1) := by decide +kernel
theorem dX12_nextTo_17 : decode cX12_nextTo 17 = .ok (.iaload, 1) := by decide +kernel
theorem dX12_nextTo_18 : decode cX12_nextTo 18 = .ok (.ireturn, 1) := by decide +kernel
theorem dX12_nextTo_19 : decode cX12_nextTo 19 = .ok (.iload_n 2, 1) := by decide +kernel
theorem dX12_nextTo_20 : decode cX12_nextTo 20 = .ok (.istore_n 3, 1) := by decide +kernel
theorem dX12_nextTo_21 : decode cX12_nextTo 21 = .ok (.aload_n 0, 1) := by decide +kernel
theorem dX12_nextTo_22 : decode cX12_nextTo 22 = .ok (.getfield 17, 3) := by decide +kernel
theorem dX12_nextTo_25 : decode cX12_nextTo 25 = .ok (.bipush 7, 2) := by decide +kernel
theorem dX12_nextTo_27 : decode cX12_nextTo 27 = .ok (.iload_n 3, 1) := by decide +kernel
theorem dX12_nextTo_28 : decode cX12_nextTo 28 = .ok (.iadd, 1) := by decide +kernel
theorem dX12_nextTo_29 : decode cX12_nextTo 29 = .ok (.iaload, 1) := by decide +kernel
theorem dX12_nextTo_30 : decode cX12_nextTo 30 = .ok (.iload_n 1, 1) := by decide +kernel
theorem dX12_nextTo_31 : decode cX12_nextTo 31 = .ok (.if_icmp .eq 16, 3) := by decide +kernel
theorem dX12_nextTo_34 : decode cX12_nextTo 34 = .ok (.aload_n 0, 1) := by decide +kernel
theorem dX12_nextTo_35 : decode cX12_nextTo 35 = .ok (.getfield 17, 3) := by decide +kernel
theorem dX12_nextTo_38 : decode cX12_nextTo 38 = .ok (.bipush 7, 2) := by decide +kernel
theorem dX12_nextTo_40 : decode cX12_nextTo 40 = .ok (.iload_n 3, 1) := by decide +kernel
theorem dX12_nextTo_41 : decode cX12_nextTo 41 = .ok (.iadd, 1) := by decide +kernel
theorem dX12_nextTo_42 : decode cX12_nextTo 42 = .ok (.iaload, 1) := by decide +kernel
theorem dX12_nextTo_43 : decode cX12_nextTo 43 = .ok (.istore_n 3, 1) := by decide +kernel
theorem dX12_nextTo_44 : decode cX12_nextTo 44 = .ok (.goto (-23), 3) := by decide +kernel
theorem dX12_nextTo_47 : decode cX12_nextTo 47 = .ok (.iload_n 3, 1) := by decide +kernel
theorem dX12_nextTo_48 : decode cX12_nextTo 48 = .ok (.ireturn, 1) := by decide +kernel
theorem dX12_way_0 : decode cX12_way 0 = .ok (.aload_n 0, 1) := by decide +kernel
theorem dX12_way_1 : decode cX12_way 1 = .ok (.aload_n 0, 1) := by decide +kernel
theorem dX12_way_2 : decode cX12_way 2 = .ok (.iload_n 1, 1) := by decide +kernel
theorem dX12_way_3 : decode cX12_way 3 = .ok (.invokevirtual 285, 3) := by decide +kernel
theorem dX12_way_6 : decode cX12_way 6 = .ok (.ifCond .eq 19, 3) := by decide +kernel
theorem dX12_way_9 : decode cX12_way 9 = .ok (.aload_n 0, 1) := by decide +kernel
theorem dX12_way_10 : decode cX12_way 10 = .ok (.iload_n 2, 1) := by decide +kernel
theorem dX12_way_11 : decode cX12_way 11 = .ok (.invokevirtual 285, 3) := by decide +kernel
theorem dX12_way_14 : decode cX12_way 14 = .ok (.ifCond .eq 11, 3) := by decide +kernel
theorem dX12_way_17 : decode cX12_way 17 = .ok (.iload_n 3, 1) := by decide +kernel
theorem dX12_way_18 : decode cX12_way 18 = .ok (.ifCond .lt 7, 3) := by decide +kernel
theorem dX12_way_21 : decode cX12_way 21 = .ok (.iconst 1, 1) := by decide +kernel
theorem dX12_way_22 : decode cX12_way 22 = .ok (.goto 4, 3) := by decide +kernel
theorem dX12_way_25 : decode cX12_way 25 = .ok (.iconst 0, 1) := by decide +kernel
theorem dX12_way_26 : decode cX12_way 26 = .ok (.invokestatic 275, 3) := by decide +kernel
theorem dX12_way_29 : decode cX12_way 29 = .ok (.invokevirtual 254, 3) := by decide +kernel
theorem dX12_way_32 : decode cX12_way 32 = .ok (.ifCond .eq 5, 3) := by decide +kernel
theorem dX12_way_35 : decode cX12_way 35 = .ok (.iconst (-1), 1) := by decide +kernel
theorem dX12_way_36 : decode cX12_way 36 = .ok (.ireturn, 1) := by decide +kernel
theorem dX12_way_37 : decode cX12_way 37 = .ok (.iload_n 1, 1) := by decide +kernel
theorem dX12_way_38 : decode cX12_way 38 = .ok (.istore 4, 2) := by decide +kernel
theorem dX12_way_40 : decode cX12_way 40 = .ok (.iconst 0, 1) := by decide +kernel
theorem dX12_way_41 : decode cX12_way 41 = .ok (.istore 5, 2) := by decide +kernel
theorem dX12_way_43 : decode cX12_way 43 = .ok (.iload 5, 2) := by decide +kernel
theorem dX12_way_45 : decode cX12_way 45 = .ok (.iload_n 3, 1) := by decide +kernel
theorem dX12_way_46 : decode cX12_way 46 = .ok (.if_icmp .ge 30, 3) := by decide +kernel
theorem dX12_way_49 : decode cX12_way 49 = .ok (.iload 4, 2) := by decide +kernel
theorem dX12_way_51 : decode cX12_way 51 = .ok (.iload_n 2, 1) := by decide +kernel
theorem dX12_way_52 : decode cX12_way 52 = .ok (.if_icmp .ne 9, 3) := by decide +kernel
theorem dX12_way_55 : decode cX12_way 55 = .ok (.aload_n 0, 1) := by decide +kernel
theorem dX12_way_56 : decode cX12_way 56 = .ok (.iconst 1, 1) := by decide +kernel
theorem dX12_way_57 : decode cX12_way 57 = .ok (.invokevirtual 263, 3) := by decide +kernel
theorem dX12_way_60 : decode cX12_way 60 = .ok (.ireturn, 1) := by decide +kernel
theorem dX12_way_61 : decode cX12_way 61 = .ok (.aload_n 0, 1) := by decide +kernel
theorem dX12_way_62 : decode cX12_way 62 = .ok (.iload 4, 2) := by decide +kernel
theorem dX12_way_64 : decode cX12_way 64 = .ok (.iload_n 2, 1) := by decide +kernel
theorem dX12_way_65 : decode cX12_way 65 = .ok (.invokevirtual 291, 3) := by decide +kernel
theorem dX12_way_68 : decode cX12_way 68 = .ok (.istore 4, 2) := by decide +kernel
theorem dX12_way_70 : decode cX12_way 70 = .ok (.iinc 5 1, 3) := by decide +kernel
theorem dX12_way_73 : decode cX12_way 73 = .ok (.goto (-30), 3) := by decide +kernel
theorem dX12_way_76 : decode cX12_way 76 = .ok (.iload 4, 2) := by decide +kernel
theorem dX12_way_78 : decode cX12_way 78 = .ok (.ireturn, 1) := by decide +kernel
theorem dX12_span_0 : decode cX12_span 0 = .ok (.aload_n 0, 1) := by decide +kernel
theorem dX12_span_1 : decode cX12_span 1 = .ok (.aload_n 0, 1) := by decide +kernel
theorem dX12_span_2 : decode cX12_span 2 = .ok (.getfield 269, 3) := by decide +kernel
theorem dX12_span_5 : decode cX12_span 5 = .ok (.invokestatic 275, 3) := by decide +kernel
theorem dX12_span_8 : decode cX12_span 8 = .ok (.invokevirtual 254, 3) := by decide +kernel
theorem dX12_span_11 : decode cX12_span 11 = .ok (.ifCond .eq 5, 3) := by decide +kernel
theorem dX12_span_14 : decode cX12_span 14 = .ok (.iconst (-1), 1) := by decide +kernel
theorem dX12_span_15 : decode cX12_span 15 = .ok (.ireturn, 1) := by decide +kernel
theorem dX12_span_16 : decode cX12_span 16 = .ok (.iconst 0, 1) := by decide +kernel
theorem dX12_span_17 : decode cX12_span 17 = .ok (.istore_n 1, 1) := by decide +kernel
theorem dX12_span_18 : decode cX12_span 18 = .ok (.iconst 0, 1) := by decide +kernel
theorem dX12_span_19 : decode cX12_span 19 = .ok (.istore_n 2, 1) := by decide +kernel
theorem dX12_span_20 : decode cX12_span 20 = .ok (.iload_n 2, 1) := by decide +kernel
theorem dX12_span_21 : decode cX12_span 21 = .ok (.aload_n 0, 1) := by decide +kernel
theorem dX12_span_22 : decode cX12_span 22 = .ok (.getfield 17, 3) := by decide +kernel
theorem dX12_span_25 : decode cX12_span 25 = .ok (.iconst 2, 1) := by decide +kernel
theorem dX12_span_26 : decode cX12_span 26 = .ok (.iaload, 1) := by decide +kernel
theorem dX12_span_27 : decode cX12_span 27 = .ok (.if_icmp .ge 43, 3) := by decide +kernel
theorem dX12_span_30 : decode cX12_span 30 = .ok (.iconst 0, 1) := by decide +kernel
theorem dX12_span_31 : decode cX12_span 31 = .ok (.istore_n 3, 1) := by decide +kernel
theorem dX12_span_32 : decode cX12_span 32 = .ok (.iload_n 3, 1) := by decide +kernel
theorem dX12_span_33 : decode cX12_span 33 = .ok (.iload_n 2, 1) := by decide +kernel
theorem dX12_span_34 : decode cX12_span 34 = .ok (.if_icmp .ge 30, 3) := by decide +kernel
theorem dX12_span_37 : decode cX12_span 37 = .ok (.aload_n 0, 1) := by decide +kernel
theorem dX12_span_38 : decode cX12_span 38 = .ok (.iload_n 2, 1) := by decide +kernel
theorem dX12_span_39 : decode cX12_span 39 = .ok (.iload_n 3, 1) := by decide +kernel
theorem dX12_span_40 : decode cX12_span 40 = .ok (.invokevirtual 288, 3) := by decide +kernel
theorem dX12_span_43 : decode cX12_span 43 = .ok (.iload_n 1, 1) := by decide +kernel
theorem dX12_span_44 : decode cX12_span 44 = .ok (.if_icmp .le 12, 3) := by decide +kernel
theorem dX12_span_47 : decode cX12_span 47 = .ok (.aload_n 0, 1) := by decide +kernel
theorem dX12_span_48 : decode cX12_span 48 = .ok (.iload_n 2, 1) := by decide +kernel
theorem dX12_span_49 : decode cX12_span 49 = .ok (.iload_n 3, 1) := by decide +kernel
theorem dX12_span_50 : decode cX12_span 50 = .ok (.invokevirtual 288, 3) := by decide +kernel
theorem dX12_span_53 : decode cX12_span 53 = .ok (.goto 4, 3) := by decide +kernel
theorem dX12_span_56 : decode cX12_span 56 = .ok (.iload_n 1, 1) := by decide +kernel
theorem dX12_span_57 : decode cX12_span 57 = .ok (.istore_n 1, 1) := by decide +kernel
theorem dX12_span_58 : decode cX12_span 58 = .ok (.iinc 3 1, 3) := by decide +kernel
theorem dX12_span_61 : decode cX12_span 61 = .ok (.goto (-29), 3) := by decide +kernel
theorem dX12_span_64 : decode cX12_span 64 = .ok (.iinc 2 1, 3) := by decide +kernel
theorem dX12_span_67 : decode cX12_span 67 = .ok (.goto (-47), 3) := by decide +kernel
theorem dX12_span_70 : decode cX12_span 70 = .ok (.iload_n 1, 1) := by decide +kernel
theorem dX12_span_71 : decode cX12_span 71 = .ok (.ireturn, 1) := by decide +kernel
theorem dX12_laysPlaces_0 : decode cX12_laysPlaces 0 = .ok (.aload_n 0, 1) := by decide +kernel
theorem dX12_laysPlaces_1 : decode cX12_laysPlaces 1 = .ok (.getfield 36, 3) := by decide +kernel
theorem dX12_laysPlaces_4 : decode cX12_laysPlaces 4 = .ok (.iconst 0, 1) := by decide +kernel
theorem dX12_laysPlaces_5 : decode cX12_laysPlaces 5 = .ok (.iconst 0, 1) := by decide +kernel
theorem dX12_laysPlaces_6 : decode cX12_laysPlaces 6 = .ok (.iastore, 1) := by decide +kernel
theorem dX12_laysPlaces_7 : decode cX12_laysPlaces 7 = .ok (.aload_n 0, 1) := by decide +kernel
theorem dX12_laysPlaces_8 : decode cX12_laysPlaces 8 = .ok (.getfield 39, 3) := by decide +kernel
theorem dX12_laysPlaces_11 : decode cX12_laysPlaces 11 = .ok (.iconst 0, 1) := by decide +kernel
theorem dX12_laysPlaces_12 : decode cX12_laysPlaces 12 = .ok (.iconst 0, 1) := by decide +kernel
theorem dX12_laysPlaces_13 : decode cX12_laysPlaces 13 = .ok (.iastore, 1) := by decide +kernel
theorem dX12_laysPlaces_14 : decode cX12_laysPlaces 14 = .ok (.iconst 1, 1) := by decide +kernel
theorem dX12_laysPlaces_15 : decode cX12_laysPlaces 15 = .ok (.istore_n 1, 1) := by decide +kernel
theorem dX12_laysPlaces_16 : decode cX12_laysPlaces 16 = .ok (.iload_n 1, 1) := by decide +kernel
theorem dX12_laysPlaces_17 : decode cX12_laysPlaces 17 = .ok (.aload_n 0, 1) := by decide +kernel
theorem dX12_laysPlaces_18 : decode cX12_laysPlaces 18 = .ok (.getfield 17, 3) := by decide +kernel
theorem dX12_laysPlaces_21 : decode cX12_laysPlaces 21 = .ok (.iconst 2, 1) := by decide +kernel
theorem dX12_laysPlaces_22 : decode cX12_laysPlaces 22 = .ok (.iaload, 1) := by decide +kernel
theorem dX12_laysPlaces_23 : decode cX12_laysPlaces 23 = .ok (.if_icmp .ge 109, 3) := by decide +kernel
theorem dX12_laysPlaces_26 : decode cX12_laysPlaces 26 = .ok (.aload_n 0, 1) := by decide +kernel
theorem dX12_laysPlaces_27 : decode cX12_laysPlaces 27 = .ok (.getfield 17, 3) := by decide +kernel
theorem dX12_laysPlaces_30 : decode cX12_laysPlaces 30 = .ok (.bipush 7, 2) := by decide +kernel
theorem dX12_laysPlaces_32 : decode cX12_laysPlaces 32 = .ok (.iload_n 1, 1) := by decide +kernel
theorem dX12_laysPlaces_33 : decode cX12_laysPlaces 33 = .ok (.iadd, 1) := by decide +kernel
theorem dX12_laysPlaces_34 : decode cX12_laysPlaces 34 = .ok (.iaload, 1) := by decide +kernel
theorem dX12_laysPlaces_35 : decode cX12_laysPlaces 35 = .ok (.istore_n 2, 1) := by decide +kernel
theorem dX12_laysPlaces_36 : decode cX12_laysPlaces 36 = .ok (.aload_n 0, 1) := by decide +kernel
theorem dX12_laysPlaces_37 : decode cX12_laysPlaces 37 = .ok (.getfield 17, 3) := by decide +kernel
theorem dX12_laysPlaces_40 : decode cX12_laysPlaces 40 = .ok (.bipush 21, 2) := by decide +kernel
theorem dX12_laysPlaces_42 : decode cX12_laysPlaces 42 = .ok (.iload_n 1, 1) := by decide +kernel
theorem dX12_laysPlaces_43 : decode cX12_laysPlaces 43 = .ok (.iadd, 1) := by decide +kernel
theorem dX12_laysPlaces_44 : decode cX12_laysPlaces 44 = .ok (.iaload, 1) := by decide +kernel
theorem dX12_laysPlaces_45 : decode cX12_laysPlaces 45 = .ok (.istore_n 3, 1) := by decide +kernel
theorem dX12_laysPlaces_46 : decode cX12_laysPlaces 46 = .ok (.aload_n 0, 1) := by decide +kernel
theorem dX12_laysPlaces_47 : decode cX12_laysPlaces 47 = .ok (.getfield 17, 3) := by decide +kernel
theorem dX12_laysPlaces_50 : decode cX12_laysPlaces 50 = .ok (.bipush 35, 2) := by decide +kernel
theorem dX12_laysPlaces_52 : decode cX12_laysPlaces 52 = .ok (.iload_n 1, 1) := by decide +kernel
theorem dX12_laysPlaces_53 : decode cX12_laysPlaces 53 = .ok (.iadd, 1) := by decide +kernel
theorem dX12_laysPlaces_54 : decode cX12_laysPlaces 54 = .ok (.iaload, 1) := by decide +kernel
theorem dX12_laysPlaces_55 : decode cX12_laysPlaces 55 = .ok (.istore 4, 2) := by decide +kernel
theorem dX12_laysPlaces_57 : decode cX12_laysPlaces 57 = .ok (.aload_n 0, 1) := by decide +kernel
theorem dX12_laysPlaces_58 : decode cX12_laysPlaces 58 = .ok (.getfield 36, 3) := by decide +kernel
theorem dX12_laysPlaces_61 : decode cX12_laysPlaces 61 = .ok (.iload_n 1, 1) := by decide +kernel
theorem dX12_laysPlaces_62 : decode cX12_laysPlaces 62 = .ok (.aload_n 0, 1) := by decide +kernel
theorem dX12_laysPlaces_63 : decode cX12_laysPlaces 63 = .ok (.getfield 36, 3) := by decide +kernel
theorem dX12_laysPlaces_66 : decode cX12_laysPlaces 66 = .ok (.iload_n 2, 1) := by decide +kernel
theorem dX12_laysPlaces_67 : decode cX12_laysPlaces 67 = .ok (.iaload, 1) := by decide +kernel
theorem dX12_laysPlaces_68 : decode cX12_laysPlaces 68 = .ok (.iload 4, 2) := by decide +kernel
theorem dX12_laysPlaces_70 : decode cX12_laysPlaces 70 = .ok (.iconst 1, 1) := by decide +kernel
theorem dX12_laysPlaces_71 : decode cX12_laysPlaces 71 = .ok (.if_icmp .ne 7, 3) := by decide +kernel
theorem dX12_laysPlaces_74 : decode cX12_laysPlaces 74 = .ok (.iload_n 3, 1) := by decide +kernel
theorem dX12_laysPlaces_75 : decode cX12_laysPlaces 75 = .ok (.goto 15, 3) := by decide +kernel
theorem dX12_laysPlaces_78 : decode cX12_laysPlaces 78 = .ok (.iload 4, 2) := by decide +kernel
theorem dX12_laysPlaces_80 : decode cX12_laysPlaces 80 = .ok (.iconst 3, 1) := by decide +kernel
theorem dX12_laysPlaces_81 : decode cX12_laysPlaces 81 = .ok (.if_icmp .ne 8, 3) := by decide +kernel
theorem dX12_laysPlaces_84 : decode cX12_laysPlaces 84 = .ok (.iload_n 3, 1) := by decide +kernel
theorem dX12_laysPlaces_85 : decode cX12_laysPlaces 85 = .ok (.ineg, 1) := by decide +kernel
theorem dX12_laysPlaces_86 : decode cX12_laysPlaces 86 = .ok (.goto 4, 3) := by decide +kernel
theorem dX12_laysPlaces_89 : decode cX12_laysPlaces 89 = .ok (.iconst 0, 1) := by decide +kernel
theorem dX12_laysPlaces_90 : decode cX12_laysPlaces 90 = .ok (.iadd, 1) := by decide +kernel
theorem dX12_laysPlaces_91 : decode cX12_laysPlaces 91 = .ok (.iastore, 1) := by decide +kernel
theorem dX12_laysPlaces_92 : decode cX12_laysPlaces 92 = .ok (.aload_n 0, 1) := by decide +kernel
theorem dX12_laysPlaces_93 : decode cX12_laysPlaces 93 = .ok (.getfield 39, 3) := by decide +kernel
theorem dX12_laysPlaces_96 : decode cX12_laysPlaces 96 = .ok (.iload_n 1, 1) := by decide +kernel
theorem dX12_laysPlaces_97 : decode cX12_laysPlaces 97 = .ok (.aload_n 0, 1) := by decide +kernel
theorem dX12_laysPlaces_98 : decode cX12_laysPlaces 98 = .ok (.getfield 39, 3) := by decide +kernel
theorem dX12_laysPlaces_101 : decode cX12_laysPlaces 101 = .ok (.iload_n 2, 1) := by decide +kernel
theorem dX12_laysPlaces_102 : decode cX12_laysPlaces 102 = .ok (.iaload, 1) := by decide +kernel
theorem dX12_laysPlaces_103 : decode cX12_laysPlaces 103 = .ok (.iload 4, 2) := by decide +kernel
theorem dX12_laysPlaces_105 : decode cX12_laysPlaces 105 = .ok (.ifCond .ne 7, 3) := by decide +kernel
theorem dX12_laysPlaces_108 : decode cX12_laysPlaces 108 = .ok (.iload_n 3, 1) := by decide +kernel
theorem dX12_laysPlaces_109 : decode cX12_laysPlaces 109 = .ok (.goto 15, 3) := by decide +kernel
theorem dX12_laysPlaces_112 : decode cX12_laysPlaces 112 = .ok (.iload 4, 2) := by decide +kernel
theorem dX12_laysPlaces_114 : decode cX12_laysPlaces 114 = .ok (.iconst 2, 1) := by decide +kernel
theorem dX12_laysPlaces_115 : decode cX12_laysPlaces 115 = .ok (.if_icmp .ne 8, 3) := by decide +kernel
theorem dX12_laysPlaces_118 : decode cX12_laysPlaces 118 = .ok (.iload_n 3, 1) := by decide +kernel
theorem dX12_laysPlaces_119 : decode cX12_laysPlaces 119 = .ok (.ineg, 1) := by decide +kernel
theorem dX12_laysPlaces_120 : decode cX12_laysPlaces 120 = .ok (.goto 4, 3) := by decide +kernel
theorem dX12_laysPlaces_123 : decode cX12_laysPlaces 123 = .ok (.iconst 0, 1) := by decide +kernel
theorem dX12_laysPlaces_124 : decode cX12_laysPlaces 124 = .ok (.iadd, 1) := by decide +kernel
theorem dX12_laysPlaces_125 : decode cX12_laysPlaces 125 = .ok (.iastore, 1) := by decide +kernel
theorem dX12_laysPlaces_126 : decode cX12_laysPlaces 126 = .ok (.iinc 1 1, 3) := by decide +kernel
theorem dX12_laysPlaces_129 : decode cX12_laysPlaces 129 = .ok (.goto (-113), 3) := by decide +kernel
theorem dX12_laysPlaces_132 : decode cX12_laysPlaces 132 = .ok (.return_, 1) := by decide +kernel
theorem dX12_least_0 : decode cX12_least 0 = .ok (.iload_n 0, 1) := by decide +kernel
theorem dX12_least_1 : decode cX12_least 1 = .ok (.iload_n 1, 1) := by decide +kernel
theorem dX12_least_2 : decode cX12_least 2 = .ok (.if_icmp .ge 7, 3) := by decide +kernel
theorem dX12_least_5 : decode cX12_least 5 = .ok (.iload_n 0, 1) := by decide +kernel
theorem dX12_least_6 : decode cX12_least 6 = .ok (.goto 4, 3) := by decide +kernel
theorem dX12_least_9 : decode cX12_least 9 = .ok (.iload_n 1, 1) := by decide +kernel
theorem dX12_least_10 : decode cX12_least 10 = .ok (.ireturn, 1) := by decide +kernel
theorem dX12_most_0 : decode cX12_most 0 = .ok (.iload_n 0, 1) := by decide +kernel
theorem dX12_most_1 : decode cX12_most 1 = .ok (.iload_n 1, 1) := by decide +kernel
theorem dX12_most_2 : decode cX12_most 2 = .ok (.if_icmp .le 7, 3) := by decide +kernel
theorem dX12_most_5 : decode cX12_most 5 = .ok (.iload_n 0, 1) := by decide +kernel
theorem dX12_most_6 : decode cX12_most 6 = .ok (.goto 4, 3) := by decide +kernel
theorem dX12_most_9 : decode cX12_most 9 = .ok (.iload_n 1, 1) := by decide +kernel
theorem dX12_most_10 : decode cX12_most 10 = .ok (.ireturn, 1) := by decide +kernel
theorem dX12_shared_0 : decode cX12_shared 0 = .ok (.iload_n 0, 1) := by decide +kernel
theorem dX12_shared_1 : decode cX12_shared 1 = .ok (.iload_n 1, 1) := by decide +kernel
theorem dX12_shared_2 : decode cX12_shared 2 = .ok (.invokestatic 294, 3) := by decide +kernel
theorem dX12_shared_5 : decode cX12_shared 5 = .ok (.iload_n 2, 1) := by decide +kernel
theorem dX12_shared_6 : decode cX12_shared 6 = .ok (.iload_n 3, 1) := by decide +kernel
theorem dX12_shared_7 : decode cX12_shared 7 = .ok (.invokestatic 294, 3) := by decide +kernel
theorem dX12_shared_10 : decode cX12_shared 10 = .ok (.invokestatic 297, 3) := by decide +kernel
theorem dX12_shared_13 : decode cX12_shared 13 = .ok (.iload_n 0, 1) := by decide +kernel
theorem dX12_shared_14 : decode cX12_shared 14 = .ok (.iload_n 1, 1) := by decide +kernel
theorem dX12_shared_15 : decode cX12_shared 15 = .ok (.invokestatic 297, 3) := by decide +kernel
theorem dX12_shared_18 : decode cX12_shared 18 = .ok (.iload_n 2, 1) := by decide +kernel
theorem dX12_shared_19 : decode cX12_shared 19 = .ok (.iload_n 3, 1) := by decide +kernel
theorem dX12_shared_20 : decode cX12_shared 20 = .ok (.invokestatic 297, 3) := by decide +kernel
theorem dX12_shared_23 : decode cX12_shared 23 = .ok (.invokestatic 294, 3) := by decide +kernel
theorem dX12_shared_26 : decode cX12_shared 26 = .ok (.isub, 1) := by decide +kernel
theorem dX12_shared_27 : decode cX12_shared 27 = .ok (.iconst 1, 1) := by decide +kernel
theorem dX12_shared_28 : decode cX12_shared 28 = .ok (.iadd, 1) := by decide +kernel
theorem dX12_shared_29 : decode cX12_shared 29 = .ok (.ireturn, 1) := by decide +kernel
theorem dX12_haveNode_0 : decode cX12_haveNode 0 = .ok (.aload_n 0, 1) := by decide +kernel
theorem dX12_haveNode_1 : decode cX12_haveNode 1 = .ok (.getfield 17, 3) := by decide +kernel
theorem dX12_haveNode_4 : decode cX12_haveNode 4 = .ok (.bipush 7, 2) := by decide +kernel
theorem dX12_haveNode_6 : decode cX12_haveNode 6 = .ok (.iload_n 1, 1) := by decide +kernel
theorem dX12_haveNode_7 : decode cX12_haveNode 7 = .ok (.iadd, 1) := by decide +kernel
theorem dX12_haveNode_8 : decode cX12_haveNode 8 = .ok (.iaload, 1) := by decide +kernel
theorem dX12_haveNode_9 : decode cX12_haveNode 9 = .ok (.iload_n 2, 1) := by decide +kernel
theorem dX12_haveNode_10 : decode cX12_haveNode 10 = .ok (.if_icmp .eq 37, 3) := by decide +kernel
theorem dX12_haveNode_13 : decode cX12_haveNode 13 = .ok (.aload_n 0, 1) := by decide +kernel
theorem dX12_haveNode_14 : decode cX12_haveNode 14 = .ok (.getfield 17, 3) := by decide +kernel
theorem dX12_haveNode_17 : decode cX12_haveNode 17 = .ok (.bipush 7, 2) := by decide +kernel
theorem dX12_haveNode_19 : decode cX12_haveNode 19 = .ok (.iload_n 2, 1) := by decide +kernel
theorem dX12_haveNode_20 : decode cX12_haveNode 20 = .ok (.iadd, 1) := by decide +kernel
theorem dX12_haveNode_21 : decode cX12_haveNode 21 = .ok (.iaload, 1) := by decide +kernel
theorem dX12_haveNode_22 : decode cX12_haveNode 22 = .ok (.iload_n 1, 1) := by decide +kernel
theorem dX12_haveNode_23 : decode cX12_haveNode 23 = .ok (.if_icmp .eq 24, 3) := by decide +kernel
theorem dX12_haveNode_26 : decode cX12_haveNode 26 = .ok (.aload_n 0, 1) := by decide +kernel
theorem dX12_haveNode_27 : decode cX12_haveNode 27 = .ok (.getfield 17, 3) := by decide +kernel
theorem dX12_haveNode_30 : decode cX12_haveNode 30 = .ok (.bipush 7, 2) := by decide +kernel
theorem dX12_haveNode_32 : decode cX12_haveNode 32 = .ok (.iload_n 1, 1) := by decide +kernel
theorem dX12_haveNode_33 : decode cX12_haveNode 33 = .ok (.iadd, 1) := by decide +kernel
theorem dX12_haveNode_34 : decode cX12_haveNode 34 = .ok (.iaload, 1) := by decide +kernel
theorem dX12_haveNode_35 : decode cX12_haveNode 35 = .ok (.aload_n 0, 1) := by decide +kernel
theorem dX12_haveNode_36 : decode cX12_haveNode 36 = .ok (.getfield 17, 3) := by decide +kernel
theorem dX12_haveNode_39 : decode cX12_haveNode 39 = .ok (.bipush 7, 2) := by decide +kernel
theorem dX12_haveNode_41 : decode cX12_haveNode 41 = .ok (.iload_n 2, 1) := by decide +kernel
theorem dX12_haveNode_42 : decode cX12_haveNode 42 = .ok (.iadd, 1) := by decide +kernel
theorem dX12_haveNode_43 : decode cX12_haveNode 43 = .ok (.iaload, 1) := by decide +kernel
theorem dX12_haveNode_44 : decode cX12_haveNode 44 = .ok (.if_icmp .ne 7, 3) := by decide +kernel
theorem dX12_haveNode_47 : decode cX12_haveNode 47 = .ok (.iconst 1, 1) := by decide +kernel
theorem dX12_haveNode_48 : decode cX12_haveNode 48 = .ok (.goto 4, 3) := by decide +kernel
theorem dX12_haveNode_51 : decode cX12_haveNode 51 = .ok (.iconst 0, 1) := by decide +kernel
theorem dX12_haveNode_52 : decode cX12_haveNode 52 = .ok (.ireturn, 1) := by decide +kernel
theorem dX12_doMeet_0 : decode cX12_doMeet 0 = .ok (.aload_n 0, 1) := by decide +kernel
theorem dX12_doMeet_1 : decode cX12_doMeet 1 = .ok (.getfield 17, 3) := by decide +kernel
theorem dX12_doMeet_4 : decode cX12_doMeet 4 = .ok (.bipush 7, 2) := by decide +kernel
theorem dX12_doMeet_6 : decode cX12_doMeet 6 = .ok (.iload_n 1, 1) := by decide +kernel
theorem dX12_doMeet_7 : decode cX12_doMeet 7 = .ok (.iadd, 1) := by decide +kernel
theorem dX12_doMeet_8 : decode cX12_doMeet 8 = .ok (.iaload, 1) := by decide +kernel
theorem dX12_doMeet_9 : decode cX12_doMeet 9 = .ok (.istore_n 3, 1) := by decide +kernel
theorem dX12_doMeet_10 : decode cX12_doMeet 10 = .ok (.aload_n 0, 1) := by decide +kernel
theorem dX12_doMeet_11 : decode cX12_doMeet 11 = .ok (.getfield 17, 3) := by decide +kernel
theorem dX12_doMeet_14 : decode cX12_doMeet 14 = .ok (.bipush 7, 2) := by decide +kernel
theorem dX12_doMeet_16 : decode cX12_doMeet 16 = .ok (.iload_n 2, 1) := by decide +kernel
theorem dX12_doMeet_17 : decode cX12_doMeet 17 = .ok (.iadd, 1) := by decide +kernel
theorem dX12_doMeet_18 : decode cX12_doMeet 18 = .ok (.iaload, 1) := by decide +kernel
theorem dX12_doMeet_19 : decode cX12_doMeet 19 = .ok (.istore 4, 2) := by decide +kernel
theorem dX12_doMeet_21 : decode cX12_doMeet 21 = .ok (.aload_n 0, 1) := by decide +kernel
theorem dX12_doMeet_22 : decode cX12_doMeet 22 = .ok (.getfield 36, 3) := by decide +kernel
theorem dX12_doMeet_25 : decode cX12_doMeet 25 = .ok (.iload_n 1, 1) := by decide +kernel
theorem dX12_doMeet_26 : decode cX12_doMeet 26 = .ok (.iaload, 1) := by decide +kernel
theorem dX12_doMeet_27 : decode cX12_doMeet 27 = .ok (.aload_n 0, 1) := by decide +kernel
theorem dX12_doMeet_28 : decode cX12_doMeet 28 = .ok (.getfield 36, 3) := by decide +kernel
theorem dX12_doMeet_31 : decode cX12_doMeet 31 = .ok (.iload_n 3, 1) := by decide +kernel
theorem dX12_doMeet_32 : decode cX12_doMeet 32 = .ok (.iaload, 1) := by decide +kernel
theorem dX12_doMeet_33 : decode cX12_doMeet 33 = .ok (.aload_n 0, 1) := by decide +kernel
theorem dX12_doMeet_34 : decode cX12_doMeet 34 = .ok (.getfield 36, 3) := by decide +kernel
theorem dX12_doMeet_37 : decode cX12_doMeet 37 = .ok (.iload_n 2, 1) := by decide +kernel
theorem dX12_doMeet_38 : decode cX12_doMeet 38 = .ok (.iaload, 1) := by decide +kernel
theorem dX12_doMeet_39 : decode cX12_doMeet 39 = .ok (.aload_n 0, 1) := by decide +kernel
theorem dX12_doMeet_40 : decode cX12_doMeet 40 = .ok (.getfield 36, 3) := by decide +kernel
theorem dX12_doMeet_43 : decode cX12_doMeet 43 = .ok (.iload 4, 2) := by decide +kernel
theorem dX12_doMeet_45 : decode cX12_doMeet 45 = .ok (.iaload, 1) := by decide +kernel
theorem dX12_doMeet_46 : decode cX12_doMeet 46 = .ok (.invokestatic 300, 3) := by decide +kernel
theorem dX12_doMeet_49 : decode cX12_doMeet 49 = .ok (.istore 5, 2) := by decide +kernel
theorem dX12_doMeet_51 : decode cX12_doMeet 51 = .ok (.aload_n 0, 1) := by decide +kernel
theorem dX12_doMeet_52 : decode cX12_doMeet 52 = .ok (.getfield 39, 3) := by decide +kernel
theorem dX12_doMeet_55 : decode cX12_doMeet 55 = .ok (.iload_n 1, 1) := by decide +kernel
theorem dX12_doMeet_56 : decode cX12_doMeet 56 = .ok (.iaload, 1) := by decide +kernel
theorem dX12_doMeet_57 : decode cX12_doMeet 57 = .ok (.aload_n 0, 1) := by decide +kernel
theorem dX12_doMeet_58 : decode cX12_doMeet 58 = .ok (.getfield 39, 3) := by decide +kernel
theorem dX12_doMeet_61 : decode cX12_doMeet 61 = .ok (.iload_n 3, 1) := by decide +kernel
theorem dX12_doMeet_62 : decode cX12_doMeet 62 = .ok (.iaload, 1) := by decide +kernel
theorem dX12_doMeet_63 : decode cX12_doMeet 63 = .ok (.aload_n 0, 1) := by decide +kernel
theorem dX12_doMeet_64 : decode cX12_doMeet 64 = .ok (.getfield 39, 3) := by decide +kernel
theorem dX12_doMeet_67 : decode cX12_doMeet 67 = .ok (.iload_n 2, 1) := by decide +kernel
theorem dX12_doMeet_68 : decode cX12_doMeet 68 = .ok (.iaload, 1) := by decide +kernel
theorem dX12_doMeet_69 : decode cX12_doMeet 69 = .ok (.aload_n 0, 1) := by decide +kernel
theorem dX12_doMeet_70 : decode cX12_doMeet 70 = .ok (.getfield 39, 3) := by decide +kernel
theorem dX12_doMeet_73 : decode cX12_doMeet 73 = .ok (.iload 4, 2) := by decide +kernel
theorem dX12_doMeet_75 : decode cX12_doMeet 75 = .ok (.iaload, 1) := by decide +kernel
theorem dX12_doMeet_76 : decode cX12_doMeet 76 = .ok (.invokestatic 300, 3) := by decide +kernel
theorem dX12_doMeet_79 : decode cX12_doMeet 79 = .ok (.istore 6, 2) := by decide +kernel
theorem dX12_doMeet_81 : decode cX12_doMeet 81 = .ok (.iload 5, 2) := by decide +kernel
theorem dX12_doMeet_83 : decode cX12_doMeet 83 = .ok (.ifCond .le 34, 3) := by decide +kernel
theorem dX12_doMeet_86 : decode cX12_doMeet 86 = .ok (.iload 6, 2) := by decide +kernel
theorem dX12_doMeet_88 : decode cX12_doMeet 88 = .ok (.ifCond .le 29, 3) := by decide +kernel
theorem dX12_doMeet_91 : decode cX12_doMeet 91 = .ok (.iload 5, 2) := by decide +kernel
theorem dX12_doMeet_93 : decode cX12_doMeet 93 = .ok (.iload 6, 2) := by decide +kernel
theorem dX12_doMeet_95 : decode cX12_doMeet 95 = .ok (.imul, 1) := by decide +kernel
theorem dX12_doMeet_96 : decode cX12_doMeet 96 = .ok (.aload_n 0, 1) := by decide +kernel
theorem dX12_doMeet_97 : decode cX12_doMeet 97 = .ok (.iload_n 1, 1) := by decide +kernel
theorem dX12_doMeet_98 : decode cX12_doMeet 98 = .ok (.iload_n 2, 1) := by decide +kernel
theorem dX12_doMeet_99 : decode cX12_doMeet 99 = .ok (.invokevirtual 304, 3) := by decide +kernel
theorem dX12_doMeet_102 : decode cX12_doMeet 102 = .ok (.ifCond .eq 7, 3) := by decide +kernel
theorem dX12_doMeet_105 : decode cX12_doMeet 105 = .ok (.iconst 1, 1) := by decide +kernel
theorem dX12_doMeet_106 : decode cX12_doMeet 106 = .ok (.goto 4, 3) := by decide +kernel
theorem dX12_doMeet_109 : decode cX12_doMeet 109 = .ok (.iconst 0, 1) := by decide +kernel
theorem dX12_doMeet_110 : decode cX12_doMeet 110 = .ok (.if_icmp .le 7, 3) := by decide +kernel
theorem dX12_doMeet_113 : decode cX12_doMeet 113 = .ok (.iconst 1, 1) := by decide +kernel
theorem dX12_doMeet_114 : decode cX12_doMeet 114 = .ok (.goto 4, 3) := by decide +kernel
theorem dX12_doMeet_117 : decode cX12_doMeet 117 = .ok (.iconst 0, 1) := by decide +kernel
theorem dX12_doMeet_118 : decode cX12_doMeet 118 = .ok (.ireturn, 1) := by decide +kernel
theorem dX12_side_0 : decode cX12_side 0 = .ok (.aload_n 0, 1) := by decide +kernel
theorem dX12_side_1 : decode cX12_side 1 = .ok (.aload_n 0, 1) := by decide +kernel
theorem dX12_side_2 : decode cX12_side 2 = .ok (.iload_n 1, 1) := by decide +kernel
theorem dX12_side_3 : decode cX12_side 3 = .ok (.invokevirtual 307, 3) := by decide +kernel
theorem dX12_side_6 : decode cX12_side 6 = .ok (.invokestatic 275, 3) := by decide +kernel
theorem dX12_side_9 : decode cX12_side 9 = .ok (.invokevirtual 254, 3) := by decide +kernel
theorem dX12_side_12 : decode cX12_side 12 = .ok (.ifCond .eq 7, 3) := by decide +kernel
theorem dX12_side_15 : decode cX12_side 15 = .ok (.iconst (-1), 1) := by decide +kernel
theorem dX12_side_16 : decode cX12_side 16 = .ok (.goto 12, 3) := by decide +kernel
theorem dX12_side_19 : decode cX12_side 19 = .ok (.aload_n 0, 1) := by decide +kernel
theorem dX12_side_20 : decode cX12_side 20 = .ok (.getfield 17, 3) := by decide +kernel
theorem dX12_side_23 : decode cX12_side 23 = .ok (.bipush 35, 2) := by decide +kernel
theorem dX12_side_25 : decode cX12_side 25 = .ok (.iload_n 1, 1) := by decide +kernel
theorem dX12_side_26 : decode cX12_side 26 = .ok (.iadd, 1) := by decide +kernel
theorem dX12_side_27 : decode cX12_side 27 = .ok (.iaload, 1) := by decide +kernel
theorem dX12_side_28 : decode cX12_side 28 = .ok (.ireturn, 1) := by decide +kernel
theorem dX12_place_0 : decode cX12_place 0 = .ok (.aload_n 0, 1) := by decide +kernel
theorem dX12_place_1 : decode cX12_place 1 = .ok (.aload_n 0, 1) := by decide +kernel
theorem dX12_place_2 : decode cX12_place 2 = .ok (.iload_n 1, 1) := by decide +kernel
theorem dX12_place_3 : decode cX12_place 3 = .ok (.invokevirtual 285, 3) := by decide +kernel
theorem dX12_place_6 : decode cX12_place 6 = .ok (.ifCond .eq 16, 3) := by decide +kernel
theorem dX12_place_9 : decode cX12_place 9 = .ok (.iload_n 2, 1) := by decide +kernel
theorem dX12_place_10 : decode cX12_place 10 = .ok (.iconst 0, 1) := by decide +kernel
theorem dX12_place_11 : decode cX12_place 11 = .ok (.iconst 1, 1) := by decide +kernel
theorem dX12_place_12 : decode cX12_place 12 = .ok (.invokestatic 86, 3) := by decide +kernel
theorem dX12_place_15 : decode cX12_place 15 = .ok (.ifCond .eq 7, 3) := by decide +kernel
theorem dX12_place_18 : decode cX12_place 18 = .ok (.iconst 1, 1) := by decide +kernel
theorem dX12_place_19 : decode cX12_place 19 = .ok (.goto 4, 3) := by decide +kernel
theorem dX12_place_22 : decode cX12_place 22 = .ok (.iconst 0, 1) := by decide +kernel
theorem dX12_place_23 : decode cX12_place 23 = .ok (.invokestatic 275, 3) := by decide +kernel
theorem dX12_place_26 : decode cX12_place 26 = .ok (.invokevirtual 254, 3) := by decide +kernel
theorem dX12_place_29 : decode cX12_place 29 = .ok (.ifCond .eq 7, 3) := by decide +kernel
theorem dX12_place_32 : decode cX12_place 32 = .ok (.ldc_w 312, 3) := by decide +kernel
theorem dX12_place_35 : decode cX12_place 35 = .ok (.ireturn, 1) := by decide +kernel
theorem dX12_place_36 : decode cX12_place 36 = .ok (.aload_n 0, 1) := by decide +kernel
theorem dX12_place_37 : decode cX12_place 37 = .ok (.invokevirtual 313, 3) := by decide +kernel
theorem dX12_place_40 : decode cX12_place 40 = .ok (.iload_n 2, 1) := by decide +kernel
theorem dX12_place_41 : decode cX12_place 41 = .ok (.ifCond .ne 12, 3) := by decide +kernel
theorem dX12_place_44 : decode cX12_place 44 = .ok (.aload_n 0, 1) := by decide +kernel
theorem dX12_place_45 : decode cX12_place 45 = .ok (.getfield 36, 3) := by decide +kernel
theorem dX12_place_48 : decode cX12_place 48 = .ok (.iload_n 1, 1) := by decide +kernel
theorem dX12_place_49 : decode cX12_place 49 = .ok (.iaload, 1) := by decide +kernel
theorem dX12_place_50 : decode cX12_place 50 = .ok (.goto 9, 3) := by decide +kernel
theorem dX12_place_53 : decode cX12_place 53 = .ok (.aload_n 0, 1) := by decide +kernel
theorem dX12_place_54 : decode cX12_place 54 = .ok (.getfield 39, 3) := by decide +kernel
theorem dX12_place_57 : decode cX12_place 57 = .ok (.iload_n 1, 1) := by decide +kernel
theorem dX12_place_58 : decode cX12_place 58 = .ok (.iaload, 1) := by decide +kernel
theorem dX12_place_59 : decode cX12_place 59 = .ok (.ireturn, 1) := by decide +kernel
theorem dX12_meet_0 : decode cX12_meet 0 = .ok (.aload_n 0, 1) := by decide +kernel
theorem dX12_meet_1 : decode cX12_meet 1 = .ok (.aload_n 0, 1) := by decide +kernel
theorem dX12_meet_2 : decode cX12_meet 2 = .ok (.iload_n 1, 1) := by decide +kernel
theorem dX12_meet_3 : decode cX12_meet 3 = .ok (.invokevirtual 307, 3) := by decide +kernel
theorem dX12_meet_6 : decode cX12_meet 6 = .ok (.ifCond .eq 20, 3) := by decide +kernel
theorem dX12_meet_9 : decode cX12_meet 9 = .ok (.aload_n 0, 1) := by decide +kernel
theorem dX12_meet_10 : decode cX12_meet 10 = .ok (.iload_n 2, 1) := by decide +kernel
theorem dX12_meet_11 : decode cX12_meet 11 = .ok (.invokevirtual 307, 3) := by decide +kernel
theorem dX12_meet_14 : decode cX12_meet 14 = .ok (.ifCond .eq 12, 3) := by decide +kernel
theorem dX12_meet_17 : decode cX12_meet 17 = .ok (.iload_n 1, 1) := by decide +kernel
theorem dX12_meet_18 : decode cX12_meet 18 = .ok (.iload_n 2, 1) := by decide +kernel
theorem dX12_meet_19 : decode cX12_meet 19 = .ok (.if_icmp .eq 7, 3) := by decide +kernel
theorem dX12_meet_22 : decode cX12_meet 22 = .ok (.iconst 1, 1) := by decide +kernel
theorem dX12_meet_23 : decode cX12_meet 23 = .ok (.goto 4, 3) := by decide +kernel
theorem dX12_meet_26 : decode cX12_meet 26 = .ok (.iconst 0, 1) := by decide +kernel
theorem dX12_meet_27 : decode cX12_meet 27 = .ok (.invokestatic 275, 3) := by decide +kernel
theorem dX12_meet_30 : decode cX12_meet 30 = .ok (.invokevirtual 254, 3) := by decide +kernel
theorem dX12_meet_33 : decode cX12_meet 33 = .ok (.ifCond .eq 5, 3) := by decide +kernel
theorem dX12_meet_36 : decode cX12_meet 36 = .ok (.iconst (-1), 1) := by decide +kernel
theorem dX12_meet_37 : decode cX12_meet 37 = .ok (.ireturn, 1) := by decide +kernel
theorem dX12_meet_38 : decode cX12_meet 38 = .ok (.aload_n 0, 1) := by decide +kernel
theorem dX12_meet_39 : decode cX12_meet 39 = .ok (.invokevirtual 313, 3) := by decide +kernel
theorem dX12_meet_42 : decode cX12_meet 42 = .ok (.aload_n 0, 1) := by decide +kernel
theorem dX12_meet_43 : decode cX12_meet 43 = .ok (.iload_n 1, 1) := by decide +kernel
theorem dX12_meet_44 : decode cX12_meet 44 = .ok (.iload_n 2, 1) := by decide +kernel
theorem dX12_meet_45 : decode cX12_meet 45 = .ok (.invokevirtual 316, 3) := by decide +kernel
theorem dX12_meet_48 : decode cX12_meet 48 = .ok (.ifCond .eq 7, 3) := by decide +kernel
theorem dX12_meet_51 : decode cX12_meet 51 = .ok (.iconst 1, 1) := by decide +kernel
theorem dX12_meet_52 : decode cX12_meet 52 = .ok (.goto 4, 3) := by decide +kernel
theorem dX12_meet_55 : decode cX12_meet 55 = .ok (.iconst 0, 1) := by decide +kernel
theorem dX12_meet_56 : decode cX12_meet 56 = .ok (.ireturn, 1) := by decide +kernel
theorem dX12_meetings_0 : decode cX12_meetings 0 = .ok (.aload_n 0, 1) := by decide +kernel
theorem dX12_meetings_1 : decode cX12_meetings 1 = .ok (.aload_n 0, 1) := by decide +kernel
theorem dX12_meetings_2 : decode cX12_meetings 2 = .ok (.getfield 269, 3) := by decide +kernel
theorem dX12_meetings_5 : decode cX12_meetings 5 = .ok (.invokestatic 275, 3) := by decide +kernel
theorem dX12_meetings_8 : decode cX12_meetings 8 = .ok (.invokevirtual 254, 3) := by decide +kernel
theorem dX12_meetings_11 : decode cX12_meetings 11 = .ok (.ifCond .eq 5, 3) := by decide +kernel
theorem dX12_meetings_14 : decode cX12_meetings 14 = .ok (.iconst (-1), 1) := by decide +kernel
theorem dX12_meetings_15 : decode cX12_meetings 15 = .ok (.ireturn, 1) := by decide +kernel
theorem dX12_meetings_16 : decode cX12_meetings 16 = .ok (.aload_n 0, 1) := by decide +kernel
theorem dX12_meetings_17 : decode cX12_meetings 17 = .ok (.invokevirtual 313, 3) := by decide +kernel
theorem dX12_meetings_20 : decode cX12_meetings 20 = .ok (.iconst 0, 1) := by decide +kernel
theorem dX12_meetings_21 : decode cX12_meetings 21 = .ok (.istore_n 1, 1) := by decide +kernel
theorem dX12_meetings_22 : decode cX12_meetings 22 = .ok (.iconst 1, 1) := by decide +kernel
theorem dX12_meetings_23 : decode cX12_meetings 23 = .ok (.istore_n 2, 1) := by decide +kernel
theorem dX12_meetings_24 : decode cX12_meetings 24 = .ok (.iload_n 2, 1) := by decide +kernel
theorem dX12_meetings_25 : decode cX12_meetings 25 = .ok (.aload_n 0, 1) := by decide +kernel
theorem dX12_meetings_26 : decode cX12_meetings 26 = .ok (.getfield 17, 3) := by decide +kernel
theorem dX12_meetings_29 : decode cX12_meetings 29 = .ok (.iconst 2, 1) := by decide +kernel
theorem dX12_meetings_30 : decode cX12_meetings 30 = .ok (.iaload, 1) := by decide +kernel
theorem dX12_meetings_31 : decode cX12_meetings 31 = .ok (.if_icmp .ge 39, 3) := by decide +kernel
theorem dX12_meetings_34 : decode cX12_meetings 34 = .ok (.iconst 1, 1) := by decide +kernel
theorem dX12_meetings_35 : decode cX12_meetings 35 = .ok (.istore_n 3, 1) := by decide +kernel
theorem dX12_meetings_36 : decode cX12_meetings 36 = .ok (.iload_n 3, 1) := by decide +kernel
theorem dX12_meetings_37 : decode cX12_meetings 37 = .ok (.iload_n 2, 1) := by decide +kernel
theorem dX12_meetings_38 : decode cX12_meetings 38 = .ok (.if_icmp .ge 26, 3) := by decide +kernel
theorem dX12_meetings_41 : decode cX12_meetings 41 = .ok (.iload_n 1, 1) := by decide +kernel
theorem dX12_meetings_42 : decode cX12_meetings 42 = .ok (.aload_n 0, 1) := by decide +kernel
theorem dX12_meetings_43 : decode cX12_meetings 43 = .ok (.iload_n 2, 1) := by decide +kernel
theorem dX12_meetings_44 : decode cX12_meetings 44 = .ok (.iload_n 3, 1) := by decide +kernel
theorem dX12_meetings_45 : decode cX12_meetings 45 = .ok (.invokevirtual 316, 3) := by decide +kernel
theorem dX12_meetings_48 : decode cX12_meetings 48 = .ok (.ifCond .eq 7, 3) := by decide +kernel
theorem dX12_meetings_51 : decode cX12_meetings 51 = .ok (.iconst 1, 1) := by decide +kernel
theorem dX12_meetings_52 : decode cX12_meetings 52 = .ok (.goto 4, 3) := by decide +kernel
theorem dX12_meetings_55 : decode cX12_meetings 55 = .ok (.iconst 0, 1) := by decide +kernel
theorem dX12_meetings_56 : decode cX12_meetings 56 = .ok (.iadd, 1) := by decide +kernel
theorem dX12_meetings_57 : decode cX12_meetings 57 = .ok (.istore_n 1, 1) := by decide +kernel
theorem dX12_meetings_58 : decode cX12_meetings 58 = .ok (.iinc 3 1, 3) := by decide +kernel
theorem dX12_meetings_61 : decode cX12_meetings 61 = .ok (.goto (-25), 3) := by decide +kernel
theorem dX12_meetings_64 : decode cX12_meetings 64 = .ok (.iinc 2 1, 3) := by decide +kernel
theorem dX12_meetings_67 : decode cX12_meetings 67 = .ok (.goto (-43), 3) := by decide +kernel
theorem dX12_meetings_70 : decode cX12_meetings 70 = .ok (.iload_n 1, 1) := by decide +kernel
theorem dX12_meetings_71 : decode cX12_meetings 71 = .ok (.ireturn, 1) := by decide +kernel
theorem dX12_lying_0 : decode cX12_lying 0 = .ok (.aload_n 0, 1) := by decide +kernel
theorem dX12_lying_1 : decode cX12_lying 1 = .ok (.aload_n 0, 1) := by decide +kernel
theorem dX12_lying_2 : decode cX12_lying 2 = .ok (.getfield 269, 3) := by decide +kernel
theorem dX12_lying_5 : decode cX12_lying 5 = .ok (.invokestatic 275, 3) := by decide +kernel
theorem dX12_lying_8 : decode cX12_lying 8 = .ok (.invokevirtual 254, 3) := by decide +kernel
theorem dX12_lying_11 : decode cX12_lying 11 = .ok (.ifCond .eq 5, 3) := by decide +kernel
theorem dX12_lying_14 : decode cX12_lying 14 = .ok (.iconst (-1), 1) := by decide +kernel
theorem dX12_lying_15 : decode cX12_lying 15 = .ok (.ireturn, 1) := by decide +kernel
theorem dX12_lying_16 : decode cX12_lying 16 = .ok (.aload_n 0, 1) := by decide +kernel
theorem dX12_lying_17 : decode cX12_lying 17 = .ok (.invokevirtual 313, 3) := by decide +kernel
theorem dX12_lying_20 : decode cX12_lying 20 = .ok (.iconst 0, 1) := by decide +kernel
theorem dX12_lying_21 : decode cX12_lying 21 = .ok (.istore_n 3, 1) := by decide +kernel
theorem dX12_lying_22 : decode cX12_lying 22 = .ok (.iconst 1, 1) := by decide +kernel
theorem dX12_lying_23 : decode cX12_lying 23 = .ok (.istore 4, 2) := by decide +kernel
theorem dX12_lying_25 : decode cX12_lying 25 = .ok (.iload 4, 2) := by decide +kernel
theorem dX12_lying_27 : decode cX12_lying 27 = .ok (.aload_n 0, 1) := by decide +kernel
theorem dX12_lying_28 : decode cX12_lying 28 = .ok (.getfield 17, 3) := by decide +kernel
theorem dX12_lying_31 : decode cX12_lying 31 = .ok (.iconst 2, 1) := by decide +kernel
theorem dX12_lying_32 : decode cX12_lying 32 = .ok (.iaload, 1) := by decide +kernel
theorem dX12_lying_33 : decode cX12_lying 33 = .ok (.if_icmp .ge 126, 3) := by decide +kernel
theorem dX12_lying_36 : decode cX12_lying 36 = .ok (.aload_n 0, 1) := by decide +kernel
theorem dX12_lying_37 : decode cX12_lying 37 = .ok (.getfield 17, 3) := by decide +kernel
theorem dX12_lying_40 : decode cX12_lying 40 = .ok (.bipush 7, 2) := by decide +kernel
theorem dX12_lying_42 : decode cX12_lying 42 = .ok (.iload 4, 2) := by decide +kernel
theorem dX12_lying_44 : decode cX12_lying 44 = .ok (.iadd, 1) := by decide +kernel
theorem dX12_lying_45 : decode cX12_lying 45 = .ok (.iaload, 1) := by decide +kernel
theorem dX12_lying_46 : decode cX12_lying 46 = .ok (.istore 5, 2) := by decide +kernel
theorem dX12_lying_48 : decode cX12_lying 48 = .ok (.iload_n 1, 1) := by decide +kernel
theorem dX12_lying_49 : decode cX12_lying 49 = .ok (.aload_n 0, 1) := by decide +kernel
theorem dX12_lying_50 : decode cX12_lying 50 = .ok (.getfield 36, 3) := by decide +kernel
theorem dX12_lying_53 : decode cX12_lying 53 = .ok (.iload 4, 2) := by decide +kernel
theorem dX12_lying_55 : decode cX12_lying 55 = .ok (.iaload, 1) := by decide +kernel
theorem dX12_lying_56 : decode cX12_lying 56 = .ok (.aload_n 0, 1) := by decide +kernel
theorem dX12_lying_57 : decode cX12_lying 57 = .ok (.getfield 36, 3) := by decide +kernel
theorem dX12_lying_60 : decode cX12_lying 60 = .ok (.iload 5, 2) := by decide +kernel
theorem dX12_lying_62 : decode cX12_lying 62 = .ok (.iaload, 1) := by decide +kernel
theorem dX12_lying_63 : decode cX12_lying 63 = .ok (.invokestatic 297, 3) := by decide +kernel
theorem dX12_lying_66 : decode cX12_lying 66 = .ok (.aload_n 0, 1) := by decide +kernel
theorem dX12_lying_67 : decode cX12_lying 67 = .ok (.getfield 36, 3) := by decide +kernel
theorem dX12_lying_70 : decode cX12_lying 70 = .ok (.iload 4, 2) := by decide +kernel
theorem dX12_lying_72 : decode cX12_lying 72 = .ok (.iaload, 1) := by decide +kernel
theorem dX12_lying_73 : decode cX12_lying 73 = .ok (.aload_n 0, 1) := by decide +kernel
theorem dX12_lying_74 : decode cX12_lying 74 = .ok (.getfield 36, 3) := by decide +kernel
theorem dX12_lying_77 : decode cX12_lying 77 = .ok (.iload 5, 2) := by decide +kernel
theorem dX12_lying_79 : decode cX12_lying 79 = .ok (.iaload, 1) := by decide +kernel
theorem dX12_lying_80 : decode cX12_lying 80 = .ok (.invokestatic 294, 3) := by decide +kernel
theorem dX12_lying_83 : decode cX12_lying 83 = .ok (.invokestatic 86, 3) := by decide +kernel
theorem dX12_lying_86 : decode cX12_lying 86 = .ok (.ifCond .eq 48, 3) := by decide +kernel
theorem dX12_lying_89 : decode cX12_lying 89 = .ok (.iload_n 2, 1) := by decide +kernel
theorem dX12_lying_90 : decode cX12_lying 90 = .ok (.aload_n 0, 1) := by decide +kernel
theorem dX12_lying_91 : decode cX12_lying 91 = .ok (.getfield 39, 3) := by decide +kernel
theorem dX12_lying_94 : decode cX12_lying 94 = .ok (.iload 4, 2) := by decide +kernel
theorem dX12_lying_96 : decode cX12_lying 96 = .ok (.iaload, 1) := by decide +kernel
theorem dX12_lying_97 : decode cX12_lying 97 = .ok (.aload_n 0, 1) := by decide +kernel
theorem dX12_lying_98 : decode cX12_lying 98 = .ok (.getfield 39, 3) := by decide +kernel
theorem dX12_lying_101 : decode cX12_lying 101 = .ok (.iload 5, 2) := by decide +kernel
theorem dX12_lying_103 : decode cX12_lying 103 = .ok (.iaload, 1) := by decide +kernel
theorem dX12_lying_104 : decode cX12_lying 104 = .ok (.invokestatic 297, 3) := by decide +kernel
theorem dX12_lying_107 : decode cX12_lying 107 = .ok (.aload_n 0, 1) := by decide +kernel
theorem dX12_lying_108 : decode cX12_lying 108 = .ok (.getfield 39, 3) := by decide +kernel
theorem dX12_lying_111 : decode cX12_lying 111 = .ok (.iload 4, 2) := by decide +kernel
theorem dX12_lying_113 : decode cX12_lying 113 = .ok (.iaload, 1) := by decide +kernel
theorem dX12_lying_114 : decode cX12_lying 114 = .ok (.aload_n 0, 1) := by decide +kernel
theorem dX12_lying_115 : decode cX12_lying 115 = .ok (.getfield 39, 3) := by decide +kernel
theorem dX12_lying_118 : decode cX12_lying 118 = .ok (.iload 5, 2) := by decide +kernel
theorem dX12_lying_120 : decode cX12_lying 120 = .ok (.iaload, 1) := by decide +kernel
theorem dX12_lying_121 : decode cX12_lying 121 = .ok (.invokestatic 294, 3) := by decide +kernel
theorem dX12_lying_124 : decode cX12_lying 124 = .ok (.invokestatic 86, 3) := by decide +kernel
theorem dX12_lying_127 : decode cX12_lying 127 = .ok (.ifCond .eq 7, 3) := by decide +kernel
theorem dX12_lying_130 : decode cX12_lying 130 = .ok (.iconst 1, 1) := by decide +kernel
theorem dX12_lying_131 : decode cX12_lying 131 = .ok (.goto 4, 3) := by decide +kernel
theorem dX12_lying_134 : decode cX12_lying 134 = .ok (.iconst 0, 1) := by decide +kernel
theorem dX12_lying_135 : decode cX12_lying 135 = .ok (.istore 6, 2) := by decide +kernel
theorem dX12_lying_137 : decode cX12_lying 137 = .ok (.iload_n 3, 1) := by decide +kernel
theorem dX12_lying_138 : decode cX12_lying 138 = .ok (.iload 6, 2) := by decide +kernel
theorem dX12_lying_140 : decode cX12_lying 140 = .ok (.ifCond .eq 10, 3) := by decide +kernel
theorem dX12_lying_143 : decode cX12_lying 143 = .ok (.iconst 1, 1) := by decide +kernel
theorem dX12_lying_144 : decode cX12_lying 144 = .ok (.iload 4, 2) := by decide +kernel
theorem dX12_lying_146 : decode cX12_lying 146 = .ok (.ishl, 1) := by decide +kernel
theorem dX12_lying_147 : decode cX12_lying 147 = .ok (.goto 4, 3) := by decide +kernel
theorem dX12_lying_150 : decode cX12_lying 150 = .ok (.iconst 0, 1) := by decide +kernel
theorem dX12_lying_151 : decode cX12_lying 151 = .ok (.ior, 1) := by decide +kernel
theorem dX12_lying_152 : decode cX12_lying 152 = .ok (.istore_n 3, 1) := by decide +kernel
theorem dX12_lying_153 : decode cX12_lying 153 = .ok (.iinc 4 1, 3) := by decide +kernel
theorem dX12_lying_156 : decode cX12_lying 156 = .ok (.goto (-131), 3) := by decide +kernel
theorem dX12_lying_159 : decode cX12_lying 159 = .ok (.iload_n 3, 1) := by decide +kernel
theorem dX12_lying_160 : decode cX12_lying 160 = .ok (.ireturn, 1) := by decide +kernel
theorem dX12_extent_0 : decode cX12_extent 0 = .ok (.aload_n 0, 1) := by decide +kernel
theorem dX12_extent_1 : decode cX12_extent 1 = .ok (.aload_n 0, 1) := by decide +kernel
theorem dX12_extent_2 : decode cX12_extent 2 = .ok (.iconst 0, 1) := by decide +kernel
theorem dX12_extent_3 : decode cX12_extent 3 = .ok (.invokevirtual 285, 3) := by decide +kernel
theorem dX12_extent_6 : decode cX12_extent 6 = .ok (.ifCond .eq 16, 3) := by decide +kernel
theorem dX12_extent_9 : decode cX12_extent 9 = .ok (.iload_n 1, 1) := by decide +kernel
theorem dX12_extent_10 : decode cX12_extent 10 = .ok (.iconst 0, 1) := by decide +kernel
theorem dX12_extent_11 : decode cX12_extent 11 = .ok (.iconst 3, 1) := by decide +kernel
theorem dX12_extent_12 : decode cX12_extent 12 = .ok (.invokestatic 86, 3) := by decide +kernel
theorem dX12_extent_15 : decode cX12_extent 15 = .ok (.ifCond .eq 7, 3) := by decide +kernel
theorem dX12_extent_18 : decode cX12_extent 18 = .ok (.iconst 1, 1) := by decide +kernel
theorem dX12_extent_19 : decode cX12_extent 19 = .ok (.goto 4, 3) := by decide +kernel
theorem dX12_extent_22 : decode cX12_extent 22 = .ok (.iconst 0, 1) := by decide +kernel
theorem dX12_extent_23 : decode cX12_extent 23 = .ok (.invokestatic 275, 3) := by decide +kernel
theorem dX12_extent_26 : decode cX12_extent 26 = .ok (.invokevirtual 254, 3) := by decide +kernel
theorem dX12_extent_29 : decode cX12_extent 29 = .ok (.ifCond .eq 7, 3) := by decide +kernel
theorem dX12_extent_32 : decode cX12_extent 32 = .ok (.ldc_w 312, 3) := by decide +kernel
theorem dX12_extent_35 : decode cX12_extent 35 = .ok (.ireturn, 1) := by decide +kernel
theorem dX12_extent_36 : decode cX12_extent 36 = .ok (.aload_n 0, 1) := by decide +kernel
theorem dX12_extent_37 : decode cX12_extent 37 = .ok (.invokevirtual 313, 3) := by decide +kernel
theorem dX12_extent_40 : decode cX12_extent 40 = .ok (.iconst 0, 1) := by decide +kernel
theorem dX12_extent_41 : decode cX12_extent 41 = .ok (.istore_n 2, 1) := by decide +kernel
theorem dX12_extent_42 : decode cX12_extent 42 = .ok (.iconst 0, 1) := by decide +kernel
theorem dX12_extent_43 : decode cX12_extent 43 = .ok (.istore_n 3, 1) := by decide +kernel
theorem dX12_extent_44 : decode cX12_extent 44 = .ok (.iload_n 3, 1) := by decide +kernel
theorem dX12_extent_45 : decode cX12_extent 45 = .ok (.aload_n 0, 1) := by decide +kernel
theorem dX12_extent_46 : decode cX12_extent 46 = .ok (.getfield 17, 3) := by decide +kernel
theorem dX12_extent_49 : decode cX12_extent 49 = .ok (.iconst 2, 1) := by decide +kernel
theorem dX12_extent_50 : decode cX12_extent 50 = .ok (.iaload, 1) := by decide +kernel
theorem dX12_extent_51 : decode cX12_extent 51 = .ok (.if_icmp .ge 53, 3) := by decide +kernel
theorem dX12_extent_54 : decode cX12_extent 54 = .ok (.iload_n 1, 1) := by decide +kernel
theorem dX12_extent_55 : decode cX12_extent 55 = .ok (.iconst 2, 1) := by decide +kernel
theorem dX12_extent_56 : decode cX12_extent 56 = .ok (.if_icmp .ge 12, 3) := by decide +kernel
theorem dX12_extent_59 : decode cX12_extent 59 = .ok (.aload_n 0, 1) := by decide +kernel
theorem dX12_extent_60 : decode cX12_extent 60 = .ok (.getfield 36, 3) := by decide +kernel
theorem dX12_extent_63 : decode cX12_extent 63 = .ok (.iload_n 3, 1) := by decide +kernel
theorem dX12_extent_64 : decode cX12_extent 64 = .ok (.iaload, 1) := by decide +kernel
theorem dX12_extent_65 : decode cX12_extent 65 = .ok (.goto 9, 3) := by decide +kernel
theorem dX12_extent_68 : decode cX12_extent 68 = .ok (.aload_n 0, 1) := by decide +kernel
theorem dX12_extent_69 : decode cX12_extent 69 = .ok (.getfield 39, 3) := by decide +kernel
theorem dX12_extent_72 : decode cX12_extent 72 = .ok (.iload_n 3, 1) := by decide +kernel
theorem dX12_extent_73 : decode cX12_extent 73 = .ok (.iaload, 1) := by decide +kernel
theorem dX12_extent_74 : decode cX12_extent 74 = .ok (.istore 4, 2) := by decide +kernel
theorem dX12_extent_76 : decode cX12_extent 76 = .ok (.iload_n 1, 1) := by decide +kernel
theorem dX12_extent_77 : decode cX12_extent 77 = .ok (.iconst 2, 1) := by decide +kernel
theorem dX12_extent_78 : decode cX12_extent 78 = .ok (.irem, 1) := by decide +kernel
theorem dX12_extent_79 : decode cX12_extent 79 = .ok (.ifCond .ne 12, 3) := by decide +kernel
theorem dX12_extent_82 : decode cX12_extent 82 = .ok (.iload_n 2, 1) := by decide +kernel
theorem dX12_extent_83 : decode cX12_extent 83 = .ok (.iload 4, 2) := by decide +kernel
theorem dX12_extent_85 : decode cX12_extent 85 = .ok (.invokestatic 297, 3) := by decide +kernel
theorem dX12_extent_88 : decode cX12_extent 88 = .ok (.goto 9, 3) := by decide +kernel
theorem dX12_extent_91 : decode cX12_extent 91 = .ok (.iload_n 2, 1) := by decide +kernel
theorem dX12_extent_92 : decode cX12_extent 92 = .ok (.iload 4, 2) := by decide +kernel
theorem dX12_extent_94 : decode cX12_extent 94 = .ok (.invokestatic 294, 3) := by decide +kernel
theorem dX12_extent_97 : decode cX12_extent 97 = .ok (.istore_n 2, 1) := by decide +kernel
theorem dX12_extent_98 : decode cX12_extent 98 = .ok (.iinc 3 1, 3) := by decide +kernel
theorem dX12_extent_101 : decode cX12_extent 101 = .ok (.goto (-57), 3) := by decide +kernel
theorem dX12_extent_104 : decode cX12_extent 104 = .ok (.iload_n 2, 1) := by decide +kernel
theorem dX12_extent_105 : decode cX12_extent 105 = .ok (.ireturn, 1) := by decide +kernel
theorem dX12_isPlug_0 : decode cX12_isPlug 0 = .ok (.aload_n 0, 1) := by decide +kernel
theorem dX12_isPlug_1 : decode cX12_isPlug 1 = .ok (.getfield 269, 3) := by decide +kernel
theorem dX12_isPlug_4 : decode cX12_isPlug 4 = .ok (.ifCond .eq 23, 3) := by decide +kernel
theorem dX12_isPlug_7 : decode cX12_isPlug 7 = .ok (.iload_n 1, 1) := by decide +kernel
theorem dX12_isPlug_8 : decode cX12_isPlug 8 = .ok (.iconst 0, 1) := by decide +kernel
theorem dX12_isPlug_9 : decode cX12_isPlug 9 = .ok (.aload_n 0, 1) := by decide +kernel
theorem dX12_isPlug_10 : decode cX12_isPlug 10 = .ok (.getfield 17, 3) := by decide +kernel
theorem dX12_isPlug_13 : decode cX12_isPlug 13 = .ok (.iconst 4, 1) := by decide +kernel
theorem dX12_isPlug_14 : decode cX12_isPlug 14 = .ok (.iaload, 1) := by decide +kernel
theorem dX12_isPlug_15 : decode cX12_isPlug 15 = .ok (.iconst 1, 1) := by decide +kernel
theorem dX12_isPlug_16 : decode cX12_isPlug 16 = .ok (.isub, 1) := by decide +kernel
theorem dX12_isPlug_17 : decode cX12_isPlug 17 = .ok (.invokestatic 86, 3) := by decide +kernel
theorem dX12_isPlug_20 : decode cX12_isPlug 20 = .ok (.ifCond .eq 7, 3) := by decide +kernel
theorem dX12_isPlug_23 : decode cX12_isPlug 23 = .ok (.iconst 1, 1) := by decide +kernel
theorem dX12_isPlug_24 : decode cX12_isPlug 24 = .ok (.goto 4, 3) := by decide +kernel
theorem dX12_isPlug_27 : decode cX12_isPlug 27 = .ok (.iconst 0, 1) := by decide +kernel
theorem dX12_isPlug_28 : decode cX12_isPlug 28 = .ok (.ireturn, 1) := by decide +kernel
theorem dX12_isNet_0 : decode cX12_isNet 0 = .ok (.aload_n 0, 1) := by decide +kernel
theorem dX12_isNet_1 : decode cX12_isNet 1 = .ok (.getfield 269, 3) := by decide +kernel
theorem dX12_isNet_4 : decode cX12_isNet 4 = .ok (.ifCond .eq 23, 3) := by decide +kernel
theorem dX12_isNet_7 : decode cX12_isNet 7 = .ok (.iload_n 1, 1) := by decide +kernel
theorem dX12_isNet_8 : decode cX12_isNet 8 = .ok (.iconst 0, 1) := by decide +kernel
theorem dX12_isNet_9 : decode cX12_isNet 9 = .ok (.aload_n 0, 1) := by decide +kernel
theorem dX12_isNet_10 : decode cX12_isNet 10 = .ok (.getfield 17, 3) := by decide +kernel
theorem dX12_isNet_13 : decode cX12_isNet 13 = .ok (.iconst 5, 1) := by decide +kernel
theorem dX12_isNet_14 : decode cX12_isNet 14 = .ok (.iaload, 1) := by decide +kernel
theorem dX12_isNet_15 : decode cX12_isNet 15 = .ok (.iconst 1, 1) := by decide +kernel
theorem dX12_isNet_16 : decode cX12_isNet 16 = .ok (.isub, 1) := by decide +kernel
theorem dX12_isNet_17 : decode cX12_isNet 17 = .ok (.invokestatic 86, 3) := by decide +kernel
theorem dX12_isNet_20 : decode cX12_isNet 20 = .ok (.ifCond .eq 7, 3) := by decide +kernel
theorem dX12_isNet_23 : decode cX12_isNet 23 = .ok (.iconst 1, 1) := by decide +kernel
theorem dX12_isNet_24 : decode cX12_isNet 24 = .ok (.goto 4, 3) := by decide +kernel
theorem dX12_isNet_27 : decode cX12_isNet 27 = .ok (.iconst 0, 1) := by decide +kernel
theorem dX12_isNet_28 : decode cX12_isNet 28 = .ok (.ireturn, 1) := by decide +kernel
theorem dX12_plugOf_0 : decode cX12_plugOf 0 = .ok (.aload_n 0, 1) := by decide +kernel
theorem dX12_plugOf_1 : decode cX12_plugOf 1 = .ok (.getfield 17, 3) := by decide +kernel
theorem dX12_plugOf_4 : decode cX12_plugOf 4 = .ok (.bipush 49, 2) := by decide +kernel
theorem dX12_plugOf_6 : decode cX12_plugOf 6 = .ok (.bipush 6, 2) := by decide +kernel
theorem dX12_plugOf_8 : decode cX12_plugOf 8 = .ok (.iload_n 1, 1) := by decide +kernel
theorem dX12_plugOf_9 : decode cX12_plugOf 9 = .ok (.imul, 1) := by decide +kernel
theorem dX12_plugOf_10 : decode cX12_plugOf 10 = .ok (.iadd, 1) := by decide +kernel
theorem dX12_plugOf_11 : decode cX12_plugOf 11 = .ok (.iload_n 2, 1) := by decide +kernel
theorem dX12_plugOf_12 : decode cX12_plugOf 12 = .ok (.iadd, 1) := by decide +kernel
theorem dX12_plugOf_13 : decode cX12_plugOf 13 = .ok (.iaload, 1) := by decide +kernel
theorem dX12_plugOf_14 : decode cX12_plugOf 14 = .ok (.ireturn, 1) := by decide +kernel
theorem dX12_netOf_0 : decode cX12_netOf 0 = .ok (.aload_n 0, 1) := by decide +kernel
theorem dX12_netOf_1 : decode cX12_netOf 1 = .ok (.getfield 17, 3) := by decide +kernel
theorem dX12_netOf_4 : decode cX12_netOf 4 = .ok (.bipush 97, 2) := by decide +kernel
theorem dX12_netOf_6 : decode cX12_netOf 6 = .ok (.bipush 16, 2) := by decide +kernel
theorem dX12_netOf_8 : decode cX12_netOf 8 = .ok (.iload_n 1, 1) := by decide +kernel
theorem dX12_netOf_9 : decode cX12_netOf 9 = .ok (.imul, 1) := by decide +kernel
theorem dX12_netOf_10 : decode cX12_netOf 10 = .ok (.iadd, 1) := by decide +kernel
theorem dX12_netOf_11 : decode cX12_netOf 11 = .ok (.iload_n 2, 1) := by decide +kernel
theorem dX12_netOf_12 : decode cX12_netOf 12 = .ok (.iadd, 1) := by decide +kernel
theorem dX12_netOf_13 : decode cX12_netOf 13 = .ok (.iaload, 1) := by decide +kernel
theorem dX12_netOf_14 : decode cX12_netOf 14 = .ok (.ireturn, 1) := by decide +kernel
theorem dX12_pinPlug_0 : decode cX12_pinPlug 0 = .ok (.aload_n 0, 1) := by decide +kernel
theorem dX12_pinPlug_1 : decode cX12_pinPlug 1 = .ok (.iload_n 1, 1) := by decide +kernel
theorem dX12_pinPlug_2 : decode cX12_pinPlug 2 = .ok (.bipush 6, 2) := by decide +kernel
theorem dX12_pinPlug_4 : decode cX12_pinPlug 4 = .ok (.iconst 2, 1) := by decide +kernel
theorem dX12_pinPlug_5 : decode cX12_pinPlug 5 = .ok (.iload_n 2, 1) := by decide +kernel
theorem dX12_pinPlug_6 : decode cX12_pinPlug 6 = .ok (.imul, 1) := by decide +kernel
theorem dX12_pinPlug_7 : decode cX12_pinPlug 7 = .ok (.iadd, 1) := by decide +kernel
theorem dX12_pinPlug_8 : decode cX12_pinPlug 8 = .ok (.invokevirtual 319, 3) := by decide +kernel
theorem dX12_pinPlug_11 : decode cX12_pinPlug 11 = .ok (.ireturn, 1) := by decide +kernel
theorem dX12_pinHole_0 : decode cX12_pinHole 0 = .ok (.aload_n 0, 1) := by decide +kernel
theorem dX12_pinHole_1 : decode cX12_pinHole 1 = .ok (.iload_n 1, 1) := by decide +kernel
theorem dX12_pinHole_2 : decode cX12_pinHole 2 = .ok (.bipush 6, 2) := by decide +kernel
theorem dX12_pinHole_4 : decode cX12_pinHole 4 = .ok (.iconst 2, 1) := by decide +kernel
theorem dX12_pinHole_5 : decode cX12_pinHole 5 = .ok (.iload_n 2, 1) := by decide +kernel
theorem dX12_pinHole_6 : decode cX12_pinHole 6 = .ok (.imul, 1) := by decide +kernel
theorem dX12_pinHole_7 : decode cX12_pinHole 7 = .ok (.iadd, 1) := by decide +kernel
theorem dX12_pinHole_8 : decode cX12_pinHole 8 = .ok (.iconst 1, 1) := by decide +kernel
theorem dX12_pinHole_9 : decode cX12_pinHole 9 = .ok (.iadd, 1) := by decide +kernel
theorem dX12_pinHole_10 : decode cX12_pinHole 10 = .ok (.invokevirtual 319, 3) := by decide +kernel
theorem dX12_pinHole_13 : decode cX12_pinHole 13 = .ok (.ireturn, 1) := by decide +kernel
theorem dX12_pinNode_0 : decode cX12_pinNode 0 = .ok (.aload_n 0, 1) := by decide +kernel
theorem dX12_pinNode_1 : decode cX12_pinNode 1 = .ok (.aload_n 0, 1) := by decide +kernel
theorem dX12_pinNode_2 : decode cX12_pinNode 2 = .ok (.iload_n 1, 1) := by decide +kernel
theorem dX12_pinNode_3 : decode cX12_pinNode 3 = .ok (.iload_n 2, 1) := by decide +kernel
theorem dX12_pinNode_4 : decode cX12_pinNode 4 = .ok (.invokevirtual 322, 3) := by decide +kernel
theorem dX12_pinNode_7 : decode cX12_pinNode 7 = .ok (.iconst 0, 1) := by decide +kernel
theorem dX12_pinNode_8 : decode cX12_pinNode 8 = .ok (.invokevirtual 325, 3) := by decide +kernel
theorem dX12_pinNode_11 : decode cX12_pinNode 11 = .ok (.ireturn, 1) := by decide +kernel
theorem dX12_isPin_0 : decode cX12_isPin 0 = .ok (.aload_n 0, 1) := by decide +kernel
theorem dX12_isPin_1 : decode cX12_isPin 1 = .ok (.iload_n 1, 1) := by decide +kernel
theorem dX12_isPin_2 : decode cX12_isPin 2 = .ok (.invokevirtual 328, 3) := by decide +kernel
theorem dX12_isPin_5 : decode cX12_isPin 5 = .ok (.ifCond .eq 23, 3) := by decide +kernel
theorem dX12_isPin_8 : decode cX12_isPin 8 = .ok (.iload_n 2, 1) := by decide +kernel
theorem dX12_isPin_9 : decode cX12_isPin 9 = .ok (.iconst 0, 1) := by decide +kernel
theorem dX12_isPin_10 : decode cX12_isPin 10 = .ok (.aload_n 0, 1) := by decide +kernel
theorem dX12_isPin_11 : decode cX12_isPin 11 = .ok (.iload_n 1, 1) := by decide +kernel
theorem dX12_isPin_12 : decode cX12_isPin 12 = .ok (.iconst 2, 1) := by decide +kernel
theorem dX12_isPin_13 : decode cX12_isPin 13 = .ok (.invokevirtual 319, 3) := by decide +kernel
theorem dX12_isPin_16 : decode cX12_isPin 16 = .ok (.iconst 1, 1) := by decide +kernel
theorem dX12_isPin_17 : decode cX12_isPin 17 = .ok (.isub, 1) := by decide +kernel
theorem dX12_isPin_18 : decode cX12_isPin 18 = .ok (.invokestatic 86, 3) := by decide +kernel
theorem dX12_isPin_21 : decode cX12_isPin 21 = .ok (.ifCond .eq 7, 3) := by decide +kernel
theorem dX12_isPin_24 : decode cX12_isPin 24 = .ok (.iconst 1, 1) := by decide +kernel
theorem dX12_isPin_25 : decode cX12_isPin 25 = .ok (.goto 4, 3) := by decide +kernel
theorem dX12_isPin_28 : decode cX12_isPin 28 = .ok (.iconst 0, 1) := by decide +kernel
theorem dX12_isPin_29 : decode cX12_isPin 29 = .ok (.ireturn, 1) := by decide +kernel
theorem dX12_plug_0 : decode cX12_plug 0 = .ok (.aload_n 0, 1) := by decide +kernel
theorem dX12_plug_1 : decode cX12_plug 1 = .ok (.aload_n 0, 1) := by decide +kernel
theorem dX12_plug_2 : decode cX12_plug 2 = .ok (.iload_n 1, 1) := by decide +kernel
theorem dX12_plug_3 : decode cX12_plug 3 = .ok (.invokevirtual 331, 3) := by decide +kernel
theorem dX12_plug_6 : decode cX12_plug 6 = .ok (.ifCond .eq 16, 3) := by decide +kernel
theorem dX12_plug_9 : decode cX12_plug 9 = .ok (.iload_n 2, 1) := by decide +kernel
theorem dX12_plug_10 : decode cX12_plug 10 = .ok (.iconst 0, 1) := by decide +kernel
theorem dX12_plug_11 : decode cX12_plug 11 = .ok (.iconst 5, 1) := by decide +kernel
theorem dX12_plug_12 : decode cX12_plug 12 = .ok (.invokestatic 86, 3) := by decide +kernel
theorem dX12_plug_15 : decode cX12_plug 15 = .ok (.ifCond .eq 7, 3) := by decide +kernel
theorem dX12_plug_18 : decode cX12_plug 18 = .ok (.iconst 1, 1) := by decide +kernel
theorem dX12_plug_19 : decode cX12_plug 19 = .ok (.goto 4, 3) := by decide +kernel
theorem dX12_plug_22 : decode cX12_plug 22 = .ok (.iconst 0, 1) := by decide +kernel
theorem dX12_plug_23 : decode cX12_plug 23 = .ok (.invokestatic 275, 3) := by decide +kernel
theorem dX12_plug_26 : decode cX12_plug 26 = .ok (.invokevirtual 254, 3) := by decide +kernel
theorem dX12_plug_29 : decode cX12_plug 29 = .ok (.ifCond .eq 7, 3) := by decide +kernel
theorem dX12_plug_32 : decode cX12_plug 32 = .ok (.iconst (-1), 1) := by decide +kernel
theorem dX12_plug_33 : decode cX12_plug 33 = .ok (.goto 9, 3) := by decide +kernel
theorem dX12_plug_36 : decode cX12_plug 36 = .ok (.aload_n 0, 1) := by decide +kernel
theorem dX12_plug_37 : decode cX12_plug 37 = .ok (.iload_n 1, 1) := by decide +kernel
theorem dX12_plug_38 : decode cX12_plug 38 = .ok (.iload_n 2, 1) := by decide +kernel
theorem dX12_plug_39 : decode cX12_plug 39 = .ok (.invokevirtual 325, 3) := by decide +kernel
theorem dX12_plug_42 : decode cX12_plug 42 = .ok (.ireturn, 1) := by decide +kernel
theorem dX12_net_0 : decode cX12_net 0 = .ok (.aload_n 0, 1) := by decide +kernel
theorem dX12_net_1 : decode cX12_net 1 = .ok (.aload_n 0, 1) := by decide +kernel
theorem dX12_net_2 : decode cX12_net 2 = .ok (.iload_n 1, 1) := by decide +kernel
theorem dX12_net_3 : decode cX12_net 3 = .ok (.invokevirtual 328, 3) := by decide +kernel
theorem dX12_net_6 : decode cX12_net 6 = .ok (.ifCond .eq 16, 3) := by decide +kernel
theorem dX12_net_9 : decode cX12_net 9 = .ok (.iload_n 2, 1) := by decide +kernel
theorem dX12_net_10 : decode cX12_net 10 = .ok (.iconst 0, 1) := by decide +kernel
theorem dX12_net_11 : decode cX12_net 11 = .ok (.iconst 5, 1) := by decide +kernel
theorem dX12_net_12 : decode cX12_net 12 = .ok (.invokestatic 86, 3) := by decide +kernel
theorem dX12_net_15 : decode cX12_net 15 = .ok (.ifCond .eq 7, 3) := by decide +kernel
theorem dX12_net_18 : decode cX12_net 18 = .ok (.iconst 1, 1) := by decide +kernel
theorem dX12_net_19 : decode cX12_net 19 = .ok (.goto 4, 3) := by decide +kernel
theorem dX12_net_22 : decode cX12_net 22 = .ok (.iconst 0, 1) := by decide +kernel
theorem dX12_net_23 : decode cX12_net 23 = .ok (.invokestatic 275, 3) := by decide +kernel
theorem dX12_net_26 : decode cX12_net 26 = .ok (.invokevirtual 254, 3) := by decide +kernel
theorem dX12_net_29 : decode cX12_net 29 = .ok (.ifCond .eq 7, 3) := by decide +kernel
theorem dX12_net_32 : decode cX12_net 32 = .ok (.iconst (-1), 1) := by decide +kernel
theorem dX12_net_33 : decode cX12_net 33 = .ok (.goto 9, 3) := by decide +kernel
theorem dX12_net_36 : decode cX12_net 36 = .ok (.aload_n 0, 1) := by decide +kernel
theorem dX12_net_37 : decode cX12_net 37 = .ok (.iload_n 1, 1) := by decide +kernel
theorem dX12_net_38 : decode cX12_net 38 = .ok (.iload_n 2, 1) := by decide +kernel
theorem dX12_net_39 : decode cX12_net 39 = .ok (.invokevirtual 319, 3) := by decide +kernel
theorem dX12_net_42 : decode cX12_net 42 = .ok (.ireturn, 1) := by decide +kernel
theorem dX12_pin_0 : decode cX12_pin 0 = .ok (.aload_n 0, 1) := by decide +kernel
theorem dX12_pin_1 : decode cX12_pin 1 = .ok (.aload_n 0, 1) := by decide +kernel
theorem dX12_pin_2 : decode cX12_pin 2 = .ok (.iload_n 1, 1) := by decide +kernel
theorem dX12_pin_3 : decode cX12_pin 3 = .ok (.iload_n 2, 1) := by decide +kernel
theorem dX12_pin_4 : decode cX12_pin 4 = .ok (.invokevirtual 334, 3) := by decide +kernel
theorem dX12_pin_7 : decode cX12_pin 7 = .ok (.ifCond .eq 16, 3) := by decide +kernel
theorem dX12_pin_10 : decode cX12_pin 10 = .ok (.iload_n 3, 1) := by decide +kernel
theorem dX12_pin_11 : decode cX12_pin 11 = .ok (.iconst 0, 1) := by decide +kernel
theorem dX12_pin_12 : decode cX12_pin 12 = .ok (.iconst 1, 1) := by decide +kernel
theorem dX12_pin_13 : decode cX12_pin 13 = .ok (.invokestatic 86, 3) := by decide +kernel
theorem dX12_pin_16 : decode cX12_pin 16 = .ok (.ifCond .eq 7, 3) := by decide +kernel
theorem dX12_pin_19 : decode cX12_pin 19 = .ok (.iconst 1, 1) := by decide +kernel
theorem dX12_pin_20 : decode cX12_pin 20 = .ok (.goto 4, 3) := by decide +kernel
theorem dX12_pin_23 : decode cX12_pin 23 = .ok (.iconst 0, 1) := by decide +kernel
theorem dX12_pin_24 : decode cX12_pin 24 = .ok (.invokestatic 275, 3) := by decide +kernel
theorem dX12_pin_27 : decode cX12_pin 27 = .ok (.invokevirtual 254, 3) := by decide +kernel
theorem dX12_pin_30 : decode cX12_pin 30 = .ok (.ifCond .eq 7, 3) := by decide +kernel
theorem dX12_pin_33 : decode cX12_pin 33 = .ok (.iconst (-1), 1) := by decide +kernel
theorem dX12_pin_34 : decode cX12_pin 34 = .ok (.goto 16, 3) := by decide +kernel
theorem dX12_pin_37 : decode cX12_pin 37 = .ok (.aload_n 0, 1) := by decide +kernel
theorem dX12_pin_38 : decode cX12_pin 38 = .ok (.iload_n 1, 1) := by decide +kernel
theorem dX12_pin_39 : decode cX12_pin 39 = .ok (.bipush 6, 2) := by decide +kernel
theorem dX12_pin_41 : decode cX12_pin 41 = .ok (.iconst 2, 1) := by decide +kernel
theorem dX12_pin_42 : decode cX12_pin 42 = .ok (.iload_n 2, 1) := by decide +kernel
theorem dX12_pin_43 : decode cX12_pin 43 = .ok (.imul, 1) := by decide +kernel
theorem dX12_pin_44 : decode cX12_pin 44 = .ok (.iadd, 1) := by decide +kernel
theorem dX12_pin_45 : decode cX12_pin 45 = .ok (.iload_n 3, 1) := by decide +kernel
theorem dX12_pin_46 : decode cX12_pin 46 = .ok (.iadd, 1) := by decide +kernel
theorem dX12_pin_47 : decode cX12_pin 47 = .ok (.invokevirtual 319, 3) := by decide +kernel
theorem dX12_pin_50 : decode cX12_pin 50 = .ok (.ireturn, 1) := by decide +kernel
theorem dX12_variantWhy_0 : decode cX12_variantWhy 0 = .ok (.aload_n 0, 1) := by decide +kernel
theorem dX12_variantWhy_1 : decode cX12_variantWhy 1 = .ok (.getfield 269, 3) := by decide +kernel
theorem dX12_variantWhy_4 : decode cX12_variantWhy 4 = .ok (.ifCond .eq 7, 3) := by decide +kernel
theorem dX12_variantWhy_7 : decode cX12_variantWhy 7 = .ok (.iload_n 1, 1) := by decide +kernel
theorem dX12_variantWhy_8 : decode cX12_variantWhy 8 = .ok (.ifCond .ne 7, 3) := by decide +kernel
theorem dX12_variantWhy_11 : decode cX12_variantWhy 11 = .ok (.iconst 1, 1) := by decide +kernel
theorem dX12_variantWhy_12 : decode cX12_variantWhy 12 = .ok (.goto 26, 3) := by decide +kernel
theorem dX12_variantWhy_15 : decode cX12_variantWhy 15 = .ok (.iload_n 2, 1) := by decide +kernel
theorem dX12_variantWhy_16 : decode cX12_variantWhy 16 = .ok (.iconst 0, 1) := by decide +kernel
theorem dX12_variantWhy_17 : decode cX12_variantWhy 17 = .ok (.iconst 1, 1) := by decide +kernel
theorem dX12_variantWhy_18 : decode cX12_variantWhy 18 = .ok (.aload_n 0, 1) := by decide +kernel
theorem dX12_variantWhy_19 : decode cX12_variantWhy 19 = .ok (.getfield 17, 3) := by decide +kernel
theorem dX12_variantWhy_22 : decode cX12_variantWhy 22 = .ok (.iconst 3, 1) := by decide +kernel
theorem dX12_variantWhy_23 : decode cX12_variantWhy 23 = .ok (.iaload, 1) := by decide +kernel
theorem dX12_variantWhy_24 : decode cX12_variantWhy 24 = .ok (.ishl, 1) := by decide +kernel
theorem dX12_variantWhy_25 : decode cX12_variantWhy 25 = .ok (.iconst 1, 1) := by decide +kernel
theorem dX12_variantWhy_26 : decode cX12_variantWhy 26 = .ok (.isub, 1) := by decide +kernel
theorem dX12_variantWhy_27 : decode cX12_variantWhy 27 = .ok (.invokestatic 86, 3) := by decide +kernel
theorem dX12_variantWhy_30 : decode cX12_variantWhy 30 = .ok (.ifCond .eq 7, 3) := by decide +kernel
theorem dX12_variantWhy_33 : decode cX12_variantWhy 33 = .ok (.iconst 0, 1) := by decide +kernel
theorem dX12_variantWhy_34 : decode cX12_variantWhy 34 = .ok (.goto 4, 3) := by decide +kernel
theorem dX12_variantWhy_37 : decode cX12_variantWhy 37 = .ok (.iconst 2, 1) := by decide +kernel
theorem dX12_variantWhy_38 : decode cX12_variantWhy 38 = .ok (.ireturn, 1) := by decide +kernel
theorem dX12_isThen_0 : decode cX12_isThen 0 = .ok (.iload_n 0, 1) := by decide +kernel
theorem dX12_isThen_1 : decode cX12_isThen 1 = .ok (.bipush (-2), 2) := by decide +kernel
theorem dX12_isThen_3 : decode cX12_isThen 3 = .ok (.if_icmp .eq 12, 3) := by decide +kernel
theorem dX12_isThen_6 : decode cX12_isThen 6 = .ok (.iload_n 2, 1) := by decide +kernel
theorem dX12_isThen_7 : decode cX12_isThen 7 = .ok (.iload_n 0, 1) := by decide +kernel
theorem dX12_isThen_8 : decode cX12_isThen 8 = .ok (.ishr, 1) := by decide +kernel
theorem dX12_isThen_9 : decode cX12_isThen 9 = .ok (.iconst 1, 1) := by decide +kernel
theorem dX12_isThen_10 : decode cX12_isThen 10 = .ok (.iand, 1) := by decide +kernel
theorem dX12_isThen_11 : decode cX12_isThen 11 = .ok (.iload_n 1, 1) := by decide +kernel
theorem dX12_isThen_12 : decode cX12_isThen 12 = .ok (.if_icmp .ne 7, 3) := by decide +kernel
theorem dX12_isThen_15 : decode cX12_isThen 15 = .ok (.iconst 1, 1) := by decide +kernel
theorem dX12_isThen_16 : decode cX12_isThen 16 = .ok (.goto 4, 3) := by decide +kernel
theorem dX12_isThen_19 : decode cX12_isThen 19 = .ok (.iconst 0, 1) := by decide +kernel
theorem dX12_isThen_20 : decode cX12_isThen 20 = .ok (.ireturn, 1) := by decide +kernel
theorem dX12_isPlugThere_0 : decode cX12_isPlugThere 0 = .ok (.aload_n 0, 1) := by decide +kernel
theorem dX12_isPlugThere_1 : decode cX12_isPlugThere 1 = .ok (.iload_n 1, 1) := by decide +kernel
theorem dX12_isPlugThere_2 : decode cX12_isPlugThere 2 = .ok (.iconst 4, 1) := by decide +kernel
theorem dX12_isPlugThere_3 : decode cX12_isPlugThere 3 = .ok (.invokevirtual 325, 3) := by decide +kernel
theorem dX12_isPlugThere_6 : decode cX12_isPlugThere 6 = .ok (.aload_n 0, 1) := by decide +kernel
theorem dX12_isPlugThere_7 : decode cX12_isPlugThere 7 = .ok (.iload_n 1, 1) := by decide +kernel
theorem dX12_isPlugThere_8 : decode cX12_isPlugThere 8 = .ok (.iconst 5, 1) := by decide +kernel
theorem dX12_isPlugThere_9 : decode cX12_isPlugThere 9 = .ok (.invokevirtual 325, 3) := by decide +kernel
theorem dX12_isPlugThere_12 : decode cX12_isPlugThere 12 = .ok (.iload_n 2, 1) := by decide +kernel
theorem dX12_isPlugThere_13 : decode cX12_isPlugThere 13 = .ok (.invokestatic 337, 3) := by decide +kernel
theorem dX12_isPlugThere_16 : decode cX12_isPlugThere 16 = .ok (.ireturn, 1) := by decide +kernel
theorem dX12_pinsOf_0 : decode cX12_pinsOf 0 = .ok (.iconst 0, 1) := by decide +kernel
theorem dX12_pinsOf_1 : decode cX12_pinsOf 1 = .ok (.istore_n 3, 1) := by decide +kernel
theorem dX12_pinsOf_2 : decode cX12_pinsOf 2 = .ok (.aload_n 0, 1) := by decide +kernel
theorem dX12_pinsOf_3 : decode cX12_pinsOf 3 = .ok (.iload_n 2, 1) := by decide +kernel
theorem dX12_pinsOf_4 : decode cX12_pinsOf 4 = .ok (.iconst 3, 1) := by decide +kernel
theorem dX12_pinsOf_5 : decode cX12_pinsOf 5 = .ok (.invokevirtual 319, 3) := by decide +kernel
theorem dX12_pinsOf_8 : decode cX12_pinsOf 8 = .ok (.aload_n 0, 1) := by decide +kernel
theorem dX12_pinsOf_9 : decode cX12_pinsOf 9 = .ok (.iload_n 2, 1) := by decide +kernel
theorem dX12_pinsOf_10 : decode cX12_pinsOf 10 = .ok (.iconst 4, 1) := by decide +kernel
theorem dX12_pinsOf_11 : decode cX12_pinsOf 11 = .ok (.invokevirtual 319, 3) := by decide +kernel
theorem dX12_pinsOf_14 : decode cX12_pinsOf 14 = .ok (.iload_n 1, 1) := by decide +kernel
theorem dX12_pinsOf_15 : decode cX12_pinsOf 15 = .ok (.invokestatic 337, 3) := by decide +kernel
theorem dX12_pinsOf_18 : decode cX12_pinsOf 18 = .ok (.ifCond .eq 49, 3) := by decide +kernel
theorem dX12_pinsOf_21 : decode cX12_pinsOf 21 = .ok (.iconst 0, 1) := by decide +kernel
theorem dX12_pinsOf_22 : decode cX12_pinsOf 22 = .ok (.istore 4, 2) := by decide +kernel
theorem dX12_pinsOf_24 : decode cX12_pinsOf 24 = .ok (.iload 4, 2) := by decide +kernel
theorem dX12_pinsOf_26 : decode cX12_pinsOf 26 = .ok (.aload_n 0, 1) := by decide +kernel
theorem dX12_pinsOf_27 : decode cX12_pinsOf 27 = .ok (.iload_n 2, 1) := by decide +kernel
theorem dX12_pinsOf_28 : decode cX12_pinsOf 28 = .ok (.iconst 2, 1) := by decide +kernel
theorem dX12_pinsOf_29 : decode cX12_pinsOf 29 = .ok (.invokevirtual 319, 3) := by decide +kernel
theorem dX12_pinsOf_32 : decode cX12_pinsOf 32 = .ok (.if_icmp .ge 35, 3) := by decide +kernel
theorem dX12_pinsOf_35 : decode cX12_pinsOf 35 = .ok (.iload_n 3, 1) := by decide +kernel
theorem dX12_pinsOf_36 : decode cX12_pinsOf 36 = .ok (.aload_n 0, 1) := by decide +kernel
theorem dX12_pinsOf_37 : decode cX12_pinsOf 37 = .ok (.aload_n 0, 1) := by decide +kernel
theorem dX12_pinsOf_38 : decode cX12_pinsOf 38 = .ok (.iload_n 2, 1) := by decide +kernel
theorem dX12_pinsOf_39 : decode cX12_pinsOf 39 = .ok (.iload 4, 2) := by decide +kernel
theorem dX12_pinsOf_41 : decode cX12_pinsOf 41 = .ok (.invokevirtual 322, 3) := by decide +kernel
theorem dX12_pinsOf_44 : decode cX12_pinsOf 44 = .ok (.iload_n 1, 1) := by decide +kernel
theorem dX12_pinsOf_45 : decode cX12_pinsOf 45 = .ok (.invokevirtual 340, 3) := by decide +kernel
theorem dX12_pinsOf_48 : decode cX12_pinsOf 48 = .ok (.ifCond .eq 10, 3) := by decide +kernel
theorem dX12_pinsOf_51 : decode cX12_pinsOf 51 = .ok (.iconst 1, 1) := by decide +kernel
theorem dX12_pinsOf_52 : decode cX12_pinsOf 52 = .ok (.iload 4, 2) := by decide +kernel
theorem dX12_pinsOf_54 : decode cX12_pinsOf 54 = .ok (.ishl, 1) := by decide +kernel
theorem dX12_pinsOf_55 : decode cX12_pinsOf 55 = .ok (.goto 4, 3) := by decide +kernel
theorem dX12_pinsOf_58 : decode cX12_pinsOf 58 = .ok (.iconst 0, 1) := by decide +kernel
theorem dX12_pinsOf_59 : decode cX12_pinsOf 59 = .ok (.ior, 1) := by decide +kernel
theorem dX12_pinsOf_60 : decode cX12_pinsOf 60 = .ok (.istore_n 3, 1) := by decide +kernel
theorem dX12_pinsOf_61 : decode cX12_pinsOf 61 = .ok (.iinc 4 1, 3) := by decide +kernel
theorem dX12_pinsOf_64 : decode cX12_pinsOf 64 = .ok (.goto (-40), 3) := by decide +kernel
theorem dX12_pinsOf_67 : decode cX12_pinsOf 67 = .ok (.iload_n 3, 1) := by decide +kernel
theorem dX12_pinsOf_68 : decode cX12_pinsOf 68 = .ok (.ireturn, 1) := by decide +kernel
theorem dX12_bitsOf_0 : decode cX12_bitsOf 0 = .ok (.iconst 0, 1) := by decide +kernel
theorem dX12_bitsOf_1 : decode cX12_bitsOf 1 = .ok (.istore_n 1, 1) := by decide +kernel
theorem dX12_bitsOf_2 : decode cX12_bitsOf 2 = .ok (.iload_n 0, 1) := by decide +kernel
theorem dX12_bitsOf_3 : decode cX12_bitsOf 3 = .ok (.istore_n 2, 1) := by decide +kernel
theorem dX12_bitsOf_4 : decode cX12_bitsOf 4 = .ok (.iload_n 2, 1) := by decide +kernel
theorem dX12_bitsOf_5 : decode cX12_bitsOf 5 = .ok (.ifCond .eq 15, 3) := by decide +kernel
theorem dX12_bitsOf_8 : decode cX12_bitsOf 8 = .ok (.iinc 1 1, 3) := by decide +kernel
theorem dX12_bitsOf_11 : decode cX12_bitsOf 11 = .ok (.iload_n 2, 1) := by decide +kernel
theorem dX12_bitsOf_12 : decode cX12_bitsOf 12 = .ok (.iload_n 2, 1) := by decide +kernel
theorem dX12_bitsOf_13 : decode cX12_bitsOf 13 = .ok (.iconst 1, 1) := by decide +kernel
theorem dX12_bitsOf_14 : decode cX12_bitsOf 14 = .ok (.isub, 1) := by decide +kernel
theorem dX12_bitsOf_15 : decode cX12_bitsOf 15 = .ok (.iand, 1) := by decide +kernel
theorem dX12_bitsOf_16 : decode cX12_bitsOf 16 = .ok (.istore_n 2, 1) := by decide +kernel
theorem dX12_bitsOf_17 : decode cX12_bitsOf 17 = .ok (.goto (-13), 3) := by decide +kernel
theorem dX12_bitsOf_20 : decode cX12_bitsOf 20 = .ok (.iload_n 1, 1) := by decide +kernel
theorem dX12_bitsOf_21 : decode cX12_bitsOf 21 = .ok (.ireturn, 1) := by decide +kernel
theorem dX12_has_0 : decode cX12_has 0 = .ok (.iload_n 0, 1) := by decide +kernel
theorem dX12_has_1 : decode cX12_has 1 = .ok (.iload_n 1, 1) := by decide +kernel
theorem dX12_has_2 : decode cX12_has 2 = .ok (.ishr, 1) := by decide +kernel
theorem dX12_has_3 : decode cX12_has 3 = .ok (.iconst 1, 1) := by decide +kernel
theorem dX12_has_4 : decode cX12_has 4 = .ok (.iand, 1) := by decide +kernel
theorem dX12_has_5 : decode cX12_has 5 = .ok (.iconst 1, 1) := by decide +kernel
theorem dX12_has_6 : decode cX12_has 6 = .ok (.if_icmp .ne 7, 3) := by decide +kernel
theorem dX12_has_9 : decode cX12_has 9 = .ok (.iconst 1, 1) := by decide +kernel
theorem dX12_has_10 : decode cX12_has 10 = .ok (.goto 4, 3) := by decide +kernel
theorem dX12_has_13 : decode cX12_has 13 = .ok (.iconst 0, 1) := by decide +kernel
theorem dX12_has_14 : decode cX12_has 14 = .ok (.ireturn, 1) := by decide +kernel
theorem dX12_firstOf_0 : decode cX12_firstOf 0 = .ok (.iconst 0, 1) := by decide +kernel
theorem dX12_firstOf_1 : decode cX12_firstOf 1 = .ok (.istore_n 1, 1) := by decide +kernel
theorem dX12_firstOf_2 : decode cX12_firstOf 2 = .ok (.iload_n 0, 1) := by decide +kernel
theorem dX12_firstOf_3 : decode cX12_firstOf 3 = .ok (.iload_n 1, 1) := by decide +kernel
theorem dX12_firstOf_4 : decode cX12_firstOf 4 = .ok (.invokestatic 343, 3) := by decide +kernel
theorem dX12_firstOf_7 : decode cX12_firstOf 7 = .ok (.ifCond .ne 9, 3) := by decide +kernel
theorem dX12_firstOf_10 : decode cX12_firstOf 10 = .ok (.iinc 1 1, 3) := by decide +kernel
theorem dX12_firstOf_13 : decode cX12_firstOf 13 = .ok (.goto (-11), 3) := by decide +kernel
theorem dX12_firstOf_16 : decode cX12_firstOf 16 = .ok (.iload_n 1, 1) := by decide +kernel
theorem dX12_firstOf_17 : decode cX12_firstOf 17 = .ok (.ireturn, 1) := by decide +kernel
theorem dX12_reachOf_0 : decode cX12_reachOf 0 = .ok (.iconst 0, 1) := by decide +kernel
theorem dX12_reachOf_1 : decode cX12_reachOf 1 = .ok (.istore 4, 2) := by decide +kernel
theorem dX12_reachOf_3 : decode cX12_reachOf 3 = .ok (.iconst 0, 1) := by decide +kernel
theorem dX12_reachOf_4 : decode cX12_reachOf 4 = .ok (.istore 5, 2) := by decide +kernel
theorem dX12_reachOf_6 : decode cX12_reachOf 6 = .ok (.iload 5, 2) := by decide +kernel
theorem dX12_reachOf_8 : decode cX12_reachOf 8 = .ok (.iconst 5, 1) := by decide +kernel
theorem dX12_reachOf_9 : decode cX12_reachOf 9 = .ok (.if_icmp .ge 39, 3) := by decide +kernel
theorem dX12_reachOf_12 : decode cX12_reachOf 12 = .ok (.iload 4, 2) := by decide +kernel
theorem dX12_reachOf_14 : decode cX12_reachOf 14 = .ok (.iload_n 2, 1) := by decide +kernel
theorem dX12_reachOf_15 : decode cX12_reachOf 15 = .ok (.iload 5, 2) := by decide +kernel
theorem dX12_reachOf_17 : decode cX12_reachOf 17 = .ok (.invokestatic 343, 3) := by decide +kernel
theorem dX12_reachOf_20 : decode cX12_reachOf 20 = .ok (.ifCond .eq 18, 3) := by decide +kernel
theorem dX12_reachOf_23 : decode cX12_reachOf 23 = .ok (.aload_n 0, 1) := by decide +kernel
theorem dX12_reachOf_24 : decode cX12_reachOf 24 = .ok (.aload_n 0, 1) := by decide +kernel
theorem dX12_reachOf_25 : decode cX12_reachOf 25 = .ok (.iload_n 1, 1) := by decide +kernel
theorem dX12_reachOf_26 : decode cX12_reachOf 26 = .ok (.iload 5, 2) := by decide +kernel
theorem dX12_reachOf_28 : decode cX12_reachOf 28 = .ok (.invokevirtual 346, 3) := by decide +kernel
theorem dX12_reachOf_31 : decode cX12_reachOf 31 = .ok (.iload_n 3, 1) := by decide +kernel
theorem dX12_reachOf_32 : decode cX12_reachOf 32 = .ok (.invokevirtual 288, 3) := by decide +kernel
theorem dX12_reachOf_35 : decode cX12_reachOf 35 = .ok (.goto 4, 3) := by decide +kernel
theorem dX12_reachOf_38 : decode cX12_reachOf 38 = .ok (.iconst 0, 1) := by decide +kernel
theorem dX12_reachOf_39 : decode cX12_reachOf 39 = .ok (.iadd, 1) := by decide +kernel
theorem dX12_reachOf_40 : decode cX12_reachOf 40 = .ok (.istore 4, 2) := by decide +kernel
theorem dX12_reachOf_42 : decode cX12_reachOf 42 = .ok (.iinc 5 1, 3) := by decide +kernel
theorem dX12_reachOf_45 : decode cX12_reachOf 45 = .ok (.goto (-39), 3) := by decide +kernel
theorem dX12_reachOf_48 : decode cX12_reachOf 48 = .ok (.iload 4, 2) := by decide +kernel
theorem dX12_reachOf_50 : decode cX12_reachOf 50 = .ok (.ireturn, 1) := by decide +kernel
theorem dX12_spliceOf_0 : decode cX12_spliceOf 0 = .ok (.iload_n 2, 1) := by decide +kernel
theorem dX12_spliceOf_1 : decode cX12_spliceOf 1 = .ok (.invokestatic 349, 3) := by decide +kernel
theorem dX12_spliceOf_4 : decode cX12_spliceOf 4 = .ok (.iconst 3, 1) := by decide +kernel
theorem dX12_spliceOf_5 : decode cX12_spliceOf 5 = .ok (.if_icmp .ge 6, 3) := by decide +kernel
theorem dX12_spliceOf_8 : decode cX12_spliceOf 8 = .ok (.bipush (-2), 2) := by decide +kernel
theorem dX12_spliceOf_10 : decode cX12_spliceOf 10 = .ok (.ireturn, 1) := by decide +kernel
theorem dX12_spliceOf_11 : decode cX12_spliceOf 11 = .ok (.aload_n 0, 1) := by decide +kernel
theorem dX12_spliceOf_12 : decode cX12_spliceOf 12 = .ok (.iload_n 1, 1) := by decide +kernel
theorem dX12_spliceOf_13 : decode cX12_spliceOf 13 = .ok (.iconst 5, 1) := by decide +kernel
theorem dX12_spliceOf_14 : decode cX12_spliceOf 14 = .ok (.invokevirtual 319, 3) := by decide +kernel
theorem dX12_spliceOf_17 : decode cX12_spliceOf 17 = .ok (.bipush (-2), 2) := by decide +kernel
theorem dX12_spliceOf_19 : decode cX12_spliceOf 19 = .ok (.if_icmp .eq 10, 3) := by decide +kernel
theorem dX12_spliceOf_22 : decode cX12_spliceOf 22 = .ok (.aload_n 0, 1) := by decide +kernel
theorem dX12_spliceOf_23 : decode cX12_spliceOf 23 = .ok (.iload_n 1, 1) := by decide +kernel
theorem dX12_spliceOf_24 : decode cX12_spliceOf 24 = .ok (.iconst 5, 1) := by decide +kernel
theorem dX12_spliceOf_25 : decode cX12_spliceOf 25 = .ok (.invokevirtual 319, 3) := by decide +kernel
theorem dX12_spliceOf_28 : decode cX12_spliceOf 28 = .ok (.ireturn, 1) := by decide +kernel
theorem dX12_spliceOf_29 : decode cX12_spliceOf 29 = .ok (.iconst 0, 1) := by decide +kernel
theorem dX12_spliceOf_30 : decode cX12_spliceOf 30 = .ok (.istore_n 3, 1) := by decide +kernel
theorem dX12_spliceOf_31 : decode cX12_spliceOf 31 = .ok (.iconst 1, 1) := by decide +kernel
theorem dX12_spliceOf_32 : decode cX12_spliceOf 32 = .ok (.istore 4, 2) := by decide +kernel
theorem dX12_spliceOf_34 : decode cX12_spliceOf 34 = .ok (.iload 4, 2) := by decide +kernel
theorem dX12_spliceOf_36 : decode cX12_spliceOf 36 = .ok (.aload_n 0, 1) := by decide +kernel
theorem dX12_spliceOf_37 : decode cX12_spliceOf 37 = .ok (.getfield 17, 3) := by decide +kernel
theorem dX12_spliceOf_40 : decode cX12_spliceOf 40 = .ok (.iconst 2, 1) := by decide +kernel
theorem dX12_spliceOf_41 : decode cX12_spliceOf 41 = .ok (.iaload, 1) := by decide +kernel
theorem dX12_spliceOf_42 : decode cX12_spliceOf 42 = .ok (.if_icmp .ge 34, 3) := by decide +kernel
theorem dX12_spliceOf_45 : decode cX12_spliceOf 45 = .ok (.aload_n 0, 1) := by decide +kernel
theorem dX12_spliceOf_46 : decode cX12_spliceOf 46 = .ok (.iload_n 1, 1) := by decide +kernel
theorem dX12_spliceOf_47 : decode cX12_spliceOf 47 = .ok (.iload_n 2, 1) := by decide +kernel
theorem dX12_spliceOf_48 : decode cX12_spliceOf 48 = .ok (.iload 4, 2) := by decide +kernel
theorem dX12_spliceOf_50 : decode cX12_spliceOf 50 = .ok (.invokevirtual 352, 3) := by decide +kernel
theorem dX12_spliceOf_53 : decode cX12_spliceOf 53 = .ok (.aload_n 0, 1) := by decide +kernel
theorem dX12_spliceOf_54 : decode cX12_spliceOf 54 = .ok (.iload_n 1, 1) := by decide +kernel
theorem dX12_spliceOf_55 : decode cX12_spliceOf 55 = .ok (.iload_n 2, 1) := by decide +kernel
theorem dX12_spliceOf_56 : decode cX12_spliceOf 56 = .ok (.iload_n 3, 1) := by decide +kernel
theorem dX12_spliceOf_57 : decode cX12_spliceOf 57 = .ok (.invokevirtual 352, 3) := by decide +kernel
theorem dX12_spliceOf_60 : decode cX12_spliceOf 60 = .ok (.if_icmp .ge 8, 3) := by decide +kernel
theorem dX12_spliceOf_63 : decode cX12_spliceOf 63 = .ok (.iload 4, 2) := by decide +kernel
theorem dX12_spliceOf_65 : decode cX12_spliceOf 65 = .ok (.goto 4, 3) := by decide +kernel
theorem dX12_spliceOf_68 : decode cX12_spliceOf 68 = .ok (.iload_n 3, 1) := by decide +kernel
theorem dX12_spliceOf_69 : decode cX12_spliceOf 69 = .ok (.istore_n 3, 1) := by decide +kernel
theorem dX12_spliceOf_70 : decode cX12_spliceOf 70 = .ok (.iinc 4 1, 3) := by decide +kernel
theorem dX12_spliceOf_73 : decode cX12_spliceOf 73 = .ok (.goto (-39), 3) := by decide +kernel
theorem dX12_spliceOf_76 : decode cX12_spliceOf 76 = .ok (.iload_n 3, 1) := by decide +kernel
theorem dX12_spliceOf_77 : decode cX12_spliceOf 77 = .ok (.ireturn, 1) := by decide +kernel
theorem dX12_wiresOf_0 : decode cX12_wiresOf 0 = .ok (.iload_n 0, 1) := by decide +kernel
theorem dX12_wiresOf_1 : decode cX12_wiresOf 1 = .ok (.invokestatic 349, 3) := by decide +kernel
theorem dX12_wiresOf_4 : decode cX12_wiresOf 4 = .ok (.istore_n 1, 1) := by decide +kernel
theorem dX12_wiresOf_5 : decode cX12_wiresOf 5 = .ok (.iload_n 1, 1) := by decide +kernel
theorem dX12_wiresOf_6 : decode cX12_wiresOf 6 = .ok (.iconst 2, 1) := by decide +kernel
theorem dX12_wiresOf_7 : decode cX12_wiresOf 7 = .ok (.if_icmp .ge 7, 3) := by decide +kernel
theorem dX12_wiresOf_10 : decode cX12_wiresOf 10 = .ok (.iconst 0, 1) := by decide +kernel
theorem dX12_wiresOf_11 : decode cX12_wiresOf 11 = .ok (.goto 13, 3) := by decide +kernel
theorem dX12_wiresOf_14 : decode cX12_wiresOf 14 = .ok (.iload_n 1, 1) := by decide +kernel
theorem dX12_wiresOf_15 : decode cX12_wiresOf 15 = .ok (.iconst 2, 1) := by decide +kernel
theorem dX12_wiresOf_16 : decode cX12_wiresOf 16 = .ok (.if_icmp .ne 7, 3) := by decide +kernel
theorem dX12_wiresOf_19 : decode cX12_wiresOf 19 = .ok (.iconst 1, 1) := by decide +kernel
theorem dX12_wiresOf_20 : decode cX12_wiresOf 20 = .ok (.goto 4, 3) := by decide +kernel
theorem dX12_wiresOf_23 : decode cX12_wiresOf 23 = .ok (.iload_n 1, 1) := by decide +kernel
theorem dX12_wiresOf_24 : decode cX12_wiresOf 24 = .ok (.ireturn, 1) := by decide +kernel
theorem dX12_lengthOf_0 : decode cX12_lengthOf 0 = .ok (.iload_n 2, 1) := by decide +kernel
theorem dX12_lengthOf_1 : decode cX12_lengthOf 1 = .ok (.invokestatic 349, 3) := by decide +kernel
theorem dX12_lengthOf_4 : decode cX12_lengthOf 4 = .ok (.istore_n 3, 1) := by decide +kernel
theorem dX12_lengthOf_5 : decode cX12_lengthOf 5 = .ok (.iload_n 3, 1) := by decide +kernel
theorem dX12_lengthOf_6 : decode cX12_lengthOf 6 = .ok (.iconst 2, 1) := by decide +kernel
theorem dX12_lengthOf_7 : decode cX12_lengthOf 7 = .ok (.if_icmp .ge 5, 3) := by decide +kernel
theorem dX12_lengthOf_10 : decode cX12_lengthOf 10 = .ok (.iconst 0, 1) := by decide +kernel
theorem dX12_lengthOf_11 : decode cX12_lengthOf 11 = .ok (.ireturn, 1) := by decide +kernel
theorem dX12_lengthOf_12 : decode cX12_lengthOf 12 = .ok (.iload_n 3, 1) := by decide +kernel
theorem dX12_lengthOf_13 : decode cX12_lengthOf 13 = .ok (.iconst 2, 1) := by decide +kernel
theorem dX12_lengthOf_14 : decode cX12_lengthOf 14 = .ok (.if_icmp .ne 32, 3) := by decide +kernel
theorem dX12_lengthOf_17 : decode cX12_lengthOf 17 = .ok (.iload_n 2, 1) := by decide +kernel
theorem dX12_lengthOf_18 : decode cX12_lengthOf 18 = .ok (.invokestatic 356, 3) := by decide +kernel
theorem dX12_lengthOf_21 : decode cX12_lengthOf 21 = .ok (.istore 4, 2) := by decide +kernel
theorem dX12_lengthOf_23 : decode cX12_lengthOf 23 = .ok (.aload_n 0, 1) := by decide +kernel
theorem dX12_lengthOf_24 : decode cX12_lengthOf 24 = .ok (.iload_n 1, 1) := by decide +kernel
theorem dX12_lengthOf_25 : decode cX12_lengthOf 25 = .ok (.iload_n 2, 1) := by decide +kernel
theorem dX12_lengthOf_26 : decode cX12_lengthOf 26 = .ok (.aload_n 0, 1) := by decide +kernel
theorem dX12_lengthOf_27 : decode cX12_lengthOf 27 = .ok (.iload_n 1, 1) := by decide +kernel
theorem dX12_lengthOf_28 : decode cX12_lengthOf 28 = .ok (.iload 4, 2) := by decide +kernel
theorem dX12_lengthOf_30 : decode cX12_lengthOf 30 = .ok (.invokevirtual 346, 3) := by decide +kernel
theorem dX12_lengthOf_33 : decode cX12_lengthOf 33 = .ok (.invokevirtual 352, 3) := by decide +kernel
theorem dX12_lengthOf_36 : decode cX12_lengthOf 36 = .ok (.iconst 2, 1) := by decide +kernel
theorem dX12_lengthOf_37 : decode cX12_lengthOf 37 = .ok (.aload_n 0, 1) := by decide +kernel
theorem dX12_lengthOf_38 : decode cX12_lengthOf 38 = .ok (.getfield 17, 3) := by decide +kernel
theorem dX12_lengthOf_41 : decode cX12_lengthOf 41 = .ok (.iconst 0, 1) := by decide +kernel
theorem dX12_lengthOf_42 : decode cX12_lengthOf 42 = .ok (.iaload, 1) := by decide +kernel
theorem dX12_lengthOf_43 : decode cX12_lengthOf 43 = .ok (.imul, 1) := by decide +kernel
theorem dX12_lengthOf_44 : decode cX12_lengthOf 44 = .ok (.iadd, 1) := by decide +kernel
theorem dX12_lengthOf_45 : decode cX12_lengthOf 45 = .ok (.ireturn, 1) := by decide +kernel
theorem dX12_lengthOf_46 : decode cX12_lengthOf 46 = .ok (.aload_n 0, 1) := by decide +kernel
theorem dX12_lengthOf_47 : decode cX12_lengthOf 47 = .ok (.iload_n 1, 1) := by decide +kernel
theorem dX12_lengthOf_48 : decode cX12_lengthOf 48 = .ok (.iload_n 2, 1) := by decide +kernel
theorem dX12_lengthOf_49 : decode cX12_lengthOf 49 = .ok (.aload_n 0, 1) := by decide +kernel
theorem dX12_lengthOf_50 : decode cX12_lengthOf 50 = .ok (.iload_n 1, 1) := by decide +kernel
theorem dX12_lengthOf_51 : decode cX12_lengthOf 51 = .ok (.iload_n 2, 1) := by decide +kernel
theorem dX12_lengthOf_52 : decode cX12_lengthOf 52 = .ok (.invokevirtual 359, 3) := by decide +kernel
theorem dX12_lengthOf_55 : decode cX12_lengthOf 55 = .ok (.invokevirtual 352, 3) := by decide +kernel
theorem dX12_lengthOf_58 : decode cX12_lengthOf 58 = .ok (.iload_n 3, 1) := by decide +kernel
theorem dX12_lengthOf_59 : decode cX12_lengthOf 59 = .ok (.aload_n 0, 1) := by decide +kernel
theorem dX12_lengthOf_60 : decode cX12_lengthOf 60 = .ok (.getfield 17, 3) := by decide +kernel
theorem dX12_lengthOf_63 : decode cX12_lengthOf 63 = .ok (.iconst 0, 1) := by decide +kernel
theorem dX12_lengthOf_64 : decode cX12_lengthOf 64 = .ok (.iaload, 1) := by decide +kernel
theorem dX12_lengthOf_65 : decode cX12_lengthOf 65 = .ok (.aload_n 0, 1) := by decide +kernel
theorem dX12_lengthOf_66 : decode cX12_lengthOf 66 = .ok (.getfield 17, 3) := by decide +kernel
theorem dX12_lengthOf_69 : decode cX12_lengthOf 69 = .ok (.iconst 1, 1) := by decide +kernel
theorem dX12_lengthOf_70 : decode cX12_lengthOf 70 = .ok (.iaload, 1) := by decide +kernel
theorem dX12_lengthOf_71 : decode cX12_lengthOf 71 = .ok (.iadd, 1) := by decide +kernel
theorem dX12_lengthOf_72 : decode cX12_lengthOf 72 = .ok (.imul, 1) := by decide +kernel
theorem dX12_lengthOf_73 : decode cX12_lengthOf 73 = .ok (.iadd, 1) := by decide +kernel
theorem dX12_lengthOf_74 : decode cX12_lengthOf 74 = .ok (.ireturn, 1) := by decide +kernel
theorem dX12_countOf_0 : decode cX12_countOf 0 = .ok (.iload_n 2, 1) := by decide +kernel
theorem dX12_countOf_1 : decode cX12_countOf 1 = .ok (.invokestatic 349, 3) := by decide +kernel
theorem dX12_countOf_4 : decode cX12_countOf 4 = .ok (.istore 4, 2) := by decide +kernel
theorem dX12_countOf_6 : decode cX12_countOf 6 = .ok (.iload 4, 2) := by decide +kernel
theorem dX12_countOf_8 : decode cX12_countOf 8 = .ok (.iconst 2, 1) := by decide +kernel
theorem dX12_countOf_9 : decode cX12_countOf 9 = .ok (.if_icmp .ge 5, 3) := by decide +kernel
theorem dX12_countOf_12 : decode cX12_countOf 12 = .ok (.iconst 0, 1) := by decide +kernel
theorem dX12_countOf_13 : decode cX12_countOf 13 = .ok (.ireturn, 1) := by decide +kernel
theorem dX12_countOf_14 : decode cX12_countOf 14 = .ok (.iload 4, 2) := by decide +kernel
theorem dX12_countOf_16 : decode cX12_countOf 16 = .ok (.iconst 2, 1) := by decide +kernel
theorem dX12_countOf_17 : decode cX12_countOf 17 = .ok (.if_icmp .ne 15, 3) := by decide +kernel
theorem dX12_countOf_20 : decode cX12_countOf 20 = .ok (.aload_n 0, 1) := by decide +kernel
theorem dX12_countOf_21 : decode cX12_countOf 21 = .ok (.iload_n 1, 1) := by decide +kernel
theorem dX12_countOf_22 : decode cX12_countOf 22 = .ok (.iload_n 2, 1) := by decide +kernel
theorem dX12_countOf_23 : decode cX12_countOf 23 = .ok (.invokestatic 356, 3) := by decide +kernel
theorem dX12_countOf_26 : decode cX12_countOf 26 = .ok (.invokevirtual 346, 3) := by decide +kernel
theorem dX12_countOf_29 : decode cX12_countOf 29 = .ok (.goto 9, 3) := by decide +kernel
theorem dX12_countOf_32 : decode cX12_countOf 32 = .ok (.aload_n 0, 1) := by decide +kernel
theorem dX12_countOf_33 : decode cX12_countOf 33 = .ok (.iload_n 1, 1) := by decide +kernel
theorem dX12_countOf_34 : decode cX12_countOf 34 = .ok (.iload_n 2, 1) := by decide +kernel
theorem dX12_countOf_35 : decode cX12_countOf 35 = .ok (.invokevirtual 359, 3) := by decide +kernel
theorem dX12_countOf_38 : decode cX12_countOf 38 = .ok (.istore 5, 2) := by decide +kernel
theorem dX12_countOf_40 : decode cX12_countOf 40 = .ok (.iconst 0, 1) := by decide +kernel
theorem dX12_countOf_41 : decode cX12_countOf 41 = .ok (.istore 6, 2) := by decide +kernel
theorem dX12_countOf_43 : decode cX12_countOf 43 = .ok (.iconst 0, 1) := by decide +kernel
theorem dX12_countOf_44 : decode cX12_countOf 44 = .ok (.istore 7, 2) := by decide +kernel
theorem dX12_countOf_46 : decode cX12_countOf 46 = .ok (.iload 7, 2) := by decide +kernel
theorem dX12_countOf_48 : decode cX12_countOf 48 = .ok (.iconst 5, 1) := by decide +kernel
theorem dX12_countOf_49 : decode cX12_countOf 49 = .ok (.if_icmp .ge 45, 3) := by decide +kernel
theorem dX12_countOf_52 : decode cX12_countOf 52 = .ok (.iload 6, 2) := by decide +kernel
theorem dX12_countOf_54 : decode cX12_countOf 54 = .ok (.iload_n 2, 1) := by decide +kernel
theorem dX12_countOf_55 : decode cX12_countOf 55 = .ok (.iload 7, 2) := by decide +kernel
theorem dX12_countOf_57 : decode cX12_countOf 57 = .ok (.invokestatic 343, 3) := by decide +kernel
theorem dX12_countOf_60 : decode cX12_countOf 60 = .ok (.ifCond .eq 24, 3) := by decide +kernel
theorem dX12_countOf_63 : decode cX12_countOf 63 = .ok (.aload_n 0, 1) := by decide +kernel
theorem dX12_countOf_64 : decode cX12_countOf 64 = .ok (.iload 5, 2) := by decide +kernel
theorem dX12_countOf_66 : decode cX12_countOf 66 = .ok (.aload_n 0, 1) := by decide +kernel
theorem dX12_countOf_67 : decode cX12_countOf 67 = .ok (.iload_n 1, 1) := by decide +kernel
theorem dX12_countOf_68 : decode cX12_countOf 68 = .ok (.iload 7, 2) := by decide +kernel
theorem dX12_countOf_70 : decode cX12_countOf 70 = .ok (.invokevirtual 346, 3) := by decide +kernel
theorem dX12_countOf_73 : decode cX12_countOf 73 = .ok (.iload_n 3, 1) := by decide +kernel
theorem dX12_countOf_74 : decode cX12_countOf 74 = .ok (.invokevirtual 282, 3) := by decide +kernel
theorem dX12_countOf_77 : decode cX12_countOf 77 = .ok (.ifCond .eq 7, 3) := by decide +kernel
theorem dX12_countOf_80 : decode cX12_countOf 80 = .ok (.iconst 1, 1) := by decide +kernel
theorem dX12_countOf_81 : decode cX12_countOf 81 = .ok (.goto 4, 3) := by decide +kernel
theorem dX12_countOf_84 : decode cX12_countOf 84 = .ok (.iconst 0, 1) := by decide +kernel
theorem dX12_countOf_85 : decode cX12_countOf 85 = .ok (.iadd, 1) := by decide +kernel
theorem dX12_countOf_86 : decode cX12_countOf 86 = .ok (.istore 6, 2) := by decide +kernel
theorem dX12_countOf_88 : decode cX12_countOf 88 = .ok (.iinc 7 1, 3) := by decide +kernel
theorem dX12_countOf_91 : decode cX12_countOf 91 = .ok (.goto (-45), 3) := by decide +kernel
theorem dX12_countOf_94 : decode cX12_countOf 94 = .ok (.iload 6, 2) := by decide +kernel
theorem dX12_countOf_96 : decode cX12_countOf 96 = .ok (.ireturn, 1) := by decide +kernel
theorem dX12_bodyOf_0 : decode cX12_bodyOf 0 = .ok (.iconst 0, 1) := by decide +kernel
theorem dX12_bodyOf_1 : decode cX12_bodyOf 1 = .ok (.istore_n 3, 1) := by decide +kernel
theorem dX12_bodyOf_2 : decode cX12_bodyOf 2 = .ok (.iconst 0, 1) := by decide +kernel
theorem dX12_bodyOf_3 : decode cX12_bodyOf 3 = .ok (.istore 4, 2) := by decide +kernel
theorem dX12_bodyOf_5 : decode cX12_bodyOf 5 = .ok (.iload 4, 2) := by decide +kernel
theorem dX12_bodyOf_7 : decode cX12_bodyOf 7 = .ok (.aload_n 0, 1) := by decide +kernel
theorem dX12_bodyOf_8 : decode cX12_bodyOf 8 = .ok (.getfield 17, 3) := by decide +kernel
theorem dX12_bodyOf_11 : decode cX12_bodyOf 11 = .ok (.iconst 5, 1) := by decide +kernel
theorem dX12_bodyOf_12 : decode cX12_bodyOf 12 = .ok (.iaload, 1) := by decide +kernel
theorem dX12_bodyOf_13 : decode cX12_bodyOf 13 = .ok (.if_icmp .ge 42, 3) := by decide +kernel
theorem dX12_bodyOf_16 : decode cX12_bodyOf 16 = .ok (.iload_n 3, 1) := by decide +kernel
theorem dX12_bodyOf_17 : decode cX12_bodyOf 17 = .ok (.aload_n 0, 1) := by decide +kernel
theorem dX12_bodyOf_18 : decode cX12_bodyOf 18 = .ok (.iload 4, 2) := by decide +kernel
theorem dX12_bodyOf_20 : decode cX12_bodyOf 20 = .ok (.aload_n 0, 1) := by decide +kernel
theorem dX12_bodyOf_21 : decode cX12_bodyOf 21 = .ok (.iload_n 1, 1) := by decide +kernel
theorem dX12_bodyOf_22 : decode cX12_bodyOf 22 = .ok (.iload 4, 2) := by decide +kernel
theorem dX12_bodyOf_24 : decode cX12_bodyOf 24 = .ok (.invokevirtual 362, 3) := by decide +kernel
theorem dX12_bodyOf_27 : decode cX12_bodyOf 27 = .ok (.iload_n 2, 1) := by decide +kernel
theorem dX12_bodyOf_28 : decode cX12_bodyOf 28 = .ok (.invokevirtual 365, 3) := by decide +kernel
theorem dX12_bodyOf_31 : decode cX12_bodyOf 31 = .ok (.aload_n 0, 1) := by decide +kernel
theorem dX12_bodyOf_32 : decode cX12_bodyOf 32 = .ok (.iload 4, 2) := by decide +kernel
theorem dX12_bodyOf_34 : decode cX12_bodyOf 34 = .ok (.iconst 1, 1) := by decide +kernel
theorem dX12_bodyOf_35 : decode cX12_bodyOf 35 = .ok (.invokevirtual 319, 3) := by decide +kernel
theorem dX12_bodyOf_38 : decode cX12_bodyOf 38 = .ok (.imul, 1) := by decide +kernel
theorem dX12_bodyOf_39 : decode cX12_bodyOf 39 = .ok (.aload_n 0, 1) := by decide +kernel
theorem dX12_bodyOf_40 : decode cX12_bodyOf 40 = .ok (.iload 4, 2) := by decide +kernel
theorem dX12_bodyOf_42 : decode cX12_bodyOf 42 = .ok (.iconst 1, 1) := by decide +kernel
theorem dX12_bodyOf_43 : decode cX12_bodyOf 43 = .ok (.invokevirtual 319, 3) := by decide +kernel
theorem dX12_bodyOf_46 : decode cX12_bodyOf 46 = .ok (.imul, 1) := by decide +kernel
theorem dX12_bodyOf_47 : decode cX12_bodyOf 47 = .ok (.iadd, 1) := by decide +kernel
theorem dX12_bodyOf_48 : decode cX12_bodyOf 48 = .ok (.istore_n 3, 1) := by decide +kernel
