theorem dX7_breaks_161 : decode cX7_breaks 161 = .ok (.aload_n 0, 1) := by decide +kernel
theorem dX7_breaks_162 : decode cX7_breaks 162 = .ok (.getfield 7, 3) := by decide +kernel
theorem dX7_breaks_165 : decode cX7_breaks 165 = .ok (.bipush 6, 2) := by decide +kernel
theorem dX7_breaks_167 : decode cX7_breaks 167 = .ok (.dup2, 1) := by decide +kernel
theorem dX7_breaks_168 : decode cX7_breaks 168 = .ok (.iaload, 1) := by decide +kernel
theorem dX7_breaks_169 : decode cX7_breaks 169 = .ok (.iconst 1, 1) := by decide +kernel
theorem dX7_breaks_170 : decode cX7_breaks 170 = .ok (.iload_n 1, 1) := by decide +kernel
theorem dX7_breaks_171 : decode cX7_breaks 171 = .ok (.ishl, 1) := by decide +kernel
theorem dX7_breaks_172 : decode cX7_breaks 172 = .ok (.ior, 1) := by decide +kernel
theorem dX7_breaks_173 : decode cX7_breaks 173 = .ok (.iastore, 1) := by decide +kernel
theorem dX7_breaks_174 : decode cX7_breaks 174 = .ok (.return_, 1) := by decide +kernel
theorem dX7_tick_0 : decode cX7_tick 0 = .ok (.iconst 0, 1) := by decide +kernel
theorem dX7_tick_1 : decode cX7_tick 1 = .ok (.istore_n 1, 1) := by decide +kernel
theorem dX7_tick_2 : decode cX7_tick 2 = .ok (.iconst 0, 1) := by decide +kernel
theorem dX7_tick_3 : decode cX7_tick 3 = .ok (.istore_n 2, 1) := by decide +kernel
theorem dX7_tick_4 : decode cX7_tick 4 = .ok (.iload_n 2, 1) := by decide +kernel
theorem dX7_tick_5 : decode cX7_tick 5 = .ok (.aload_n 0, 1) := by decide +kernel
theorem dX7_tick_6 : decode cX7_tick 6 = .ok (.getfield 7, 3) := by decide +kernel
theorem dX7_tick_9 : decode cX7_tick 9 = .ok (.iconst 0, 1) := by decide +kernel
theorem dX7_tick_10 : decode cX7_tick 10 = .ok (.iaload, 1) := by decide +kernel
theorem dX7_tick_11 : decode cX7_tick 11 = .ok (.if_icmp .ge 27, 3) := by decide +kernel
theorem dX7_tick_14 : decode cX7_tick 14 = .ok (.iload_n 1, 1) := by decide +kernel
theorem dX7_tick_15 : decode cX7_tick 15 = .ok (.aload_n 0, 1) := by decide +kernel
theorem dX7_tick_16 : decode cX7_tick 16 = .ok (.iload_n 2, 1) := by decide +kernel
theorem dX7_tick_17 : decode cX7_tick 17 = .ok (.invokevirtual 79, 3) := by decide +kernel
theorem dX7_tick_20 : decode cX7_tick 20 = .ok (.ifCond .eq 9, 3) := by decide +kernel
theorem dX7_tick_23 : decode cX7_tick 23 = .ok (.iconst 1, 1) := by decide +kernel
theorem dX7_tick_24 : decode cX7_tick 24 = .ok (.iload_n 2, 1) := by decide +kernel
theorem dX7_tick_25 : decode cX7_tick 25 = .ok (.ishl, 1) := by decide +kernel
theorem dX7_tick_26 : decode cX7_tick 26 = .ok (.goto 4, 3) := by decide +kernel
theorem dX7_tick_29 : decode cX7_tick 29 = .ok (.iconst 0, 1) := by decide +kernel
theorem dX7_tick_30 : decode cX7_tick 30 = .ok (.ior, 1) := by decide +kernel
theorem dX7_tick_31 : decode cX7_tick 31 = .ok (.istore_n 1, 1) := by decide +kernel
theorem dX7_tick_32 : decode cX7_tick 32 = .ok (.iinc 2 1, 3) := by decide +kernel
theorem dX7_tick_35 : decode cX7_tick 35 = .ok (.goto (-31), 3) := by decide +kernel
theorem dX7_tick_38 : decode cX7_tick 38 = .ok (.aload_n 0, 1) := by decide +kernel
theorem dX7_tick_39 : decode cX7_tick 39 = .ok (.iload_n 1, 1) := by decide +kernel
theorem dX7_tick_40 : decode cX7_tick 40 = .ok (.invokevirtual 82, 3) := by decide +kernel
theorem dX7_tick_43 : decode cX7_tick 43 = .ok (.istore_n 2, 1) := by decide +kernel
theorem dX7_tick_44 : decode cX7_tick 44 = .ok (.iload_n 2, 1) := by decide +kernel
theorem dX7_tick_45 : decode cX7_tick 45 = .ok (.ifCond .lt 8, 3) := by decide +kernel
theorem dX7_tick_48 : decode cX7_tick 48 = .ok (.aload_n 0, 1) := by decide +kernel
theorem dX7_tick_49 : decode cX7_tick 49 = .ok (.iload_n 2, 1) := by decide +kernel
theorem dX7_tick_50 : decode cX7_tick 50 = .ok (.invokevirtual 85, 3) := by decide +kernel
theorem dX7_tick_53 : decode cX7_tick 53 = .ok (.iconst 0, 1) := by decide +kernel
theorem dX7_tick_54 : decode cX7_tick 54 = .ok (.istore_n 3, 1) := by decide +kernel
theorem dX7_tick_55 : decode cX7_tick 55 = .ok (.iload_n 3, 1) := by decide +kernel
theorem dX7_tick_56 : decode cX7_tick 56 = .ok (.aload_n 0, 1) := by decide +kernel
theorem dX7_tick_57 : decode cX7_tick 57 = .ok (.getfield 7, 3) := by decide +kernel
theorem dX7_tick_60 : decode cX7_tick 60 = .ok (.iconst 0, 1) := by decide +kernel
theorem dX7_tick_61 : decode cX7_tick 61 = .ok (.iaload, 1) := by decide +kernel
theorem dX7_tick_62 : decode cX7_tick 62 = .ok (.if_icmp .ge 85, 3) := by decide +kernel
theorem dX7_tick_65 : decode cX7_tick 65 = .ok (.aload_n 0, 1) := by decide +kernel
theorem dX7_tick_66 : decode cX7_tick 66 = .ok (.getfield 7, 3) := by decide +kernel
theorem dX7_tick_69 : decode cX7_tick 69 = .ok (.iload_n 3, 1) := by decide +kernel
theorem dX7_tick_70 : decode cX7_tick 70 = .ok (.iconst 1, 1) := by decide +kernel
theorem dX7_tick_71 : decode cX7_tick 71 = .ok (.invokestatic 52, 3) := by decide +kernel
theorem dX7_tick_74 : decode cX7_tick 74 = .ok (.iload_n 1, 1) := by decide +kernel
theorem dX7_tick_75 : decode cX7_tick 75 = .ok (.iload_n 3, 1) := by decide +kernel
theorem dX7_tick_76 : decode cX7_tick 76 = .ok (.ishr, 1) := by decide +kernel
theorem dX7_tick_77 : decode cX7_tick 77 = .ok (.iconst 1, 1) := by decide +kernel
theorem dX7_tick_78 : decode cX7_tick 78 = .ok (.iand, 1) := by decide +kernel
theorem dX7_tick_79 : decode cX7_tick 79 = .ok (.iconst 1, 1) := by decide +kernel
theorem dX7_tick_80 : decode cX7_tick 80 = .ok (.if_icmp .ne 19, 3) := by decide +kernel
theorem dX7_tick_83 : decode cX7_tick 83 = .ok (.iload_n 3, 1) := by decide +kernel
theorem dX7_tick_84 : decode cX7_tick 84 = .ok (.iload_n 2, 1) := by decide +kernel
theorem dX7_tick_85 : decode cX7_tick 85 = .ok (.if_icmp .eq 14, 3) := by decide +kernel
theorem dX7_tick_88 : decode cX7_tick 88 = .ok (.aload_n 0, 1) := by decide +kernel
theorem dX7_tick_89 : decode cX7_tick 89 = .ok (.iload_n 3, 1) := by decide +kernel
theorem dX7_tick_90 : decode cX7_tick 90 = .ok (.iconst 1, 1) := by decide +kernel
theorem dX7_tick_91 : decode cX7_tick 91 = .ok (.invokevirtual 59, 3) := by decide +kernel
theorem dX7_tick_94 : decode cX7_tick 94 = .ok (.iconst 1, 1) := by decide +kernel
theorem dX7_tick_95 : decode cX7_tick 95 = .ok (.iadd, 1) := by decide +kernel
theorem dX7_tick_96 : decode cX7_tick 96 = .ok (.goto 4, 3) := by decide +kernel
theorem dX7_tick_99 : decode cX7_tick 99 = .ok (.iconst 0, 1) := by decide +kernel
theorem dX7_tick_100 : decode cX7_tick 100 = .ok (.iastore, 1) := by decide +kernel
theorem dX7_tick_101 : decode cX7_tick 101 = .ok (.aload_n 0, 1) := by decide +kernel
theorem dX7_tick_102 : decode cX7_tick 102 = .ok (.getfield 7, 3) := by decide +kernel
theorem dX7_tick_105 : decode cX7_tick 105 = .ok (.iload_n 3, 1) := by decide +kernel
theorem dX7_tick_106 : decode cX7_tick 106 = .ok (.iconst 2, 1) := by decide +kernel
theorem dX7_tick_107 : decode cX7_tick 107 = .ok (.invokestatic 52, 3) := by decide +kernel
theorem dX7_tick_110 : decode cX7_tick 110 = .ok (.aload_n 0, 1) := by decide +kernel
theorem dX7_tick_111 : decode cX7_tick 111 = .ok (.iload_n 3, 1) := by decide +kernel
theorem dX7_tick_112 : decode cX7_tick 112 = .ok (.iconst 1, 1) := by decide +kernel
theorem dX7_tick_113 : decode cX7_tick 113 = .ok (.invokevirtual 59, 3) := by decide +kernel
theorem dX7_tick_116 : decode cX7_tick 116 = .ok (.aload_n 0, 1) := by decide +kernel
theorem dX7_tick_117 : decode cX7_tick 117 = .ok (.iload_n 3, 1) := by decide +kernel
theorem dX7_tick_118 : decode cX7_tick 118 = .ok (.iconst 2, 1) := by decide +kernel
theorem dX7_tick_119 : decode cX7_tick 119 = .ok (.invokevirtual 59, 3) := by decide +kernel
theorem dX7_tick_122 : decode cX7_tick 122 = .ok (.if_icmp .le 12, 3) := by decide +kernel
theorem dX7_tick_125 : decode cX7_tick 125 = .ok (.aload_n 0, 1) := by decide +kernel
theorem dX7_tick_126 : decode cX7_tick 126 = .ok (.iload_n 3, 1) := by decide +kernel
theorem dX7_tick_127 : decode cX7_tick 127 = .ok (.iconst 1, 1) := by decide +kernel
theorem dX7_tick_128 : decode cX7_tick 128 = .ok (.invokevirtual 59, 3) := by decide +kernel
theorem dX7_tick_131 : decode cX7_tick 131 = .ok (.goto 9, 3) := by decide +kernel
theorem dX7_tick_134 : decode cX7_tick 134 = .ok (.aload_n 0, 1) := by decide +kernel
theorem dX7_tick_135 : decode cX7_tick 135 = .ok (.iload_n 3, 1) := by decide +kernel
theorem dX7_tick_136 : decode cX7_tick 136 = .ok (.iconst 2, 1) := by decide +kernel
theorem dX7_tick_137 : decode cX7_tick 137 = .ok (.invokevirtual 59, 3) := by decide +kernel
theorem dX7_tick_140 : decode cX7_tick 140 = .ok (.iastore, 1) := by decide +kernel
theorem dX7_tick_141 : decode cX7_tick 141 = .ok (.iinc 3 1, 3) := by decide +kernel
theorem dX7_tick_144 : decode cX7_tick 144 = .ok (.goto (-89), 3) := by decide +kernel
theorem dX7_tick_147 : decode cX7_tick 147 = .ok (.iconst 0, 1) := by decide +kernel
theorem dX7_tick_148 : decode cX7_tick 148 = .ok (.istore_n 3, 1) := by decide +kernel
theorem dX7_tick_149 : decode cX7_tick 149 = .ok (.iload_n 3, 1) := by decide +kernel
theorem dX7_tick_150 : decode cX7_tick 150 = .ok (.aload_n 0, 1) := by decide +kernel
theorem dX7_tick_151 : decode cX7_tick 151 = .ok (.getfield 7, 3) := by decide +kernel
theorem dX7_tick_154 : decode cX7_tick 154 = .ok (.iconst 0, 1) := by decide +kernel
theorem dX7_tick_155 : decode cX7_tick 155 = .ok (.iaload, 1) := by decide +kernel
theorem dX7_tick_156 : decode cX7_tick 156 = .ok (.if_icmp .ge 37, 3) := by decide +kernel
theorem dX7_tick_159 : decode cX7_tick 159 = .ok (.aload_n 0, 1) := by decide +kernel
theorem dX7_tick_160 : decode cX7_tick 160 = .ok (.iload_n 3, 1) := by decide +kernel
theorem dX7_tick_161 : decode cX7_tick 161 = .ok (.invokevirtual 66, 3) := by decide +kernel
theorem dX7_tick_164 : decode cX7_tick 164 = .ok (.ifCond .ne 23, 3) := by decide +kernel
theorem dX7_tick_167 : decode cX7_tick 167 = .ok (.aload_n 0, 1) := by decide +kernel
theorem dX7_tick_168 : decode cX7_tick 168 = .ok (.iload_n 3, 1) := by decide +kernel
theorem dX7_tick_169 : decode cX7_tick 169 = .ok (.invokevirtual 70, 3) := by decide +kernel
theorem dX7_tick_172 : decode cX7_tick 172 = .ok (.iconst 4, 1) := by decide +kernel
theorem dX7_tick_173 : decode cX7_tick 173 = .ok (.aload_n 0, 1) := by decide +kernel
theorem dX7_tick_174 : decode cX7_tick 174 = .ok (.iload_n 3, 1) := by decide +kernel
theorem dX7_tick_175 : decode cX7_tick 175 = .ok (.invokevirtual 89, 3) := by decide +kernel
theorem dX7_tick_178 : decode cX7_tick 178 = .ok (.imul, 1) := by decide +kernel
theorem dX7_tick_179 : decode cX7_tick 179 = .ok (.if_icmp .le 8, 3) := by decide +kernel
theorem dX7_tick_182 : decode cX7_tick 182 = .ok (.aload_n 0, 1) := by decide +kernel
theorem dX7_tick_183 : decode cX7_tick 183 = .ok (.iload_n 3, 1) := by decide +kernel
theorem dX7_tick_184 : decode cX7_tick 184 = .ok (.invokevirtual 92, 3) := by decide +kernel
theorem dX7_tick_187 : decode cX7_tick 187 = .ok (.iinc 3 1, 3) := by decide +kernel
theorem dX7_tick_190 : decode cX7_tick 190 = .ok (.goto (-41), 3) := by decide +kernel
theorem dX7_tick_193 : decode cX7_tick 193 = .ok (.aload_n 0, 1) := by decide +kernel
theorem dX7_tick_194 : decode cX7_tick 194 = .ok (.getfield 7, 3) := by decide +kernel
theorem dX7_tick_197 : decode cX7_tick 197 = .ok (.iconst 3, 1) := by decide +kernel
theorem dX7_tick_198 : decode cX7_tick 198 = .ok (.dup2, 1) := by decide +kernel
theorem dX7_tick_199 : decode cX7_tick 199 = .ok (.iaload, 1) := by decide +kernel
theorem dX7_tick_200 : decode cX7_tick 200 = .ok (.iload_n 2, 1) := by decide +kernel
theorem dX7_tick_201 : decode cX7_tick 201 = .ok (.ifCond .ge 7, 3) := by decide +kernel
theorem dX7_tick_204 : decode cX7_tick 204 = .ok (.iconst 1, 1) := by decide +kernel
theorem dX7_tick_205 : decode cX7_tick 205 = .ok (.goto 4, 3) := by decide +kernel
theorem dX7_tick_208 : decode cX7_tick 208 = .ok (.iconst 0, 1) := by decide +kernel
theorem dX7_tick_209 : decode cX7_tick 209 = .ok (.iadd, 1) := by decide +kernel
theorem dX7_tick_210 : decode cX7_tick 210 = .ok (.iastore, 1) := by decide +kernel
theorem dX7_tick_211 : decode cX7_tick 211 = .ok (.aload_n 0, 1) := by decide +kernel
theorem dX7_tick_212 : decode cX7_tick 212 = .ok (.getfield 7, 3) := by decide +kernel
theorem dX7_tick_215 : decode cX7_tick 215 = .ok (.iconst 5, 1) := by decide +kernel
theorem dX7_tick_216 : decode cX7_tick 216 = .ok (.iload_n 2, 1) := by decide +kernel
theorem dX7_tick_217 : decode cX7_tick 217 = .ok (.ifCond .ge 8, 3) := by decide +kernel
theorem dX7_tick_220 : decode cX7_tick 220 = .ok (.bipush (-9), 2) := by decide +kernel
theorem dX7_tick_222 : decode cX7_tick 222 = .ok (.goto 4, 3) := by decide +kernel
theorem dX7_tick_225 : decode cX7_tick 225 = .ok (.iload_n 2, 1) := by decide +kernel
theorem dX7_tick_226 : decode cX7_tick 226 = .ok (.iastore, 1) := by decide +kernel
theorem dX7_tick_227 : decode cX7_tick 227 = .ok (.aload_n 0, 1) := by decide +kernel
theorem dX7_tick_228 : decode cX7_tick 228 = .ok (.getfield 7, 3) := by decide +kernel
theorem dX7_tick_231 : decode cX7_tick 231 = .ok (.iconst 2, 1) := by decide +kernel
theorem dX7_tick_232 : decode cX7_tick 232 = .ok (.dup2, 1) := by decide +kernel
theorem dX7_tick_233 : decode cX7_tick 233 = .ok (.iaload, 1) := by decide +kernel
theorem dX7_tick_234 : decode cX7_tick 234 = .ok (.iconst 1, 1) := by decide +kernel
theorem dX7_tick_235 : decode cX7_tick 235 = .ok (.iadd, 1) := by decide +kernel
theorem dX7_tick_236 : decode cX7_tick 236 = .ok (.iastore, 1) := by decide +kernel
theorem dX7_tick_237 : decode cX7_tick 237 = .ok (.iload_n 2, 1) := by decide +kernel
theorem dX7_tick_238 : decode cX7_tick 238 = .ok (.ireturn, 1) := by decide +kernel
theorem dX7_passes_0 : decode cX7_passes 0 = .ok (.iconst 0, 1) := by decide +kernel
theorem dX7_passes_1 : decode cX7_passes 1 = .ok (.istore_n 2, 1) := by decide +kernel
theorem dX7_passes_2 : decode cX7_passes 2 = .ok (.iconst 0, 1) := by decide +kernel
theorem dX7_passes_3 : decode cX7_passes 3 = .ok (.istore_n 3, 1) := by decide +kernel
theorem dX7_passes_4 : decode cX7_passes 4 = .ok (.iload_n 3, 1) := by decide +kernel
theorem dX7_passes_5 : decode cX7_passes 5 = .ok (.iload_n 1, 1) := by decide +kernel
theorem dX7_passes_6 : decode cX7_passes 6 = .ok (.if_icmp .ge 24, 3) := by decide +kernel
theorem dX7_passes_9 : decode cX7_passes 9 = .ok (.iload_n 2, 1) := by decide +kernel
theorem dX7_passes_10 : decode cX7_passes 10 = .ok (.aload_n 0, 1) := by decide +kernel
theorem dX7_passes_11 : decode cX7_passes 11 = .ok (.invokevirtual 95, 3) := by decide +kernel
theorem dX7_passes_14 : decode cX7_passes 14 = .ok (.ifCond .lt 7, 3) := by decide +kernel
theorem dX7_passes_17 : decode cX7_passes 17 = .ok (.iconst 1, 1) := by decide +kernel
theorem dX7_passes_18 : decode cX7_passes 18 = .ok (.goto 4, 3) := by decide +kernel
theorem dX7_passes_21 : decode cX7_passes 21 = .ok (.iconst 0, 1) := by decide +kernel
theorem dX7_passes_22 : decode cX7_passes 22 = .ok (.iadd, 1) := by decide +kernel
theorem dX7_passes_23 : decode cX7_passes 23 = .ok (.istore_n 2, 1) := by decide +kernel
theorem dX7_passes_24 : decode cX7_passes 24 = .ok (.iinc 3 1, 3) := by decide +kernel
theorem dX7_passes_27 : decode cX7_passes 27 = .ok (.goto (-23), 3) := by decide +kernel
theorem dX7_passes_30 : decode cX7_passes 30 = .ok (.iload_n 2, 1) := by decide +kernel
theorem dX7_passes_31 : decode cX7_passes 31 = .ok (.ireturn, 1) := by decide +kernel
theorem dX7_canSend_0 : decode cX7_canSend 0 = .ok (.aload_n 0, 1) := by decide +kernel
theorem dX7_canSend_1 : decode cX7_canSend 1 = .ok (.iload_n 1, 1) := by decide +kernel
theorem dX7_canSend_2 : decode cX7_canSend 2 = .ok (.invokevirtual 66, 3) := by decide +kernel
theorem dX7_canSend_5 : decode cX7_canSend 5 = .ok (.ifCond .ne 18, 3) := by decide +kernel
theorem dX7_canSend_8 : decode cX7_canSend 8 = .ok (.aload_n 0, 1) := by decide +kernel
theorem dX7_canSend_9 : decode cX7_canSend 9 = .ok (.iload_n 1, 1) := by decide +kernel
theorem dX7_canSend_10 : decode cX7_canSend 10 = .ok (.iconst 0, 1) := by decide +kernel
theorem dX7_canSend_11 : decode cX7_canSend 11 = .ok (.invokevirtual 59, 3) := by decide +kernel
theorem dX7_canSend_14 : decode cX7_canSend 14 = .ok (.bipush 6, 2) := by decide +kernel
theorem dX7_canSend_16 : decode cX7_canSend 16 = .ok (.if_icmp .ge 7, 3) := by decide +kernel
theorem dX7_canSend_19 : decode cX7_canSend 19 = .ok (.iconst 1, 1) := by decide +kernel
theorem dX7_canSend_20 : decode cX7_canSend 20 = .ok (.goto 4, 3) := by decide +kernel
theorem dX7_canSend_23 : decode cX7_canSend 23 = .ok (.iconst 0, 1) := by decide +kernel
theorem dX7_canSend_24 : decode cX7_canSend 24 = .ok (.ireturn, 1) := by decide +kernel
theorem dX7_sends_0 : decode cX7_sends 0 = .ok (.iload_n 1, 1) := by decide +kernel
theorem dX7_sends_1 : decode cX7_sends 1 = .ok (.bipush 8, 2) := by decide +kernel
theorem dX7_sends_3 : decode cX7_sends 3 = .ok (.iconst 3, 1) := by decide +kernel
theorem dX7_sends_4 : decode cX7_sends 4 = .ok (.aload_n 0, 1) := by decide +kernel
theorem dX7_sends_5 : decode cX7_sends 5 = .ok (.iload_n 1, 1) := by decide +kernel
theorem dX7_sends_6 : decode cX7_sends 6 = .ok (.iconst 0, 1) := by decide +kernel
theorem dX7_sends_7 : decode cX7_sends 7 = .ok (.invokevirtual 59, 3) := by decide +kernel
theorem dX7_sends_10 : decode cX7_sends 10 = .ok (.imul, 1) := by decide +kernel
theorem dX7_sends_11 : decode cX7_sends 11 = .ok (.iadd, 1) := by decide +kernel
theorem dX7_sends_12 : decode cX7_sends 12 = .ok (.invokestatic 52, 3) := by decide +kernel
theorem dX7_sends_15 : decode cX7_sends 15 = .ok (.istore 5, 2) := by decide +kernel
theorem dX7_sends_17 : decode cX7_sends 17 = .ok (.aload_n 0, 1) := by decide +kernel
theorem dX7_sends_18 : decode cX7_sends 18 = .ok (.getfield 7, 3) := by decide +kernel
theorem dX7_sends_21 : decode cX7_sends 21 = .ok (.iload 5, 2) := by decide +kernel
theorem dX7_sends_23 : decode cX7_sends 23 = .ok (.iload_n 2, 1) := by decide +kernel
theorem dX7_sends_24 : decode cX7_sends 24 = .ok (.iastore, 1) := by decide +kernel
theorem dX7_sends_25 : decode cX7_sends 25 = .ok (.aload_n 0, 1) := by decide +kernel
theorem dX7_sends_26 : decode cX7_sends 26 = .ok (.getfield 7, 3) := by decide +kernel
theorem dX7_sends_29 : decode cX7_sends 29 = .ok (.iload 5, 2) := by decide +kernel
theorem dX7_sends_31 : decode cX7_sends 31 = .ok (.iconst 1, 1) := by decide +kernel
theorem dX7_sends_32 : decode cX7_sends 32 = .ok (.iadd, 1) := by decide +kernel
theorem dX7_sends_33 : decode cX7_sends 33 = .ok (.iload_n 3, 1) := by decide +kernel
theorem dX7_sends_34 : decode cX7_sends 34 = .ok (.iastore, 1) := by decide +kernel
theorem dX7_sends_35 : decode cX7_sends 35 = .ok (.aload_n 0, 1) := by decide +kernel
theorem dX7_sends_36 : decode cX7_sends 36 = .ok (.getfield 7, 3) := by decide +kernel
theorem dX7_sends_39 : decode cX7_sends 39 = .ok (.iload 5, 2) := by decide +kernel
theorem dX7_sends_41 : decode cX7_sends 41 = .ok (.iconst 2, 1) := by decide +kernel
theorem dX7_sends_42 : decode cX7_sends 42 = .ok (.iadd, 1) := by decide +kernel
theorem dX7_sends_43 : decode cX7_sends 43 = .ok (.iload 4, 2) := by decide +kernel
theorem dX7_sends_45 : decode cX7_sends 45 = .ok (.iastore, 1) := by decide +kernel
theorem dX7_sends_46 : decode cX7_sends 46 = .ok (.aload_n 0, 1) := by decide +kernel
theorem dX7_sends_47 : decode cX7_sends 47 = .ok (.getfield 7, 3) := by decide +kernel
theorem dX7_sends_50 : decode cX7_sends 50 = .ok (.iload_n 1, 1) := by decide +kernel
theorem dX7_sends_51 : decode cX7_sends 51 = .ok (.iconst 0, 1) := by decide +kernel
theorem dX7_sends_52 : decode cX7_sends 52 = .ok (.invokestatic 52, 3) := by decide +kernel
theorem dX7_sends_55 : decode cX7_sends 55 = .ok (.dup2, 1) := by decide +kernel
theorem dX7_sends_56 : decode cX7_sends 56 = .ok (.iaload, 1) := by decide +kernel
theorem dX7_sends_57 : decode cX7_sends 57 = .ok (.iconst 1, 1) := by decide +kernel
theorem dX7_sends_58 : decode cX7_sends 58 = .ok (.iadd, 1) := by decide +kernel
theorem dX7_sends_59 : decode cX7_sends 59 = .ok (.iastore, 1) := by decide +kernel
theorem dX7_sends_60 : decode cX7_sends 60 = .ok (.aload_n 0, 1) := by decide +kernel
theorem dX7_sends_61 : decode cX7_sends 61 = .ok (.iload_n 1, 1) := by decide +kernel
theorem dX7_sends_62 : decode cX7_sends 62 = .ok (.iconst 0, 1) := by decide +kernel
theorem dX7_sends_63 : decode cX7_sends 63 = .ok (.invokevirtual 59, 3) := by decide +kernel
theorem dX7_sends_66 : decode cX7_sends 66 = .ok (.ireturn, 1) := by decide +kernel
theorem dX7_append_0 : decode cX7_append 0 = .ok (.aload_n 0, 1) := by decide +kernel
theorem dX7_append_1 : decode cX7_append 1 = .ok (.iconst 0, 1) := by decide +kernel
theorem dX7_append_2 : decode cX7_append 2 = .ok (.putfield 39, 3) := by decide +kernel
theorem dX7_append_5 : decode cX7_append 5 = .ok (.iload_n 1, 1) := by decide +kernel
theorem dX7_append_6 : decode cX7_append 6 = .ok (.i2l, 1) := by decide +kernel
theorem dX7_append_7 : decode cX7_append 7 = .ok (.lconst 0, 1) := by decide +kernel
theorem dX7_append_8 : decode cX7_append 8 = .ok (.ldc2_w 99, 3) := by decide +kernel
theorem dX7_append_11 : decode cX7_append 11 = .ok (.invokestatic 46, 3) := by decide +kernel
theorem dX7_append_14 : decode cX7_append 14 = .ok (.ifCond .ne 9, 3) := by decide +kernel
theorem dX7_append_17 : decode cX7_append 17 = .ok (.aload_n 0, 1) := by decide +kernel
theorem dX7_append_18 : decode cX7_append 18 = .ok (.iconst 1, 1) := by decide +kernel
theorem dX7_append_19 : decode cX7_append 19 = .ok (.invokevirtual 101, 3) := by decide +kernel
theorem dX7_append_22 : decode cX7_append 22 = .ok (.ireturn, 1) := by decide +kernel
theorem dX7_append_23 : decode cX7_append 23 = .ok (.aload_n 0, 1) := by decide +kernel
theorem dX7_append_24 : decode cX7_append 24 = .ok (.getfield 104, 3) := by decide +kernel
theorem dX7_append_27 : decode cX7_append 27 = .ok (.bipush 120, 2) := by decide +kernel
theorem dX7_append_29 : decode cX7_append 29 = .ok (.if_icmp .ne 9, 3) := by decide +kernel
theorem dX7_append_32 : decode cX7_append 32 = .ok (.aload_n 0, 1) := by decide +kernel
theorem dX7_append_33 : decode cX7_append 33 = .ok (.iconst 2, 1) := by decide +kernel
theorem dX7_append_34 : decode cX7_append 34 = .ok (.invokevirtual 101, 3) := by decide +kernel
theorem dX7_append_37 : decode cX7_append 37 = .ok (.ireturn, 1) := by decide +kernel
theorem dX7_append_38 : decode cX7_append 38 = .ok (.aload_n 0, 1) := by decide +kernel
theorem dX7_append_39 : decode cX7_append 39 = .ok (.getfield 29, 3) := by decide +kernel
theorem dX7_append_42 : decode cX7_append 42 = .ok (.aload_n 0, 1) := by decide +kernel
theorem dX7_append_43 : decode cX7_append 43 = .ok (.getfield 104, 3) := by decide +kernel
theorem dX7_append_46 : decode cX7_append 46 = .ok (.iload_n 1, 1) := by decide +kernel
theorem dX7_append_47 : decode cX7_append 47 = .ok (.iastore, 1) := by decide +kernel
theorem dX7_append_48 : decode cX7_append 48 = .ok (.aload_n 0, 1) := by decide +kernel
theorem dX7_append_49 : decode cX7_append 49 = .ok (.dup, 1) := by decide +kernel
theorem dX7_append_50 : decode cX7_append 50 = .ok (.getfield 104, 3) := by decide +kernel
theorem dX7_append_53 : decode cX7_append 53 = .ok (.iconst 1, 1) := by decide +kernel
theorem dX7_append_54 : decode cX7_append 54 = .ok (.iadd, 1) := by decide +kernel
theorem dX7_append_55 : decode cX7_append 55 = .ok (.putfield 104, 3) := by decide +kernel
theorem dX7_append_58 : decode cX7_append 58 = .ok (.aload_n 0, 1) := by decide +kernel
theorem dX7_append_59 : decode cX7_append 59 = .ok (.getfield 104, 3) := by decide +kernel
theorem dX7_append_62 : decode cX7_append 62 = .ok (.ireturn, 1) := by decide +kernel
theorem dX7_clearText_0 : decode cX7_clearText 0 = .ok (.aload_n 0, 1) := by decide +kernel
theorem dX7_clearText_1 : decode cX7_clearText 1 = .ok (.iconst 0, 1) := by decide +kernel
theorem dX7_clearText_2 : decode cX7_clearText 2 = .ok (.putfield 39, 3) := by decide +kernel
theorem dX7_clearText_5 : decode cX7_clearText 5 = .ok (.aload_n 0, 1) := by decide +kernel
theorem dX7_clearText_6 : decode cX7_clearText 6 = .ok (.getfield 104, 3) := by decide +kernel
theorem dX7_clearText_9 : decode cX7_clearText 9 = .ok (.istore_n 1, 1) := by decide +kernel
theorem dX7_clearText_10 : decode cX7_clearText 10 = .ok (.aload_n 0, 1) := by decide +kernel
theorem dX7_clearText_11 : decode cX7_clearText 11 = .ok (.iconst 0, 1) := by decide +kernel
theorem dX7_clearText_12 : decode cX7_clearText 12 = .ok (.putfield 104, 3) := by decide +kernel
theorem dX7_clearText_15 : decode cX7_clearText 15 = .ok (.iload_n 1, 1) := by decide +kernel
theorem dX7_clearText_16 : decode cX7_clearText 16 = .ok (.ireturn, 1) := by decide +kernel
theorem dX7_sign_0 : decode cX7_sign 0 = .ok (.aload_n 0, 1) := by decide +kernel
theorem dX7_sign_1 : decode cX7_sign 1 = .ok (.getfield 107, 3) := by decide +kernel
theorem dX7_sign_4 : decode cX7_sign 4 = .ok (.aload_n 0, 1) := by decide +kernel
theorem dX7_sign_5 : decode cX7_sign 5 = .ok (.getfield 104, 3) := by decide +kernel
theorem dX7_sign_8 : decode cX7_sign 8 = .ok (.if_icmp .ge 20, 3) := by decide +kernel
theorem dX7_sign_11 : decode cX7_sign 11 = .ok (.aload_n 0, 1) := by decide +kernel
theorem dX7_sign_12 : decode cX7_sign 12 = .ok (.getfield 29, 3) := by decide +kernel
theorem dX7_sign_15 : decode cX7_sign 15 = .ok (.aload_n 0, 1) := by decide +kernel
theorem dX7_sign_16 : decode cX7_sign 16 = .ok (.getfield 107, 3) := by decide +kernel
theorem dX7_sign_19 : decode cX7_sign 19 = .ok (.iaload, 1) := by decide +kernel
theorem dX7_sign_20 : decode cX7_sign 20 = .ok (.iload_n 1, 1) := by decide +kernel
theorem dX7_sign_21 : decode cX7_sign 21 = .ok (.if_icmp .ne 7, 3) := by decide +kernel
theorem dX7_sign_24 : decode cX7_sign 24 = .ok (.iconst 1, 1) := by decide +kernel
theorem dX7_sign_25 : decode cX7_sign 25 = .ok (.goto 4, 3) := by decide +kernel
theorem dX7_sign_28 : decode cX7_sign 28 = .ok (.iconst 0, 1) := by decide +kernel
theorem dX7_sign_29 : decode cX7_sign 29 = .ok (.istore_n 2, 1) := by decide +kernel
theorem dX7_sign_30 : decode cX7_sign 30 = .ok (.aload_n 0, 1) := by decide +kernel
theorem dX7_sign_31 : decode cX7_sign 31 = .ok (.dup, 1) := by decide +kernel
theorem dX7_sign_32 : decode cX7_sign 32 = .ok (.getfield 107, 3) := by decide +kernel
theorem dX7_sign_35 : decode cX7_sign 35 = .ok (.iload_n 2, 1) := by decide +kernel
theorem dX7_sign_36 : decode cX7_sign 36 = .ok (.ifCond .eq 7, 3) := by decide +kernel
theorem dX7_sign_39 : decode cX7_sign 39 = .ok (.iconst 1, 1) := by decide +kernel
theorem dX7_sign_40 : decode cX7_sign 40 = .ok (.goto 4, 3) := by decide +kernel
theorem dX7_sign_43 : decode cX7_sign 43 = .ok (.iconst 0, 1) := by decide +kernel
theorem dX7_sign_44 : decode cX7_sign 44 = .ok (.iadd, 1) := by decide +kernel
theorem dX7_sign_45 : decode cX7_sign 45 = .ok (.putfield 107, 3) := by decide +kernel
theorem dX7_sign_48 : decode cX7_sign 48 = .ok (.iload_n 2, 1) := by decide +kernel
theorem dX7_sign_49 : decode cX7_sign 49 = .ok (.ireturn, 1) := by decide +kernel
theorem dX7_digitTo_0 : decode cX7_digitTo 0 = .ok (.aload_n 0, 1) := by decide +kernel
theorem dX7_digitTo_1 : decode cX7_digitTo 1 = .ok (.aload_n 0, 1) := by decide +kernel
theorem dX7_digitTo_2 : decode cX7_digitTo 2 = .ok (.getfield 107, 3) := by decide +kernel
theorem dX7_digitTo_5 : decode cX7_digitTo 5 = .ok (.aload_n 0, 1) := by decide +kernel
theorem dX7_digitTo_6 : decode cX7_digitTo 6 = .ok (.getfield 104, 3) := by decide +kernel
theorem dX7_digitTo_9 : decode cX7_digitTo 9 = .ok (.if_icmp .ge 18, 3) := by decide +kernel
theorem dX7_digitTo_12 : decode cX7_digitTo 12 = .ok (.aload_n 0, 1) := by decide +kernel
theorem dX7_digitTo_13 : decode cX7_digitTo 13 = .ok (.getfield 29, 3) := by decide +kernel
theorem dX7_digitTo_16 : decode cX7_digitTo 16 = .ok (.aload_n 0, 1) := by decide +kernel
theorem dX7_digitTo_17 : decode cX7_digitTo 17 = .ok (.getfield 107, 3) := by decide +kernel
theorem dX7_digitTo_20 : decode cX7_digitTo 20 = .ok (.iaload, 1) := by decide +kernel
theorem dX7_digitTo_21 : decode cX7_digitTo 21 = .ok (.bipush 48, 2) := by decide +kernel
theorem dX7_digitTo_23 : decode cX7_digitTo 23 = .ok (.isub, 1) := by decide +kernel
theorem dX7_digitTo_24 : decode cX7_digitTo 24 = .ok (.goto 4, 3) := by decide +kernel
theorem dX7_digitTo_27 : decode cX7_digitTo 27 = .ok (.iconst (-1), 1) := by decide +kernel
theorem dX7_digitTo_28 : decode cX7_digitTo 28 = .ok (.putfield 110, 3) := by decide +kernel
theorem dX7_digitTo_31 : decode cX7_digitTo 31 = .ok (.aload_n 0, 1) := by decide +kernel
theorem dX7_digitTo_32 : decode cX7_digitTo 32 = .ok (.getfield 110, 3) := by decide +kernel
theorem dX7_digitTo_35 : decode cX7_digitTo 35 = .ok (.i2l, 1) := by decide +kernel
theorem dX7_digitTo_36 : decode cX7_digitTo 36 = .ok (.iload_n 1, 1) := by decide +kernel
theorem dX7_digitTo_37 : decode cX7_digitTo 37 = .ok (.i2l, 1) := by decide +kernel
theorem dX7_digitTo_38 : decode cX7_digitTo 38 = .ok (.iload_n 2, 1) := by decide +kernel
theorem dX7_digitTo_39 : decode cX7_digitTo 39 = .ok (.i2l, 1) := by decide +kernel
theorem dX7_digitTo_40 : decode cX7_digitTo 40 = .ok (.invokestatic 46, 3) := by decide +kernel
theorem dX7_digitTo_43 : decode cX7_digitTo 43 = .ok (.istore_n 3, 1) := by decide +kernel
theorem dX7_digitTo_44 : decode cX7_digitTo 44 = .ok (.aload_n 0, 1) := by decide +kernel
theorem dX7_digitTo_45 : decode cX7_digitTo 45 = .ok (.dup, 1) := by decide +kernel
theorem dX7_digitTo_46 : decode cX7_digitTo 46 = .ok (.getfield 107, 3) := by decide +kernel
theorem dX7_digitTo_49 : decode cX7_digitTo 49 = .ok (.iload_n 3, 1) := by decide +kernel
theorem dX7_digitTo_50 : decode cX7_digitTo 50 = .ok (.ifCond .eq 7, 3) := by decide +kernel
theorem dX7_digitTo_53 : decode cX7_digitTo 53 = .ok (.iconst 1, 1) := by decide +kernel
theorem dX7_digitTo_54 : decode cX7_digitTo 54 = .ok (.goto 4, 3) := by decide +kernel
theorem dX7_digitTo_57 : decode cX7_digitTo 57 = .ok (.iconst 0, 1) := by decide +kernel
theorem dX7_digitTo_58 : decode cX7_digitTo 58 = .ok (.iadd, 1) := by decide +kernel
theorem dX7_digitTo_59 : decode cX7_digitTo 59 = .ok (.putfield 107, 3) := by decide +kernel
theorem dX7_digitTo_62 : decode cX7_digitTo 62 = .ok (.iload_n 3, 1) := by decide +kernel
theorem dX7_digitTo_63 : decode cX7_digitTo 63 = .ok (.ireturn, 1) := by decide +kernel
theorem dX7_twoTo_0 : decode cX7_twoTo 0 = .ok (.aload_n 0, 1) := by decide +kernel
theorem dX7_twoTo_1 : decode cX7_twoTo 1 = .ok (.iconst 0, 1) := by decide +kernel
theorem dX7_twoTo_2 : decode cX7_twoTo 2 = .ok (.iload_n 2, 1) := by decide +kernel
theorem dX7_twoTo_3 : decode cX7_twoTo 3 = .ok (.bipush 10, 2) := by decide +kernel
theorem dX7_twoTo_5 : decode cX7_twoTo 5 = .ok (.idiv, 1) := by decide +kernel
theorem dX7_twoTo_6 : decode cX7_twoTo 6 = .ok (.invokevirtual 113, 3) := by decide +kernel
theorem dX7_twoTo_9 : decode cX7_twoTo 9 = .ok (.ifCond .ne 5, 3) := by decide +kernel
theorem dX7_twoTo_12 : decode cX7_twoTo 12 = .ok (.iconst 0, 1) := by decide +kernel
theorem dX7_twoTo_13 : decode cX7_twoTo 13 = .ok (.ireturn, 1) := by decide +kernel
theorem dX7_twoTo_14 : decode cX7_twoTo 14 = .ok (.aload_n 0, 1) := by decide +kernel
theorem dX7_twoTo_15 : decode cX7_twoTo 15 = .ok (.getfield 110, 3) := by decide +kernel
theorem dX7_twoTo_18 : decode cX7_twoTo 18 = .ok (.istore_n 3, 1) := by decide +kernel
theorem dX7_twoTo_19 : decode cX7_twoTo 19 = .ok (.aload_n 0, 1) := by decide +kernel
theorem dX7_twoTo_20 : decode cX7_twoTo 20 = .ok (.iload_n 3, 1) := by decide +kernel
theorem dX7_twoTo_21 : decode cX7_twoTo 21 = .ok (.ifCond .ne 7, 3) := by decide +kernel
theorem dX7_twoTo_24 : decode cX7_twoTo 24 = .ok (.iload_n 1, 1) := by decide +kernel
theorem dX7_twoTo_25 : decode cX7_twoTo 25 = .ok (.goto 4, 3) := by decide +kernel
theorem dX7_twoTo_28 : decode cX7_twoTo 28 = .ok (.iconst 0, 1) := by decide +kernel
theorem dX7_twoTo_29 : decode cX7_twoTo 29 = .ok (.iload_n 3, 1) := by decide +kernel
theorem dX7_twoTo_30 : decode cX7_twoTo 30 = .ok (.iload_n 2, 1) := by decide +kernel
theorem dX7_twoTo_31 : decode cX7_twoTo 31 = .ok (.bipush 10, 2) := by decide +kernel
theorem dX7_twoTo_33 : decode cX7_twoTo 33 = .ok (.idiv, 1) := by decide +kernel
theorem dX7_twoTo_34 : decode cX7_twoTo 34 = .ok (.if_icmp .ne 10, 3) := by decide +kernel
theorem dX7_twoTo_37 : decode cX7_twoTo 37 = .ok (.iload_n 2, 1) := by decide +kernel
theorem dX7_twoTo_38 : decode cX7_twoTo 38 = .ok (.bipush 10, 2) := by decide +kernel
theorem dX7_twoTo_40 : decode cX7_twoTo 40 = .ok (.irem, 1) := by decide +kernel
theorem dX7_twoTo_41 : decode cX7_twoTo 41 = .ok (.goto 5, 3) := by decide +kernel
theorem dX7_twoTo_44 : decode cX7_twoTo 44 = .ok (.bipush 9, 2) := by decide +kernel
theorem dX7_twoTo_46 : decode cX7_twoTo 46 = .ok (.invokevirtual 113, 3) := by decide +kernel
theorem dX7_twoTo_49 : decode cX7_twoTo 49 = .ok (.istore 4, 2) := by decide +kernel
theorem dX7_twoTo_51 : decode cX7_twoTo 51 = .ok (.aload_n 0, 1) := by decide +kernel
theorem dX7_twoTo_52 : decode cX7_twoTo 52 = .ok (.dup, 1) := by decide +kernel
theorem dX7_twoTo_53 : decode cX7_twoTo 53 = .ok (.getfield 110, 3) := by decide +kernel
theorem dX7_twoTo_56 : decode cX7_twoTo 56 = .ok (.bipush 10, 2) := by decide +kernel
theorem dX7_twoTo_58 : decode cX7_twoTo 58 = .ok (.iload_n 3, 1) := by decide +kernel
theorem dX7_twoTo_59 : decode cX7_twoTo 59 = .ok (.imul, 1) := by decide +kernel
theorem dX7_twoTo_60 : decode cX7_twoTo 60 = .ok (.iadd, 1) := by decide +kernel
theorem dX7_twoTo_61 : decode cX7_twoTo 61 = .ok (.putfield 110, 3) := by decide +kernel
theorem dX7_twoTo_64 : decode cX7_twoTo 64 = .ok (.iload 4, 2) := by decide +kernel
theorem dX7_twoTo_66 : decode cX7_twoTo 66 = .ok (.ireturn, 1) := by decide +kernel
theorem dX7_burstPart_0 : decode cX7_burstPart 0 = .ok (.aload_n 0, 1) := by decide +kernel
theorem dX7_burstPart_1 : decode cX7_burstPart 1 = .ok (.getfield 107, 3) := by decide +kernel
theorem dX7_burstPart_4 : decode cX7_burstPart 4 = .ok (.aload_n 0, 1) := by decide +kernel
theorem dX7_burstPart_5 : decode cX7_burstPart 5 = .ok (.getfield 104, 3) := by decide +kernel
theorem dX7_burstPart_8 : decode cX7_burstPart 8 = .ok (.if_icmp .ge 18, 3) := by decide +kernel
theorem dX7_burstPart_11 : decode cX7_burstPart 11 = .ok (.aload_n 0, 1) := by decide +kernel
theorem dX7_burstPart_12 : decode cX7_burstPart 12 = .ok (.getfield 29, 3) := by decide +kernel
theorem dX7_burstPart_15 : decode cX7_burstPart 15 = .ok (.aload_n 0, 1) := by decide +kernel
theorem dX7_burstPart_16 : decode cX7_burstPart 16 = .ok (.getfield 107, 3) := by decide +kernel
theorem dX7_burstPart_19 : decode cX7_burstPart 19 = .ok (.iaload, 1) := by decide +kernel
theorem dX7_burstPart_20 : decode cX7_burstPart 20 = .ok (.bipush 48, 2) := by decide +kernel
theorem dX7_burstPart_22 : decode cX7_burstPart 22 = .ok (.isub, 1) := by decide +kernel
theorem dX7_burstPart_23 : decode cX7_burstPart 23 = .ok (.goto 4, 3) := by decide +kernel
theorem dX7_burstPart_26 : decode cX7_burstPart 26 = .ok (.iconst (-1), 1) := by decide +kernel
theorem dX7_burstPart_27 : decode cX7_burstPart 27 = .ok (.istore_n 2, 1) := by decide +kernel
theorem dX7_burstPart_28 : decode cX7_burstPart 28 = .ok (.iload_n 2, 1) := by decide +kernel
theorem dX7_burstPart_29 : decode cX7_burstPart 29 = .ok (.i2l, 1) := by decide +kernel
theorem dX7_burstPart_30 : decode cX7_burstPart 30 = .ok (.lconst 0, 1) := by decide +kernel
theorem dX7_burstPart_31 : decode cX7_burstPart 31 = .ok (.aload_n 0, 1) := by decide +kernel
theorem dX7_burstPart_32 : decode cX7_burstPart 32 = .ok (.getfield 117, 3) := by decide +kernel
theorem dX7_burstPart_35 : decode cX7_burstPart 35 = .ok (.iconst 1, 1) := by decide +kernel
theorem dX7_burstPart_36 : decode cX7_burstPart 36 = .ok (.isub, 1) := by decide +kernel
theorem dX7_burstPart_37 : decode cX7_burstPart 37 = .ok (.i2l, 1) := by decide +kernel
theorem dX7_burstPart_38 : decode cX7_burstPart 38 = .ok (.invokestatic 46, 3) := by decide +kernel
theorem dX7_burstPart_41 : decode cX7_burstPart 41 = .ok (.ifCond .eq 14, 3) := by decide +kernel
theorem dX7_burstPart_44 : decode cX7_burstPart 44 = .ok (.aload_n 0, 1) := by decide +kernel
theorem dX7_burstPart_45 : decode cX7_burstPart 45 = .ok (.getfield 32, 3) := by decide +kernel
theorem dX7_burstPart_48 : decode cX7_burstPart 48 = .ok (.iload_n 2, 1) := by decide +kernel
theorem dX7_burstPart_49 : decode cX7_burstPart 49 = .ok (.iaload, 1) := by decide +kernel
theorem dX7_burstPart_50 : decode cX7_burstPart 50 = .ok (.bipush 6, 2) := by decide +kernel
theorem dX7_burstPart_52 : decode cX7_burstPart 52 = .ok (.if_icmp .ne 5, 3) := by decide +kernel
theorem dX7_burstPart_55 : decode cX7_burstPart 55 = .ok (.iconst 0, 1) := by decide +kernel
theorem dX7_burstPart_56 : decode cX7_burstPart 56 = .ok (.ireturn, 1) := by decide +kernel
theorem dX7_burstPart_57 : decode cX7_burstPart 57 = .ok (.aload_n 0, 1) := by decide +kernel
theorem dX7_burstPart_58 : decode cX7_burstPart 58 = .ok (.dup, 1) := by decide +kernel
theorem dX7_burstPart_59 : decode cX7_burstPart 59 = .ok (.getfield 107, 3) := by decide +kernel
theorem dX7_burstPart_62 : decode cX7_burstPart 62 = .ok (.iconst 1, 1) := by decide +kernel
theorem dX7_burstPart_63 : decode cX7_burstPart 63 = .ok (.iadd, 1) := by decide +kernel
theorem dX7_burstPart_64 : decode cX7_burstPart 64 = .ok (.putfield 107, 3) := by decide +kernel
theorem dX7_burstPart_67 : decode cX7_burstPart 67 = .ok (.aload_n 0, 1) := by decide +kernel
theorem dX7_burstPart_68 : decode cX7_burstPart 68 = .ok (.getfield 32, 3) := by decide +kernel
theorem dX7_burstPart_71 : decode cX7_burstPart 71 = .ok (.iload_n 2, 1) := by decide +kernel
theorem dX7_burstPart_72 : decode cX7_burstPart 72 = .ok (.dup2, 1) := by decide +kernel
theorem dX7_burstPart_73 : decode cX7_burstPart 73 = .ok (.iaload, 1) := by decide +kernel
theorem dX7_burstPart_74 : decode cX7_burstPart 74 = .ok (.iconst 1, 1) := by decide +kernel
theorem dX7_burstPart_75 : decode cX7_burstPart 75 = .ok (.iadd, 1) := by decide +kernel
theorem dX7_burstPart_76 : decode cX7_burstPart 76 = .ok (.iastore, 1) := by decide +kernel
theorem dX7_burstPart_77 : decode cX7_burstPart 77 = .ok (.aload_n 0, 1) := by decide +kernel
theorem dX7_burstPart_78 : decode cX7_burstPart 78 = .ok (.iconst 0, 1) := by decide +kernel
theorem dX7_burstPart_79 : decode cX7_burstPart 79 = .ok (.iconst 3, 1) := by decide +kernel
theorem dX7_burstPart_80 : decode cX7_burstPart 80 = .ok (.invokevirtual 113, 3) := by decide +kernel
theorem dX7_burstPart_83 : decode cX7_burstPart 83 = .ok (.istore_n 3, 1) := by decide +kernel
theorem dX7_burstPart_84 : decode cX7_burstPart 84 = .ok (.aload_n 0, 1) := by decide +kernel
theorem dX7_burstPart_85 : decode cX7_burstPart 85 = .ok (.getfield 110, 3) := by decide +kernel
theorem dX7_burstPart_88 : decode cX7_burstPart 88 = .ok (.istore 4, 2) := by decide +kernel
theorem dX7_burstPart_90 : decode cX7_burstPart 90 = .ok (.iload_n 3, 1) := by decide +kernel
theorem dX7_burstPart_91 : decode cX7_burstPart 91 = .ok (.ifCond .eq 17, 3) := by decide +kernel
theorem dX7_burstPart_94 : decode cX7_burstPart 94 = .ok (.aload_n 0, 1) := by decide +kernel
theorem dX7_burstPart_95 : decode cX7_burstPart 95 = .ok (.iconst 1, 1) := by decide +kernel
theorem dX7_burstPart_96 : decode cX7_burstPart 96 = .ok (.bipush 8, 2) := by decide +kernel
theorem dX7_burstPart_98 : decode cX7_burstPart 98 = .ok (.invokevirtual 113, 3) := by decide +kernel
theorem dX7_burstPart_101 : decode cX7_burstPart 101 = .ok (.ifCond .eq 7, 3) := by decide +kernel
theorem dX7_burstPart_104 : decode cX7_burstPart 104 = .ok (.iconst 1, 1) := by decide +kernel
theorem dX7_burstPart_105 : decode cX7_burstPart 105 = .ok (.goto 4, 3) := by decide +kernel
theorem dX7_burstPart_108 : decode cX7_burstPart 108 = .ok (.iconst 0, 1) := by decide +kernel
theorem dX7_burstPart_109 : decode cX7_burstPart 109 = .ok (.istore_n 3, 1) := by decide +kernel
theorem dX7_burstPart_110 : decode cX7_burstPart 110 = .ok (.aload_n 0, 1) := by decide +kernel
theorem dX7_burstPart_111 : decode cX7_burstPart 111 = .ok (.getfield 110, 3) := by decide +kernel
theorem dX7_burstPart_114 : decode cX7_burstPart 114 = .ok (.istore 5, 2) := by decide +kernel
theorem dX7_burstPart_116 : decode cX7_burstPart 116 = .ok (.iload_n 3, 1) := by decide +kernel
theorem dX7_burstPart_117 : decode cX7_burstPart 117 = .ok (.ifCond .eq 16, 3) := by decide +kernel
theorem dX7_burstPart_120 : decode cX7_burstPart 120 = .ok (.aload_n 0, 1) := by decide +kernel
theorem dX7_burstPart_121 : decode cX7_burstPart 121 = .ok (.bipush 43, 2) := by decide +kernel
theorem dX7_burstPart_123 : decode cX7_burstPart 123 = .ok (.invokevirtual 120, 3) := by decide +kernel
theorem dX7_burstPart_126 : decode cX7_burstPart 126 = .ok (.ifCond .eq 7, 3) := by decide +kernel
theorem dX7_burstPart_129 : decode cX7_burstPart 129 = .ok (.iconst 1, 1) := by decide +kernel
theorem dX7_burstPart_130 : decode cX7_burstPart 130 = .ok (.goto 4, 3) := by decide +kernel
theorem dX7_burstPart_133 : decode cX7_burstPart 133 = .ok (.iconst 0, 1) := by decide +kernel
theorem dX7_burstPart_134 : decode cX7_burstPart 134 = .ok (.istore 6, 2) := by decide +kernel
theorem dX7_burstPart_136 : decode cX7_burstPart 136 = .ok (.iload_n 3, 1) := by decide +kernel
theorem dX7_burstPart_137 : decode cX7_burstPart 137 = .ok (.ifCond .eq 21, 3) := by decide +kernel
theorem dX7_burstPart_140 : decode cX7_burstPart 140 = .ok (.iload 6, 2) := by decide +kernel
theorem dX7_burstPart_142 : decode cX7_burstPart 142 = .ok (.ifCond .ne 12, 3) := by decide +kernel
theorem dX7_burstPart_145 : decode cX7_burstPart 145 = .ok (.aload_n 0, 1) := by decide +kernel
theorem dX7_burstPart_146 : decode cX7_burstPart 146 = .ok (.bipush 45, 2) := by decide +kernel
theorem dX7_burstPart_148 : decode cX7_burstPart 148 = .ok (.invokevirtual 120, 3) := by decide +kernel
theorem dX7_burstPart_151 : decode cX7_burstPart 151 = .ok (.ifCond .eq 7, 3) := by decide +kernel
theorem dX7_burstPart_154 : decode cX7_burstPart 154 = .ok (.iconst 1, 1) := by decide +kernel
theorem dX7_burstPart_155 : decode cX7_burstPart 155 = .ok (.goto 4, 3) := by decide +kernel
theorem dX7_burstPart_158 : decode cX7_burstPart 158 = .ok (.iconst 0, 1) := by decide +kernel
theorem dX7_burstPart_159 : decode cX7_burstPart 159 = .ok (.istore_n 3, 1) := by decide +kernel
theorem dX7_burstPart_160 : decode cX7_burstPart 160 = .ok (.iload_n 3, 1) := by decide +kernel
theorem dX7_burstPart_161 : decode cX7_burstPart 161 = .ok (.ifCond .eq 27, 3) := by decide +kernel
theorem dX7_burstPart_164 : decode cX7_burstPart 164 = .ok (.iload_n 1, 1) := by decide +kernel
theorem dX7_burstPart_165 : decode cX7_burstPart 165 = .ok (.ifCond .eq 23, 3) := by decide +kernel
theorem dX7_burstPart_168 : decode cX7_burstPart 168 = .ok (.aload_n 0, 1) := by decide +kernel
theorem dX7_burstPart_169 : decode cX7_burstPart 169 = .ok (.iload_n 2, 1) := by decide +kernel
theorem dX7_burstPart_170 : decode cX7_burstPart 170 = .ok (.iload 4, 2) := by decide +kernel
theorem dX7_burstPart_172 : decode cX7_burstPart 172 = .ok (.iload 5, 2) := by decide +kernel
theorem dX7_burstPart_174 : decode cX7_burstPart 174 = .ok (.iload 6, 2) := by decide +kernel
theorem dX7_burstPart_176 : decode cX7_burstPart 176 = .ok (.ifCond .eq 7, 3) := by decide +kernel
theorem dX7_burstPart_179 : decode cX7_burstPart 179 = .ok (.iconst 1, 1) := by decide +kernel
theorem dX7_burstPart_180 : decode cX7_burstPart 180 = .ok (.goto 4, 3) := by decide +kernel
theorem dX7_burstPart_183 : decode cX7_burstPart 183 = .ok (.iconst 0, 1) := by decide +kernel
theorem dX7_burstPart_184 : decode cX7_burstPart 184 = .ok (.invokevirtual 123, 3) := by decide +kernel
theorem dX7_burstPart_187 : decode cX7_burstPart 187 = .ok (.pop, 1) := by decide +kernel
theorem dX7_burstPart_188 : decode cX7_burstPart 188 = .ok (.iload_n 3, 1) := by decide +kernel
theorem dX7_burstPart_189 : decode cX7_burstPart 189 = .ok (.ireturn, 1) := by decide +kernel
theorem dX7_part_0 : decode cX7_part 0 = .ok (.aload_n 0, 1) := by decide +kernel
theorem dX7_part_1 : decode cX7_part 1 = .ok (.bipush 111, 2) := by decide +kernel
theorem dX7_part_3 : decode cX7_part 3 = .ok (.invokevirtual 120, 3) := by decide +kernel
theorem dX7_part_6 : decode cX7_part 6 = .ok (.ifCond .eq 89, 3) := by decide +kernel
theorem dX7_part_9 : decode cX7_part 9 = .ok (.aload_n 0, 1) := by decide +kernel
theorem dX7_part_10 : decode cX7_part 10 = .ok (.iconst 0, 1) := by decide +kernel
theorem dX7_part_11 : decode cX7_part 11 = .ok (.aload_n 0, 1) := by decide +kernel
theorem dX7_part_12 : decode cX7_part 12 = .ok (.getfield 127, 3) := by decide +kernel
theorem dX7_part_15 : decode cX7_part 15 = .ok (.iconst 1, 1) := by decide +kernel
theorem dX7_part_16 : decode cX7_part 16 = .ok (.isub, 1) := by decide +kernel
theorem dX7_part_17 : decode cX7_part 17 = .ok (.invokevirtual 130, 3) := by decide +kernel
theorem dX7_part_20 : decode cX7_part 20 = .ok (.istore_n 2, 1) := by decide +kernel
theorem dX7_part_21 : decode cX7_part 21 = .ok (.aload_n 0, 1) := by decide +kernel
theorem dX7_part_22 : decode cX7_part 22 = .ok (.getfield 110, 3) := by decide +kernel
theorem dX7_part_25 : decode cX7_part 25 = .ok (.istore_n 3, 1) := by decide +kernel
theorem dX7_part_26 : decode cX7_part 26 = .ok (.iload_n 2, 1) := by decide +kernel
theorem dX7_part_27 : decode cX7_part 27 = .ok (.ifCond .eq 21, 3) := by decide +kernel
theorem dX7_part_30 : decode cX7_part 30 = .ok (.aload_n 0, 1) := by decide +kernel
theorem dX7_part_31 : decode cX7_part 31 = .ok (.iconst 0, 1) := by decide +kernel
theorem dX7_part_32 : decode cX7_part 32 = .ok (.aload_n 0, 1) := by decide +kernel
theorem dX7_part_33 : decode cX7_part 33 = .ok (.getfield 117, 3) := by decide +kernel
theorem dX7_part_36 : decode cX7_part 36 = .ok (.iconst 1, 1) := by decide +kernel
theorem dX7_part_37 : decode cX7_part 37 = .ok (.isub, 1) := by decide +kernel
theorem dX7_part_38 : decode cX7_part 38 = .ok (.invokevirtual 113, 3) := by decide +kernel
theorem dX7_part_41 : decode cX7_part 41 = .ok (.ifCond .eq 7, 3) := by decide +kernel
theorem dX7_part_44 : decode cX7_part 44 = .ok (.iconst 1, 1) := by decide +kernel
theorem dX7_part_45 : decode cX7_part 45 = .ok (.goto 4, 3) := by decide +kernel
theorem dX7_part_48 : decode cX7_part 48 = .ok (.iconst 0, 1) := by decide +kernel
theorem dX7_part_49 : decode cX7_part 49 = .ok (.istore_n 2, 1) := by decide +kernel
theorem dX7_part_50 : decode cX7_part 50 = .ok (.aload_n 0, 1) := by decide +kernel
theorem dX7_part_51 : decode cX7_part 51 = .ok (.getfield 7, 3) := by decide +kernel
theorem dX7_part_54 : decode cX7_part 54 = .ok (.bipush 11, 2) := by decide +kernel
theorem dX7_part_56 : decode cX7_part 56 = .ok (.iload_n 2, 1) := by decide +kernel
theorem dX7_part_57 : decode cX7_part 57 = .ok (.ifCond .eq 11, 3) := by decide +kernel
theorem dX7_part_60 : decode cX7_part 60 = .ok (.iload_n 1, 1) := by decide +kernel
theorem dX7_part_61 : decode cX7_part 61 = .ok (.ifCond .eq 7, 3) := by decide +kernel
theorem dX7_part_64 : decode cX7_part 64 = .ok (.iload_n 3, 1) := by decide +kernel
theorem dX7_part_65 : decode cX7_part 65 = .ok (.goto 4, 3) := by decide +kernel
theorem dX7_part_68 : decode cX7_part 68 = .ok (.iconst 0, 1) := by decide +kernel
theorem dX7_part_69 : decode cX7_part 69 = .ok (.iadd, 1) := by decide +kernel
theorem dX7_part_70 : decode cX7_part 70 = .ok (.iload_n 2, 1) := by decide +kernel
theorem dX7_part_71 : decode cX7_part 71 = .ok (.ifCond .eq 14, 3) := by decide +kernel
theorem dX7_part_74 : decode cX7_part 74 = .ok (.iload_n 1, 1) := by decide +kernel
theorem dX7_part_75 : decode cX7_part 75 = .ok (.ifCond .eq 10, 3) := by decide +kernel
theorem dX7_part_78 : decode cX7_part 78 = .ok (.aload_n 0, 1) := by decide +kernel
theorem dX7_part_79 : decode cX7_part 79 = .ok (.getfield 110, 3) := by decide +kernel
theorem dX7_part_82 : decode cX7_part 82 = .ok (.goto 10, 3) := by decide +kernel
theorem dX7_part_85 : decode cX7_part 85 = .ok (.aload_n 0, 1) := by decide +kernel
theorem dX7_part_86 : decode cX7_part 86 = .ok (.getfield 7, 3) := by decide +kernel
theorem dX7_part_89 : decode cX7_part 89 = .ok (.bipush 11, 2) := by decide +kernel
theorem dX7_part_91 : decode cX7_part 91 = .ok (.iaload, 1) := by decide +kernel
theorem dX7_part_92 : decode cX7_part 92 = .ok (.iastore, 1) := by decide +kernel
theorem dX7_part_93 : decode cX7_part 93 = .ok (.iload_n 2, 1) := by decide +kernel
theorem dX7_part_94 : decode cX7_part 94 = .ok (.ireturn, 1) := by decide +kernel
theorem dX7_part_95 : decode cX7_part 95 = .ok (.aload_n 0, 1) := by decide +kernel
theorem dX7_part_96 : decode cX7_part 96 = .ok (.bipush 108, 2) := by decide +kernel
theorem dX7_part_98 : decode cX7_part 98 = .ok (.invokevirtual 120, 3) := by decide +kernel
theorem dX7_part_101 : decode cX7_part 101 = .ok (.ifCond .eq 80, 3) := by decide +kernel
theorem dX7_part_104 : decode cX7_part 104 = .ok (.aload_n 0, 1) := by decide +kernel
theorem dX7_part_105 : decode cX7_part 105 = .ok (.iconst 0, 1) := by decide +kernel
theorem dX7_part_106 : decode cX7_part 106 = .ok (.iconst 3, 1) := by decide +kernel
theorem dX7_part_107 : decode cX7_part 107 = .ok (.invokevirtual 113, 3) := by decide +kernel
theorem dX7_part_110 : decode cX7_part 110 = .ok (.istore_n 2, 1) := by decide +kernel
theorem dX7_part_111 : decode cX7_part 111 = .ok (.aload_n 0, 1) := by decide +kernel
theorem dX7_part_112 : decode cX7_part 112 = .ok (.getfield 110, 3) := by decide +kernel
theorem dX7_part_115 : decode cX7_part 115 = .ok (.istore_n 3, 1) := by decide +kernel
theorem dX7_part_116 : decode cX7_part 116 = .ok (.iload_n 2, 1) := by decide +kernel
theorem dX7_part_117 : decode cX7_part 117 = .ok (.ifCond .eq 17, 3) := by decide +kernel
theorem dX7_part_120 : decode cX7_part 120 = .ok (.aload_n 0, 1) := by decide +kernel
theorem dX7_part_121 : decode cX7_part 121 = .ok (.iconst 0, 1) := by decide +kernel
theorem dX7_part_122 : decode cX7_part 122 = .ok (.bipush 9, 2) := by decide +kernel
theorem dX7_part_124 : decode cX7_part 124 = .ok (.invokevirtual 113, 3) := by decide +kernel
theorem dX7_part_127 : decode cX7_part 127 = .ok (.ifCond .eq 7, 3) := by decide +kernel
theorem dX7_part_130 : decode cX7_part 130 = .ok (.iconst 1, 1) := by decide +kernel
theorem dX7_part_131 : decode cX7_part 131 = .ok (.goto 4, 3) := by decide +kernel
theorem dX7_part_134 : decode cX7_part 134 = .ok (.iconst 0, 1) := by decide +kernel
theorem dX7_part_135 : decode cX7_part 135 = .ok (.istore_n 2, 1) := by decide +kernel
theorem dX7_part_136 : decode cX7_part 136 = .ok (.aload_n 0, 1) := by decide +kernel
theorem dX7_part_137 : decode cX7_part 137 = .ok (.getfield 7, 3) := by decide +kernel
theorem dX7_part_140 : decode cX7_part 140 = .ok (.bipush 7, 2) := by decide +kernel
theorem dX7_part_142 : decode cX7_part 142 = .ok (.iload_n 2, 1) := by decide +kernel
theorem dX7_part_143 : decode cX7_part 143 = .ok (.ifCond .eq 11, 3) := by decide +kernel
theorem dX7_part_146 : decode cX7_part 146 = .ok (.iload_n 1, 1) := by decide +kernel
theorem dX7_part_147 : decode cX7_part 147 = .ok (.ifCond .eq 7, 3) := by decide +kernel
theorem dX7_part_150 : decode cX7_part 150 = .ok (.iload_n 3, 1) := by decide +kernel
theorem dX7_part_151 : decode cX7_part 151 = .ok (.goto 4, 3) := by decide +kernel
theorem dX7_part_154 : decode cX7_part 154 = .ok (.iconst 0, 1) := by decide +kernel
theorem dX7_part_155 : decode cX7_part 155 = .ok (.iadd, 1) := by decide +kernel
theorem dX7_part_156 : decode cX7_part 156 = .ok (.iload_n 2, 1) := by decide +kernel
theorem dX7_part_157 : decode cX7_part 157 = .ok (.ifCond .eq 14, 3) := by decide +kernel
theorem dX7_part_160 : decode cX7_part 160 = .ok (.iload_n 1, 1) := by decide +kernel
theorem dX7_part_161 : decode cX7_part 161 = .ok (.ifCond .eq 10, 3) := by decide +kernel
theorem dX7_part_164 : decode cX7_part 164 = .ok (.aload_n 0, 1) := by decide +kernel
theorem dX7_part_165 : decode cX7_part 165 = .ok (.getfield 110, 3) := by decide +kernel
theorem dX7_part_168 : decode cX7_part 168 = .ok (.goto 10, 3) := by decide +kernel
theorem dX7_part_171 : decode cX7_part 171 = .ok (.aload_n 0, 1) := by decide +kernel
theorem dX7_part_172 : decode cX7_part 172 = .ok (.getfield 7, 3) := by decide +kernel
theorem dX7_part_175 : decode cX7_part 175 = .ok (.bipush 7, 2) := by decide +kernel
theorem dX7_part_177 : decode cX7_part 177 = .ok (.iaload, 1) := by decide +kernel
theorem dX7_part_178 : decode cX7_part 178 = .ok (.iastore, 1) := by decide +kernel
theorem dX7_part_179 : decode cX7_part 179 = .ok (.iload_n 2, 1) := by decide +kernel
theorem dX7_part_180 : decode cX7_part 180 = .ok (.ireturn, 1) := by decide +kernel
theorem dX7_part_181 : decode cX7_part 181 = .ok (.aload_n 0, 1) := by decide +kernel
theorem dX7_part_182 : decode cX7_part 182 = .ok (.bipush 99, 2) := by decide +kernel
theorem dX7_part_184 : decode cX7_part 184 = .ok (.invokevirtual 120, 3) := by decide +kernel
theorem dX7_part_187 : decode cX7_part 187 = .ok (.ifCond .eq 40, 3) := by decide +kernel
theorem dX7_part_190 : decode cX7_part 190 = .ok (.aload_n 0, 1) := by decide +kernel
theorem dX7_part_191 : decode cX7_part 191 = .ok (.iconst 0, 1) := by decide +kernel
theorem dX7_part_192 : decode cX7_part 192 = .ok (.bipush 9, 2) := by decide +kernel
theorem dX7_part_194 : decode cX7_part 194 = .ok (.invokevirtual 113, 3) := by decide +kernel
theorem dX7_part_197 : decode cX7_part 197 = .ok (.istore_n 2, 1) := by decide +kernel
theorem dX7_part_198 : decode cX7_part 198 = .ok (.aload_n 0, 1) := by decide +kernel
theorem dX7_part_199 : decode cX7_part 199 = .ok (.getfield 7, 3) := by decide +kernel
theorem dX7_part_202 : decode cX7_part 202 = .ok (.iconst 4, 1) := by decide +kernel
theorem dX7_part_203 : decode cX7_part 203 = .ok (.iload_n 2, 1) := by decide +kernel
theorem dX7_part_204 : decode cX7_part 204 = .ok (.ifCond .eq 14, 3) := by decide +kernel
theorem dX7_part_207 : decode cX7_part 207 = .ok (.iload_n 1, 1) := by decide +kernel
theorem dX7_part_208 : decode cX7_part 208 = .ok (.ifCond .eq 10, 3) := by decide +kernel
theorem dX7_part_211 : decode cX7_part 211 = .ok (.aload_n 0, 1) := by decide +kernel
theorem dX7_part_212 : decode cX7_part 212 = .ok (.getfield 110, 3) := by decide +kernel
theorem dX7_part_215 : decode cX7_part 215 = .ok (.goto 9, 3) := by decide +kernel
theorem dX7_part_218 : decode cX7_part 218 = .ok (.aload_n 0, 1) := by decide +kernel
theorem dX7_part_219 : decode cX7_part 219 = .ok (.getfield 7, 3) := by decide +kernel
theorem dX7_part_222 : decode cX7_part 222 = .ok (.iconst 4, 1) := by decide +kernel
theorem dX7_part_223 : decode cX7_part 223 = .ok (.iaload, 1) := by decide +kernel
theorem dX7_part_224 : decode cX7_part 224 = .ok (.iastore, 1) := by decide +kernel
theorem dX7_part_225 : decode cX7_part 225 = .ok (.iload_n 2, 1) := by decide +kernel
theorem dX7_part_226 : decode cX7_part 226 = .ok (.ireturn, 1) := by decide +kernel
theorem dX7_part_227 : decode cX7_part 227 = .ok (.aload_n 0, 1) := by decide +kernel
theorem dX7_part_228 : decode cX7_part 228 = .ok (.bipush 98, 2) := by decide +kernel
theorem dX7_part_230 : decode cX7_part 230 = .ok (.invokevirtual 120, 3) := by decide +kernel
theorem dX7_part_233 : decode cX7_part 233 = .ok (.ifCond .eq 15, 3) := by decide +kernel
theorem dX7_part_236 : decode cX7_part 236 = .ok (.aload_n 0, 1) := by decide +kernel
theorem dX7_part_237 : decode cX7_part 237 = .ok (.iload_n 1, 1) := by decide +kernel
theorem dX7_part_238 : decode cX7_part 238 = .ok (.invokevirtual 133, 3) := by decide +kernel
theorem dX7_part_241 : decode cX7_part 241 = .ok (.ifCond .eq 7, 3) := by decide +kernel
theorem dX7_part_244 : decode cX7_part 244 = .ok (.iconst 1, 1) := by decide +kernel
theorem dX7_part_245 : decode cX7_part 245 = .ok (.goto 4, 3) := by decide +kernel
theorem dX7_part_248 : decode cX7_part 248 = .ok (.iconst 0, 1) := by decide +kernel
theorem dX7_part_249 : decode cX7_part 249 = .ok (.ireturn, 1) := by decide +kernel
theorem dX7_reads_0 : decode cX7_reads 0 = .ok (.aload_n 0, 1) := by decide +kernel
theorem dX7_reads_1 : decode cX7_reads 1 = .ok (.iconst 0, 1) := by decide +kernel
theorem dX7_reads_2 : decode cX7_reads 2 = .ok (.putfield 107, 3) := by decide +kernel
theorem dX7_reads_5 : decode cX7_reads 5 = .ok (.iconst 0, 1) := by decide +kernel
theorem dX7_reads_6 : decode cX7_reads 6 = .ok (.istore_n 2, 1) := by decide +kernel
theorem dX7_reads_7 : decode cX7_reads 7 = .ok (.iload_n 2, 1) := by decide +kernel
theorem dX7_reads_8 : decode cX7_reads 8 = .ok (.bipush 6, 2) := by decide +kernel
theorem dX7_reads_10 : decode cX7_reads 10 = .ok (.if_icmp .ge 16, 3) := by decide +kernel
theorem dX7_reads_13 : decode cX7_reads 13 = .ok (.aload_n 0, 1) := by decide +kernel
theorem dX7_reads_14 : decode cX7_reads 14 = .ok (.getfield 32, 3) := by decide +kernel
theorem dX7_reads_17 : decode cX7_reads 17 = .ok (.iload_n 2, 1) := by decide +kernel
theorem dX7_reads_18 : decode cX7_reads 18 = .ok (.iconst 0, 1) := by decide +kernel
theorem dX7_reads_19 : decode cX7_reads 19 = .ok (.iastore, 1) := by decide +kernel
theorem dX7_reads_20 : decode cX7_reads 20 = .ok (.iinc 2 1, 3) := by decide +kernel
theorem dX7_reads_23 : decode cX7_reads 23 = .ok (.goto (-16), 3) := by decide +kernel
theorem dX7_reads_26 : decode cX7_reads 26 = .ok (.aload_n 0, 1) := by decide +kernel
theorem dX7_reads_27 : decode cX7_reads 27 = .ok (.bipush 85, 2) := by decide +kernel
theorem dX7_reads_29 : decode cX7_reads 29 = .ok (.invokevirtual 120, 3) := by decide +kernel
theorem dX7_reads_32 : decode cX7_reads 32 = .ok (.ifCond .eq 17, 3) := by decide +kernel
theorem dX7_reads_35 : decode cX7_reads 35 = .ok (.aload_n 0, 1) := by decide +kernel
theorem dX7_reads_36 : decode cX7_reads 36 = .ok (.iconst 2, 1) := by decide +kernel
theorem dX7_reads_37 : decode cX7_reads 37 = .ok (.bipush 6, 2) := by decide +kernel
theorem dX7_reads_39 : decode cX7_reads 39 = .ok (.invokevirtual 113, 3) := by decide +kernel
theorem dX7_reads_42 : decode cX7_reads 42 = .ok (.ifCond .eq 7, 3) := by decide +kernel
theorem dX7_reads_45 : decode cX7_reads 45 = .ok (.iconst 1, 1) := by decide +kernel
theorem dX7_reads_46 : decode cX7_reads 46 = .ok (.goto 4, 3) := by decide +kernel
theorem dX7_reads_49 : decode cX7_reads 49 = .ok (.iconst 0, 1) := by decide +kernel
theorem dX7_reads_50 : decode cX7_reads 50 = .ok (.istore_n 2, 1) := by decide +kernel
theorem dX7_reads_51 : decode cX7_reads 51 = .ok (.aload_n 0, 1) := by decide +kernel
theorem dX7_reads_52 : decode cX7_reads 52 = .ok (.aload_n 0, 1) := by decide +kernel
theorem dX7_reads_53 : decode cX7_reads 53 = .ok (.getfield 110, 3) := by decide +kernel
theorem dX7_reads_56 : decode cX7_reads 56 = .ok (.putfield 117, 3) := by decide +kernel
theorem dX7_reads_59 : decode cX7_reads 59 = .ok (.iload_n 2, 1) := by decide +kernel
theorem dX7_reads_60 : decode cX7_reads 60 = .ok (.ifCond .eq 17, 3) := by decide +kernel
theorem dX7_reads_63 : decode cX7_reads 63 = .ok (.aload_n 0, 1) := by decide +kernel
theorem dX7_reads_64 : decode cX7_reads 64 = .ok (.iconst 2, 1) := by decide +kernel
theorem dX7_reads_65 : decode cX7_reads 65 = .ok (.bipush 16, 2) := by decide +kernel
theorem dX7_reads_67 : decode cX7_reads 67 = .ok (.invokevirtual 130, 3) := by decide +kernel
theorem dX7_reads_70 : decode cX7_reads 70 = .ok (.ifCond .eq 7, 3) := by decide +kernel
theorem dX7_reads_73 : decode cX7_reads 73 = .ok (.iconst 1, 1) := by decide +kernel
theorem dX7_reads_74 : decode cX7_reads 74 = .ok (.goto 4, 3) := by decide +kernel
theorem dX7_reads_77 : decode cX7_reads 77 = .ok (.iconst 0, 1) := by decide +kernel
theorem dX7_reads_78 : decode cX7_reads 78 = .ok (.istore_n 2, 1) := by decide +kernel
theorem dX7_reads_79 : decode cX7_reads 79 = .ok (.aload_n 0, 1) := by decide +kernel
theorem dX7_reads_80 : decode cX7_reads 80 = .ok (.aload_n 0, 1) := by decide +kernel
theorem dX7_reads_81 : decode cX7_reads 81 = .ok (.getfield 110, 3) := by decide +kernel
theorem dX7_reads_84 : decode cX7_reads 84 = .ok (.putfield 127, 3) := by decide +kernel
theorem dX7_reads_87 : decode cX7_reads 87 = .ok (.iload_n 2, 1) := by decide +kernel
theorem dX7_reads_88 : decode cX7_reads 88 = .ok (.ifCond .eq 19, 3) := by decide +kernel
theorem dX7_reads_91 : decode cX7_reads 91 = .ok (.iload_n 1, 1) := by decide +kernel
theorem dX7_reads_92 : decode cX7_reads 92 = .ok (.ifCond .eq 15, 3) := by decide +kernel
theorem dX7_reads_95 : decode cX7_reads 95 = .ok (.aload_n 0, 1) := by decide +kernel
theorem dX7_reads_96 : decode cX7_reads 96 = .ok (.aload_n 0, 1) := by decide +kernel
theorem dX7_reads_97 : decode cX7_reads 97 = .ok (.getfield 117, 3) := by decide +kernel
theorem dX7_reads_100 : decode cX7_reads 100 = .ok (.aload_n 0, 1) := by decide +kernel
theorem dX7_reads_101 : decode cX7_reads 101 = .ok (.getfield 127, 3) := by decide +kernel
theorem dX7_reads_104 : decode cX7_reads 104 = .ok (.invokevirtual 35, 3) := by decide +kernel
theorem dX7_reads_107 : decode cX7_reads 107 = .ok (.iload_n 2, 1) := by decide +kernel
theorem dX7_reads_108 : decode cX7_reads 108 = .ok (.ifCond .eq 23, 3) := by decide +kernel
theorem dX7_reads_111 : decode cX7_reads 111 = .ok (.aload_n 0, 1) := by decide +kernel
theorem dX7_reads_112 : decode cX7_reads 112 = .ok (.getfield 107, 3) := by decide +kernel
theorem dX7_reads_115 : decode cX7_reads 115 = .ok (.aload_n 0, 1) := by decide +kernel
theorem dX7_reads_116 : decode cX7_reads 116 = .ok (.getfield 104, 3) := by decide +kernel
theorem dX7_reads_119 : decode cX7_reads 119 = .ok (.if_icmp .ge 12, 3) := by decide +kernel
theorem dX7_reads_122 : decode cX7_reads 122 = .ok (.aload_n 0, 1) := by decide +kernel
theorem dX7_reads_123 : decode cX7_reads 123 = .ok (.iload_n 1, 1) := by decide +kernel
theorem dX7_reads_124 : decode cX7_reads 124 = .ok (.invokevirtual 137, 3) := by decide +kernel
theorem dX7_reads_127 : decode cX7_reads 127 = .ok (.istore_n 2, 1) := by decide +kernel
theorem dX7_reads_128 : decode cX7_reads 128 = .ok (.goto (-21), 3) := by decide +kernel
theorem dX7_reads_131 : decode cX7_reads 131 = .ok (.iload_n 2, 1) := by decide +kernel
theorem dX7_reads_132 : decode cX7_reads 132 = .ok (.ireturn, 1) := by decide +kernel
theorem dX7_errorPosition_0 : decode cX7_errorPosition 0 = .ok (.aload_n 0, 1) := by decide +kernel
theorem dX7_errorPosition_1 : decode cX7_errorPosition 1 = .ok (.iconst 0, 1) := by decide +kernel
theorem dX7_errorPosition_2 : decode cX7_errorPosition 2 = .ok (.putfield 39, 3) := by decide +kernel
theorem dX7_errorPosition_5 : decode cX7_errorPosition 5 = .ok (.aload_n 0, 1) := by decide +kernel
theorem dX7_errorPosition_6 : decode cX7_errorPosition 6 = .ok (.iconst 0, 1) := by decide +kernel
theorem dX7_errorPosition_7 : decode cX7_errorPosition 7 = .ok (.invokevirtual 140, 3) := by decide +kernel
theorem dX7_errorPosition_10 : decode cX7_errorPosition 10 = .ok (.ifCond .eq 8, 3) := by decide +kernel
theorem dX7_errorPosition_13 : decode cX7_errorPosition 13 = .ok (.bipush (-9), 2) := by decide +kernel
theorem dX7_errorPosition_15 : decode cX7_errorPosition 15 = .ok (.goto 7, 3) := by decide +kernel
theorem dX7_errorPosition_18 : decode cX7_errorPosition 18 = .ok (.aload_n 0, 1) := by decide +kernel
theorem dX7_errorPosition_19 : decode cX7_errorPosition 19 = .ok (.getfield 107, 3) := by decide +kernel
theorem dX7_errorPosition_22 : decode cX7_errorPosition 22 = .ok (.ireturn, 1) := by decide +kernel
theorem dX7_allOf_0 : decode cX7_allOf 0 = .ok (.iconst 0, 1) := by decide +kernel
theorem dX7_allOf_1 : decode cX7_allOf 1 = .ok (.istore_n 2, 1) := by decide +kernel
theorem dX7_allOf_2 : decode cX7_allOf 2 = .ok (.iconst 0, 1) := by decide +kernel
theorem dX7_allOf_3 : decode cX7_allOf 3 = .ok (.istore_n 3, 1) := by decide +kernel
theorem dX7_allOf_4 : decode cX7_allOf 4 = .ok (.iload_n 3, 1) := by decide +kernel
theorem dX7_allOf_5 : decode cX7_allOf 5 = .ok (.aload_n 0, 1) := by decide +kernel
theorem dX7_allOf_6 : decode cX7_allOf 6 = .ok (.getfield 7, 3) := by decide +kernel
theorem dX7_allOf_9 : decode cX7_allOf 9 = .ok (.iconst 0, 1) := by decide +kernel
theorem dX7_allOf_10 : decode cX7_allOf 10 = .ok (.iaload, 1) := by decide +kernel
theorem dX7_allOf_11 : decode cX7_allOf 11 = .ok (.if_icmp .ge 18, 3) := by decide +kernel
theorem dX7_allOf_14 : decode cX7_allOf 14 = .ok (.iload_n 2, 1) := by decide +kernel
theorem dX7_allOf_15 : decode cX7_allOf 15 = .ok (.aload_n 0, 1) := by decide +kernel
theorem dX7_allOf_16 : decode cX7_allOf 16 = .ok (.iload_n 3, 1) := by decide +kernel
theorem dX7_allOf_17 : decode cX7_allOf 17 = .ok (.iload_n 1, 1) := by decide +kernel
theorem dX7_allOf_18 : decode cX7_allOf 18 = .ok (.invokevirtual 59, 3) := by decide +kernel
theorem dX7_allOf_21 : decode cX7_allOf 21 = .ok (.iadd, 1) := by decide +kernel
theorem dX7_allOf_22 : decode cX7_allOf 22 = .ok (.istore_n 2, 1) := by decide +kernel
theorem dX7_allOf_23 : decode cX7_allOf 23 = .ok (.iinc 3 1, 3) := by decide +kernel
theorem dX7_allOf_26 : decode cX7_allOf 26 = .ok (.goto (-22), 3) := by decide +kernel
theorem dX7_allOf_29 : decode cX7_allOf 29 = .ok (.iload_n 2, 1) := by decide +kernel
theorem dX7_allOf_30 : decode cX7_allOf 30 = .ok (.ireturn, 1) := by decide +kernel
theorem dX7_load_0 : decode cX7_load 0 = .ok (.aload_n 0, 1) := by decide +kernel
theorem dX7_load_1 : decode cX7_load 1 = .ok (.iconst 0, 1) := by decide +kernel
theorem dX7_load_2 : decode cX7_load 2 = .ok (.putfield 39, 3) := by decide +kernel
theorem dX7_load_5 : decode cX7_load 5 = .ok (.aload_n 0, 1) := by decide +kernel
theorem dX7_load_6 : decode cX7_load 6 = .ok (.iconst 0, 1) := by decide +kernel
theorem dX7_load_7 : decode cX7_load 7 = .ok (.invokevirtual 140, 3) := by decide +kernel
theorem dX7_load_10 : decode cX7_load 10 = .ok (.ifCond .ne 9, 3) := by decide +kernel
theorem dX7_load_13 : decode cX7_load 13 = .ok (.aload_n 0, 1) := by decide +kernel
theorem dX7_load_14 : decode cX7_load 14 = .ok (.iconst 1, 1) := by decide +kernel
theorem dX7_load_15 : decode cX7_load 15 = .ok (.invokevirtual 101, 3) := by decide +kernel
theorem dX7_load_18 : decode cX7_load 18 = .ok (.ireturn, 1) := by decide +kernel
theorem dX7_load_19 : decode cX7_load 19 = .ok (.aload_n 0, 1) := by decide +kernel
theorem dX7_load_20 : decode cX7_load 20 = .ok (.iconst 1, 1) := by decide +kernel
theorem dX7_load_21 : decode cX7_load 21 = .ok (.invokevirtual 140, 3) := by decide +kernel
theorem dX7_load_24 : decode cX7_load 24 = .ok (.pop, 1) := by decide +kernel
theorem dX7_load_25 : decode cX7_load 25 = .ok (.aload_n 0, 1) := by decide +kernel
theorem dX7_load_26 : decode cX7_load 26 = .ok (.iconst 0, 1) := by decide +kernel
theorem dX7_load_27 : decode cX7_load 27 = .ok (.putfield 43, 3) := by decide +kernel
theorem dX7_load_30 : decode cX7_load 30 = .ok (.aload_n 0, 1) := by decide +kernel
theorem dX7_load_31 : decode cX7_load 31 = .ok (.getfield 25, 3) := by decide +kernel
theorem dX7_load_34 : decode cX7_load 34 = .ok (.iconst 0, 1) := by decide +kernel
theorem dX7_load_35 : decode cX7_load 35 = .ok (.iconst 0, 1) := by decide +kernel
theorem dX7_load_36 : decode cX7_load 36 = .ok (.bastore, 1) := by decide +kernel
theorem dX7_load_37 : decode cX7_load 37 = .ok (.aload_n 0, 1) := by decide +kernel
theorem dX7_load_38 : decode cX7_load 38 = .ok (.getfield 25, 3) := by decide +kernel
theorem dX7_load_41 : decode cX7_load 41 = .ok (.iconst 1, 1) := by decide +kernel
theorem dX7_load_42 : decode cX7_load 42 = .ok (.iconst 0, 1) := by decide +kernel
theorem dX7_load_43 : decode cX7_load 43 = .ok (.bastore, 1) := by decide +kernel
theorem dX7_load_44 : decode cX7_load 44 = .ok (.aload_n 0, 1) := by decide +kernel
theorem dX7_load_45 : decode cX7_load 45 = .ok (.iconst 0, 1) := by decide +kernel
theorem dX7_load_46 : decode cX7_load 46 = .ok (.invokevirtual 143, 3) := by decide +kernel
theorem dX7_load_49 : decode cX7_load 49 = .ok (.ireturn, 1) := by decide +kernel
theorem dX7_about_0 : decode cX7_about 0 = .ok (.aload_n 0, 1) := by decide +kernel
theorem dX7_about_1 : decode cX7_about 1 = .ok (.iconst 0, 1) := by decide +kernel
theorem dX7_about_2 : decode cX7_about 2 = .ok (.putfield 39, 3) := by decide +kernel
theorem dX7_about_5 : decode cX7_about 5 = .ok (.iconst 0, 1) := by decide +kernel
theorem dX7_about_6 : decode cX7_about 6 = .ok (.istore_n 2, 1) := by decide +kernel
theorem dX7_about_7 : decode cX7_about 7 = .ok (.iconst 0, 1) := by decide +kernel
theorem dX7_about_8 : decode cX7_about 8 = .ok (.istore_n 3, 1) := by decide +kernel
theorem dX7_about_9 : decode cX7_about 9 = .ok (.iload_n 3, 1) := by decide +kernel
theorem dX7_about_10 : decode cX7_about 10 = .ok (.aload_n 0, 1) := by decide +kernel
theorem dX7_about_11 : decode cX7_about 11 = .ok (.getfield 7, 3) := by decide +kernel
theorem dX7_about_14 : decode cX7_about 14 = .ok (.iconst 0, 1) := by decide +kernel
theorem dX7_about_15 : decode cX7_about 15 = .ok (.iaload, 1) := by decide +kernel
theorem dX7_about_16 : decode cX7_about 16 = .ok (.if_icmp .ge 17, 3) := by decide +kernel
theorem dX7_about_19 : decode cX7_about 19 = .ok (.iload_n 2, 1) := by decide +kernel
theorem dX7_about_20 : decode cX7_about 20 = .ok (.aload_n 0, 1) := by decide +kernel
theorem dX7_about_21 : decode cX7_about 21 = .ok (.iload_n 3, 1) := by decide +kernel
theorem dX7_about_22 : decode cX7_about 22 = .ok (.invokevirtual 70, 3) := by decide +kernel
theorem dX7_about_25 : decode cX7_about 25 = .ok (.iadd, 1) := by decide +kernel
theorem dX7_about_26 : decode cX7_about 26 = .ok (.istore_n 2, 1) := by decide +kernel
theorem dX7_about_27 : decode cX7_about 27 = .ok (.iinc 3 1, 3) := by decide +kernel
theorem dX7_about_30 : decode cX7_about 30 = .ok (.goto (-21), 3) := by decide +kernel
theorem dX7_about_33 : decode cX7_about 33 = .ok (.iload_n 1, 1) := by decide +kernel
theorem dX7_about_34 : decode cX7_about 34 = .ok (.tableswitch 91 0 9 #[54, 54, 54, 54, 54, 61, 63, 69, 76, 83], 54) := by decide +kernel
theorem dX7_about_88 : decode cX7_about 88 = .ok (.aload_n 0, 1) := by decide +kernel
theorem dX7_about_89 : decode cX7_about 89 = .ok (.getfield 7, 3) := by decide +kernel
theorem dX7_about_92 : decode cX7_about 92 = .ok (.iload_n 1, 1) := by decide +kernel
theorem dX7_about_93 : decode cX7_about 93 = .ok (.iaload, 1) := by decide +kernel
theorem dX7_about_94 : decode cX7_about 94 = .ok (.ireturn, 1) := by decide +kernel
theorem dX7_about_95 : decode cX7_about 95 = .ok (.iload_n 2, 1) := by decide +kernel
theorem dX7_about_96 : decode cX7_about 96 = .ok (.ireturn, 1) := by decide +kernel
theorem dX7_about_97 : decode cX7_about 97 = .ok (.aload_n 0, 1) := by decide +kernel
theorem dX7_about_98 : decode cX7_about 98 = .ok (.iconst 0, 1) := by decide +kernel
theorem dX7_about_99 : decode cX7_about 99 = .ok (.invokevirtual 143, 3) := by decide +kernel
theorem dX7_about_102 : decode cX7_about 102 = .ok (.ireturn, 1) := by decide +kernel
theorem dX7_about_103 : decode cX7_about 103 = .ok (.aload_n 0, 1) := by decide +kernel
theorem dX7_about_104 : decode cX7_about 104 = .ok (.bipush 7, 2) := by decide +kernel
theorem dX7_about_106 : decode cX7_about 106 = .ok (.invokevirtual 143, 3) := by decide +kernel
theorem dX7_about_109 : decode cX7_about 109 = .ok (.ireturn, 1) := by decide +kernel
theorem dX7_about_110 : decode cX7_about 110 = .ok (.aload_n 0, 1) := by decide +kernel
theorem dX7_about_111 : decode cX7_about 111 = .ok (.getfield 7, 3) := by decide +kernel
theorem dX7_about_114 : decode cX7_about 114 = .ok (.iconst 5, 1) := by decide +kernel
theorem dX7_about_115 : decode cX7_about 115 = .ok (.iaload, 1) := by decide +kernel
theorem dX7_about_116 : decode cX7_about 116 = .ok (.ireturn, 1) := by decide +kernel
theorem dX7_about_117 : decode cX7_about 117 = .ok (.aload_n 0, 1) := by decide +kernel
theorem dX7_about_118 : decode cX7_about 118 = .ok (.getfield 7, 3) := by decide +kernel
theorem dX7_about_121 : decode cX7_about 121 = .ok (.bipush 6, 2) := by decide +kernel
theorem dX7_about_123 : decode cX7_about 123 = .ok (.iaload, 1) := by decide +kernel
theorem dX7_about_124 : decode cX7_about 124 = .ok (.ireturn, 1) := by decide +kernel
theorem dX7_about_125 : decode cX7_about 125 = .ok (.aload_n 0, 1) := by decide +kernel
theorem dX7_about_126 : decode cX7_about 126 = .ok (.iconst 1, 1) := by decide +kernel
theorem dX7_about_127 : decode cX7_about 127 = .ok (.invokevirtual 101, 3) := by decide +kernel
theorem dX7_about_130 : decode cX7_about 130 = .ok (.ireturn, 1) := by decide +kernel
theorem dX7_master_0 : decode cX7_master 0 = .ok (.aload_n 0, 1) := by decide +kernel
theorem dX7_master_1 : decode cX7_master 1 = .ok (.iconst 0, 1) := by decide +kernel
theorem dX7_master_2 : decode cX7_master 2 = .ok (.putfield 39, 3) := by decide +kernel
theorem dX7_master_5 : decode cX7_master 5 = .ok (.aload_n 0, 1) := by decide +kernel
theorem dX7_master_6 : decode cX7_master 6 = .ok (.iload_n 1, 1) := by decide +kernel
theorem dX7_master_7 : decode cX7_master 7 = .ok (.invokevirtual 146, 3) := by decide +kernel
theorem dX7_master_10 : decode cX7_master 10 = .ok (.ifCond .ne 9, 3) := by decide +kernel
theorem dX7_master_13 : decode cX7_master 13 = .ok (.aload_n 0, 1) := by decide +kernel
theorem dX7_master_14 : decode cX7_master 14 = .ok (.iconst 1, 1) := by decide +kernel
theorem dX7_master_15 : decode cX7_master 15 = .ok (.invokevirtual 101, 3) := by decide +kernel
theorem dX7_master_18 : decode cX7_master 18 = .ok (.ireturn, 1) := by decide +kernel
theorem dX7_master_19 : decode cX7_master 19 = .ok (.iconst 0, 1) := by decide +kernel
theorem dX7_master_20 : decode cX7_master 20 = .ok (.istore_n 3, 1) := by decide +kernel
theorem dX7_master_21 : decode cX7_master 21 = .ok (.iconst 0, 1) := by decide +kernel
theorem dX7_master_22 : decode cX7_master 22 = .ok (.istore 4, 2) := by decide +kernel
theorem dX7_master_24 : decode cX7_master 24 = .ok (.iload 4, 2) := by decide +kernel
theorem dX7_master_26 : decode cX7_master 26 = .ok (.bipush 6, 2) := by decide +kernel
theorem dX7_master_28 : decode cX7_master 28 = .ok (.if_icmp .ge 19, 3) := by decide +kernel
theorem dX7_master_31 : decode cX7_master 31 = .ok (.iload_n 3, 1) := by decide +kernel
theorem dX7_master_32 : decode cX7_master 32 = .ok (.aload_n 0, 1) := by decide +kernel
theorem dX7_master_33 : decode cX7_master 33 = .ok (.iload 4, 2) := by decide +kernel
theorem dX7_master_35 : decode cX7_master 35 = .ok (.iload_n 1, 1) := by decide +kernel
theorem dX7_master_36 : decode cX7_master 36 = .ok (.invokevirtual 56, 3) := by decide +kernel
theorem dX7_master_39 : decode cX7_master 39 = .ok (.iadd, 1) := by decide +kernel
theorem dX7_master_40 : decode cX7_master 40 = .ok (.istore_n 3, 1) := by decide +kernel
theorem dX7_master_41 : decode cX7_master 41 = .ok (.iinc 4 1, 3) := by decide +kernel
theorem dX7_master_44 : decode cX7_master 44 = .ok (.goto (-20), 3) := by decide +kernel
theorem dX7_master_47 : decode cX7_master 47 = .ok (.iconst 0, 1) := by decide +kernel
theorem dX7_master_48 : decode cX7_master 48 = .ok (.istore 4, 2) := by decide +kernel
theorem dX7_master_50 : decode cX7_master 50 = .ok (.iconst 0, 1) := by decide +kernel
theorem dX7_master_51 : decode cX7_master 51 = .ok (.istore 5, 2) := by decide +kernel
theorem dX7_master_53 : decode cX7_master 53 = .ok (.iload 5, 2) := by decide +kernel
theorem dX7_master_55 : decode cX7_master 55 = .ok (.aload_n 0, 1) := by decide +kernel
theorem dX7_master_56 : decode cX7_master 56 = .ok (.iload_n 1, 1) := by decide +kernel
theorem dX7_master_57 : decode cX7_master 57 = .ok (.iconst 0, 1) := by decide +kernel
theorem dX7_master_58 : decode cX7_master 58 = .ok (.invokevirtual 59, 3) := by decide +kernel
theorem dX7_master_61 : decode cX7_master 61 = .ok (.if_icmp .ge 28, 3) := by decide +kernel
theorem dX7_master_64 : decode cX7_master 64 = .ok (.iload 4, 2) := by decide +kernel
theorem dX7_master_66 : decode cX7_master 66 = .ok (.aload_n 0, 1) := by decide +kernel
theorem dX7_master_67 : decode cX7_master 67 = .ok (.iload_n 1, 1) := by decide +kernel
theorem dX7_master_68 : decode cX7_master 68 = .ok (.bipush 8, 2) := by decide +kernel
theorem dX7_master_70 : decode cX7_master 70 = .ok (.iconst 3, 1) := by decide +kernel
theorem dX7_master_71 : decode cX7_master 71 = .ok (.iload 5, 2) := by decide +kernel
theorem dX7_master_73 : decode cX7_master 73 = .ok (.imul, 1) := by decide +kernel
theorem dX7_master_74 : decode cX7_master 74 = .ok (.iadd, 1) := by decide +kernel
theorem dX7_master_75 : decode cX7_master 75 = .ok (.iconst 1, 1) := by decide +kernel
theorem dX7_master_76 : decode cX7_master 76 = .ok (.iadd, 1) := by decide +kernel
theorem dX7_master_77 : decode cX7_master 77 = .ok (.invokevirtual 59, 3) := by decide +kernel
theorem dX7_master_80 : decode cX7_master 80 = .ok (.iadd, 1) := by decide +kernel
theorem dX7_master_81 : decode cX7_master 81 = .ok (.istore 4, 2) := by decide +kernel
theorem dX7_master_83 : decode cX7_master 83 = .ok (.iinc 5 1, 3) := by decide +kernel
theorem dX7_master_86 : decode cX7_master 86 = .ok (.goto (-33), 3) := by decide +kernel
theorem dX7_master_89 : decode cX7_master 89 = .ok (.iload_n 2, 1) := by decide +kernel
theorem dX7_master_90 : decode cX7_master 90 = .ok (.tableswitch 58 0 4 #[34, 40, 46, 48, 55], 34) := by decide +kernel
theorem dX7_master_124 : decode cX7_master 124 = .ok (.aload_n 0, 1) := by decide +kernel
theorem dX7_master_125 : decode cX7_master 125 = .ok (.iload_n 1, 1) := by decide +kernel
theorem dX7_master_126 : decode cX7_master 126 = .ok (.invokevirtual 89, 3) := by decide +kernel
theorem dX7_master_129 : decode cX7_master 129 = .ok (.ireturn, 1) := by decide +kernel
theorem dX7_master_130 : decode cX7_master 130 = .ok (.aload_n 0, 1) := by decide +kernel
theorem dX7_master_131 : decode cX7_master 131 = .ok (.iload_n 1, 1) := by decide +kernel
theorem dX7_master_132 : decode cX7_master 132 = .ok (.invokevirtual 70, 3) := by decide +kernel
theorem dX7_master_135 : decode cX7_master 135 = .ok (.ireturn, 1) := by decide +kernel
theorem dX7_master_136 : decode cX7_master 136 = .ok (.iload_n 3, 1) := by decide +kernel
theorem dX7_master_137 : decode cX7_master 137 = .ok (.ireturn, 1) := by decide +kernel
theorem dX7_master_138 : decode cX7_master 138 = .ok (.aload_n 0, 1) := by decide +kernel
theorem dX7_master_139 : decode cX7_master 139 = .ok (.iload_n 1, 1) := by decide +kernel
theorem dX7_master_140 : decode cX7_master 140 = .ok (.iconst 0, 1) := by decide +kernel
theorem dX7_master_141 : decode cX7_master 141 = .ok (.invokevirtual 59, 3) := by decide +kernel
theorem dX7_master_144 : decode cX7_master 144 = .ok (.ireturn, 1) := by decide +kernel
theorem dX7_master_145 : decode cX7_master 145 = .ok (.iload 4, 2) := by decide +kernel
theorem dX7_master_147 : decode cX7_master 147 = .ok (.ireturn, 1) := by decide +kernel
theorem dX7_master_148 : decode cX7_master 148 = .ok (.iload_n 2, 1) := by decide +kernel
theorem dX7_master_149 : decode cX7_master 149 = .ok (.i2l, 1) := by decide +kernel
theorem dX7_master_150 : decode cX7_master 150 = .ok (.ldc2_w 149, 3) := by decide +kernel
theorem dX7_master_153 : decode cX7_master 153 = .ok (.ldc2_w 151, 3) := by decide +kernel
theorem dX7_master_156 : decode cX7_master 156 = .ok (.invokestatic 46, 3) := by decide +kernel
theorem dX7_master_159 : decode cX7_master 159 = .ok (.ifCond .eq 14, 3) := by decide +kernel
theorem dX7_master_162 : decode cX7_master 162 = .ok (.aload_n 0, 1) := by decide +kernel
theorem dX7_master_163 : decode cX7_master 163 = .ok (.iload_n 1, 1) := by decide +kernel
theorem dX7_master_164 : decode cX7_master 164 = .ok (.iload_n 2, 1) := by decide +kernel
theorem dX7_master_165 : decode cX7_master 165 = .ok (.iconst 4, 1) := by decide +kernel
theorem dX7_master_166 : decode cX7_master 166 = .ok (.isub, 1) := by decide +kernel
theorem dX7_master_167 : decode cX7_master 167 = .ok (.invokevirtual 59, 3) := by decide +kernel
theorem dX7_master_170 : decode cX7_master 170 = .ok (.goto 8, 3) := by decide +kernel
theorem dX7_master_173 : decode cX7_master 173 = .ok (.aload_n 0, 1) := by decide +kernel
theorem dX7_master_174 : decode cX7_master 174 = .ok (.iconst 2, 1) := by decide +kernel
theorem dX7_master_175 : decode cX7_master 175 = .ok (.invokevirtual 101, 3) := by decide +kernel
theorem dX7_master_178 : decode cX7_master 178 = .ok (.ireturn, 1) := by decide +kernel
theorem dX7_owner_0 : decode cX7_owner 0 = .ok (.aload_n 0, 1) := by decide +kernel
theorem dX7_owner_1 : decode cX7_owner 1 = .ok (.iconst 0, 1) := by decide +kernel
theorem dX7_owner_2 : decode cX7_owner 2 = .ok (.putfield 39, 3) := by decide +kernel
theorem dX7_owner_5 : decode cX7_owner 5 = .ok (.aload_n 0, 1) := by decide +kernel
theorem dX7_owner_6 : decode cX7_owner 6 = .ok (.iload_n 1, 1) := by decide +kernel
theorem dX7_owner_7 : decode cX7_owner 7 = .ok (.invokevirtual 153, 3) := by decide +kernel
theorem dX7_owner_10 : decode cX7_owner 10 = .ok (.ifCond .eq 15, 3) := by decide +kernel
theorem dX7_owner_13 : decode cX7_owner 13 = .ok (.aload_n 0, 1) := by decide +kernel
theorem dX7_owner_14 : decode cX7_owner 14 = .ok (.getfield 7, 3) := by decide +kernel
theorem dX7_owner_17 : decode cX7_owner 17 = .ok (.bipush 11, 2) := by decide +kernel
theorem dX7_owner_19 : decode cX7_owner 19 = .ok (.iload_n 1, 1) := by decide +kernel
theorem dX7_owner_20 : decode cX7_owner 20 = .ok (.iadd, 1) := by decide +kernel
theorem dX7_owner_21 : decode cX7_owner 21 = .ok (.iaload, 1) := by decide +kernel
theorem dX7_owner_22 : decode cX7_owner 22 = .ok (.goto 8, 3) := by decide +kernel
theorem dX7_owner_25 : decode cX7_owner 25 = .ok (.aload_n 0, 1) := by decide +kernel
theorem dX7_owner_26 : decode cX7_owner 26 = .ok (.iconst 1, 1) := by decide +kernel
theorem dX7_owner_27 : decode cX7_owner 27 = .ok (.invokevirtual 101, 3) := by decide +kernel
theorem dX7_owner_30 : decode cX7_owner 30 = .ok (.ireturn, 1) := by decide +kernel
theorem dX7_owes_0 : decode cX7_owes 0 = .ok (.aload_n 0, 1) := by decide +kernel
theorem dX7_owes_1 : decode cX7_owes 1 = .ok (.iconst 0, 1) := by decide +kernel
theorem dX7_owes_2 : decode cX7_owes 2 = .ok (.putfield 39, 3) := by decide +kernel
theorem dX7_owes_5 : decode cX7_owes 5 = .ok (.aload_n 0, 1) := by decide +kernel
theorem dX7_owes_6 : decode cX7_owes 6 = .ok (.iload_n 1, 1) := by decide +kernel
theorem dX7_owes_7 : decode cX7_owes 7 = .ok (.invokevirtual 146, 3) := by decide +kernel
theorem dX7_owes_10 : decode cX7_owes 10 = .ok (.ifCond .eq 20, 3) := by decide +kernel
theorem dX7_owes_13 : decode cX7_owes 13 = .ok (.aload_n 0, 1) := by decide +kernel
theorem dX7_owes_14 : decode cX7_owes 14 = .ok (.iload_n 2, 1) := by decide +kernel
theorem dX7_owes_15 : decode cX7_owes 15 = .ok (.invokevirtual 146, 3) := by decide +kernel
theorem dX7_owes_18 : decode cX7_owes 18 = .ok (.ifCond .eq 12, 3) := by decide +kernel
theorem dX7_owes_21 : decode cX7_owes 21 = .ok (.aload_n 0, 1) := by decide +kernel
theorem dX7_owes_22 : decode cX7_owes 22 = .ok (.iload_n 1, 1) := by decide +kernel
theorem dX7_owes_23 : decode cX7_owes 23 = .ok (.iload_n 2, 1) := by decide +kernel
theorem dX7_owes_24 : decode cX7_owes 24 = .ok (.invokevirtual 56, 3) := by decide +kernel
theorem dX7_owes_27 : decode cX7_owes 27 = .ok (.goto 8, 3) := by decide +kernel
theorem dX7_owes_30 : decode cX7_owes 30 = .ok (.aload_n 0, 1) := by decide +kernel
theorem dX7_owes_31 : decode cX7_owes 31 = .ok (.iconst 1, 1) := by decide +kernel
theorem dX7_owes_32 : decode cX7_owes 32 = .ok (.invokevirtual 101, 3) := by decide +kernel
theorem dX7_owes_35 : decode cX7_owes 35 = .ok (.ireturn, 1) := by decide +kernel
theorem dX7_burst_0 : decode cX7_burst 0 = .ok (.aload_n 0, 1) := by decide +kernel
theorem dX7_burst_1 : decode cX7_burst 1 = .ok (.iconst 0, 1) := by decide +kernel
theorem dX7_burst_2 : decode cX7_burst 2 = .ok (.putfield 39, 3) := by decide +kernel
theorem dX7_burst_5 : decode cX7_burst 5 = .ok (.aload_n 0, 1) := by decide +kernel
theorem dX7_burst_6 : decode cX7_burst 6 = .ok (.iload_n 1, 1) := by decide +kernel
theorem dX7_burst_7 : decode cX7_burst 7 = .ok (.invokevirtual 146, 3) := by decide +kernel
theorem dX7_burst_10 : decode cX7_burst 10 = .ok (.ifCond .ne 9, 3) := by decide +kernel
theorem dX7_burst_13 : decode cX7_burst 13 = .ok (.aload_n 0, 1) := by decide +kernel
theorem dX7_burst_14 : decode cX7_burst 14 = .ok (.iconst 1, 1) := by decide +kernel
theorem dX7_burst_15 : decode cX7_burst 15 = .ok (.invokevirtual 101, 3) := by decide +kernel
theorem dX7_burst_18 : decode cX7_burst 18 = .ok (.ireturn, 1) := by decide +kernel
theorem dX7_burst_19 : decode cX7_burst 19 = .ok (.iload_n 2, 1) := by decide +kernel
theorem dX7_burst_20 : decode cX7_burst 20 = .ok (.ifCond .lt 15, 3) := by decide +kernel
theorem dX7_burst_23 : decode cX7_burst 23 = .ok (.iload_n 3, 1) := by decide +kernel
theorem dX7_burst_24 : decode cX7_burst 24 = .ok (.i2l, 1) := by decide +kernel
theorem dX7_burst_25 : decode cX7_burst 25 = .ok (.lconst 0, 1) := by decide +kernel
theorem dX7_burst_26 : decode cX7_burst 26 = .ok (.ldc2_w 156, 3) := by decide +kernel
theorem dX7_burst_29 : decode cX7_burst 29 = .ok (.invokestatic 46, 3) := by decide +kernel
theorem dX7_burst_32 : decode cX7_burst 32 = .ok (.ifCond .ne 9, 3) := by decide +kernel
theorem dX7_burst_35 : decode cX7_burst 35 = .ok (.aload_n 0, 1) := by decide +kernel
theorem dX7_burst_36 : decode cX7_burst 36 = .ok (.iconst 2, 1) := by decide +kernel
theorem dX7_burst_37 : decode cX7_burst 37 = .ok (.invokevirtual 101, 3) := by decide +kernel
theorem dX7_burst_40 : decode cX7_burst 40 = .ok (.ireturn, 1) := by decide +kernel
theorem dX7_burst_41 : decode cX7_burst 41 = .ok (.iload_n 2, 1) := by decide +kernel
theorem dX7_burst_42 : decode cX7_burst 42 = .ok (.aload_n 0, 1) := by decide +kernel
theorem dX7_burst_43 : decode cX7_burst 43 = .ok (.iload_n 1, 1) := by decide +kernel
theorem dX7_burst_44 : decode cX7_burst 44 = .ok (.iconst 0, 1) := by decide +kernel
theorem dX7_burst_45 : decode cX7_burst 45 = .ok (.invokevirtual 59, 3) := by decide +kernel
theorem dX7_burst_48 : decode cX7_burst 48 = .ok (.if_icmp .ge 19, 3) := by decide +kernel
theorem dX7_burst_51 : decode cX7_burst 51 = .ok (.aload_n 0, 1) := by decide +kernel
theorem dX7_burst_52 : decode cX7_burst 52 = .ok (.iload_n 1, 1) := by decide +kernel
theorem dX7_burst_53 : decode cX7_burst 53 = .ok (.bipush 8, 2) := by decide +kernel
theorem dX7_burst_55 : decode cX7_burst 55 = .ok (.iconst 3, 1) := by decide +kernel
theorem dX7_burst_56 : decode cX7_burst 56 = .ok (.iload_n 2, 1) := by decide +kernel
theorem dX7_burst_57 : decode cX7_burst 57 = .ok (.imul, 1) := by decide +kernel
theorem dX7_burst_58 : decode cX7_burst 58 = .ok (.iadd, 1) := by decide +kernel
theorem dX7_burst_59 : decode cX7_burst 59 = .ok (.iload_n 3, 1) := by decide +kernel
theorem dX7_burst_60 : decode cX7_burst 60 = .ok (.iadd, 1) := by decide +kernel
theorem dX7_burst_61 : decode cX7_burst 61 = .ok (.invokevirtual 59, 3) := by decide +kernel
theorem dX7_burst_64 : decode cX7_burst 64 = .ok (.goto 5, 3) := by decide +kernel
theorem dX7_burst_67 : decode cX7_burst 67 = .ok (.bipush (-9), 2) := by decide +kernel
theorem dX7_burst_69 : decode cX7_burst 69 = .ok (.ireturn, 1) := by decide +kernel
theorem dX7_order_0 : decode cX7_order 0 = .ok (.aload_n 0, 1) := by decide +kernel
theorem dX7_order_1 : decode cX7_order 1 = .ok (.iconst 0, 1) := by decide +kernel
theorem dX7_order_2 : decode cX7_order 2 = .ok (.putfield 39, 3) := by decide +kernel
theorem dX7_order_5 : decode cX7_order 5 = .ok (.iload_n 1, 1) := by decide +kernel
theorem dX7_order_6 : decode cX7_order 6 = .ok (.ifCond .ge 9, 3) := by decide +kernel
theorem dX7_order_9 : decode cX7_order 9 = .ok (.aload_n 0, 1) := by decide +kernel
theorem dX7_order_10 : decode cX7_order 10 = .ok (.iconst 1, 1) := by decide +kernel
theorem dX7_order_11 : decode cX7_order 11 = .ok (.invokevirtual 101, 3) := by decide +kernel
theorem dX7_order_14 : decode cX7_order 14 = .ok (.ireturn, 1) := by decide +kernel
theorem dX7_order_15 : decode cX7_order 15 = .ok (.iconst 0, 1) := by decide +kernel
theorem dX7_order_16 : decode cX7_order 16 = .ok (.istore_n 2, 1) := by decide +kernel
theorem dX7_order_17 : decode cX7_order 17 = .ok (.iload_n 2, 1) := by decide +kernel
theorem dX7_order_18 : decode cX7_order 18 = .ok (.aload_n 0, 1) := by decide +kernel
theorem dX7_order_19 : decode cX7_order 19 = .ok (.getfield 7, 3) := by decide +kernel
theorem dX7_order_22 : decode cX7_order 22 = .ok (.iconst 0, 1) := by decide +kernel
theorem dX7_order_23 : decode cX7_order 23 = .ok (.iaload, 1) := by decide +kernel
theorem dX7_order_24 : decode cX7_order 24 = .ok (.if_icmp .ge 80, 3) := by decide +kernel
theorem dX7_order_27 : decode cX7_order 27 = .ok (.iconst 0, 1) := by decide +kernel
theorem dX7_order_28 : decode cX7_order 28 = .ok (.istore_n 3, 1) := by decide +kernel
theorem dX7_order_29 : decode cX7_order 29 = .ok (.iconst 0, 1) := by decide +kernel
theorem dX7_order_30 : decode cX7_order 30 = .ok (.istore 4, 2) := by decide +kernel
theorem dX7_order_32 : decode cX7_order 32 = .ok (.iload 4, 2) := by decide +kernel
theorem dX7_order_34 : decode cX7_order 34 = .ok (.aload_n 0, 1) := by decide +kernel
theorem dX7_order_35 : decode cX7_order 35 = .ok (.getfield 7, 3) := by decide +kernel
theorem dX7_order_38 : decode cX7_order 38 = .ok (.iconst 0, 1) := by decide +kernel
theorem dX7_order_39 : decode cX7_order 39 = .ok (.iaload, 1) := by decide +kernel
theorem dX7_order_40 : decode cX7_order 40 = .ok (.if_icmp .ge 51, 3) := by decide +kernel
theorem dX7_order_43 : decode cX7_order 43 = .ok (.iload_n 3, 1) := by decide +kernel
theorem dX7_order_44 : decode cX7_order 44 = .ok (.aload_n 0, 1) := by decide +kernel
theorem dX7_order_45 : decode cX7_order 45 = .ok (.iload 4, 2) := by decide +kernel
theorem dX7_order_47 : decode cX7_order 47 = .ok (.invokevirtual 70, 3) := by decide +kernel
theorem dX7_order_50 : decode cX7_order 50 = .ok (.aload_n 0, 1) := by decide +kernel
theorem dX7_order_51 : decode cX7_order 51 = .ok (.iload_n 2, 1) := by decide +kernel
theorem dX7_order_52 : decode cX7_order 52 = .ok (.invokevirtual 70, 3) := by decide +kernel
theorem dX7_order_55 : decode cX7_order 55 = .ok (.if_icmp .gt 23, 3) := by decide +kernel
theorem dX7_order_58 : decode cX7_order 58 = .ok (.aload_n 0, 1) := by decide +kernel
theorem dX7_order_59 : decode cX7_order 59 = .ok (.iload 4, 2) := by decide +kernel
theorem dX7_order_61 : decode cX7_order 61 = .ok (.invokevirtual 70, 3) := by decide +kernel
theorem dX7_order_64 : decode cX7_order 64 = .ok (.aload_n 0, 1) := by decide +kernel
theorem dX7_order_65 : decode cX7_order 65 = .ok (.iload_n 2, 1) := by decide +kernel
theorem dX7_order_66 : decode cX7_order 66 = .ok (.invokevirtual 70, 3) := by decide +kernel
theorem dX7_order_69 : decode cX7_order 69 = .ok (.if_icmp .ne 13, 3) := by decide +kernel
theorem dX7_order_72 : decode cX7_order 72 = .ok (.iload 4, 2) := by decide +kernel
theorem dX7_order_74 : decode cX7_order 74 = .ok (.iload_n 2, 1) := by decide +kernel
theorem dX7_order_75 : decode cX7_order 75 = .ok (.if_icmp .ge 7, 3) := by decide +kernel
theorem dX7_order_78 : decode cX7_order 78 = .ok (.iconst 1, 1) := by decide +kernel
theorem dX7_order_79 : decode cX7_order 79 = .ok (.goto 4, 3) := by decide +kernel
theorem dX7_order_82 : decode cX7_order 82 = .ok (.iconst 0, 1) := by decide +kernel
theorem dX7_order_83 : decode cX7_order 83 = .ok (.iadd, 1) := by decide +kernel
theorem dX7_order_84 : decode cX7_order 84 = .ok (.istore_n 3, 1) := by decide +kernel
theorem dX7_order_85 : decode cX7_order 85 = .ok (.iinc 4 1, 3) := by decide +kernel
theorem dX7_order_88 : decode cX7_order 88 = .ok (.goto (-56), 3) := by decide +kernel
theorem dX7_order_91 : decode cX7_order 91 = .ok (.iload_n 3, 1) := by decide +kernel
theorem dX7_order_92 : decode cX7_order 92 = .ok (.iload_n 1, 1) := by decide +kernel
theorem dX7_order_93 : decode cX7_order 93 = .ok (.if_icmp .ne 5, 3) := by decide +kernel
theorem dX7_order_96 : decode cX7_order 96 = .ok (.iload_n 2, 1) := by decide +kernel
theorem dX7_order_97 : decode cX7_order 97 = .ok (.ireturn, 1) := by decide +kernel
theorem dX7_order_98 : decode cX7_order 98 = .ok (.iinc 2 1, 3) := by decide +kernel
theorem dX7_order_101 : decode cX7_order 101 = .ok (.goto (-84), 3) := by decide +kernel
theorem dX7_order_104 : decode cX7_order 104 = .ok (.bipush (-9), 2) := by decide +kernel
theorem dX7_order_106 : decode cX7_order 106 = .ok (.ireturn, 1) := by decide +kernel
theorem dX7_addMaster_0 : decode cX7_addMaster 0 = .ok (.aload_n 0, 1) := by decide +kernel
theorem dX7_addMaster_1 : decode cX7_addMaster 1 = .ok (.iconst 0, 1) := by decide +kernel
theorem dX7_addMaster_2 : decode cX7_addMaster 2 = .ok (.putfield 39, 3) := by decide +kernel
theorem dX7_addMaster_5 : decode cX7_addMaster 5 = .ok (.aload_n 0, 1) := by decide +kernel
theorem dX7_addMaster_6 : decode cX7_addMaster 6 = .ok (.getfield 7, 3) := by decide +kernel
theorem dX7_addMaster_9 : decode cX7_addMaster 9 = .ok (.iconst 0, 1) := by decide +kernel
theorem dX7_addMaster_10 : decode cX7_addMaster 10 = .ok (.iaload, 1) := by decide +kernel
theorem dX7_addMaster_11 : decode cX7_addMaster 11 = .ok (.bipush 6, 2) := by decide +kernel
theorem dX7_addMaster_13 : decode cX7_addMaster 13 = .ok (.if_icmp .ne 9, 3) := by decide +kernel
theorem dX7_addMaster_16 : decode cX7_addMaster 16 = .ok (.aload_n 0, 1) := by decide +kernel
theorem dX7_addMaster_17 : decode cX7_addMaster 17 = .ok (.iconst 1, 1) := by decide +kernel
theorem dX7_addMaster_18 : decode cX7_addMaster 18 = .ok (.invokevirtual 101, 3) := by decide +kernel
theorem dX7_addMaster_21 : decode cX7_addMaster 21 = .ok (.ireturn, 1) := by decide +kernel
theorem dX7_addMaster_22 : decode cX7_addMaster 22 = .ok (.aload_n 0, 1) := by decide +kernel
theorem dX7_addMaster_23 : decode cX7_addMaster 23 = .ok (.invokevirtual 158, 3) := by decide +kernel
theorem dX7_addMaster_26 : decode cX7_addMaster 26 = .ok (.aload_n 0, 1) := by decide +kernel
theorem dX7_addMaster_27 : decode cX7_addMaster 27 = .ok (.getfield 7, 3) := by decide +kernel
theorem dX7_addMaster_30 : decode cX7_addMaster 30 = .ok (.iconst 0, 1) := by decide +kernel
theorem dX7_addMaster_31 : decode cX7_addMaster 31 = .ok (.dup2, 1) := by decide +kernel
theorem dX7_addMaster_32 : decode cX7_addMaster 32 = .ok (.iaload, 1) := by decide +kernel
theorem dX7_addMaster_33 : decode cX7_addMaster 33 = .ok (.iconst 1, 1) := by decide +kernel
theorem dX7_addMaster_34 : decode cX7_addMaster 34 = .ok (.iadd, 1) := by decide +kernel
theorem dX7_addMaster_35 : decode cX7_addMaster 35 = .ok (.iastore, 1) := by decide +kernel
theorem dX7_addMaster_36 : decode cX7_addMaster 36 = .ok (.aload_n 0, 1) := by decide +kernel
theorem dX7_addMaster_37 : decode cX7_addMaster 37 = .ok (.getfield 7, 3) := by decide +kernel
theorem dX7_addMaster_40 : decode cX7_addMaster 40 = .ok (.iconst 0, 1) := by decide +kernel
theorem dX7_addMaster_41 : decode cX7_addMaster 41 = .ok (.iaload, 1) := by decide +kernel
theorem dX7_addMaster_42 : decode cX7_addMaster 42 = .ok (.iconst 1, 1) := by decide +kernel
theorem dX7_addMaster_43 : decode cX7_addMaster 43 = .ok (.isub, 1) := by decide +kernel
theorem dX7_addMaster_44 : decode cX7_addMaster 44 = .ok (.ireturn, 1) := by decide +kernel
theorem dX7_puts_0 : decode cX7_puts 0 = .ok (.aload_n 0, 1) := by decide +kernel
theorem dX7_puts_1 : decode cX7_puts 1 = .ok (.getfield 7, 3) := by decide +kernel
theorem dX7_puts_4 : decode cX7_puts 4 = .ok (.iload_n 1, 1) := by decide +kernel
theorem dX7_puts_5 : decode cX7_puts 5 = .ok (.iaload, 1) := by decide +kernel
theorem dX7_puts_6 : decode cX7_puts 6 = .ok (.istore_n 3, 1) := by decide +kernel
theorem dX7_puts_7 : decode cX7_puts 7 = .ok (.aload_n 0, 1) := by decide +kernel
theorem dX7_puts_8 : decode cX7_puts 8 = .ok (.getfield 7, 3) := by decide +kernel
theorem dX7_puts_11 : decode cX7_puts 11 = .ok (.iload_n 1, 1) := by decide +kernel
theorem dX7_puts_12 : decode cX7_puts 12 = .ok (.iload_n 2, 1) := by decide +kernel
theorem dX7_puts_13 : decode cX7_puts 13 = .ok (.iastore, 1) := by decide +kernel
theorem dX7_puts_14 : decode cX7_puts 14 = .ok (.iload_n 3, 1) := by decide +kernel
theorem dX7_puts_15 : decode cX7_puts 15 = .ok (.ireturn, 1) := by decide +kernel
theorem dX7_give_0 : decode cX7_give 0 = .ok (.aload_n 0, 1) := by decide +kernel
theorem dX7_give_1 : decode cX7_give 1 = .ok (.iconst 0, 1) := by decide +kernel
theorem dX7_give_2 : decode cX7_give 2 = .ok (.putfield 39, 3) := by decide +kernel
theorem dX7_give_5 : decode cX7_give 5 = .ok (.aload_n 0, 1) := by decide +kernel
theorem dX7_give_6 : decode cX7_give 6 = .ok (.iload_n 1, 1) := by decide +kernel
theorem dX7_give_7 : decode cX7_give 7 = .ok (.invokevirtual 153, 3) := by decide +kernel
theorem dX7_give_10 : decode cX7_give 10 = .ok (.ifCond .eq 11, 3) := by decide +kernel
theorem dX7_give_13 : decode cX7_give 13 = .ok (.aload_n 0, 1) := by decide +kernel
theorem dX7_give_14 : decode cX7_give 14 = .ok (.iload_n 2, 1) := by decide +kernel
theorem dX7_give_15 : decode cX7_give 15 = .ok (.invokevirtual 146, 3) := by decide +kernel
theorem dX7_give_18 : decode cX7_give 18 = .ok (.ifCond .ne 9, 3) := by decide +kernel
theorem dX7_give_21 : decode cX7_give 21 = .ok (.aload_n 0, 1) := by decide +kernel
theorem dX7_give_22 : decode cX7_give 22 = .ok (.iconst 1, 1) := by decide +kernel
theorem dX7_give_23 : decode cX7_give 23 = .ok (.invokevirtual 101, 3) := by decide +kernel
theorem dX7_give_26 : decode cX7_give 26 = .ok (.ireturn, 1) := by decide +kernel
theorem dX7_give_27 : decode cX7_give 27 = .ok (.aload_n 0, 1) := by decide +kernel
theorem dX7_give_28 : decode cX7_give 28 = .ok (.iload_n 2, 1) := by decide +kernel
theorem dX7_give_29 : decode cX7_give 29 = .ok (.invokevirtual 66, 3) := by decide +kernel
theorem dX7_give_32 : decode cX7_give 32 = .ok (.ifCond .eq 9, 3) := by decide +kernel
theorem dX7_give_35 : decode cX7_give 35 = .ok (.aload_n 0, 1) := by decide +kernel
theorem dX7_give_36 : decode cX7_give 36 = .ok (.iconst 2, 1) := by decide +kernel
theorem dX7_give_37 : decode cX7_give 37 = .ok (.invokevirtual 101, 3) := by decide +kernel
theorem dX7_give_40 : decode cX7_give 40 = .ok (.ireturn, 1) := by decide +kernel
theorem dX7_give_41 : decode cX7_give 41 = .ok (.aload_n 0, 1) := by decide +kernel
theorem dX7_give_42 : decode cX7_give 42 = .ok (.invokevirtual 158, 3) := by decide +kernel
theorem dX7_give_45 : decode cX7_give 45 = .ok (.aload_n 0, 1) := by decide +kernel
theorem dX7_give_46 : decode cX7_give 46 = .ok (.bipush 11, 2) := by decide +kernel
theorem dX7_give_48 : decode cX7_give 48 = .ok (.iload_n 1, 1) := by decide +kernel
theorem dX7_give_49 : decode cX7_give 49 = .ok (.iadd, 1) := by decide +kernel
theorem dX7_give_50 : decode cX7_give 50 = .ok (.iload_n 2, 1) := by decide +kernel
theorem dX7_give_51 : decode cX7_give 51 = .ok (.invokevirtual 161, 3) := by decide +kernel
theorem dX7_give_54 : decode cX7_give 54 = .ok (.ireturn, 1) := by decide +kernel
theorem dX7_setLatency_0 : decode cX7_setLatency 0 = .ok (.aload_n 0, 1) := by decide +kernel
theorem dX7_setLatency_1 : decode cX7_setLatency 1 = .ok (.iconst 0, 1) := by decide +kernel
theorem dX7_setLatency_2 : decode cX7_setLatency 2 = .ok (.putfield 39, 3) := by decide +kernel
theorem dX7_setLatency_5 : decode cX7_setLatency 5 = .ok (.iload_n 1, 1) := by decide +kernel
theorem dX7_setLatency_6 : decode cX7_setLatency 6 = .ok (.invokestatic 164, 3) := by decide +kernel
theorem dX7_setLatency_9 : decode cX7_setLatency 9 = .ok (.ifCond .ne 9, 3) := by decide +kernel
theorem dX7_setLatency_12 : decode cX7_setLatency 12 = .ok (.aload_n 0, 1) := by decide +kernel
theorem dX7_setLatency_13 : decode cX7_setLatency 13 = .ok (.iconst 1, 1) := by decide +kernel
theorem dX7_setLatency_14 : decode cX7_setLatency 14 = .ok (.invokevirtual 101, 3) := by decide +kernel
theorem dX7_setLatency_17 : decode cX7_setLatency 17 = .ok (.ireturn, 1) := by decide +kernel
theorem dX7_setLatency_18 : decode cX7_setLatency 18 = .ok (.iload_n 2, 1) := by decide +kernel
theorem dX7_setLatency_19 : decode cX7_setLatency 19 = .ok (.i2l, 1) := by decide +kernel
theorem dX7_setLatency_20 : decode cX7_setLatency 20 = .ok (.lconst 0, 1) := by decide +kernel
theorem dX7_setLatency_21 : decode cX7_setLatency 21 = .ok (.ldc2_w 167, 3) := by decide +kernel
theorem dX7_setLatency_24 : decode cX7_setLatency 24 = .ok (.invokestatic 46, 3) := by decide +kernel
theorem dX7_setLatency_27 : decode cX7_setLatency 27 = .ok (.ifCond .ne 9, 3) := by decide +kernel
theorem dX7_setLatency_30 : decode cX7_setLatency 30 = .ok (.aload_n 0, 1) := by decide +kernel
theorem dX7_setLatency_31 : decode cX7_setLatency 31 = .ok (.iconst 2, 1) := by decide +kernel
theorem dX7_setLatency_32 : decode cX7_setLatency 32 = .ok (.invokevirtual 101, 3) := by decide +kernel
theorem dX7_setLatency_35 : decode cX7_setLatency 35 = .ok (.ireturn, 1) := by decide +kernel
theorem dX7_setLatency_36 : decode cX7_setLatency 36 = .ok (.aload_n 0, 1) := by decide +kernel
theorem dX7_setLatency_37 : decode cX7_setLatency 37 = .ok (.invokevirtual 158, 3) := by decide +kernel
theorem dX7_setLatency_40 : decode cX7_setLatency 40 = .ok (.aload_n 0, 1) := by decide +kernel
theorem dX7_setLatency_41 : decode cX7_setLatency 41 = .ok (.bipush 7, 2) := by decide +kernel
theorem dX7_setLatency_43 : decode cX7_setLatency 43 = .ok (.iload_n 1, 1) := by decide +kernel
theorem dX7_setLatency_44 : decode cX7_setLatency 44 = .ok (.iadd, 1) := by decide +kernel
theorem dX7_setLatency_45 : decode cX7_setLatency 45 = .ok (.iload_n 2, 1) := by decide +kernel
theorem dX7_setLatency_46 : decode cX7_setLatency 46 = .ok (.invokevirtual 161, 3) := by decide +kernel
theorem dX7_setLatency_49 : decode cX7_setLatency 49 = .ok (.ireturn, 1) := by decide +kernel
theorem dX7_setCredit_0 : decode cX7_setCredit 0 = .ok (.aload_n 0, 1) := by decide +kernel
theorem dX7_setCredit_1 : decode cX7_setCredit 1 = .ok (.iconst 0, 1) := by decide +kernel
theorem dX7_setCredit_2 : decode cX7_setCredit 2 = .ok (.putfield 39, 3) := by decide +kernel
theorem dX7_setCredit_5 : decode cX7_setCredit 5 = .ok (.iload_n 1, 1) := by decide +kernel
theorem dX7_setCredit_6 : decode cX7_setCredit 6 = .ok (.i2l, 1) := by decide +kernel
theorem dX7_setCredit_7 : decode cX7_setCredit 7 = .ok (.lconst 0, 1) := by decide +kernel
theorem dX7_setCredit_8 : decode cX7_setCredit 8 = .ok (.ldc2_w 167, 3) := by decide +kernel
theorem dX7_setCredit_11 : decode cX7_setCredit 11 = .ok (.invokestatic 46, 3) := by decide +kernel
theorem dX7_setCredit_14 : decode cX7_setCredit 14 = .ok (.ifCond .ne 9, 3) := by decide +kernel
theorem dX7_setCredit_17 : decode cX7_setCredit 17 = .ok (.aload_n 0, 1) := by decide +kernel
theorem dX7_setCredit_18 : decode cX7_setCredit 18 = .ok (.iconst 1, 1) := by decide +kernel
theorem dX7_setCredit_19 : decode cX7_setCredit 19 = .ok (.invokevirtual 101, 3) := by decide +kernel
theorem dX7_setCredit_22 : decode cX7_setCredit 22 = .ok (.ireturn, 1) := by decide +kernel
theorem dX7_setCredit_23 : decode cX7_setCredit 23 = .ok (.aload_n 0, 1) := by decide +kernel
theorem dX7_setCredit_24 : decode cX7_setCredit 24 = .ok (.invokevirtual 158, 3) := by decide +kernel
theorem dX7_setCredit_27 : decode cX7_setCredit 27 = .ok (.aload_n 0, 1) := by decide +kernel
theorem dX7_setCredit_28 : decode cX7_setCredit 28 = .ok (.iconst 4, 1) := by decide +kernel
theorem dX7_setCredit_29 : decode cX7_setCredit 29 = .ok (.iload_n 1, 1) := by decide +kernel
theorem dX7_setCredit_30 : decode cX7_setCredit 30 = .ok (.invokevirtual 161, 3) := by decide +kernel
theorem dX7_setCredit_33 : decode cX7_setCredit 33 = .ok (.ireturn, 1) := by decide +kernel
theorem dX7_send_0 : decode cX7_send 0 = .ok (.aload_n 0, 1) := by decide +kernel
theorem dX7_send_1 : decode cX7_send 1 = .ok (.iconst 0, 1) := by decide +kernel
theorem dX7_send_2 : decode cX7_send 2 = .ok (.putfield 39, 3) := by decide +kernel
theorem dX7_send_5 : decode cX7_send 5 = .ok (.aload_n 0, 1) := by decide +kernel
theorem dX7_send_6 : decode cX7_send 6 = .ok (.iload_n 1, 1) := by decide +kernel
theorem dX7_send_7 : decode cX7_send 7 = .ok (.invokevirtual 146, 3) := by decide +kernel
theorem dX7_send_10 : decode cX7_send 10 = .ok (.ifCond .eq 10, 3) := by decide +kernel
theorem dX7_send_13 : decode cX7_send 13 = .ok (.iload_n 2, 1) := by decide +kernel
theorem dX7_send_14 : decode cX7_send 14 = .ok (.invokestatic 164, 3) := by decide +kernel
theorem dX7_send_17 : decode cX7_send 17 = .ok (.ifCond .ne 9, 3) := by decide +kernel
theorem dX7_send_20 : decode cX7_send 20 = .ok (.aload_n 0, 1) := by decide +kernel
theorem dX7_send_21 : decode cX7_send 21 = .ok (.iconst 1, 1) := by decide +kernel
theorem dX7_send_22 : decode cX7_send 22 = .ok (.invokevirtual 101, 3) := by decide +kernel
theorem dX7_send_25 : decode cX7_send 25 = .ok (.ireturn, 1) := by decide +kernel
theorem dX7_send_26 : decode cX7_send 26 = .ok (.iload_n 3, 1) := by decide +kernel
theorem dX7_send_27 : decode cX7_send 27 = .ok (.i2l, 1) := by decide +kernel
theorem dX7_send_28 : decode cX7_send 28 = .ok (.lconst 1, 1) := by decide +kernel
theorem dX7_send_29 : decode cX7_send 29 = .ok (.ldc2_w 169, 3) := by decide +kernel
theorem dX7_send_32 : decode cX7_send 32 = .ok (.invokestatic 46, 3) := by decide +kernel
theorem dX7_send_35 : decode cX7_send 35 = .ok (.ifCond .ne 9, 3) := by decide +kernel
theorem dX7_send_38 : decode cX7_send 38 = .ok (.aload_n 0, 1) := by decide +kernel
theorem dX7_send_39 : decode cX7_send 39 = .ok (.iconst 2, 1) := by decide +kernel
theorem dX7_send_40 : decode cX7_send 40 = .ok (.invokevirtual 101, 3) := by decide +kernel
theorem dX7_send_43 : decode cX7_send 43 = .ok (.ireturn, 1) := by decide +kernel
theorem dX7_send_44 : decode cX7_send 44 = .ok (.aload_n 0, 1) := by decide +kernel
theorem dX7_send_45 : decode cX7_send 45 = .ok (.iload_n 1, 1) := by decide +kernel
theorem dX7_send_46 : decode cX7_send 46 = .ok (.invokevirtual 171, 3) := by decide +kernel
theorem dX7_send_49 : decode cX7_send 49 = .ok (.ifCond .ne 9, 3) := by decide +kernel
theorem dX7_send_52 : decode cX7_send 52 = .ok (.aload_n 0, 1) := by decide +kernel
theorem dX7_send_53 : decode cX7_send 53 = .ok (.iconst 3, 1) := by decide +kernel
theorem dX7_send_54 : decode cX7_send 54 = .ok (.invokevirtual 101, 3) := by decide +kernel
theorem dX7_send_57 : decode cX7_send 57 = .ok (.ireturn, 1) := by decide +kernel
theorem dX7_send_58 : decode cX7_send 58 = .ok (.aload_n 0, 1) := by decide +kernel
theorem dX7_send_59 : decode cX7_send 59 = .ok (.invokevirtual 158, 3) := by decide +kernel
theorem dX7_send_62 : decode cX7_send 62 = .ok (.aload_n 0, 1) := by decide +kernel
theorem dX7_send_63 : decode cX7_send 63 = .ok (.iload_n 1, 1) := by decide +kernel
theorem dX7_send_64 : decode cX7_send 64 = .ok (.iload_n 2, 1) := by decide +kernel
theorem dX7_send_65 : decode cX7_send 65 = .ok (.iload_n 3, 1) := by decide +kernel
theorem dX7_send_66 : decode cX7_send 66 = .ok (.iload 4, 2) := by decide +kernel
theorem dX7_send_68 : decode cX7_send 68 = .ok (.ifCond .eq 7, 3) := by decide +kernel
theorem dX7_send_71 : decode cX7_send 71 = .ok (.iconst 1, 1) := by decide +kernel
theorem dX7_send_72 : decode cX7_send 72 = .ok (.goto 4, 3) := by decide +kernel
theorem dX7_send_75 : decode cX7_send 75 = .ok (.iconst 0, 1) := by decide +kernel
theorem dX7_send_76 : decode cX7_send 76 = .ok (.invokevirtual 123, 3) := by decide +kernel
theorem dX7_send_79 : decode cX7_send 79 = .ok (.ireturn, 1) := by decide +kernel
theorem dX7_pass_0 : decode cX7_pass 0 = .ok (.aload_n 0, 1) := by decide +kernel
theorem dX7_pass_1 : decode cX7_pass 1 = .ok (.iconst 0, 1) := by decide +kernel
theorem dX7_pass_2 : decode cX7_pass 2 = .ok (.putfield 39, 3) := by decide +kernel
theorem dX7_pass_5 : decode cX7_pass 5 = .ok (.iload_n 1, 1) := by decide +kernel
theorem dX7_pass_6 : decode cX7_pass 6 = .ok (.i2l, 1) := by decide +kernel
theorem dX7_pass_7 : decode cX7_pass 7 = .ok (.lconst 1, 1) := by decide +kernel
theorem dX7_pass_8 : decode cX7_pass 8 = .ok (.ldc2_w 174, 3) := by decide +kernel
theorem dX7_pass_11 : decode cX7_pass 11 = .ok (.invokestatic 46, 3) := by decide +kernel
theorem dX7_pass_14 : decode cX7_pass 14 = .ok (.ifCond .ne 9, 3) := by decide +kernel
theorem dX7_pass_17 : decode cX7_pass 17 = .ok (.aload_n 0, 1) := by decide +kernel
theorem dX7_pass_18 : decode cX7_pass 18 = .ok (.iconst 1, 1) := by decide +kernel
theorem dX7_pass_19 : decode cX7_pass 19 = .ok (.invokevirtual 101, 3) := by decide +kernel
theorem dX7_pass_22 : decode cX7_pass 22 = .ok (.ireturn, 1) := by decide +kernel
theorem dX7_pass_23 : decode cX7_pass 23 = .ok (.aload_n 0, 1) := by decide +kernel
theorem dX7_pass_24 : decode cX7_pass 24 = .ok (.invokevirtual 158, 3) := by decide +kernel
theorem dX7_pass_27 : decode cX7_pass 27 = .ok (.aload_n 0, 1) := by decide +kernel
theorem dX7_pass_28 : decode cX7_pass 28 = .ok (.iload_n 1, 1) := by decide +kernel
theorem dX7_pass_29 : decode cX7_pass 29 = .ok (.invokevirtual 176, 3) := by decide +kernel
theorem dX7_pass_32 : decode cX7_pass 32 = .ok (.ireturn, 1) := by decide +kernel
theorem dX7_forgive_0 : decode cX7_forgive 0 = .ok (.aload_n 0, 1) := by decide +kernel
theorem dX7_forgive_1 : decode cX7_forgive 1 = .ok (.iconst 0, 1) := by decide +kernel
theorem dX7_forgive_2 : decode cX7_forgive 2 = .ok (.putfield 39, 3) := by decide +kernel
theorem dX7_forgive_5 : decode cX7_forgive 5 = .ok (.aload_n 0, 1) := by decide +kernel
theorem dX7_forgive_6 : decode cX7_forgive 6 = .ok (.iload_n 1, 1) := by decide +kernel
theorem dX7_forgive_7 : decode cX7_forgive 7 = .ok (.invokevirtual 146, 3) := by decide +kernel
theorem dX7_forgive_10 : decode cX7_forgive 10 = .ok (.ifCond .eq 11, 3) := by decide +kernel
theorem dX7_forgive_13 : decode cX7_forgive 13 = .ok (.aload_n 0, 1) := by decide +kernel
theorem dX7_forgive_14 : decode cX7_forgive 14 = .ok (.iload_n 2, 1) := by decide +kernel
theorem dX7_forgive_15 : decode cX7_forgive 15 = .ok (.invokevirtual 146, 3) := by decide +kernel
theorem dX7_forgive_18 : decode cX7_forgive 18 = .ok (.ifCond .ne 9, 3) := by decide +kernel
theorem dX7_forgive_21 : decode cX7_forgive 21 = .ok (.aload_n 0, 1) := by decide +kernel
theorem dX7_forgive_22 : decode cX7_forgive 22 = .ok (.iconst 1, 1) := by decide +kernel
theorem dX7_forgive_23 : decode cX7_forgive 23 = .ok (.invokevirtual 101, 3) := by decide +kernel
theorem dX7_forgive_26 : decode cX7_forgive 26 = .ok (.ireturn, 1) := by decide +kernel
theorem dX7_forgive_27 : decode cX7_forgive 27 = .ok (.aload_n 0, 1) := by decide +kernel
theorem dX7_forgive_28 : decode cX7_forgive 28 = .ok (.invokevirtual 158, 3) := by decide +kernel
theorem dX7_forgive_31 : decode cX7_forgive 31 = .ok (.aload_n 0, 1) := by decide +kernel
theorem dX7_forgive_32 : decode cX7_forgive 32 = .ok (.bipush 27, 2) := by decide +kernel
theorem dX7_forgive_34 : decode cX7_forgive 34 = .ok (.bipush 6, 2) := by decide +kernel
theorem dX7_forgive_36 : decode cX7_forgive 36 = .ok (.iload_n 1, 1) := by decide +kernel
theorem dX7_forgive_37 : decode cX7_forgive 37 = .ok (.imul, 1) := by decide +kernel
theorem dX7_forgive_38 : decode cX7_forgive 38 = .ok (.iadd, 1) := by decide +kernel
theorem dX7_forgive_39 : decode cX7_forgive 39 = .ok (.iload_n 2, 1) := by decide +kernel
theorem dX7_forgive_40 : decode cX7_forgive 40 = .ok (.iadd, 1) := by decide +kernel
theorem dX7_forgive_41 : decode cX7_forgive 41 = .ok (.iconst 0, 1) := by decide +kernel
theorem dX7_forgive_42 : decode cX7_forgive 42 = .ok (.invokevirtual 161, 3) := by decide +kernel
theorem dX7_forgive_45 : decode cX7_forgive 45 = .ok (.ireturn, 1) := by decide +kernel
theorem dX7_undo_0 : decode cX7_undo 0 = .ok (.aload_n 0, 1) := by decide +kernel
theorem dX7_undo_1 : decode cX7_undo 1 = .ok (.iconst 0, 1) := by decide +kernel
theorem dX7_undo_2 : decode cX7_undo 2 = .ok (.putfield 39, 3) := by decide +kernel
theorem dX7_undo_5 : decode cX7_undo 5 = .ok (.aload_n 0, 1) := by decide +kernel
theorem dX7_undo_6 : decode cX7_undo 6 = .ok (.getfield 43, 3) := by decide +kernel
theorem dX7_undo_9 : decode cX7_undo 9 = .ok (.ifCond .ne 9, 3) := by decide +kernel
theorem dX7_undo_12 : decode cX7_undo 12 = .ok (.aload_n 0, 1) := by decide +kernel
theorem dX7_undo_13 : decode cX7_undo 13 = .ok (.iconst 1, 1) := by decide +kernel
theorem dX7_undo_14 : decode cX7_undo 14 = .ok (.invokevirtual 101, 3) := by decide +kernel
theorem dX7_undo_17 : decode cX7_undo 17 = .ok (.ireturn, 1) := by decide +kernel
theorem dX7_undo_18 : decode cX7_undo 18 = .ok (.aload_n 0, 1) := by decide +kernel
theorem dX7_undo_19 : decode cX7_undo 19 = .ok (.dup, 1) := by decide +kernel
theorem dX7_undo_20 : decode cX7_undo 20 = .ok (.getfield 43, 3) := by decide +kernel
theorem dX7_undo_23 : decode cX7_undo 23 = .ok (.iconst 1, 1) := by decide +kernel
theorem dX7_undo_24 : decode cX7_undo 24 = .ok (.isub, 1) := by decide +kernel
theorem dX7_undo_25 : decode cX7_undo 25 = .ok (.putfield 43, 3) := by decide +kernel
theorem dX7_undo_28 : decode cX7_undo 28 = .ok (.iconst 0, 1) := by decide +kernel
theorem dX7_undo_29 : decode cX7_undo 29 = .ok (.istore_n 1, 1) := by decide +kernel
theorem dX7_undo_30 : decode cX7_undo 30 = .ok (.iload_n 1, 1) := by decide +kernel
theorem dX7_undo_31 : decode cX7_undo 31 = .ok (.sipush 291, 3) := by decide +kernel
theorem dX7_undo_34 : decode cX7_undo 34 = .ok (.if_icmp .ge 30, 3) := by decide +kernel
theorem dX7_undo_37 : decode cX7_undo 37 = .ok (.aload_n 0, 1) := by decide +kernel
theorem dX7_undo_38 : decode cX7_undo 38 = .ok (.getfield 7, 3) := by decide +kernel
theorem dX7_undo_41 : decode cX7_undo 41 = .ok (.iload_n 1, 1) := by decide +kernel
theorem dX7_undo_42 : decode cX7_undo 42 = .ok (.aload_n 0, 1) := by decide +kernel
theorem dX7_undo_43 : decode cX7_undo 43 = .ok (.getfield 19, 3) := by decide +kernel
theorem dX7_undo_46 : decode cX7_undo 46 = .ok (.sipush 291, 3) := by decide +kernel
theorem dX7_undo_49 : decode cX7_undo 49 = .ok (.aload_n 0, 1) := by decide +kernel
theorem dX7_undo_50 : decode cX7_undo 50 = .ok (.getfield 43, 3) := by decide +kernel
theorem dX7_undo_53 : decode cX7_undo 53 = .ok (.imul, 1) := by decide +kernel
theorem dX7_undo_54 : decode cX7_undo 54 = .ok (.iload_n 1, 1) := by decide +kernel
theorem dX7_undo_55 : decode cX7_undo 55 = .ok (.iadd, 1) := by decide +kernel
theorem dX7_undo_56 : decode cX7_undo 56 = .ok (.iaload, 1) := by decide +kernel
theorem dX7_undo_57 : decode cX7_undo 57 = .ok (.iastore, 1) := by decide +kernel
theorem dX7_undo_58 : decode cX7_undo 58 = .ok (.iinc 1 1, 3) := by decide +kernel
theorem dX7_undo_61 : decode cX7_undo 61 = .ok (.goto (-31), 3) := by decide +kernel
theorem dX7_undo_64 : decode cX7_undo 64 = .ok (.aload_n 0, 1) := by decide +kernel
theorem dX7_undo_65 : decode cX7_undo 65 = .ok (.getfield 43, 3) := by decide +kernel
theorem dX7_undo_68 : decode cX7_undo 68 = .ok (.ireturn, 1) := by decide +kernel
theorem dX7_turnIn_0 : decode cX7_turnIn 0 = .ok (.aload_n 0, 1) := by decide +kernel
theorem dX7_turnIn_1 : decode cX7_turnIn 1 = .ok (.iconst 0, 1) := by decide +kernel
theorem dX7_turnIn_2 : decode cX7_turnIn 2 = .ok (.putfield 39, 3) := by decide +kernel
theorem dX7_turnIn_5 : decode cX7_turnIn 5 = .ok (.iload_n 1, 1) := by decide +kernel
theorem dX7_turnIn_6 : decode cX7_turnIn 6 = .ok (.i2l, 1) := by decide +kernel
theorem dX7_turnIn_7 : decode cX7_turnIn 7 = .ok (.lconst 0, 1) := by decide +kernel
theorem dX7_turnIn_8 : decode cX7_turnIn 8 = .ok (.ldc2_w 174, 3) := by decide +kernel
theorem dX7_turnIn_11 : decode cX7_turnIn 11 = .ok (.invokestatic 46, 3) := by decide +kernel
theorem dX7_turnIn_14 : decode cX7_turnIn 14 = .ok (.ifCond .ne 9, 3) := by decide +kernel
theorem dX7_turnIn_17 : decode cX7_turnIn 17 = .ok (.aload_n 0, 1) := by decide +kernel
theorem dX7_turnIn_18 : decode cX7_turnIn 18 = .ok (.iconst 1, 1) := by decide +kernel
theorem dX7_turnIn_19 : decode cX7_turnIn 19 = .ok (.invokevirtual 101, 3) := by decide +kernel
theorem dX7_turnIn_22 : decode cX7_turnIn 22 = .ok (.ireturn, 1) := by decide +kernel
theorem dX7_turnIn_23 : decode cX7_turnIn 23 = .ok (.aload_n 0, 1) := by decide +kernel
theorem dX7_turnIn_24 : decode cX7_turnIn 24 = .ok (.getfield 7, 3) := by decide +kernel
theorem dX7_turnIn_27 : decode cX7_turnIn 27 = .ok (.aload_n 0, 1) := by decide +kernel
theorem dX7_turnIn_28 : decode cX7_turnIn 28 = .ok (.getfield 13, 3) := by decide +kernel
theorem dX7_turnIn_31 : decode cX7_turnIn 31 = .ok (.invokestatic 179, 3) := by decide +kernel
theorem dX7_turnIn_34 : decode cX7_turnIn 34 = .ok (.aload_n 0, 1) := by decide +kernel
theorem dX7_turnIn_35 : decode cX7_turnIn 35 = .ok (.iload_n 1, 1) := by decide +kernel
theorem dX7_turnIn_36 : decode cX7_turnIn 36 = .ok (.invokevirtual 176, 3) := by decide +kernel
theorem dX7_turnIn_39 : decode cX7_turnIn 39 = .ok (.pop, 1) := by decide +kernel
theorem dX7_turnIn_40 : decode cX7_turnIn 40 = .ok (.aload_n 0, 1) := by decide +kernel
theorem dX7_turnIn_41 : decode cX7_turnIn 41 = .ok (.invokevirtual 95, 3) := by decide +kernel
theorem dX7_turnIn_44 : decode cX7_turnIn 44 = .ok (.istore_n 2, 1) := by decide +kernel
theorem dX7_turnIn_45 : decode cX7_turnIn 45 = .ok (.aload_n 0, 1) := by decide +kernel
theorem dX7_turnIn_46 : decode cX7_turnIn 46 = .ok (.getfield 13, 3) := by decide +kernel
theorem dX7_turnIn_49 : decode cX7_turnIn 49 = .ok (.aload_n 0, 1) := by decide +kernel
theorem dX7_turnIn_50 : decode cX7_turnIn 50 = .ok (.getfield 7, 3) := by decide +kernel
theorem dX7_turnIn_53 : decode cX7_turnIn 53 = .ok (.invokestatic 179, 3) := by decide +kernel
theorem dX7_turnIn_56 : decode cX7_turnIn 56 = .ok (.iload_n 2, 1) := by decide +kernel
theorem dX7_turnIn_57 : decode cX7_turnIn 57 = .ok (.ifCond .ge 8, 3) := by decide +kernel
theorem dX7_turnIn_60 : decode cX7_turnIn 60 = .ok (.bipush (-9), 2) := by decide +kernel
theorem dX7_turnIn_62 : decode cX7_turnIn 62 = .ok (.goto 4, 3) := by decide +kernel
theorem dX7_turnIn_65 : decode cX7_turnIn 65 = .ok (.iload_n 2, 1) := by decide +kernel
theorem dX7_turnIn_66 : decode cX7_turnIn 66 = .ok (.ireturn, 1) := by decide +kernel
theorem dX7_isDone_0 : decode cX7_isDone 0 = .ok (.aload_n 0, 1) := by decide +kernel
theorem dX7_isDone_1 : decode cX7_isDone 1 = .ok (.iload_n 1, 1) := by decide +kernel
theorem dX7_isDone_2 : decode cX7_isDone 2 = .ok (.iconst 0, 1) := by decide +kernel
theorem dX7_isDone_3 : decode cX7_isDone 3 = .ok (.invokevirtual 59, 3) := by decide +kernel
theorem dX7_isDone_6 : decode cX7_isDone 6 = .ok (.ifCond .ne 17, 3) := by decide +kernel
theorem dX7_isDone_9 : decode cX7_isDone 9 = .ok (.aload_n 0, 1) := by decide +kernel
theorem dX7_isDone_10 : decode cX7_isDone 10 = .ok (.iload_n 1, 1) := by decide +kernel
theorem dX7_isDone_11 : decode cX7_isDone 11 = .ok (.bipush 7, 2) := by decide +kernel
theorem dX7_isDone_13 : decode cX7_isDone 13 = .ok (.invokevirtual 59, 3) := by decide +kernel
theorem dX7_isDone_16 : decode cX7_isDone 16 = .ok (.ifCond .ne 7, 3) := by decide +kernel
theorem dX7_isDone_19 : decode cX7_isDone 19 = .ok (.iconst 1, 1) := by decide +kernel
theorem dX7_isDone_20 : decode cX7_isDone 20 = .ok (.goto 4, 3) := by decide +kernel
theorem dX7_isDone_23 : decode cX7_isDone 23 = .ok (.iconst 0, 1) := by decide +kernel
theorem dX7_isDone_24 : decode cX7_isDone 24 = .ok (.ireturn, 1) := by decide +kernel
theorem dX7_doneWith_0 : decode cX7_doneWith 0 = .ok (.aload_n 0, 1) := by decide +kernel
theorem dX7_doneWith_1 : decode cX7_doneWith 1 = .ok (.getfield 7, 3) := by decide +kernel
theorem dX7_doneWith_4 : decode cX7_doneWith 4 = .ok (.aload_n 0, 1) := by decide +kernel
theorem dX7_doneWith_5 : decode cX7_doneWith 5 = .ok (.getfield 16, 3) := by decide +kernel
theorem dX7_doneWith_8 : decode cX7_doneWith 8 = .ok (.invokestatic 179, 3) := by decide +kernel
theorem dX7_doneWith_11 : decode cX7_doneWith 11 = .ok (.iconst 0, 1) := by decide +kernel
theorem dX7_doneWith_12 : decode cX7_doneWith 12 = .ok (.istore_n 2, 1) := by decide +kernel
theorem dX7_doneWith_13 : decode cX7_doneWith 13 = .ok (.iconst 1, 1) := by decide +kernel
theorem dX7_doneWith_14 : decode cX7_doneWith 14 = .ok (.istore_n 3, 1) := by decide +kernel
theorem dX7_doneWith_15 : decode cX7_doneWith 15 = .ok (.iload_n 3, 1) := by decide +kernel
theorem dX7_doneWith_16 : decode cX7_doneWith 16 = .ok (.ifCond .eq 86, 3) := by decide +kernel
theorem dX7_doneWith_19 : decode cX7_doneWith 19 = .ok (.iconst 0, 1) := by decide +kernel
theorem dX7_doneWith_20 : decode cX7_doneWith 20 = .ok (.istore_n 3, 1) := by decide +kernel
theorem dX7_doneWith_21 : decode cX7_doneWith 21 = .ok (.iconst 0, 1) := by decide +kernel
theorem dX7_doneWith_22 : decode cX7_doneWith 22 = .ok (.istore 4, 2) := by decide +kernel
theorem dX7_doneWith_24 : decode cX7_doneWith 24 = .ok (.iload 4, 2) := by decide +kernel
theorem dX7_doneWith_26 : decode cX7_doneWith 26 = .ok (.aload_n 0, 1) := by decide +kernel
theorem dX7_doneWith_27 : decode cX7_doneWith 27 = .ok (.getfield 7, 3) := by decide +kernel
theorem dX7_doneWith_30 : decode cX7_doneWith 30 = .ok (.iconst 0, 1) := by decide +kernel
theorem dX7_doneWith_31 : decode cX7_doneWith 31 = .ok (.iaload, 1) := by decide +kernel
theorem dX7_doneWith_32 : decode cX7_doneWith 32 = .ok (.if_icmp .ge 38, 3) := by decide +kernel
theorem dX7_doneWith_35 : decode cX7_doneWith 35 = .ok (.iload_n 3, 1) := by decide +kernel
theorem dX7_doneWith_36 : decode cX7_doneWith 36 = .ok (.ifCond .ne 22, 3) := by decide +kernel
theorem dX7_doneWith_39 : decode cX7_doneWith 39 = .ok (.iload_n 1, 1) := by decide +kernel
theorem dX7_doneWith_40 : decode cX7_doneWith 40 = .ok (.iload 4, 2) := by decide +kernel
theorem dX7_doneWith_42 : decode cX7_doneWith 42 = .ok (.ishr, 1) := by decide +kernel
theorem dX7_doneWith_43 : decode cX7_doneWith 43 = .ok (.iconst 1, 1) := by decide +kernel
theorem dX7_doneWith_44 : decode cX7_doneWith 44 = .ok (.iand, 1) := by decide +kernel
theorem dX7_doneWith_45 : decode cX7_doneWith 45 = .ok (.iconst 1, 1) := by decide +kernel
theorem dX7_doneWith_46 : decode cX7_doneWith 46 = .ok (.if_icmp .ne 16, 3) := by decide +kernel
theorem dX7_doneWith_49 : decode cX7_doneWith 49 = .ok (.aload_n 0, 1) := by decide +kernel
theorem dX7_doneWith_50 : decode cX7_doneWith 50 = .ok (.iload 4, 2) := by decide +kernel
theorem dX7_doneWith_52 : decode cX7_doneWith 52 = .ok (.invokevirtual 183, 3) := by decide +kernel
theorem dX7_doneWith_55 : decode cX7_doneWith 55 = .ok (.ifCond .ne 7, 3) := by decide +kernel
theorem dX7_doneWith_58 : decode cX7_doneWith 58 = .ok (.iconst 1, 1) := by decide +kernel
theorem dX7_doneWith_59 : decode cX7_doneWith 59 = .ok (.goto 4, 3) := by decide +kernel
theorem dX7_doneWith_62 : decode cX7_doneWith 62 = .ok (.iconst 0, 1) := by decide +kernel
theorem dX7_doneWith_63 : decode cX7_doneWith 63 = .ok (.istore_n 3, 1) := by decide +kernel
theorem dX7_doneWith_64 : decode cX7_doneWith 64 = .ok (.iinc 4 1, 3) := by decide +kernel
theorem dX7_doneWith_67 : decode cX7_doneWith 67 = .ok (.goto (-43), 3) := by decide +kernel
theorem dX7_doneWith_70 : decode cX7_doneWith 70 = .ok (.iload_n 3, 1) := by decide +kernel
theorem dX7_doneWith_71 : decode cX7_doneWith 71 = .ok (.ifCond .eq 14, 3) := by decide +kernel
theorem dX7_doneWith_74 : decode cX7_doneWith 74 = .ok (.iload_n 2, 1) := by decide +kernel
theorem dX7_doneWith_75 : decode cX7_doneWith 75 = .ok (.sipush 400, 3) := by decide +kernel
theorem dX7_doneWith_78 : decode cX7_doneWith 78 = .ok (.if_icmp .gt 7, 3) := by decide +kernel
theorem dX7_doneWith_81 : decode cX7_doneWith 81 = .ok (.iconst 1, 1) := by decide +kernel
theorem dX7_doneWith_82 : decode cX7_doneWith 82 = .ok (.goto 4, 3) := by decide +kernel
theorem dX7_doneWith_85 : decode cX7_doneWith 85 = .ok (.iconst 0, 1) := by decide +kernel
theorem dX7_doneWith_86 : decode cX7_doneWith 86 = .ok (.istore_n 3, 1) := by decide +kernel
theorem dX7_doneWith_87 : decode cX7_doneWith 87 = .ok (.iload_n 3, 1) := by decide +kernel
theorem dX7_doneWith_88 : decode cX7_doneWith 88 = .ok (.ifCond .eq (-73), 3) := by decide +kernel
theorem dX7_doneWith_91 : decode cX7_doneWith 91 = .ok (.aload_n 0, 1) := by decide +kernel
theorem dX7_doneWith_92 : decode cX7_doneWith 92 = .ok (.invokevirtual 95, 3) := by decide +kernel
theorem dX7_doneWith_95 : decode cX7_doneWith 95 = .ok (.pop, 1) := by decide +kernel
theorem dX7_doneWith_96 : decode cX7_doneWith 96 = .ok (.iinc 2 1, 3) := by decide +kernel
theorem dX7_doneWith_99 : decode cX7_doneWith 99 = .ok (.goto (-84), 3) := by decide +kernel
theorem dX7_doneWith_102 : decode cX7_doneWith 102 = .ok (.aload_n 0, 1) := by decide +kernel
theorem dX7_doneWith_103 : decode cX7_doneWith 103 = .ok (.getfield 16, 3) := by decide +kernel
theorem dX7_doneWith_106 : decode cX7_doneWith 106 = .ok (.aload_n 0, 1) := by decide +kernel
theorem dX7_doneWith_107 : decode cX7_doneWith 107 = .ok (.getfield 7, 3) := by decide +kernel
theorem dX7_doneWith_110 : decode cX7_doneWith 110 = .ok (.invokestatic 179, 3) := by decide +kernel
theorem dX7_doneWith_113 : decode cX7_doneWith 113 = .ok (.iload_n 2, 1) := by decide +kernel
theorem dX7_doneWith_114 : decode cX7_doneWith 114 = .ok (.ireturn, 1) := by decide +kernel
theorem dX7_doneIn_0 : decode cX7_doneIn 0 = .ok (.aload_n 0, 1) := by decide +kernel
theorem dX7_doneIn_1 : decode cX7_doneIn 1 = .ok (.iconst 0, 1) := by decide +kernel
theorem dX7_doneIn_2 : decode cX7_doneIn 2 = .ok (.putfield 39, 3) := by decide +kernel
theorem dX7_doneIn_5 : decode cX7_doneIn 5 = .ok (.aload_n 0, 1) := by decide +kernel
theorem dX7_doneIn_6 : decode cX7_doneIn 6 = .ok (.iload_n 1, 1) := by decide +kernel
theorem dX7_doneIn_7 : decode cX7_doneIn 7 = .ok (.invokevirtual 146, 3) := by decide +kernel
theorem dX7_doneIn_10 : decode cX7_doneIn 10 = .ok (.ifCond .ne 9, 3) := by decide +kernel
theorem dX7_doneIn_13 : decode cX7_doneIn 13 = .ok (.aload_n 0, 1) := by decide +kernel
theorem dX7_doneIn_14 : decode cX7_doneIn 14 = .ok (.iconst 1, 1) := by decide +kernel
theorem dX7_doneIn_15 : decode cX7_doneIn 15 = .ok (.invokevirtual 101, 3) := by decide +kernel
theorem dX7_doneIn_18 : decode cX7_doneIn 18 = .ok (.ireturn, 1) := by decide +kernel
theorem dX7_doneIn_19 : decode cX7_doneIn 19 = .ok (.aload_n 0, 1) := by decide +kernel
theorem dX7_doneIn_20 : decode cX7_doneIn 20 = .ok (.iconst 1, 1) := by decide +kernel
theorem dX7_doneIn_21 : decode cX7_doneIn 21 = .ok (.iload_n 1, 1) := by decide +kernel
theorem dX7_doneIn_22 : decode cX7_doneIn 22 = .ok (.ishl, 1) := by decide +kernel
theorem dX7_doneIn_23 : decode cX7_doneIn 23 = .ok (.invokevirtual 186, 3) := by decide +kernel
theorem dX7_doneIn_26 : decode cX7_doneIn 26 = .ok (.istore_n 2, 1) := by decide +kernel
theorem dX7_doneIn_27 : decode cX7_doneIn 27 = .ok (.iload_n 2, 1) := by decide +kernel
theorem dX7_doneIn_28 : decode cX7_doneIn 28 = .ok (.sipush 400, 3) := by decide +kernel
theorem dX7_doneIn_31 : decode cX7_doneIn 31 = .ok (.if_icmp .le 8, 3) := by decide +kernel
theorem dX7_doneIn_34 : decode cX7_doneIn 34 = .ok (.bipush (-9), 2) := by decide +kernel
theorem dX7_doneIn_36 : decode cX7_doneIn 36 = .ok (.goto 4, 3) := by decide +kernel
theorem dX7_doneIn_39 : decode cX7_doneIn 39 = .ok (.iload_n 2, 1) := by decide +kernel
theorem dX7_doneIn_40 : decode cX7_doneIn 40 = .ok (.ireturn, 1) := by decide +kernel
theorem dX7_bestCredit_0 : decode cX7_bestCredit 0 = .ok (.aload_n 0, 1) := by decide +kernel
theorem dX7_bestCredit_1 : decode cX7_bestCredit 1 = .ok (.iconst 0, 1) := by decide +kernel
theorem dX7_bestCredit_2 : decode cX7_bestCredit 2 = .ok (.putfield 39, 3) := by decide +kernel
theorem dX7_bestCredit_5 : decode cX7_bestCredit 5 = .ok (.aload_n 0, 1) := by decide +kernel
theorem dX7_bestCredit_6 : decode cX7_bestCredit 6 = .ok (.getfield 7, 3) := by decide +kernel
theorem dX7_bestCredit_9 : decode cX7_bestCredit 9 = .ok (.iconst 4, 1) := by decide +kernel
theorem dX7_bestCredit_10 : decode cX7_bestCredit 10 = .ok (.iaload, 1) := by decide +kernel
theorem dX7_bestCredit_11 : decode cX7_bestCredit 11 = .ok (.istore_n 1, 1) := by decide +kernel
theorem dX7_bestCredit_12 : decode cX7_bestCredit 12 = .ok (.iconst 0, 1) := by decide +kernel
theorem dX7_bestCredit_13 : decode cX7_bestCredit 13 = .ok (.istore_n 2, 1) := by decide +kernel
theorem dX7_bestCredit_14 : decode cX7_bestCredit 14 = .ok (.sipush 402, 3) := by decide +kernel
theorem dX7_bestCredit_17 : decode cX7_bestCredit 17 = .ok (.istore_n 3, 1) := by decide +kernel
theorem dX7_bestCredit_18 : decode cX7_bestCredit 18 = .ok (.iconst 0, 1) := by decide +kernel
theorem dX7_bestCredit_19 : decode cX7_bestCredit 19 = .ok (.istore 4, 2) := by decide +kernel
theorem dX7_bestCredit_21 : decode cX7_bestCredit 21 = .ok (.iload 4, 2) := by decide +kernel
theorem dX7_bestCredit_23 : decode cX7_bestCredit 23 = .ok (.bipush 10, 2) := by decide +kernel
theorem dX7_bestCredit_25 : decode cX7_bestCredit 25 = .ok (.if_icmp .ge 51, 3) := by decide +kernel
theorem dX7_bestCredit_28 : decode cX7_bestCredit 28 = .ok (.aload_n 0, 1) := by decide +kernel
theorem dX7_bestCredit_29 : decode cX7_bestCredit 29 = .ok (.getfield 7, 3) := by decide +kernel
theorem dX7_bestCredit_32 : decode cX7_bestCredit 32 = .ok (.iconst 4, 1) := by decide +kernel
theorem dX7_bestCredit_33 : decode cX7_bestCredit 33 = .ok (.iload 4, 2) := by decide +kernel
theorem dX7_bestCredit_35 : decode cX7_bestCredit 35 = .ok (.iastore, 1) := by decide +kernel
theorem dX7_bestCredit_36 : decode cX7_bestCredit 36 = .ok (.aload_n 0, 1) := by decide +kernel
theorem dX7_bestCredit_37 : decode cX7_bestCredit 37 = .ok (.bipush 63, 2) := by decide +kernel
theorem dX7_bestCredit_39 : decode cX7_bestCredit 39 = .ok (.invokevirtual 186, 3) := by decide +kernel
theorem dX7_bestCredit_42 : decode cX7_bestCredit 42 = .ok (.istore 5, 2) := by decide +kernel
theorem dX7_bestCredit_44 : decode cX7_bestCredit 44 = .ok (.iload 5, 2) := by decide +kernel
theorem dX7_bestCredit_46 : decode cX7_bestCredit 46 = .ok (.iload_n 3, 1) := by decide +kernel
theorem dX7_bestCredit_47 : decode cX7_bestCredit 47 = .ok (.if_icmp .ge 8, 3) := by decide +kernel
theorem dX7_bestCredit_50 : decode cX7_bestCredit 50 = .ok (.iload 4, 2) := by decide +kernel
theorem dX7_bestCredit_52 : decode cX7_bestCredit 52 = .ok (.goto 4, 3) := by decide +kernel
theorem dX7_bestCredit_55 : decode cX7_bestCredit 55 = .ok (.iload_n 2, 1) := by decide +kernel
theorem dX7_bestCredit_56 : decode cX7_bestCredit 56 = .ok (.istore_n 2, 1) := by decide +kernel
theorem dX7_bestCredit_57 : decode cX7_bestCredit 57 = .ok (.iload 5, 2) := by decide +kernel
theorem dX7_bestCredit_59 : decode cX7_bestCredit 59 = .ok (.iload_n 3, 1) := by decide +kernel
theorem dX7_bestCredit_60 : decode cX7_bestCredit 60 = .ok (.if_icmp .ge 8, 3) := by decide +kernel
theorem dX7_bestCredit_63 : decode cX7_bestCredit 63 = .ok (.iload 5, 2) := by decide +kernel
theorem dX7_bestCredit_65 : decode cX7_bestCredit 65 = .ok (.goto 4, 3) := by decide +kernel
theorem dX7_bestCredit_68 : decode cX7_bestCredit 68 = .ok (.iload_n 3, 1) := by decide +kernel
theorem dX7_bestCredit_69 : decode cX7_bestCredit 69 = .ok (.istore_n 3, 1) := by decide +kernel
theorem dX7_bestCredit_70 : decode cX7_bestCredit 70 = .ok (.iinc 4 1, 3) := by decide +kernel
theorem dX7_bestCredit_73 : decode cX7_bestCredit 73 = .ok (.goto (-52), 3) := by decide +kernel
theorem dX7_bestCredit_76 : decode cX7_bestCredit 76 = .ok (.aload_n 0, 1) := by decide +kernel
theorem dX7_bestCredit_77 : decode cX7_bestCredit 77 = .ok (.getfield 7, 3) := by decide +kernel
theorem dX7_bestCredit_80 : decode cX7_bestCredit 80 = .ok (.iconst 4, 1) := by decide +kernel
theorem dX7_bestCredit_81 : decode cX7_bestCredit 81 = .ok (.iload_n 1, 1) := by decide +kernel
theorem dX7_bestCredit_82 : decode cX7_bestCredit 82 = .ok (.iastore, 1) := by decide +kernel
theorem dX7_bestCredit_83 : decode cX7_bestCredit 83 = .ok (.iload_n 2, 1) := by decide +kernel
theorem dX7_bestCredit_84 : decode cX7_bestCredit 84 = .ok (.ireturn, 1) := by decide +kernel
theorem dX7_bestSlot_0 : decode cX7_bestSlot 0 = .ok (.aload_n 0, 1) := by decide +kernel
theorem dX7_bestSlot_1 : decode cX7_bestSlot 1 = .ok (.iconst 0, 1) := by decide +kernel
theorem dX7_bestSlot_2 : decode cX7_bestSlot 2 = .ok (.putfield 39, 3) := by decide +kernel
theorem dX7_bestSlot_5 : decode cX7_bestSlot 5 = .ok (.aload_n 0, 1) := by decide +kernel
theorem dX7_bestSlot_6 : decode cX7_bestSlot 6 = .ok (.iload_n 1, 1) := by decide +kernel
theorem dX7_bestSlot_7 : decode cX7_bestSlot 7 = .ok (.invokevirtual 146, 3) := by decide +kernel
theorem dX7_bestSlot_10 : decode cX7_bestSlot 10 = .ok (.ifCond .ne 9, 3) := by decide +kernel
theorem dX7_bestSlot_13 : decode cX7_bestSlot 13 = .ok (.aload_n 0, 1) := by decide +kernel
theorem dX7_bestSlot_14 : decode cX7_bestSlot 14 = .ok (.iconst 1, 1) := by decide +kernel
theorem dX7_bestSlot_15 : decode cX7_bestSlot 15 = .ok (.invokevirtual 101, 3) := by decide +kernel
theorem dX7_bestSlot_18 : decode cX7_bestSlot 18 = .ok (.ireturn, 1) := by decide +kernel
theorem dX7_bestSlot_19 : decode cX7_bestSlot 19 = .ok (.aload_n 0, 1) := by decide +kernel
theorem dX7_bestSlot_20 : decode cX7_bestSlot 20 = .ok (.iload_n 1, 1) := by decide +kernel
theorem dX7_bestSlot_21 : decode cX7_bestSlot 21 = .ok (.invokevirtual 66, 3) := by decide +kernel
theorem dX7_bestSlot_24 : decode cX7_bestSlot 24 = .ok (.ifCond .eq 6, 3) := by decide +kernel
theorem dX7_bestSlot_27 : decode cX7_bestSlot 27 = .ok (.bipush (-9), 2) := by decide +kernel
theorem dX7_bestSlot_29 : decode cX7_bestSlot 29 = .ok (.ireturn, 1) := by decide +kernel
theorem dX7_bestSlot_30 : decode cX7_bestSlot 30 = .ok (.iconst 0, 1) := by decide +kernel
theorem dX7_bestSlot_31 : decode cX7_bestSlot 31 = .ok (.istore_n 2, 1) := by decide +kernel
theorem dX7_bestSlot_32 : decode cX7_bestSlot 32 = .ok (.sipush 402, 3) := by decide +kernel
theorem dX7_bestSlot_35 : decode cX7_bestSlot 35 = .ok (.istore_n 3, 1) := by decide +kernel
theorem dX7_bestSlot_36 : decode cX7_bestSlot 36 = .ok (.iconst 0, 1) := by decide +kernel
theorem dX7_bestSlot_37 : decode cX7_bestSlot 37 = .ok (.istore 4, 2) := by decide +kernel
theorem dX7_bestSlot_39 : decode cX7_bestSlot 39 = .ok (.iload 4, 2) := by decide +kernel
theorem dX7_bestSlot_41 : decode cX7_bestSlot 41 = .ok (.aload_n 0, 1) := by decide +kernel
theorem dX7_bestSlot_42 : decode cX7_bestSlot 42 = .ok (.getfield 7, 3) := by decide +kernel
theorem dX7_bestSlot_45 : decode cX7_bestSlot 45 = .ok (.iconst 1, 1) := by decide +kernel
theorem dX7_bestSlot_46 : decode cX7_bestSlot 46 = .ok (.iaload, 1) := by decide +kernel
theorem dX7_bestSlot_47 : decode cX7_bestSlot 47 = .ok (.if_icmp .ge 68, 3) := by decide +kernel
theorem dX7_bestSlot_50 : decode cX7_bestSlot 50 = .ok (.aload_n 0, 1) := by decide +kernel
theorem dX7_bestSlot_51 : decode cX7_bestSlot 51 = .ok (.bipush 11, 2) := by decide +kernel
theorem dX7_bestSlot_53 : decode cX7_bestSlot 53 = .ok (.iload 4, 2) := by decide +kernel
theorem dX7_bestSlot_55 : decode cX7_bestSlot 55 = .ok (.iadd, 1) := by decide +kernel
theorem dX7_bestSlot_56 : decode cX7_bestSlot 56 = .ok (.iload_n 1, 1) := by decide +kernel
theorem dX7_bestSlot_57 : decode cX7_bestSlot 57 = .ok (.invokevirtual 161, 3) := by decide +kernel
theorem dX7_bestSlot_60 : decode cX7_bestSlot 60 = .ok (.istore 5, 2) := by decide +kernel
theorem dX7_bestSlot_62 : decode cX7_bestSlot 62 = .ok (.aload_n 0, 1) := by decide +kernel
theorem dX7_bestSlot_63 : decode cX7_bestSlot 63 = .ok (.iconst 1, 1) := by decide +kernel
theorem dX7_bestSlot_64 : decode cX7_bestSlot 64 = .ok (.iload_n 1, 1) := by decide +kernel
theorem dX7_bestSlot_65 : decode cX7_bestSlot 65 = .ok (.ishl, 1) := by decide +kernel
theorem dX7_bestSlot_66 : decode cX7_bestSlot 66 = .ok (.invokevirtual 186, 3) := by decide +kernel
theorem dX7_bestSlot_69 : decode cX7_bestSlot 69 = .ok (.istore 6, 2) := by decide +kernel
theorem dX7_bestSlot_71 : decode cX7_bestSlot 71 = .ok (.aload_n 0, 1) := by decide +kernel
theorem dX7_bestSlot_72 : decode cX7_bestSlot 72 = .ok (.getfield 7, 3) := by decide +kernel
theorem dX7_bestSlot_75 : decode cX7_bestSlot 75 = .ok (.bipush 11, 2) := by decide +kernel
theorem dX7_bestSlot_77 : decode cX7_bestSlot 77 = .ok (.iload 4, 2) := by decide +kernel
theorem dX7_bestSlot_79 : decode cX7_bestSlot 79 = .ok (.iadd, 1) := by decide +kernel
theorem dX7_bestSlot_80 : decode cX7_bestSlot 80 = .ok (.iload 5, 2) := by decide +kernel
theorem dX7_bestSlot_82 : decode cX7_bestSlot 82 = .ok (.iastore, 1) := by decide +kernel
theorem dX7_bestSlot_83 : decode cX7_bestSlot 83 = .ok (.iload 6, 2) := by decide +kernel
theorem dX7_bestSlot_85 : decode cX7_bestSlot 85 = .ok (.iload_n 3, 1) := by decide +kernel
theorem dX7_bestSlot_86 : decode cX7_bestSlot 86 = .ok (.if_icmp .ge 8, 3) := by decide +kernel
theorem dX7_bestSlot_89 : decode cX7_bestSlot 89 = .ok (.iload 4, 2) := by decide +kernel
theorem dX7_bestSlot_91 : decode cX7_bestSlot 91 = .ok (.goto 4, 3) := by decide +kernel
theorem dX7_bestSlot_94 : decode cX7_bestSlot 94 = .ok (.iload_n 2, 1) := by decide +kernel
theorem dX7_bestSlot_95 : decode cX7_bestSlot 95 = .ok (.istore_n 2, 1) := by decide +kernel
theorem dX7_bestSlot_96 : decode cX7_bestSlot 96 = .ok (.iload 6, 2) := by decide +kernel
theorem dX7_bestSlot_98 : decode cX7_bestSlot 98 = .ok (.iload_n 3, 1) := by decide +kernel
theorem dX7_bestSlot_99 : decode cX7_bestSlot 99 = .ok (.if_icmp .ge 8, 3) := by decide +kernel
theorem dX7_bestSlot_102 : decode cX7_bestSlot 102 = .ok (.iload 6, 2) := by decide +kernel
theorem dX7_bestSlot_104 : decode cX7_bestSlot 104 = .ok (.goto 4, 3) := by decide +kernel
theorem dX7_bestSlot_107 : decode cX7_bestSlot 107 = .ok (.iload_n 3, 1) := by decide +kernel
theorem dX7_bestSlot_108 : decode cX7_bestSlot 108 = .ok (.istore_n 3, 1) := by decide +kernel
theorem dX7_bestSlot_109 : decode cX7_bestSlot 109 = .ok (.iinc 4 1, 3) := by decide +kernel
theorem dX7_bestSlot_112 : decode cX7_bestSlot 112 = .ok (.goto (-73), 3) := by decide +kernel
theorem dX7_bestSlot_115 : decode cX7_bestSlot 115 = .ok (.iload_n 2, 1) := by decide +kernel
theorem dX7_bestSlot_116 : decode cX7_bestSlot 116 = .ok (.ireturn, 1) := by decide +kernel
theorem dX7_acts_0 : decode cX7_acts 0 = .ok (.bipush 10, 2) := by decide +kernel
theorem dX7_acts_2 : decode cX7_acts 2 = .ok (.iload 4, 2) := by decide +kernel
theorem dX7_acts_4 : decode cX7_acts 4 = .ok (.imul, 1) := by decide +kernel
theorem dX7_acts_5 : decode cX7_acts 5 = .ok (.iload 5, 2) := by decide +kernel
theorem dX7_acts_7 : decode cX7_acts 7 = .ok (.iadd, 1) := by decide +kernel
theorem dX7_acts_8 : decode cX7_acts 8 = .ok (.istore 6, 2) := by decide +kernel
theorem dX7_acts_10 : decode cX7_acts 10 = .ok (.iload_n 1, 1) := by decide +kernel
theorem dX7_acts_11 : decode cX7_acts 11 = .ok (.tableswitch 204 1 4 #[29, 51, 108, 164], 29) := by decide +kernel
theorem dX7_acts_40 : decode cX7_acts 40 = .ok (.iload_n 2, 1) := by decide +kernel
theorem dX7_acts_41 : decode cX7_acts 41 = .ok (.iload_n 3, 1) := by decide +kernel
theorem dX7_acts_42 : decode cX7_acts 42 = .ok (.iadd, 1) := by decide +kernel
theorem dX7_acts_43 : decode cX7_acts 43 = .ok (.ifCond .gt 8, 3) := by decide +kernel
theorem dX7_acts_46 : decode cX7_acts 46 = .ok (.iload 6, 2) := by decide +kernel
theorem dX7_acts_48 : decode cX7_acts 48 = .ok (.ifCond .ne 5, 3) := by decide +kernel
theorem dX7_acts_51 : decode cX7_acts 51 = .ok (.iconst 0, 1) := by decide +kernel
theorem dX7_acts_52 : decode cX7_acts 52 = .ok (.ireturn, 1) := by decide +kernel
theorem dX7_acts_53 : decode cX7_acts 53 = .ok (.aload_n 0, 1) := by decide +kernel
theorem dX7_acts_54 : decode cX7_acts 54 = .ok (.iload 6, 2) := by decide +kernel
theorem dX7_acts_56 : decode cX7_acts 56 = .ok (.invokevirtual 176, 3) := by decide +kernel
theorem dX7_acts_59 : decode cX7_acts 59 = .ok (.pop, 1) := by decide +kernel
theorem dX7_acts_60 : decode cX7_acts 60 = .ok (.iconst 1, 1) := by decide +kernel
theorem dX7_acts_61 : decode cX7_acts 61 = .ok (.ireturn, 1) := by decide +kernel
theorem dX7_acts_62 : decode cX7_acts 62 = .ok (.aload_n 0, 1) := by decide +kernel
theorem dX7_acts_63 : decode cX7_acts 63 = .ok (.iload_n 2, 1) := by decide +kernel
theorem dX7_acts_64 : decode cX7_acts 64 = .ok (.invokevirtual 146, 3) := by decide +kernel
theorem dX7_acts_67 : decode cX7_acts 67 = .ok (.ifCond .eq 37, 3) := by decide +kernel
theorem dX7_acts_70 : decode cX7_acts 70 = .ok (.iload_n 3, 1) := by decide +kernel
theorem dX7_acts_71 : decode cX7_acts 71 = .ok (.invokestatic 164, 3) := by decide +kernel
theorem dX7_acts_74 : decode cX7_acts 74 = .ok (.ifCond .eq 30, 3) := by decide +kernel
theorem dX7_acts_77 : decode cX7_acts 77 = .ok (.iload 4, 2) := by decide +kernel
theorem dX7_acts_79 : decode cX7_acts 79 = .ok (.i2l, 1) := by decide +kernel
theorem dX7_acts_80 : decode cX7_acts 80 = .ok (.lconst 1, 1) := by decide +kernel
theorem dX7_acts_81 : decode cX7_acts 81 = .ok (.ldc2_w 169, 3) := by decide +kernel
theorem dX7_acts_84 : decode cX7_acts 84 = .ok (.invokestatic 46, 3) := by decide +kernel
theorem dX7_acts_87 : decode cX7_acts 87 = .ok (.ifCond .eq 17, 3) := by decide +kernel
theorem dX7_acts_90 : decode cX7_acts 90 = .ok (.iload 5, 2) := by decide +kernel
theorem dX7_acts_92 : decode cX7_acts 92 = .ok (.iconst 1, 1) := by decide +kernel
theorem dX7_acts_93 : decode cX7_acts 93 = .ok (.if_icmp .gt 11, 3) := by decide +kernel
theorem dX7_acts_96 : decode cX7_acts 96 = .ok (.aload_n 0, 1) := by decide +kernel
theorem dX7_acts_97 : decode cX7_acts 97 = .ok (.iload_n 2, 1) := by decide +kernel
theorem dX7_acts_98 : decode cX7_acts 98 = .ok (.invokevirtual 171, 3) := by decide +kernel
theorem dX7_acts_101 : decode cX7_acts 101 = .ok (.ifCond .ne 5, 3) := by decide +kernel
theorem dX7_acts_104 : decode cX7_acts 104 = .ok (.iconst 0, 1) := by decide +kernel
theorem dX7_acts_105 : decode cX7_acts 105 = .ok (.ireturn, 1) := by decide +kernel
theorem dX7_acts_106 : decode cX7_acts 106 = .ok (.aload_n 0, 1) := by decide +kernel
theorem dX7_acts_107 : decode cX7_acts 107 = .ok (.iload_n 2, 1) := by decide +kernel
theorem dX7_acts_108 : decode cX7_acts 108 = .ok (.iload_n 3, 1) := by decide +kernel
theorem dX7_acts_109 : decode cX7_acts 109 = .ok (.iload 4, 2) := by decide +kernel
theorem dX7_acts_111 : decode cX7_acts 111 = .ok (.iload 5, 2) := by decide +kernel
theorem dX7_acts_113 : decode cX7_acts 113 = .ok (.invokevirtual 123, 3) := by decide +kernel
theorem dX7_acts_116 : decode cX7_acts 116 = .ok (.pop, 1) := by decide +kernel
theorem dX7_acts_117 : decode cX7_acts 117 = .ok (.iconst 1, 1) := by decide +kernel
theorem dX7_acts_118 : decode cX7_acts 118 = .ok (.ireturn, 1) := by decide +kernel
theorem dX7_acts_119 : decode cX7_acts 119 = .ok (.aload_n 0, 1) := by decide +kernel
theorem dX7_acts_120 : decode cX7_acts 120 = .ok (.bipush 10, 2) := by decide +kernel
theorem dX7_acts_122 : decode cX7_acts 122 = .ok (.iload_n 2, 1) := by decide +kernel
theorem dX7_acts_123 : decode cX7_acts 123 = .ok (.imul, 1) := by decide +kernel
theorem dX7_acts_124 : decode cX7_acts 124 = .ok (.iload_n 3, 1) := by decide +kernel
theorem dX7_acts_125 : decode cX7_acts 125 = .ok (.iadd, 1) := by decide +kernel
theorem dX7_acts_126 : decode cX7_acts 126 = .ok (.invokevirtual 153, 3) := by decide +kernel
theorem dX7_acts_129 : decode cX7_acts 129 = .ok (.ifCond .eq 26, 3) := by decide +kernel
theorem dX7_acts_132 : decode cX7_acts 132 = .ok (.aload_n 0, 1) := by decide +kernel
theorem dX7_acts_133 : decode cX7_acts 133 = .ok (.iload 4, 2) := by decide +kernel
theorem dX7_acts_135 : decode cX7_acts 135 = .ok (.invokevirtual 146, 3) := by decide +kernel
theorem dX7_acts_138 : decode cX7_acts 138 = .ok (.ifCond .eq 17, 3) := by decide +kernel
theorem dX7_acts_141 : decode cX7_acts 141 = .ok (.aload_n 0, 1) := by decide +kernel
theorem dX7_acts_142 : decode cX7_acts 142 = .ok (.iload 4, 2) := by decide +kernel
theorem dX7_acts_144 : decode cX7_acts 144 = .ok (.invokevirtual 66, 3) := by decide +kernel
theorem dX7_acts_147 : decode cX7_acts 147 = .ok (.ifCond .ne 8, 3) := by decide +kernel
theorem dX7_acts_150 : decode cX7_acts 150 = .ok (.iload 5, 2) := by decide +kernel
theorem dX7_acts_152 : decode cX7_acts 152 = .ok (.ifCond .le 5, 3) := by decide +kernel
theorem dX7_acts_155 : decode cX7_acts 155 = .ok (.iconst 0, 1) := by decide +kernel
theorem dX7_acts_156 : decode cX7_acts 156 = .ok (.ireturn, 1) := by decide +kernel
theorem dX7_acts_157 : decode cX7_acts 157 = .ok (.aload_n 0, 1) := by decide +kernel
theorem dX7_acts_158 : decode cX7_acts 158 = .ok (.getfield 7, 3) := by decide +kernel
theorem dX7_acts_161 : decode cX7_acts 161 = .ok (.bipush 11, 2) := by decide +kernel
theorem dX7_acts_163 : decode cX7_acts 163 = .ok (.bipush 10, 2) := by decide +kernel
theorem dX7_acts_165 : decode cX7_acts 165 = .ok (.iload_n 2, 1) := by decide +kernel
theorem dX7_acts_166 : decode cX7_acts 166 = .ok (.imul, 1) := by decide +kernel
theorem dX7_acts_167 : decode cX7_acts 167 = .ok (.iadd, 1) := by decide +kernel
theorem dX7_acts_168 : decode cX7_acts 168 = .ok (.iload_n 3, 1) := by decide +kernel
theorem dX7_acts_169 : decode cX7_acts 169 = .ok (.iadd, 1) := by decide +kernel
theorem dX7_acts_170 : decode cX7_acts 170 = .ok (.iload 4, 2) := by decide +kernel
theorem dX7_acts_172 : decode cX7_acts 172 = .ok (.iastore, 1) := by decide +kernel
theorem dX7_acts_173 : decode cX7_acts 173 = .ok (.iconst 1, 1) := by decide +kernel
theorem dX7_acts_174 : decode cX7_acts 174 = .ok (.ireturn, 1) := by decide +kernel
theorem dX7_acts_175 : decode cX7_acts 175 = .ok (.aload_n 0, 1) := by decide +kernel
theorem dX7_acts_176 : decode cX7_acts 176 = .ok (.iload_n 2, 1) := by decide +kernel
theorem dX7_acts_177 : decode cX7_acts 177 = .ok (.invokevirtual 146, 3) := by decide +kernel
theorem dX7_acts_180 : decode cX7_acts 180 = .ok (.ifCond .eq 16, 3) := by decide +kernel
theorem dX7_acts_183 : decode cX7_acts 183 = .ok (.aload_n 0, 1) := by decide +kernel
theorem dX7_acts_184 : decode cX7_acts 184 = .ok (.iload_n 3, 1) := by decide +kernel
theorem dX7_acts_185 : decode cX7_acts 185 = .ok (.invokevirtual 146, 3) := by decide +kernel
theorem dX7_acts_188 : decode cX7_acts 188 = .ok (.ifCond .eq 8, 3) := by decide +kernel
theorem dX7_acts_191 : decode cX7_acts 191 = .ok (.iload 6, 2) := by decide +kernel
theorem dX7_acts_193 : decode cX7_acts 193 = .ok (.ifCond .le 5, 3) := by decide +kernel
theorem dX7_acts_196 : decode cX7_acts 196 = .ok (.iconst 0, 1) := by decide +kernel
theorem dX7_acts_197 : decode cX7_acts 197 = .ok (.ireturn, 1) := by decide +kernel
theorem dX7_acts_198 : decode cX7_acts 198 = .ok (.aload_n 0, 1) := by decide +kernel
theorem dX7_acts_199 : decode cX7_acts 199 = .ok (.getfield 7, 3) := by decide +kernel
theorem dX7_acts_202 : decode cX7_acts 202 = .ok (.bipush 27, 2) := by decide +kernel
theorem dX7_acts_204 : decode cX7_acts 204 = .ok (.bipush 6, 2) := by decide +kernel
theorem dX7_acts_206 : decode cX7_acts 206 = .ok (.iload_n 2, 1) := by decide +kernel
theorem dX7_acts_207 : decode cX7_acts 207 = .ok (.imul, 1) := by decide +kernel
theorem dX7_acts_208 : decode cX7_acts 208 = .ok (.iadd, 1) := by decide +kernel
theorem dX7_acts_209 : decode cX7_acts 209 = .ok (.iload_n 3, 1) := by decide +kernel
theorem dX7_acts_210 : decode cX7_acts 210 = .ok (.iadd, 1) := by decide +kernel
theorem dX7_acts_211 : decode cX7_acts 211 = .ok (.iconst 0, 1) := by decide +kernel
theorem dX7_acts_212 : decode cX7_acts 212 = .ok (.iastore, 1) := by decide +kernel
theorem dX7_acts_213 : decode cX7_acts 213 = .ok (.iconst 1, 1) := by decide +kernel
theorem dX7_acts_214 : decode cX7_acts 214 = .ok (.ireturn, 1) := by decide +kernel
theorem dX7_acts_215 : decode cX7_acts 215 = .ok (.iload_n 3, 1) := by decide +kernel
theorem dX7_acts_216 : decode cX7_acts 216 = .ok (.iload 6, 2) := by decide +kernel
theorem dX7_acts_218 : decode cX7_acts 218 = .ok (.iadd, 1) := by decide +kernel
theorem dX7_acts_219 : decode cX7_acts 219 = .ok (.ifCond .le 5, 3) := by decide +kernel
theorem dX7_acts_222 : decode cX7_acts 222 = .ok (.iconst 0, 1) := by decide +kernel
theorem dX7_acts_223 : decode cX7_acts 223 = .ok (.ireturn, 1) := by decide +kernel
theorem dX7_acts_224 : decode cX7_acts 224 = .ok (.aload_n 0, 1) := by decide +kernel
theorem dX7_acts_225 : decode cX7_acts 225 = .ok (.getfield 7, 3) := by decide +kernel
theorem dX7_acts_228 : decode cX7_acts 228 = .ok (.iconst 4, 1) := by decide +kernel
theorem dX7_acts_229 : decode cX7_acts 229 = .ok (.iload_n 2, 1) := by decide +kernel
theorem dX7_acts_230 : decode cX7_acts 230 = .ok (.iastore, 1) := by decide +kernel
theorem dX7_acts_231 : decode cX7_acts 231 = .ok (.iconst 1, 1) := by decide +kernel
theorem dX7_acts_232 : decode cX7_acts 232 = .ok (.ireturn, 1) := by decide +kernel
theorem dX7_succeeds_0 : decode cX7_succeeds 0 = .ok (.iload_n 1, 1) := by decide +kernel
theorem dX7_succeeds_1 : decode cX7_succeeds 1 = .ok (.sipush 10000, 3) := by decide +kernel
theorem dX7_succeeds_4 : decode cX7_succeeds 4 = .ok (.idiv, 1) := by decide +kernel
theorem dX7_succeeds_5 : decode cX7_succeeds 5 = .ok (.istore_n 2, 1) := by decide +kernel
theorem dX7_succeeds_6 : decode cX7_succeeds 6 = .ok (.iload_n 1, 1) := by decide +kernel
theorem dX7_succeeds_7 : decode cX7_succeeds 7 = .ok (.sipush 1000, 3) := by decide +kernel
theorem dX7_succeeds_10 : decode cX7_succeeds 10 = .ok (.idiv, 1) := by decide +kernel
theorem dX7_succeeds_11 : decode cX7_succeeds 11 = .ok (.bipush 10, 2) := by decide +kernel
theorem dX7_succeeds_13 : decode cX7_succeeds 13 = .ok (.irem, 1) := by decide +kernel
theorem dX7_succeeds_14 : decode cX7_succeeds 14 = .ok (.istore_n 3, 1) := by decide +kernel
theorem dX7_succeeds_15 : decode cX7_succeeds 15 = .ok (.iload_n 1, 1) := by decide +kernel
theorem dX7_succeeds_16 : decode cX7_succeeds 16 = .ok (.bipush 100, 2) := by decide +kernel
theorem dX7_succeeds_18 : decode cX7_succeeds 18 = .ok (.idiv, 1) := by decide +kernel
theorem dX7_succeeds_19 : decode cX7_succeeds 19 = .ok (.bipush 10, 2) := by decide +kernel
theorem dX7_succeeds_21 : decode cX7_succeeds 21 = .ok (.irem, 1) := by decide +kernel
theorem dX7_succeeds_22 : decode cX7_succeeds 22 = .ok (.istore 4, 2) := by decide +kernel
theorem dX7_succeeds_24 : decode cX7_succeeds 24 = .ok (.iload_n 1, 1) := by decide +kernel
theorem dX7_succeeds_25 : decode cX7_succeeds 25 = .ok (.bipush 100, 2) := by decide +kernel
theorem dX7_succeeds_27 : decode cX7_succeeds 27 = .ok (.irem, 1) := by decide +kernel
theorem dX7_succeeds_28 : decode cX7_succeeds 28 = .ok (.istore 5, 2) := by decide +kernel
theorem dX7_succeeds_30 : decode cX7_succeeds 30 = .ok (.iload_n 2, 1) := by decide +kernel
theorem dX7_succeeds_31 : decode cX7_succeeds 31 = .ok (.i2l, 1) := by decide +kernel
theorem dX7_succeeds_32 : decode cX7_succeeds 32 = .ok (.lconst 1, 1) := by decide +kernel
theorem dX7_succeeds_33 : decode cX7_succeeds 33 = .ok (.ldc2_w 149, 3) := by decide +kernel
theorem dX7_succeeds_36 : decode cX7_succeeds 36 = .ok (.invokestatic 46, 3) := by decide +kernel
theorem dX7_succeeds_39 : decode cX7_succeeds 39 = .ok (.ifCond .eq 22, 3) := by decide +kernel
theorem dX7_succeeds_42 : decode cX7_succeeds 42 = .ok (.aload_n 0, 1) := by decide +kernel
theorem dX7_succeeds_43 : decode cX7_succeeds 43 = .ok (.iload_n 2, 1) := by decide +kernel
theorem dX7_succeeds_44 : decode cX7_succeeds 44 = .ok (.iload_n 3, 1) := by decide +kernel
theorem dX7_succeeds_45 : decode cX7_succeeds 45 = .ok (.iload 4, 2) := by decide +kernel
theorem dX7_succeeds_47 : decode cX7_succeeds 47 = .ok (.iload 5, 2) := by decide +kernel
theorem dX7_succeeds_49 : decode cX7_succeeds 49 = .ok (.bipush 10, 2) := by decide +kernel
theorem dX7_succeeds_51 : decode cX7_succeeds 51 = .ok (.idiv, 1) := by decide +kernel
theorem dX7_succeeds_52 : decode cX7_succeeds 52 = .ok (.iload 5, 2) := by decide +kernel
theorem dX7_succeeds_54 : decode cX7_succeeds 54 = .ok (.bipush 10, 2) := by decide +kernel
theorem dX7_succeeds_56 : decode cX7_succeeds 56 = .ok (.irem, 1) := by decide +kernel
theorem dX7_succeeds_57 : decode cX7_succeeds 57 = .ok (.invokevirtual 189, 3) := by decide +kernel
theorem dX7_succeeds_60 : decode cX7_succeeds 60 = .ok (.ireturn, 1) := by decide +kernel
theorem dX7_succeeds_61 : decode cX7_succeeds 61 = .ok (.iload_n 2, 1) := by decide +kernel
theorem dX7_succeeds_62 : decode cX7_succeeds 62 = .ok (.ifCond .eq 16, 3) := by decide +kernel
theorem dX7_succeeds_65 : decode cX7_succeeds 65 = .ok (.aload_n 0, 1) := by decide +kernel
theorem dX7_succeeds_66 : decode cX7_succeeds 66 = .ok (.iload_n 3, 1) := by decide +kernel
theorem dX7_succeeds_67 : decode cX7_succeeds 67 = .ok (.invokevirtual 146, 3) := by decide +kernel
theorem dX7_succeeds_70 : decode cX7_succeeds 70 = .ok (.ifCond .eq 8, 3) := by decide +kernel
theorem dX7_succeeds_73 : decode cX7_succeeds 73 = .ok (.iload 4, 2) := by decide +kernel
theorem dX7_succeeds_75 : decode cX7_succeeds 75 = .ok (.ifCond .le 5, 3) := by decide +kernel
theorem dX7_succeeds_78 : decode cX7_succeeds 78 = .ok (.iconst 0, 1) := by decide +kernel
theorem dX7_succeeds_79 : decode cX7_succeeds 79 = .ok (.ireturn, 1) := by decide +kernel
theorem dX7_succeeds_80 : decode cX7_succeeds 80 = .ok (.iload_n 2, 1) := by decide +kernel
theorem dX7_succeeds_81 : decode cX7_succeeds 81 = .ok (.tableswitch 84 6 8 #[27, 43, 60], 27) := by decide +kernel
theorem dX7_succeeds_108 : decode cX7_succeeds 108 = .ok (.aload_n 0, 1) := by decide +kernel
theorem dX7_succeeds_109 : decode cX7_succeeds 109 = .ok (.iload_n 3, 1) := by decide +kernel
theorem dX7_succeeds_110 : decode cX7_succeeds 110 = .ok (.invokevirtual 70, 3) := by decide +kernel
theorem dX7_succeeds_113 : decode cX7_succeeds 113 = .ok (.iload 5, 2) := by decide +kernel
theorem dX7_succeeds_115 : decode cX7_succeeds 115 = .ok (.if_icmp .gt 7, 3) := by decide +kernel
theorem dX7_succeeds_118 : decode cX7_succeeds 118 = .ok (.iconst 1, 1) := by decide +kernel
theorem dX7_succeeds_119 : decode cX7_succeeds 119 = .ok (.goto 4, 3) := by decide +kernel
theorem dX7_succeeds_122 : decode cX7_succeeds 122 = .ok (.iconst 0, 1) := by decide +kernel
theorem dX7_succeeds_123 : decode cX7_succeeds 123 = .ok (.ireturn, 1) := by decide +kernel
theorem dX7_succeeds_124 : decode cX7_succeeds 124 = .ok (.aload_n 0, 1) := by decide +kernel
theorem dX7_succeeds_125 : decode cX7_succeeds 125 = .ok (.iload_n 3, 1) := by decide +kernel
theorem dX7_succeeds_126 : decode cX7_succeeds 126 = .ok (.iconst 1, 1) := by decide +kernel
theorem dX7_succeeds_127 : decode cX7_succeeds 127 = .ok (.invokevirtual 59, 3) := by decide +kernel
theorem dX7_succeeds_130 : decode cX7_succeeds 130 = .ok (.iload 5, 2) := by decide +kernel
theorem dX7_succeeds_132 : decode cX7_succeeds 132 = .ok (.if_icmp .gt 7, 3) := by decide +kernel
theorem dX7_succeeds_135 : decode cX7_succeeds 135 = .ok (.iconst 1, 1) := by decide +kernel
theorem dX7_succeeds_136 : decode cX7_succeeds 136 = .ok (.goto 4, 3) := by decide +kernel
theorem dX7_succeeds_139 : decode cX7_succeeds 139 = .ok (.iconst 0, 1) := by decide +kernel
theorem dX7_succeeds_140 : decode cX7_succeeds 140 = .ok (.ireturn, 1) := by decide +kernel
theorem dX7_succeeds_141 : decode cX7_succeeds 141 = .ok (.aload_n 0, 1) := by decide +kernel
theorem dX7_succeeds_142 : decode cX7_succeeds 142 = .ok (.iload_n 3, 1) := by decide +kernel
theorem dX7_succeeds_143 : decode cX7_succeeds 143 = .ok (.invokevirtual 66, 3) := by decide +kernel
theorem dX7_succeeds_146 : decode cX7_succeeds 146 = .ok (.ifCond .eq 7, 3) := by decide +kernel
theorem dX7_succeeds_149 : decode cX7_succeeds 149 = .ok (.iconst 1, 1) := by decide +kernel
theorem dX7_succeeds_150 : decode cX7_succeeds 150 = .ok (.goto 4, 3) := by decide +kernel
theorem dX7_succeeds_153 : decode cX7_succeeds 153 = .ok (.iconst 0, 1) := by decide +kernel
theorem dX7_succeeds_154 : decode cX7_succeeds 154 = .ok (.iload 5, 2) := by decide +kernel
theorem dX7_succeeds_156 : decode cX7_succeeds 156 = .ok (.if_icmp .ne 7, 3) := by decide +kernel
theorem dX7_succeeds_159 : decode cX7_succeeds 159 = .ok (.iconst 1, 1) := by decide +kernel
theorem dX7_succeeds_160 : decode cX7_succeeds 160 = .ok (.goto 4, 3) := by decide +kernel
theorem dX7_succeeds_163 : decode cX7_succeeds 163 = .ok (.iconst 0, 1) := by decide +kernel
theorem dX7_succeeds_164 : decode cX7_succeeds 164 = .ok (.ireturn, 1) := by decide +kernel
theorem dX7_succeeds_165 : decode cX7_succeeds 165 = .ok (.aload_n 0, 1) := by decide +kernel
theorem dX7_succeeds_166 : decode cX7_succeeds 166 = .ok (.iconst 1, 1) := by decide +kernel
theorem dX7_succeeds_167 : decode cX7_succeeds 167 = .ok (.iload_n 3, 1) := by decide +kernel
theorem dX7_succeeds_168 : decode cX7_succeeds 168 = .ok (.ishl, 1) := by decide +kernel
theorem dX7_succeeds_169 : decode cX7_succeeds 169 = .ok (.invokevirtual 186, 3) := by decide +kernel
theorem dX7_succeeds_172 : decode cX7_succeeds 172 = .ok (.iload 5, 2) := by decide +kernel
theorem dX7_succeeds_174 : decode cX7_succeeds 174 = .ok (.if_icmp .gt 7, 3) := by decide +kernel
theorem dX7_succeeds_177 : decode cX7_succeeds 177 = .ok (.iconst 1, 1) := by decide +kernel
theorem dX7_succeeds_178 : decode cX7_succeeds 178 = .ok (.goto 4, 3) := by decide +kernel
theorem dX7_succeeds_181 : decode cX7_succeeds 181 = .ok (.iconst 0, 1) := by decide +kernel
theorem dX7_succeeds_182 : decode cX7_succeeds 182 = .ok (.ireturn, 1) := by decide +kernel
theorem dX7_runScript_0 : decode cX7_runScript 0 = .ok (.aload_n 0, 1) := by decide +kernel
theorem dX7_runScript_1 : decode cX7_runScript 1 = .ok (.iconst 0, 1) := by decide +kernel
theorem dX7_runScript_2 : decode cX7_runScript 2 = .ok (.putfield 39, 3) := by decide +kernel
theorem dX7_runScript_5 : decode cX7_runScript 5 = .ok (.lconst 1, 1) := by decide +kernel
theorem dX7_runScript_6 : decode cX7_runScript 6 = .ok (.lstore 4, 2) := by decide +kernel
theorem dX7_runScript_8 : decode cX7_runScript 8 = .ok (.iconst 0, 1) := by decide +kernel
theorem dX7_runScript_9 : decode cX7_runScript 9 = .ok (.istore 6, 2) := by decide +kernel
theorem dX7_runScript_11 : decode cX7_runScript 11 = .ok (.iload 6, 2) := by decide +kernel
theorem dX7_runScript_13 : decode cX7_runScript 13 = .ok (.iload_n 1, 1) := by decide +kernel
theorem dX7_runScript_14 : decode cX7_runScript 14 = .ok (.if_icmp .ge 23, 3) := by decide +kernel
theorem dX7_runScript_17 : decode cX7_runScript 17 = .ok (.iload 6, 2) := by decide +kernel
theorem dX7_runScript_19 : decode cX7_runScript 19 = .ok (.iconst 3, 1) := by decide +kernel
theorem dX7_runScript_20 : decode cX7_runScript 20 = .ok (.if_icmp .ge 17, 3) := by decide +kernel
theorem dX7_runScript_23 : decode cX7_runScript 23 = .ok (.lload 4, 2) := by decide +kernel
theorem dX7_runScript_25 : decode cX7_runScript 25 = .ok (.ldc2_w 193, 3) := by decide +kernel
theorem dX7_runScript_28 : decode cX7_runScript 28 = .ok (.lmul, 1) := by decide +kernel
theorem dX7_runScript_29 : decode cX7_runScript 29 = .ok (.lstore 4, 2) := by decide +kernel
theorem dX7_runScript_31 : decode cX7_runScript 31 = .ok (.iinc 6 1, 3) := by decide +kernel
theorem dX7_runScript_34 : decode cX7_runScript 34 = .ok (.goto (-23), 3) := by decide +kernel
theorem dX7_runScript_37 : decode cX7_runScript 37 = .ok (.iload_n 1, 1) := by decide +kernel
theorem dX7_runScript_38 : decode cX7_runScript 38 = .ok (.i2l, 1) := by decide +kernel
theorem dX7_runScript_39 : decode cX7_runScript 39 = .ok (.lconst 1, 1) := by decide +kernel
theorem dX7_runScript_40 : decode cX7_runScript 40 = .ok (.ldc2_w 50, 3) := by decide +kernel
theorem dX7_runScript_43 : decode cX7_runScript 43 = .ok (.invokestatic 46, 3) := by decide +kernel
theorem dX7_runScript_46 : decode cX7_runScript 46 = .ok (.ifCond .eq 16, 3) := by decide +kernel
theorem dX7_runScript_49 : decode cX7_runScript 49 = .ok (.lload_n 2, 1) := by decide +kernel
theorem dX7_runScript_50 : decode cX7_runScript 50 = .ok (.lconst 0, 1) := by decide +kernel
theorem dX7_runScript_51 : decode cX7_runScript 51 = .ok (.lcmp, 1) := by decide +kernel
theorem dX7_runScript_52 : decode cX7_runScript 52 = .ok (.ifCond .lt 10, 3) := by decide +kernel
theorem dX7_runScript_55 : decode cX7_runScript 55 = .ok (.lload_n 2, 1) := by decide +kernel
theorem dX7_runScript_56 : decode cX7_runScript 56 = .ok (.lload 4, 2) := by decide +kernel
theorem dX7_runScript_58 : decode cX7_runScript 58 = .ok (.lcmp, 1) := by decide +kernel
theorem dX7_runScript_59 : decode cX7_runScript 59 = .ok (.ifCond .lt 9, 3) := by decide +kernel
theorem dX7_runScript_62 : decode cX7_runScript 62 = .ok (.aload_n 0, 1) := by decide +kernel
theorem dX7_runScript_63 : decode cX7_runScript 63 = .ok (.iconst 1, 1) := by decide +kernel
theorem dX7_runScript_64 : decode cX7_runScript 64 = .ok (.invokevirtual 101, 3) := by decide +kernel
theorem dX7_runScript_67 : decode cX7_runScript 67 = .ok (.ireturn, 1) := by decide +kernel
theorem dX7_runScript_68 : decode cX7_runScript 68 = .ok (.aload_n 0, 1) := by decide +kernel
theorem dX7_runScript_69 : decode cX7_runScript 69 = .ok (.getfield 7, 3) := by decide +kernel
theorem dX7_runScript_72 : decode cX7_runScript 72 = .ok (.aload_n 0, 1) := by decide +kernel
theorem dX7_runScript_73 : decode cX7_runScript 73 = .ok (.getfield 13, 3) := by decide +kernel
theorem dX7_runScript_76 : decode cX7_runScript 76 = .ok (.invokestatic 179, 3) := by decide +kernel
theorem dX7_runScript_79 : decode cX7_runScript 79 = .ok (.bipush (-9), 2) := by decide +kernel
theorem dX7_runScript_81 : decode cX7_runScript 81 = .ok (.istore 6, 2) := by decide +kernel
theorem dX7_runScript_83 : decode cX7_runScript 83 = .ok (.iconst 0, 1) := by decide +kernel
theorem dX7_runScript_84 : decode cX7_runScript 84 = .ok (.istore 7, 2) := by decide +kernel
theorem dX7_runScript_86 : decode cX7_runScript 86 = .ok (.iload 7, 2) := by decide +kernel
theorem dX7_runScript_88 : decode cX7_runScript 88 = .ok (.iload_n 1, 1) := by decide +kernel
theorem dX7_runScript_89 : decode cX7_runScript 89 = .ok (.if_icmp .ge 47, 3) := by decide +kernel
theorem dX7_runScript_92 : decode cX7_runScript 92 = .ok (.iload 6, 2) := by decide +kernel
theorem dX7_runScript_94 : decode cX7_runScript 94 = .ok (.ifCond .ge 42, 3) := by decide +kernel
theorem dX7_runScript_97 : decode cX7_runScript 97 = .ok (.lload 4, 2) := by decide +kernel
theorem dX7_runScript_99 : decode cX7_runScript 99 = .ok (.ldc2_w 193, 3) := by decide +kernel
theorem dX7_runScript_102 : decode cX7_runScript 102 = .ok (.ldiv, 1) := by decide +kernel
theorem dX7_runScript_103 : decode cX7_runScript 103 = .ok (.lstore 4, 2) := by decide +kernel
theorem dX7_runScript_105 : decode cX7_runScript 105 = .ok (.aload_n 0, 1) := by decide +kernel
theorem dX7_runScript_106 : decode cX7_runScript 106 = .ok (.lload_n 2, 1) := by decide +kernel
theorem dX7_runScript_107 : decode cX7_runScript 107 = .ok (.lload 4, 2) := by decide +kernel
theorem dX7_runScript_109 : decode cX7_runScript 109 = .ok (.ldiv, 1) := by decide +kernel
theorem dX7_runScript_110 : decode cX7_runScript 110 = .ok (.ldc2_w 193, 3) := by decide +kernel
theorem dX7_runScript_113 : decode cX7_runScript 113 = .ok (.lrem, 1) := by decide +kernel
theorem dX7_runScript_114 : decode cX7_runScript 114 = .ok (.l2i, 1) := by decide +kernel
theorem dX7_runScript_115 : decode cX7_runScript 115 = .ok (.invokevirtual 195, 3) := by decide +kernel
theorem dX7_runScript_118 : decode cX7_runScript 118 = .ok (.ifCond .eq 8, 3) := by decide +kernel
theorem dX7_runScript_121 : decode cX7_runScript 121 = .ok (.iload 6, 2) := by decide +kernel
theorem dX7_runScript_123 : decode cX7_runScript 123 = .ok (.goto 5, 3) := by decide +kernel
theorem dX7_runScript_126 : decode cX7_runScript 126 = .ok (.iload 7, 2) := by decide +kernel
theorem dX7_runScript_128 : decode cX7_runScript 128 = .ok (.istore 6, 2) := by decide +kernel
theorem dX7_runScript_130 : decode cX7_runScript 130 = .ok (.iinc 7 1, 3) := by decide +kernel
theorem dX7_runScript_133 : decode cX7_runScript 133 = .ok (.goto (-47), 3) := by decide +kernel
theorem dX7_runScript_136 : decode cX7_runScript 136 = .ok (.aload_n 0, 1) := by decide +kernel
theorem dX7_runScript_137 : decode cX7_runScript 137 = .ok (.getfield 13, 3) := by decide +kernel
theorem dX7_runScript_140 : decode cX7_runScript 140 = .ok (.aload_n 0, 1) := by decide +kernel
theorem dX7_runScript_141 : decode cX7_runScript 141 = .ok (.getfield 7, 3) := by decide +kernel
theorem dX7_runScript_144 : decode cX7_runScript 144 = .ok (.invokestatic 179, 3) := by decide +kernel
theorem dX7_runScript_147 : decode cX7_runScript 147 = .ok (.iload 6, 2) := by decide +kernel
theorem dX7_runScript_149 : decode cX7_runScript 149 = .ok (.ireturn, 1) := by decide +kernel
theorem dX7_simulate_0 : decode cX7_simulate 0 = .ok (.aload_n 0, 1) := by decide +kernel
theorem dX7_simulate_1 : decode cX7_simulate 1 = .ok (.iconst 0, 1) := by decide +kernel
theorem dX7_simulate_2 : decode cX7_simulate 2 = .ok (.putfield 39, 3) := by decide +kernel
theorem dX7_simulate_5 : decode cX7_simulate 5 = .ok (.iload_n 3, 1) := by decide +kernel
theorem dX7_simulate_6 : decode cX7_simulate 6 = .ok (.i2l, 1) := by decide +kernel
theorem dX7_simulate_7 : decode cX7_simulate 7 = .ok (.lconst 1, 1) := by decide +kernel
theorem dX7_simulate_8 : decode cX7_simulate 8 = .ok (.ldc2_w 198, 3) := by decide +kernel
theorem dX7_simulate_11 : decode cX7_simulate 11 = .ok (.invokestatic 46, 3) := by decide +kernel
theorem dX7_simulate_14 : decode cX7_simulate 14 = .ok (.ifCond .ne 9, 3) := by decide +kernel
theorem dX7_simulate_17 : decode cX7_simulate 17 = .ok (.aload_n 0, 1) := by decide +kernel
theorem dX7_simulate_18 : decode cX7_simulate 18 = .ok (.iconst 1, 1) := by decide +kernel
theorem dX7_simulate_19 : decode cX7_simulate 19 = .ok (.invokevirtual 101, 3) := by decide +kernel
theorem dX7_simulate_22 : decode cX7_simulate 22 = .ok (.ireturn, 1) := by decide +kernel
theorem dX7_simulate_23 : decode cX7_simulate 23 = .ok (.aload_n 0, 1) := by decide +kernel
theorem dX7_simulate_24 : decode cX7_simulate 24 = .ok (.getfield 7, 3) := by decide +kernel
theorem dX7_simulate_27 : decode cX7_simulate 27 = .ok (.aload_n 0, 1) := by decide +kernel
theorem dX7_simulate_28 : decode cX7_simulate 28 = .ok (.getfield 13, 3) := by decide +kernel
theorem dX7_simulate_31 : decode cX7_simulate 31 = .ok (.invokestatic 179, 3) := by decide +kernel
theorem dX7_simulate_34 : decode cX7_simulate 34 = .ok (.lload_n 1, 1) := by decide +kernel
theorem dX7_simulate_35 : decode cX7_simulate 35 = .ok (.lstore 4, 2) := by decide +kernel
theorem dX7_simulate_37 : decode cX7_simulate 37 = .ok (.iconst 0, 1) := by decide +kernel
theorem dX7_simulate_38 : decode cX7_simulate 38 = .ok (.istore 6, 2) := by decide +kernel
theorem dX7_simulate_40 : decode cX7_simulate 40 = .ok (.iconst 0, 1) := by decide +kernel
theorem dX7_simulate_41 : decode cX7_simulate 41 = .ok (.istore 7, 2) := by decide +kernel
theorem dX7_simulate_43 : decode cX7_simulate 43 = .ok (.iload 7, 2) := by decide +kernel
theorem dX7_simulate_45 : decode cX7_simulate 45 = .ok (.iload_n 3, 1) := by decide +kernel
theorem dX7_simulate_46 : decode cX7_simulate 46 = .ok (.if_icmp .ge 108, 3) := by decide +kernel
theorem dX7_simulate_49 : decode cX7_simulate 49 = .ok (.lload 4, 2) := by decide +kernel
theorem dX7_simulate_51 : decode cX7_simulate 51 = .ok (.ldc2_w 200, 3) := by decide +kernel
theorem dX7_simulate_54 : decode cX7_simulate 54 = .ok (.lmul, 1) := by decide +kernel
theorem dX7_simulate_55 : decode cX7_simulate 55 = .ok (.ldc2_w 202, 3) := by decide +kernel
theorem dX7_simulate_58 : decode cX7_simulate 58 = .ok (.ladd, 1) := by decide +kernel
theorem dX7_simulate_59 : decode cX7_simulate 59 = .ok (.lstore 4, 2) := by decide +kernel
theorem dX7_simulate_61 : decode cX7_simulate 61 = .ok (.lload 4, 2) := by decide +kernel
theorem dX7_simulate_63 : decode cX7_simulate 63 = .ok (.bipush 33, 2) := by decide +kernel
theorem dX7_simulate_65 : decode cX7_simulate 65 = .ok (.lushr, 1) := by decide +kernel
theorem dX7_simulate_66 : decode cX7_simulate 66 = .ok (.l2i, 1) := by decide +kernel
theorem dX7_simulate_67 : decode cX7_simulate 67 = .ok (.istore 8, 2) := by decide +kernel
theorem dX7_simulate_69 : decode cX7_simulate 69 = .ok (.iload 8, 2) := by decide +kernel
theorem dX7_simulate_71 : decode cX7_simulate 71 = .ok (.iconst 4, 1) := by decide +kernel
theorem dX7_simulate_72 : decode cX7_simulate 72 = .ok (.idiv, 1) := by decide +kernel
theorem dX7_simulate_73 : decode cX7_simulate 73 = .ok (.aload_n 0, 1) := by decide +kernel
theorem dX7_simulate_74 : decode cX7_simulate 74 = .ok (.getfield 7, 3) := by decide +kernel
theorem dX7_simulate_77 : decode cX7_simulate 77 = .ok (.iconst 0, 1) := by decide +kernel
theorem dX7_simulate_78 : decode cX7_simulate 78 = .ok (.iaload, 1) := by decide +kernel
theorem dX7_simulate_79 : decode cX7_simulate 79 = .ok (.irem, 1) := by decide +kernel
theorem dX7_simulate_80 : decode cX7_simulate 80 = .ok (.istore 9, 2) := by decide +kernel
theorem dX7_simulate_82 : decode cX7_simulate 82 = .ok (.iload 8, 2) := by decide +kernel
theorem dX7_simulate_84 : decode cX7_simulate 84 = .ok (.iconst 3, 1) := by decide +kernel
theorem dX7_simulate_85 : decode cX7_simulate 85 = .ok (.irem, 1) := by decide +kernel
theorem dX7_simulate_86 : decode cX7_simulate 86 = .ok (.ifCond .ne 45, 3) := by decide +kernel
theorem dX7_simulate_89 : decode cX7_simulate 89 = .ok (.aload_n 0, 1) := by decide +kernel
theorem dX7_simulate_90 : decode cX7_simulate 90 = .ok (.iload 9, 2) := by decide +kernel
theorem dX7_simulate_92 : decode cX7_simulate 92 = .ok (.invokevirtual 171, 3) := by decide +kernel
theorem dX7_simulate_95 : decode cX7_simulate 95 = .ok (.ifCond .eq 36, 3) := by decide +kernel
theorem dX7_simulate_98 : decode cX7_simulate 98 = .ok (.aload_n 0, 1) := by decide +kernel
theorem dX7_simulate_99 : decode cX7_simulate 99 = .ok (.iload 9, 2) := by decide +kernel
theorem dX7_simulate_101 : decode cX7_simulate 101 = .ok (.iload 8, 2) := by decide +kernel
theorem dX7_simulate_103 : decode cX7_simulate 103 = .ok (.bipush 64, 2) := by decide +kernel
theorem dX7_simulate_105 : decode cX7_simulate 105 = .ok (.idiv, 1) := by decide +kernel
theorem dX7_simulate_106 : decode cX7_simulate 106 = .ok (.iconst 4, 1) := by decide +kernel
theorem dX7_simulate_107 : decode cX7_simulate 107 = .ok (.irem, 1) := by decide +kernel
theorem dX7_simulate_108 : decode cX7_simulate 108 = .ok (.iconst 1, 1) := by decide +kernel
theorem dX7_simulate_109 : decode cX7_simulate 109 = .ok (.iload 8, 2) := by decide +kernel
theorem dX7_simulate_111 : decode cX7_simulate 111 = .ok (.sipush 256, 3) := by decide +kernel
theorem dX7_simulate_114 : decode cX7_simulate 114 = .ok (.idiv, 1) := by decide +kernel
theorem dX7_simulate_115 : decode cX7_simulate 115 = .ok (.bipush 8, 2) := by decide +kernel
theorem dX7_simulate_117 : decode cX7_simulate 117 = .ok (.irem, 1) := by decide +kernel
theorem dX7_simulate_118 : decode cX7_simulate 118 = .ok (.iadd, 1) := by decide +kernel
theorem dX7_simulate_119 : decode cX7_simulate 119 = .ok (.iload 8, 2) := by decide +kernel
theorem dX7_simulate_121 : decode cX7_simulate 121 = .ok (.sipush 2048, 3) := by decide +kernel
theorem dX7_simulate_124 : decode cX7_simulate 124 = .ok (.idiv, 1) := by decide +kernel
theorem dX7_simulate_125 : decode cX7_simulate 125 = .ok (.iconst 2, 1) := by decide +kernel
theorem dX7_simulate_126 : decode cX7_simulate 126 = .ok (.irem, 1) := by decide +kernel
theorem dX7_simulate_127 : decode cX7_simulate 127 = .ok (.invokevirtual 123, 3) := by decide +kernel
theorem dX7_simulate_130 : decode cX7_simulate 130 = .ok (.pop, 1) := by decide +kernel
theorem dX7_simulate_131 : decode cX7_simulate 131 = .ok (.iload 6, 2) := by decide +kernel
theorem dX7_simulate_133 : decode cX7_simulate 133 = .ok (.aload_n 0, 1) := by decide +kernel
theorem dX7_simulate_134 : decode cX7_simulate 134 = .ok (.invokevirtual 95, 3) := by decide +kernel
theorem dX7_simulate_137 : decode cX7_simulate 137 = .ok (.ifCond .ge 7, 3) := by decide +kernel
theorem dX7_simulate_140 : decode cX7_simulate 140 = .ok (.iconst 1, 1) := by decide +kernel
theorem dX7_simulate_141 : decode cX7_simulate 141 = .ok (.goto 4, 3) := by decide +kernel
theorem dX7_simulate_144 : decode cX7_simulate 144 = .ok (.iconst 0, 1) := by decide +kernel
theorem dX7_simulate_145 : decode cX7_simulate 145 = .ok (.iadd, 1) := by decide +kernel
theorem dX7_simulate_146 : decode cX7_simulate 146 = .ok (.istore 6, 2) := by decide +kernel
theorem dX7_simulate_148 : decode cX7_simulate 148 = .ok (.iinc 7 1, 3) := by decide +kernel
theorem dX7_simulate_151 : decode cX7_simulate 151 = .ok (.goto (-108), 3) := by decide +kernel
theorem dX7_simulate_154 : decode cX7_simulate 154 = .ok (.iconst 0, 1) := by decide +kernel
theorem dX7_simulate_155 : decode cX7_simulate 155 = .ok (.istore 7, 2) := by decide +kernel
theorem dX7_simulate_157 : decode cX7_simulate 157 = .ok (.iconst 0, 1) := by decide +kernel
theorem dX7_simulate_158 : decode cX7_simulate 158 = .ok (.istore 8, 2) := by decide +kernel
theorem dX7_simulate_160 : decode cX7_simulate 160 = .ok (.iload 8, 2) := by decide +kernel
theorem dX7_simulate_162 : decode cX7_simulate 162 = .ok (.aload_n 0, 1) := by decide +kernel
theorem dX7_simulate_163 : decode cX7_simulate 163 = .ok (.getfield 7, 3) := by decide +kernel
theorem dX7_simulate_166 : decode cX7_simulate 166 = .ok (.iconst 0, 1) := by decide +kernel
theorem dX7_simulate_167 : decode cX7_simulate 167 = .ok (.iaload, 1) := by decide +kernel
theorem dX7_simulate_168 : decode cX7_simulate 168 = .ok (.if_icmp .ge 28, 3) := by decide +kernel
theorem dX7_simulate_171 : decode cX7_simulate 171 = .ok (.iload 7, 2) := by decide +kernel
theorem dX7_simulate_173 : decode cX7_simulate 173 = .ok (.aload_n 0, 1) := by decide +kernel
theorem dX7_simulate_174 : decode cX7_simulate 174 = .ok (.iload 8, 2) := by decide +kernel
theorem dX7_simulate_176 : decode cX7_simulate 176 = .ok (.invokevirtual 66, 3) := by decide +kernel
theorem dX7_simulate_179 : decode cX7_simulate 179 = .ok (.ifCond .eq 7, 3) := by decide +kernel
theorem dX7_simulate_182 : decode cX7_simulate 182 = .ok (.iconst 1, 1) := by decide +kernel
theorem dX7_simulate_183 : decode cX7_simulate 183 = .ok (.goto 4, 3) := by decide +kernel
theorem dX7_simulate_186 : decode cX7_simulate 186 = .ok (.iconst 0, 1) := by decide +kernel
theorem dX7_simulate_187 : decode cX7_simulate 187 = .ok (.iadd, 1) := by decide +kernel
theorem dX7_simulate_188 : decode cX7_simulate 188 = .ok (.istore 7, 2) := by decide +kernel
theorem dX7_simulate_190 : decode cX7_simulate 190 = .ok (.iinc 8 1, 3) := by decide +kernel
theorem dX7_simulate_193 : decode cX7_simulate 193 = .ok (.goto (-33), 3) := by decide +kernel
theorem dX7_simulate_196 : decode cX7_simulate 196 = .ok (.sipush 1000, 3) := by decide +kernel
theorem dX7_simulate_199 : decode cX7_simulate 199 = .ok (.iload 6, 2) := by decide +kernel
theorem dX7_simulate_201 : decode cX7_simulate 201 = .ok (.imul, 1) := by decide +kernel
theorem dX7_simulate_202 : decode cX7_simulate 202 = .ok (.bipush 10, 2) := by decide +kernel
theorem dX7_simulate_204 : decode cX7_simulate 204 = .ok (.aload_n 0, 1) := by decide +kernel
theorem dX7_simulate_205 : decode cX7_simulate 205 = .ok (.iconst 0, 1) := by decide +kernel
theorem dX7_simulate_206 : decode cX7_simulate 206 = .ok (.invokevirtual 143, 3) := by decide +kernel
theorem dX7_simulate_209 : decode cX7_simulate 209 = .ok (.imul, 1) := by decide +kernel
theorem dX7_simulate_210 : decode cX7_simulate 210 = .ok (.iadd, 1) := by decide +kernel
theorem dX7_simulate_211 : decode cX7_simulate 211 = .ok (.iload 7, 2) := by decide +kernel
theorem dX7_simulate_213 : decode cX7_simulate 213 = .ok (.iadd, 1) := by decide +kernel
theorem dX7_simulate_214 : decode cX7_simulate 214 = .ok (.istore 8, 2) := by decide +kernel
theorem dX7_simulate_216 : decode cX7_simulate 216 = .ok (.aload_n 0, 1) := by decide +kernel
theorem dX7_simulate_217 : decode cX7_simulate 217 = .ok (.getfield 13, 3) := by decide +kernel
theorem dX7_simulate_220 : decode cX7_simulate 220 = .ok (.aload_n 0, 1) := by decide +kernel
theorem dX7_simulate_221 : decode cX7_simulate 221 = .ok (.getfield 7, 3) := by decide +kernel
theorem dX7_simulate_224 : decode cX7_simulate 224 = .ok (.invokestatic 179, 3) := by decide +kernel
theorem dX7_simulate_227 : decode cX7_simulate 227 = .ok (.iload 8, 2) := by decide +kernel
theorem dX7_simulate_229 : decode cX7_simulate 229 = .ok (.ireturn, 1) := by decide +kernel
theorem dX7_save_0 : decode cX7_save 0 = .ok (.aload_n 0, 1) := by decide +kernel
theorem dX7_save_1 : decode cX7_save 1 = .ok (.iconst 0, 1) := by decide +kernel
theorem dX7_save_2 : decode cX7_save 2 = .ok (.putfield 39, 3) := by decide +kernel
theorem dX7_save_5 : decode cX7_save 5 = .ok (.iload_n 1, 1) := by decide +kernel
theorem dX7_save_6 : decode cX7_save 6 = .ok (.i2l, 1) := by decide +kernel
theorem dX7_save_7 : decode cX7_save 7 = .ok (.lconst 0, 1) := by decide +kernel
theorem dX7_save_8 : decode cX7_save 8 = .ok (.lconst 1, 1) := by decide +kernel
theorem dX7_save_9 : decode cX7_save 9 = .ok (.invokestatic 46, 3) := by decide +kernel
theorem dX7_save_12 : decode cX7_save 12 = .ok (.ifCond .ne 9, 3) := by decide +kernel
theorem dX7_save_15 : decode cX7_save 15 = .ok (.aload_n 0, 1) := by decide +kernel
theorem dX7_save_16 : decode cX7_save 16 = .ok (.iconst 1, 1) := by decide +kernel
theorem dX7_save_17 : decode cX7_save 17 = .ok (.invokevirtual 101, 3) := by decide +kernel
theorem dX7_save_20 : decode cX7_save 20 = .ok (.ireturn, 1) := by decide +kernel
theorem dX7_save_21 : decode cX7_save 21 = .ok (.iconst 0, 1) := by decide +kernel
theorem dX7_save_22 : decode cX7_save 22 = .ok (.istore_n 2, 1) := by decide +kernel
theorem dX7_save_23 : decode cX7_save 23 = .ok (.iload_n 2, 1) := by decide +kernel
