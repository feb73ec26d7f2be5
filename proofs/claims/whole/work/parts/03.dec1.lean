theorem dX0_init_0 : decode cX0_init 0 = .ok (.aload_n 0, 1) := by decide +kernel
theorem dX0_init_1 : decode cX0_init 1 = .ok (.invokespecial 3, 3) := by decide +kernel
theorem dX0_init_4 : decode cX0_init 4 = .ok (.aload_n 0, 1) := by decide +kernel
theorem dX0_init_5 : decode cX0_init 5 = .ok (.bipush 20, 2) := by decide +kernel
theorem dX0_init_7 : decode cX0_init 7 = .ok (.newarray .int, 2) := by decide +kernel
theorem dX0_init_9 : decode cX0_init 9 = .ok (.putfield 9, 3) := by decide +kernel
theorem dX0_init_12 : decode cX0_init 12 = .ok (.aload_n 0, 1) := by decide +kernel
theorem dX0_init_13 : decode cX0_init 13 = .ok (.iconst 0, 1) := by decide +kernel
theorem dX0_init_14 : decode cX0_init 14 = .ok (.putfield 15, 3) := by decide +kernel
theorem dX0_init_17 : decode cX0_init 17 = .ok (.aload_n 0, 1) := by decide +kernel
theorem dX0_init_18 : decode cX0_init 18 = .ok (.iconst 0, 1) := by decide +kernel
theorem dX0_init_19 : decode cX0_init 19 = .ok (.putfield 19, 3) := by decide +kernel
theorem dX0_init_22 : decode cX0_init 22 = .ok (.aload_n 0, 1) := by decide +kernel
theorem dX0_init_23 : decode cX0_init 23 = .ok (.iconst 0, 1) := by decide +kernel
theorem dX0_init_24 : decode cX0_init 24 = .ok (.putfield 22, 3) := by decide +kernel
theorem dX0_init_27 : decode cX0_init 27 = .ok (.aload_n 0, 1) := by decide +kernel
theorem dX0_init_28 : decode cX0_init 28 = .ok (.iconst 0, 1) := by decide +kernel
theorem dX0_init_29 : decode cX0_init 29 = .ok (.putfield 25, 3) := by decide +kernel
theorem dX0_init_32 : decode cX0_init 32 = .ok (.return_, 1) := by decide +kernel
theorem dX0_forget_0 : decode cX0_forget 0 = .ok (.aload_n 0, 1) := by decide +kernel
theorem dX0_forget_1 : decode cX0_forget 1 = .ok (.iconst 0, 1) := by decide +kernel
theorem dX0_forget_2 : decode cX0_forget 2 = .ok (.putfield 15, 3) := by decide +kernel
theorem dX0_forget_5 : decode cX0_forget 5 = .ok (.return_, 1) := by decide +kernel
theorem dX0_begin_0 : decode cX0_begin 0 = .ok (.aload_n 0, 1) := by decide +kernel
theorem dX0_begin_1 : decode cX0_begin 1 = .ok (.iload_n 1, 1) := by decide +kernel
theorem dX0_begin_2 : decode cX0_begin 2 = .ok (.putfield 19, 3) := by decide +kernel
theorem dX0_begin_5 : decode cX0_begin 5 = .ok (.aload_n 0, 1) := by decide +kernel
theorem dX0_begin_6 : decode cX0_begin 6 = .ok (.iload_n 2, 1) := by decide +kernel
theorem dX0_begin_7 : decode cX0_begin 7 = .ok (.putfield 22, 3) := by decide +kernel
theorem dX0_begin_10 : decode cX0_begin 10 = .ok (.aload_n 0, 1) := by decide +kernel
theorem dX0_begin_11 : decode cX0_begin 11 = .ok (.iload_n 3, 1) := by decide +kernel
theorem dX0_begin_12 : decode cX0_begin 12 = .ok (.putfield 25, 3) := by decide +kernel
theorem dX0_begin_15 : decode cX0_begin 15 = .ok (.return_, 1) := by decide +kernel
theorem dX0_kindActing_0 : decode cX0_kindActing 0 = .ok (.aload_n 0, 1) := by decide +kernel
theorem dX0_kindActing_1 : decode cX0_kindActing 1 = .ok (.getfield 19, 3) := by decide +kernel
theorem dX0_kindActing_4 : decode cX0_kindActing 4 = .ok (.ireturn, 1) := by decide +kernel
theorem dX0_bodiesRan_0 : decode cX0_bodiesRan 0 = .ok (.aload_n 0, 1) := by decide +kernel
theorem dX0_bodiesRan_1 : decode cX0_bodiesRan 1 = .ok (.getfield 15, 3) := by decide +kernel
theorem dX0_bodiesRan_4 : decode cX0_bodiesRan 4 = .ok (.ireturn, 1) := by decide +kernel
theorem dX0_bodyAt_0 : decode cX0_bodyAt 0 = .ok (.iload_n 1, 1) := by decide +kernel
theorem dX0_bodyAt_1 : decode cX0_bodyAt 1 = .ok (.ifCond .lt 26, 3) := by decide +kernel
theorem dX0_bodyAt_4 : decode cX0_bodyAt 4 = .ok (.iload_n 1, 1) := by decide +kernel
theorem dX0_bodyAt_5 : decode cX0_bodyAt 5 = .ok (.aload_n 0, 1) := by decide +kernel
theorem dX0_bodyAt_6 : decode cX0_bodyAt 6 = .ok (.getfield 15, 3) := by decide +kernel
theorem dX0_bodyAt_9 : decode cX0_bodyAt 9 = .ok (.if_icmp .ge 18, 3) := by decide +kernel
theorem dX0_bodyAt_12 : decode cX0_bodyAt 12 = .ok (.iload_n 1, 1) := by decide +kernel
theorem dX0_bodyAt_13 : decode cX0_bodyAt 13 = .ok (.bipush 20, 2) := by decide +kernel
theorem dX0_bodyAt_15 : decode cX0_bodyAt 15 = .ok (.if_icmp .ge 12, 3) := by decide +kernel
theorem dX0_bodyAt_18 : decode cX0_bodyAt 18 = .ok (.aload_n 0, 1) := by decide +kernel
theorem dX0_bodyAt_19 : decode cX0_bodyAt 19 = .ok (.getfield 9, 3) := by decide +kernel
theorem dX0_bodyAt_22 : decode cX0_bodyAt 22 = .ok (.iload_n 1, 1) := by decide +kernel
theorem dX0_bodyAt_23 : decode cX0_bodyAt 23 = .ok (.iaload, 1) := by decide +kernel
theorem dX0_bodyAt_24 : decode cX0_bodyAt 24 = .ok (.goto 4, 3) := by decide +kernel
theorem dX0_bodyAt_27 : decode cX0_bodyAt 27 = .ok (.iconst (-1), 1) := by decide +kernel
theorem dX0_bodyAt_28 : decode cX0_bodyAt 28 = .ok (.ireturn, 1) := by decide +kernel
theorem dX0_mark_0 : decode cX0_mark 0 = .ok (.aload_n 0, 1) := by decide +kernel
theorem dX0_mark_1 : decode cX0_mark 1 = .ok (.getfield 15, 3) := by decide +kernel
theorem dX0_mark_4 : decode cX0_mark 4 = .ok (.ifCond .lt 22, 3) := by decide +kernel
theorem dX0_mark_7 : decode cX0_mark 7 = .ok (.aload_n 0, 1) := by decide +kernel
theorem dX0_mark_8 : decode cX0_mark 8 = .ok (.getfield 15, 3) := by decide +kernel
theorem dX0_mark_11 : decode cX0_mark 11 = .ok (.bipush 20, 2) := by decide +kernel
theorem dX0_mark_13 : decode cX0_mark 13 = .ok (.if_icmp .ge 13, 3) := by decide +kernel
theorem dX0_mark_16 : decode cX0_mark 16 = .ok (.aload_n 0, 1) := by decide +kernel
theorem dX0_mark_17 : decode cX0_mark 17 = .ok (.getfield 9, 3) := by decide +kernel
theorem dX0_mark_20 : decode cX0_mark 20 = .ok (.aload_n 0, 1) := by decide +kernel
theorem dX0_mark_21 : decode cX0_mark 21 = .ok (.getfield 15, 3) := by decide +kernel
theorem dX0_mark_24 : decode cX0_mark 24 = .ok (.iload_n 1, 1) := by decide +kernel
theorem dX0_mark_25 : decode cX0_mark 25 = .ok (.iastore, 1) := by decide +kernel
theorem dX0_mark_26 : decode cX0_mark 26 = .ok (.aload_n 0, 1) := by decide +kernel
theorem dX0_mark_27 : decode cX0_mark 27 = .ok (.dup, 1) := by decide +kernel
theorem dX0_mark_28 : decode cX0_mark 28 = .ok (.getfield 15, 3) := by decide +kernel
theorem dX0_mark_31 : decode cX0_mark 31 = .ok (.iconst 1, 1) := by decide +kernel
theorem dX0_mark_32 : decode cX0_mark 32 = .ok (.iadd, 1) := by decide +kernel
theorem dX0_mark_33 : decode cX0_mark 33 = .ok (.putfield 15, 3) := by decide +kernel
theorem dX0_mark_36 : decode cX0_mark 36 = .ok (.return_, 1) := by decide +kernel
theorem dX0_bodyOf_0 : decode cX0_bodyOf 0 = .ok (.iload_n 1, 1) := by decide +kernel
theorem dX0_bodyOf_1 : decode cX0_bodyOf 1 = .ok (.iconst 0, 1) := by decide +kernel
theorem dX0_bodyOf_2 : decode cX0_bodyOf 2 = .ok (.bipush 6, 2) := by decide +kernel
theorem dX0_bodyOf_4 : decode cX0_bodyOf 4 = .ok (.invokestatic 28, 3) := by decide +kernel
theorem dX0_bodyOf_7 : decode cX0_bodyOf 7 = .ok (.ifCond .ne 5, 3) := by decide +kernel
theorem dX0_bodyOf_10 : decode cX0_bodyOf 10 = .ok (.iconst 0, 1) := by decide +kernel
theorem dX0_bodyOf_11 : decode cX0_bodyOf 11 = .ok (.ireturn, 1) := by decide +kernel
theorem dX0_bodyOf_12 : decode cX0_bodyOf 12 = .ok (.iload_n 0, 1) := by decide +kernel
theorem dX0_bodyOf_13 : decode cX0_bodyOf 13 = .ok (.ifCond .ne 9, 3) := by decide +kernel
theorem dX0_bodyOf_16 : decode cX0_bodyOf 16 = .ok (.getstatic 32, 3) := by decide +kernel
theorem dX0_bodyOf_19 : decode cX0_bodyOf 19 = .ok (.iload_n 1, 1) := by decide +kernel
theorem dX0_bodyOf_20 : decode cX0_bodyOf 20 = .ok (.iaload, 1) := by decide +kernel
theorem dX0_bodyOf_21 : decode cX0_bodyOf 21 = .ok (.ireturn, 1) := by decide +kernel
theorem dX0_bodyOf_22 : decode cX0_bodyOf 22 = .ok (.iload_n 0, 1) := by decide +kernel
theorem dX0_bodyOf_23 : decode cX0_bodyOf 23 = .ok (.iconst 1, 1) := by decide +kernel
theorem dX0_bodyOf_24 : decode cX0_bodyOf 24 = .ok (.if_icmp .ne 11, 3) := by decide +kernel
theorem dX0_bodyOf_27 : decode cX0_bodyOf 27 = .ok (.getstatic 35, 3) := by decide +kernel
theorem dX0_bodyOf_30 : decode cX0_bodyOf 30 = .ok (.iload_n 1, 1) := by decide +kernel
theorem dX0_bodyOf_31 : decode cX0_bodyOf 31 = .ok (.iaload, 1) := by decide +kernel
theorem dX0_bodyOf_32 : decode cX0_bodyOf 32 = .ok (.goto 8, 3) := by decide +kernel
theorem dX0_bodyOf_35 : decode cX0_bodyOf 35 = .ok (.getstatic 38, 3) := by decide +kernel
theorem dX0_bodyOf_38 : decode cX0_bodyOf 38 = .ok (.iload_n 1, 1) := by decide +kernel
theorem dX0_bodyOf_39 : decode cX0_bodyOf 39 = .ok (.iaload, 1) := by decide +kernel
theorem dX0_bodyOf_40 : decode cX0_bodyOf 40 = .ok (.ireturn, 1) := by decide +kernel
theorem dX0_kindWithBody_0 : decode cX0_kindWithBody 0 = .ok (.iload_n 1, 1) := by decide +kernel
theorem dX0_kindWithBody_1 : decode cX0_kindWithBody 1 = .ok (.istore_n 2, 1) := by decide +kernel
theorem dX0_kindWithBody_2 : decode cX0_kindWithBody 2 = .ok (.iconst 0, 1) := by decide +kernel
theorem dX0_kindWithBody_3 : decode cX0_kindWithBody 3 = .ok (.istore_n 3, 1) := by decide +kernel
theorem dX0_kindWithBody_4 : decode cX0_kindWithBody 4 = .ok (.iload_n 3, 1) := by decide +kernel
theorem dX0_kindWithBody_5 : decode cX0_kindWithBody 5 = .ok (.bipush 7, 2) := by decide +kernel
theorem dX0_kindWithBody_7 : decode cX0_kindWithBody 7 = .ok (.if_icmp .ge 27, 3) := by decide +kernel
theorem dX0_kindWithBody_10 : decode cX0_kindWithBody 10 = .ok (.iload_n 2, 1) := by decide +kernel
theorem dX0_kindWithBody_11 : decode cX0_kindWithBody 11 = .ok (.iconst (-1), 1) := by decide +kernel
theorem dX0_kindWithBody_12 : decode cX0_kindWithBody 12 = .ok (.if_icmp .eq 22, 3) := by decide +kernel
theorem dX0_kindWithBody_15 : decode cX0_kindWithBody 15 = .ok (.iload_n 0, 1) := by decide +kernel
theorem dX0_kindWithBody_16 : decode cX0_kindWithBody 16 = .ok (.iload_n 2, 1) := by decide +kernel
theorem dX0_kindWithBody_17 : decode cX0_kindWithBody 17 = .ok (.invokestatic 41, 3) := by decide +kernel
theorem dX0_kindWithBody_20 : decode cX0_kindWithBody 20 = .ok (.ifCond .ne 14, 3) := by decide +kernel
theorem dX0_kindWithBody_23 : decode cX0_kindWithBody 23 = .ok (.iload_n 2, 1) := by decide +kernel
theorem dX0_kindWithBody_24 : decode cX0_kindWithBody 24 = .ok (.invokestatic 45, 3) := by decide +kernel
theorem dX0_kindWithBody_27 : decode cX0_kindWithBody 27 = .ok (.istore_n 2, 1) := by decide +kernel
theorem dX0_kindWithBody_28 : decode cX0_kindWithBody 28 = .ok (.iinc 3 1, 3) := by decide +kernel
theorem dX0_kindWithBody_31 : decode cX0_kindWithBody 31 = .ok (.goto (-27), 3) := by decide +kernel
theorem dX0_kindWithBody_34 : decode cX0_kindWithBody 34 = .ok (.iload_n 2, 1) := by decide +kernel
theorem dX0_kindWithBody_35 : decode cX0_kindWithBody 35 = .ok (.ireturn, 1) := by decide +kernel
theorem dX0_play_0 : decode cX0_play 0 = .ok (.iload_n 1, 1) := by decide +kernel
theorem dX0_play_1 : decode cX0_play 1 = .ok (.iload_n 2, 1) := by decide +kernel
theorem dX0_play_2 : decode cX0_play 2 = .ok (.invokestatic 49, 3) := by decide +kernel
theorem dX0_play_5 : decode cX0_play 5 = .ok (.istore 5, 2) := by decide +kernel
theorem dX0_play_7 : decode cX0_play 7 = .ok (.iload 5, 2) := by decide +kernel
theorem dX0_play_9 : decode cX0_play 9 = .ok (.iconst (-1), 1) := by decide +kernel
theorem dX0_play_10 : decode cX0_play 10 = .ok (.if_icmp .eq 10, 3) := by decide +kernel
theorem dX0_play_13 : decode cX0_play 13 = .ok (.iload 4, 2) := by decide +kernel
theorem dX0_play_15 : decode cX0_play 15 = .ok (.bipush 40, 2) := by decide +kernel
theorem dX0_play_17 : decode cX0_play 17 = .ok (.if_icmp .le 5, 3) := by decide +kernel
theorem dX0_play_20 : decode cX0_play 20 = .ok (.iconst 0, 1) := by decide +kernel
theorem dX0_play_21 : decode cX0_play 21 = .ok (.ireturn, 1) := by decide +kernel
theorem dX0_play_22 : decode cX0_play 22 = .ok (.iload_n 1, 1) := by decide +kernel
theorem dX0_play_23 : decode cX0_play 23 = .ok (.iload 5, 2) := by decide +kernel
theorem dX0_play_25 : decode cX0_play 25 = .ok (.invokestatic 41, 3) := by decide +kernel
theorem dX0_play_28 : decode cX0_play 28 = .ok (.istore 6, 2) := by decide +kernel
theorem dX0_play_30 : decode cX0_play 30 = .ok (.iload 5, 2) := by decide +kernel
theorem dX0_play_32 : decode cX0_play 32 = .ok (.invokestatic 45, 3) := by decide +kernel
theorem dX0_play_35 : decode cX0_play 35 = .ok (.istore 7, 2) := by decide +kernel
theorem dX0_play_37 : decode cX0_play 37 = .ok (.iload 4, 2) := by decide +kernel
theorem dX0_play_39 : decode cX0_play 39 = .ok (.iconst 1, 1) := by decide +kernel
theorem dX0_play_40 : decode cX0_play 40 = .ok (.iadd, 1) := by decide +kernel
theorem dX0_play_41 : decode cX0_play 41 = .ok (.istore 8, 2) := by decide +kernel
theorem dX0_play_43 : decode cX0_play 43 = .ok (.aload_n 0, 1) := by decide +kernel
theorem dX0_play_44 : decode cX0_play 44 = .ok (.getfield 25, 3) := by decide +kernel
theorem dX0_play_47 : decode cX0_play 47 = .ok (.istore 9, 2) := by decide +kernel
theorem dX0_play_49 : decode cX0_play 49 = .ok (.aload_n 0, 1) := by decide +kernel
theorem dX0_play_50 : decode cX0_play 50 = .ok (.iload 6, 2) := by decide +kernel
theorem dX0_play_52 : decode cX0_play 52 = .ok (.invokevirtual 52, 3) := by decide +kernel
theorem dX0_play_55 : decode cX0_play 55 = .ok (.iload 6, 2) := by decide +kernel
theorem dX0_play_57 : decode cX0_play 57 = .ok (.lookupswitch 258 #[(10, 99), (11, 106), (12, 121), (20, 150), (30, 164), (40, 177), (41, 190), (50, 206), (60, 218), (70, 231), (71, 244)], 99) := by decide +kernel
theorem dX0_play_156 : decode cX0_play 156 = .ok (.iload_n 3, 1) := by decide +kernel
theorem dX0_play_157 : decode cX0_play 157 = .ok (.aload_n 0, 1) := by decide +kernel
theorem dX0_play_158 : decode cX0_play 158 = .ok (.getfield 22, 3) := by decide +kernel
theorem dX0_play_161 : decode cX0_play 161 = .ok (.iadd, 1) := by decide +kernel
theorem dX0_play_162 : decode cX0_play 162 = .ok (.ireturn, 1) := by decide +kernel
theorem dX0_play_163 : decode cX0_play 163 = .ok (.aload_n 0, 1) := by decide +kernel
theorem dX0_play_164 : decode cX0_play 164 = .ok (.iconst 0, 1) := by decide +kernel
theorem dX0_play_165 : decode cX0_play 165 = .ok (.aload_n 0, 1) := by decide +kernel
theorem dX0_play_166 : decode cX0_play 166 = .ok (.getfield 19, 3) := by decide +kernel
theorem dX0_play_169 : decode cX0_play 169 = .ok (.iload_n 3, 1) := by decide +kernel
theorem dX0_play_170 : decode cX0_play 170 = .ok (.iload 8, 2) := by decide +kernel
theorem dX0_play_172 : decode cX0_play 172 = .ok (.invokestatic 56, 3) := by decide +kernel
theorem dX0_play_175 : decode cX0_play 175 = .ok (.iconst 2, 1) := by decide +kernel
theorem dX0_play_176 : decode cX0_play 176 = .ok (.imul, 1) := by decide +kernel
theorem dX0_play_177 : decode cX0_play 177 = .ok (.ireturn, 1) := by decide +kernel
theorem dX0_play_178 : decode cX0_play 178 = .ok (.aload_n 0, 1) := by decide +kernel
theorem dX0_play_179 : decode cX0_play 179 = .ok (.iconst 1, 1) := by decide +kernel
theorem dX0_play_180 : decode cX0_play 180 = .ok (.aload_n 0, 1) := by decide +kernel
theorem dX0_play_181 : decode cX0_play 181 = .ok (.getfield 19, 3) := by decide +kernel
theorem dX0_play_184 : decode cX0_play 184 = .ok (.iload_n 3, 1) := by decide +kernel
theorem dX0_play_185 : decode cX0_play 185 = .ok (.iload 8, 2) := by decide +kernel
theorem dX0_play_187 : decode cX0_play 187 = .ok (.invokestatic 56, 3) := by decide +kernel
theorem dX0_play_190 : decode cX0_play 190 = .ok (.aload_n 0, 1) := by decide +kernel
theorem dX0_play_191 : decode cX0_play 191 = .ok (.iconst 0, 1) := by decide +kernel
theorem dX0_play_192 : decode cX0_play 192 = .ok (.aload_n 0, 1) := by decide +kernel
theorem dX0_play_193 : decode cX0_play 193 = .ok (.getfield 19, 3) := by decide +kernel
theorem dX0_play_196 : decode cX0_play 196 = .ok (.iload_n 3, 1) := by decide +kernel
theorem dX0_play_197 : decode cX0_play 197 = .ok (.iload 9, 2) := by decide +kernel
theorem dX0_play_199 : decode cX0_play 199 = .ok (.isub, 1) := by decide +kernel
theorem dX0_play_200 : decode cX0_play 200 = .ok (.iload 8, 2) := by decide +kernel
theorem dX0_play_202 : decode cX0_play 202 = .ok (.invokestatic 56, 3) := by decide +kernel
theorem dX0_play_205 : decode cX0_play 205 = .ok (.ixor, 1) := by decide +kernel
theorem dX0_play_206 : decode cX0_play 206 = .ok (.ireturn, 1) := by decide +kernel
theorem dX0_play_207 : decode cX0_play 207 = .ok (.aload_n 0, 1) := by decide +kernel
theorem dX0_play_208 : decode cX0_play 208 = .ok (.iconst 0, 1) := by decide +kernel
theorem dX0_play_209 : decode cX0_play 209 = .ok (.iload 7, 2) := by decide +kernel
theorem dX0_play_211 : decode cX0_play 211 = .ok (.iload_n 3, 1) := by decide +kernel
theorem dX0_play_212 : decode cX0_play 212 = .ok (.iload 8, 2) := by decide +kernel
theorem dX0_play_214 : decode cX0_play 214 = .ok (.invokestatic 56, 3) := by decide +kernel
theorem dX0_play_217 : decode cX0_play 217 = .ok (.iload 9, 2) := by decide +kernel
theorem dX0_play_219 : decode cX0_play 219 = .ok (.iadd, 1) := by decide +kernel
theorem dX0_play_220 : decode cX0_play 220 = .ok (.ireturn, 1) := by decide +kernel
theorem dX0_play_221 : decode cX0_play 221 = .ok (.aload_n 0, 1) := by decide +kernel
theorem dX0_play_222 : decode cX0_play 222 = .ok (.iconst 1, 1) := by decide +kernel
theorem dX0_play_223 : decode cX0_play 223 = .ok (.iload 7, 2) := by decide +kernel
theorem dX0_play_225 : decode cX0_play 225 = .ok (.iload_n 3, 1) := by decide +kernel
theorem dX0_play_226 : decode cX0_play 226 = .ok (.iload 8, 2) := by decide +kernel
theorem dX0_play_228 : decode cX0_play 228 = .ok (.invokestatic 56, 3) := by decide +kernel
theorem dX0_play_231 : decode cX0_play 231 = .ok (.iconst 3, 1) := by decide +kernel
theorem dX0_play_232 : decode cX0_play 232 = .ok (.imul, 1) := by decide +kernel
theorem dX0_play_233 : decode cX0_play 233 = .ok (.ireturn, 1) := by decide +kernel
theorem dX0_play_234 : decode cX0_play 234 = .ok (.aload_n 0, 1) := by decide +kernel
theorem dX0_play_235 : decode cX0_play 235 = .ok (.iconst 1, 1) := by decide +kernel
theorem dX0_play_236 : decode cX0_play 236 = .ok (.iload 7, 2) := by decide +kernel
theorem dX0_play_238 : decode cX0_play 238 = .ok (.iload_n 3, 1) := by decide +kernel
theorem dX0_play_239 : decode cX0_play 239 = .ok (.iconst 1, 1) := by decide +kernel
theorem dX0_play_240 : decode cX0_play 240 = .ok (.iadd, 1) := by decide +kernel
theorem dX0_play_241 : decode cX0_play 241 = .ok (.iload 8, 2) := by decide +kernel
theorem dX0_play_243 : decode cX0_play 243 = .ok (.invokestatic 56, 3) := by decide +kernel
theorem dX0_play_246 : decode cX0_play 246 = .ok (.ireturn, 1) := by decide +kernel
theorem dX0_play_247 : decode cX0_play 247 = .ok (.aload_n 0, 1) := by decide +kernel
theorem dX0_play_248 : decode cX0_play 248 = .ok (.iconst 0, 1) := by decide +kernel
theorem dX0_play_249 : decode cX0_play 249 = .ok (.iload 7, 2) := by decide +kernel
theorem dX0_play_251 : decode cX0_play 251 = .ok (.iload_n 3, 1) := by decide +kernel
theorem dX0_play_252 : decode cX0_play 252 = .ok (.iload 8, 2) := by decide +kernel
theorem dX0_play_254 : decode cX0_play 254 = .ok (.invokestatic 56, 3) := by decide +kernel
theorem dX0_play_257 : decode cX0_play 257 = .ok (.aload_n 0, 1) := by decide +kernel
theorem dX0_play_258 : decode cX0_play 258 = .ok (.getfield 22, 3) := by decide +kernel
theorem dX0_play_261 : decode cX0_play 261 = .ok (.isub, 1) := by decide +kernel
theorem dX0_play_262 : decode cX0_play 262 = .ok (.ireturn, 1) := by decide +kernel
theorem dX0_play_263 : decode cX0_play 263 = .ok (.aload_n 0, 1) := by decide +kernel
theorem dX0_play_264 : decode cX0_play 264 = .ok (.iconst 2, 1) := by decide +kernel
theorem dX0_play_265 : decode cX0_play 265 = .ok (.iload 7, 2) := by decide +kernel
theorem dX0_play_267 : decode cX0_play 267 = .ok (.iload_n 3, 1) := by decide +kernel
theorem dX0_play_268 : decode cX0_play 268 = .ok (.iload 8, 2) := by decide +kernel
theorem dX0_play_270 : decode cX0_play 270 = .ok (.invokestatic 56, 3) := by decide +kernel
theorem dX0_play_273 : decode cX0_play 273 = .ok (.ineg, 1) := by decide +kernel
theorem dX0_play_274 : decode cX0_play 274 = .ok (.ireturn, 1) := by decide +kernel
theorem dX0_play_275 : decode cX0_play 275 = .ok (.aload_n 0, 1) := by decide +kernel
theorem dX0_play_276 : decode cX0_play 276 = .ok (.iconst 2, 1) := by decide +kernel
theorem dX0_play_277 : decode cX0_play 277 = .ok (.iload 7, 2) := by decide +kernel
theorem dX0_play_279 : decode cX0_play 279 = .ok (.iload_n 3, 1) := by decide +kernel
theorem dX0_play_280 : decode cX0_play 280 = .ok (.iload 8, 2) := by decide +kernel
theorem dX0_play_282 : decode cX0_play 282 = .ok (.invokestatic 56, 3) := by decide +kernel
theorem dX0_play_285 : decode cX0_play 285 = .ok (.iconst 5, 1) := by decide +kernel
theorem dX0_play_286 : decode cX0_play 286 = .ok (.ixor, 1) := by decide +kernel
theorem dX0_play_287 : decode cX0_play 287 = .ok (.ireturn, 1) := by decide +kernel
theorem dX0_play_288 : decode cX0_play 288 = .ok (.aload_n 0, 1) := by decide +kernel
theorem dX0_play_289 : decode cX0_play 289 = .ok (.iconst 0, 1) := by decide +kernel
theorem dX0_play_290 : decode cX0_play 290 = .ok (.iload 7, 2) := by decide +kernel
theorem dX0_play_292 : decode cX0_play 292 = .ok (.iload_n 3, 1) := by decide +kernel
theorem dX0_play_293 : decode cX0_play 293 = .ok (.iload 8, 2) := by decide +kernel
theorem dX0_play_295 : decode cX0_play 295 = .ok (.invokestatic 56, 3) := by decide +kernel
theorem dX0_play_298 : decode cX0_play 298 = .ok (.iconst 2, 1) := by decide +kernel
theorem dX0_play_299 : decode cX0_play 299 = .ok (.imul, 1) := by decide +kernel
theorem dX0_play_300 : decode cX0_play 300 = .ok (.ireturn, 1) := by decide +kernel
theorem dX0_play_301 : decode cX0_play 301 = .ok (.aload_n 0, 1) := by decide +kernel
theorem dX0_play_302 : decode cX0_play 302 = .ok (.iconst 2, 1) := by decide +kernel
theorem dX0_play_303 : decode cX0_play 303 = .ok (.iload 7, 2) := by decide +kernel
theorem dX0_play_305 : decode cX0_play 305 = .ok (.iload_n 3, 1) := by decide +kernel
theorem dX0_play_306 : decode cX0_play 306 = .ok (.iload 9, 2) := by decide +kernel
theorem dX0_play_308 : decode cX0_play 308 = .ok (.isub, 1) := by decide +kernel
theorem dX0_play_309 : decode cX0_play 309 = .ok (.iload 8, 2) := by decide +kernel
theorem dX0_play_311 : decode cX0_play 311 = .ok (.invokestatic 56, 3) := by decide +kernel
theorem dX0_play_314 : decode cX0_play 314 = .ok (.ireturn, 1) := by decide +kernel
theorem dX0_play_315 : decode cX0_play 315 = .ok (.iconst 0, 1) := by decide +kernel
theorem dX0_play_316 : decode cX0_play 316 = .ok (.ireturn, 1) := by decide +kernel
theorem dX1_init_0 : decode cX1_init 0 = .ok (.aload_n 0, 1) := by decide +kernel
theorem dX1_init_1 : decode cX1_init 1 = .ok (.invokespecial 3, 3) := by decide +kernel
theorem dX1_init_4 : decode cX1_init 4 = .ok (.aload_n 0, 1) := by decide +kernel
theorem dX1_init_5 : decode cX1_init 5 = .ok (.bipush 6, 2) := by decide +kernel
theorem dX1_init_7 : decode cX1_init 7 = .ok (.newarray .int, 2) := by decide +kernel
theorem dX1_init_9 : decode cX1_init 9 = .ok (.putfield 9, 3) := by decide +kernel
theorem dX1_init_12 : decode cX1_init 12 = .ok (.aload_n 0, 1) := by decide +kernel
theorem dX1_init_13 : decode cX1_init 13 = .ok (.bipush 6, 2) := by decide +kernel
theorem dX1_init_15 : decode cX1_init 15 = .ok (.newarray .int, 2) := by decide +kernel
theorem dX1_init_17 : decode cX1_init 17 = .ok (.putfield 15, 3) := by decide +kernel
theorem dX1_init_20 : decode cX1_init 20 = .ok (.aload_n 0, 1) := by decide +kernel
theorem dX1_init_21 : decode cX1_init 21 = .ok (.bipush 6, 2) := by decide +kernel
theorem dX1_init_23 : decode cX1_init 23 = .ok (.newarray .int, 2) := by decide +kernel
theorem dX1_init_25 : decode cX1_init 25 = .ok (.putfield 18, 3) := by decide +kernel
theorem dX1_init_28 : decode cX1_init 28 = .ok (.aload_n 0, 1) := by decide +kernel
theorem dX1_init_29 : decode cX1_init 29 = .ok (.iconst 0, 1) := by decide +kernel
theorem dX1_init_30 : decode cX1_init 30 = .ok (.putfield 21, 3) := by decide +kernel
theorem dX1_init_33 : decode cX1_init 33 = .ok (.return_, 1) := by decide +kernel
theorem dX1_become_0 : decode cX1_become 0 = .ok (.aload_n 1, 1) := by decide +kernel
theorem dX1_become_1 : decode cX1_become 1 = .ok (.getfield 9, 3) := by decide +kernel
theorem dX1_become_4 : decode cX1_become 4 = .ok (.iconst 0, 1) := by decide +kernel
theorem dX1_become_5 : decode cX1_become 5 = .ok (.aload_n 0, 1) := by decide +kernel
theorem dX1_become_6 : decode cX1_become 6 = .ok (.getfield 9, 3) := by decide +kernel
theorem dX1_become_9 : decode cX1_become 9 = .ok (.iconst 0, 1) := by decide +kernel
theorem dX1_become_10 : decode cX1_become 10 = .ok (.bipush 6, 2) := by decide +kernel
theorem dX1_become_12 : decode cX1_become 12 = .ok (.invokestatic 25, 3) := by decide +kernel
theorem dX1_become_15 : decode cX1_become 15 = .ok (.aload_n 1, 1) := by decide +kernel
theorem dX1_become_16 : decode cX1_become 16 = .ok (.getfield 15, 3) := by decide +kernel
theorem dX1_become_19 : decode cX1_become 19 = .ok (.iconst 0, 1) := by decide +kernel
theorem dX1_become_20 : decode cX1_become 20 = .ok (.aload_n 0, 1) := by decide +kernel
theorem dX1_become_21 : decode cX1_become 21 = .ok (.getfield 15, 3) := by decide +kernel
theorem dX1_become_24 : decode cX1_become 24 = .ok (.iconst 0, 1) := by decide +kernel
theorem dX1_become_25 : decode cX1_become 25 = .ok (.bipush 6, 2) := by decide +kernel
theorem dX1_become_27 : decode cX1_become 27 = .ok (.invokestatic 25, 3) := by decide +kernel
theorem dX1_become_30 : decode cX1_become 30 = .ok (.aload_n 1, 1) := by decide +kernel
theorem dX1_become_31 : decode cX1_become 31 = .ok (.getfield 18, 3) := by decide +kernel
theorem dX1_become_34 : decode cX1_become 34 = .ok (.iconst 0, 1) := by decide +kernel
theorem dX1_become_35 : decode cX1_become 35 = .ok (.aload_n 0, 1) := by decide +kernel
theorem dX1_become_36 : decode cX1_become 36 = .ok (.getfield 18, 3) := by decide +kernel
theorem dX1_become_39 : decode cX1_become 39 = .ok (.iconst 0, 1) := by decide +kernel
theorem dX1_become_40 : decode cX1_become 40 = .ok (.bipush 6, 2) := by decide +kernel
theorem dX1_become_42 : decode cX1_become 42 = .ok (.invokestatic 25, 3) := by decide +kernel
theorem dX1_become_45 : decode cX1_become 45 = .ok (.aload_n 0, 1) := by decide +kernel
theorem dX1_become_46 : decode cX1_become 46 = .ok (.aload_n 1, 1) := by decide +kernel
theorem dX1_become_47 : decode cX1_become 47 = .ok (.getfield 21, 3) := by decide +kernel
theorem dX1_become_50 : decode cX1_become 50 = .ok (.putfield 21, 3) := by decide +kernel
theorem dX1_become_53 : decode cX1_become 53 = .ok (.return_, 1) := by decide +kernel
theorem dX1_count_0 : decode cX1_count 0 = .ok (.aload_n 0, 1) := by decide +kernel
theorem dX1_count_1 : decode cX1_count 1 = .ok (.getfield 21, 3) := by decide +kernel
theorem dX1_count_4 : decode cX1_count 4 = .ok (.ireturn, 1) := by decide +kernel
theorem dX1_has_0 : decode cX1_has 0 = .ok (.iload_n 1, 1) := by decide +kernel
theorem dX1_has_1 : decode cX1_has 1 = .ok (.ifCond .lt 21, 3) := by decide +kernel
theorem dX1_has_4 : decode cX1_has 4 = .ok (.iload_n 1, 1) := by decide +kernel
theorem dX1_has_5 : decode cX1_has 5 = .ok (.aload_n 0, 1) := by decide +kernel
theorem dX1_has_6 : decode cX1_has 6 = .ok (.getfield 21, 3) := by decide +kernel
theorem dX1_has_9 : decode cX1_has 9 = .ok (.if_icmp .ge 13, 3) := by decide +kernel
theorem dX1_has_12 : decode cX1_has 12 = .ok (.iload_n 1, 1) := by decide +kernel
theorem dX1_has_13 : decode cX1_has 13 = .ok (.bipush 6, 2) := by decide +kernel
theorem dX1_has_15 : decode cX1_has 15 = .ok (.if_icmp .ge 7, 3) := by decide +kernel
theorem dX1_has_18 : decode cX1_has 18 = .ok (.iconst 1, 1) := by decide +kernel
theorem dX1_has_19 : decode cX1_has 19 = .ok (.goto 4, 3) := by decide +kernel
theorem dX1_has_22 : decode cX1_has 22 = .ok (.iconst 0, 1) := by decide +kernel
theorem dX1_has_23 : decode cX1_has 23 = .ok (.ireturn, 1) := by decide +kernel
theorem dX1_isFull_0 : decode cX1_isFull 0 = .ok (.aload_n 0, 1) := by decide +kernel
theorem dX1_isFull_1 : decode cX1_isFull 1 = .ok (.getfield 21, 3) := by decide +kernel
theorem dX1_isFull_4 : decode cX1_isFull 4 = .ok (.bipush 6, 2) := by decide +kernel
theorem dX1_isFull_6 : decode cX1_isFull 6 = .ok (.if_icmp .lt 7, 3) := by decide +kernel
theorem dX1_isFull_9 : decode cX1_isFull 9 = .ok (.iconst 1, 1) := by decide +kernel
theorem dX1_isFull_10 : decode cX1_isFull 10 = .ok (.goto 4, 3) := by decide +kernel
theorem dX1_isFull_13 : decode cX1_isFull 13 = .ok (.iconst 0, 1) := by decide +kernel
theorem dX1_isFull_14 : decode cX1_isFull 14 = .ok (.ireturn, 1) := by decide +kernel
theorem dX1_add_0 : decode cX1_add 0 = .ok (.aload_n 0, 1) := by decide +kernel
theorem dX1_add_1 : decode cX1_add 1 = .ok (.invokevirtual 31, 3) := by decide +kernel
theorem dX1_add_4 : decode cX1_add 4 = .ok (.ifCond .ne 10, 3) := by decide +kernel
theorem dX1_add_7 : decode cX1_add 7 = .ok (.aload_n 0, 1) := by decide +kernel
theorem dX1_add_8 : decode cX1_add 8 = .ok (.getfield 21, 3) := by decide +kernel
theorem dX1_add_11 : decode cX1_add 11 = .ok (.ifCond .ge 5, 3) := by decide +kernel
theorem dX1_add_14 : decode cX1_add 14 = .ok (.iconst (-1), 1) := by decide +kernel
theorem dX1_add_15 : decode cX1_add 15 = .ok (.ireturn, 1) := by decide +kernel
theorem dX1_add_16 : decode cX1_add 16 = .ok (.aload_n 0, 1) := by decide +kernel
theorem dX1_add_17 : decode cX1_add 17 = .ok (.getfield 9, 3) := by decide +kernel
theorem dX1_add_20 : decode cX1_add 20 = .ok (.aload_n 0, 1) := by decide +kernel
theorem dX1_add_21 : decode cX1_add 21 = .ok (.getfield 21, 3) := by decide +kernel
theorem dX1_add_24 : decode cX1_add 24 = .ok (.iload_n 1, 1) := by decide +kernel
theorem dX1_add_25 : decode cX1_add 25 = .ok (.iastore, 1) := by decide +kernel
theorem dX1_add_26 : decode cX1_add 26 = .ok (.aload_n 0, 1) := by decide +kernel
theorem dX1_add_27 : decode cX1_add 27 = .ok (.getfield 15, 3) := by decide +kernel
theorem dX1_add_30 : decode cX1_add 30 = .ok (.aload_n 0, 1) := by decide +kernel
theorem dX1_add_31 : decode cX1_add 31 = .ok (.getfield 21, 3) := by decide +kernel
theorem dX1_add_34 : decode cX1_add 34 = .ok (.iload_n 2, 1) := by decide +kernel
theorem dX1_add_35 : decode cX1_add 35 = .ok (.iastore, 1) := by decide +kernel
theorem dX1_add_36 : decode cX1_add 36 = .ok (.aload_n 0, 1) := by decide +kernel
theorem dX1_add_37 : decode cX1_add 37 = .ok (.getfield 18, 3) := by decide +kernel
theorem dX1_add_40 : decode cX1_add 40 = .ok (.aload_n 0, 1) := by decide +kernel
theorem dX1_add_41 : decode cX1_add 41 = .ok (.getfield 21, 3) := by decide +kernel
theorem dX1_add_44 : decode cX1_add 44 = .ok (.iload_n 3, 1) := by decide +kernel
theorem dX1_add_45 : decode cX1_add 45 = .ok (.iastore, 1) := by decide +kernel
theorem dX1_add_46 : decode cX1_add 46 = .ok (.aload_n 0, 1) := by decide +kernel
theorem dX1_add_47 : decode cX1_add 47 = .ok (.dup, 1) := by decide +kernel
theorem dX1_add_48 : decode cX1_add 48 = .ok (.getfield 21, 3) := by decide +kernel
theorem dX1_add_51 : decode cX1_add 51 = .ok (.iconst 1, 1) := by decide +kernel
theorem dX1_add_52 : decode cX1_add 52 = .ok (.iadd, 1) := by decide +kernel
theorem dX1_add_53 : decode cX1_add 53 = .ok (.putfield 21, 3) := by decide +kernel
theorem dX1_add_56 : decode cX1_add 56 = .ok (.aload_n 0, 1) := by decide +kernel
theorem dX1_add_57 : decode cX1_add 57 = .ok (.getfield 21, 3) := by decide +kernel
theorem dX1_add_60 : decode cX1_add 60 = .ok (.iconst 1, 1) := by decide +kernel
theorem dX1_add_61 : decode cX1_add 61 = .ok (.isub, 1) := by decide +kernel
theorem dX1_add_62 : decode cX1_add 62 = .ok (.ireturn, 1) := by decide +kernel
theorem dX1_speedOf_0 : decode cX1_speedOf 0 = .ok (.aload_n 0, 1) := by decide +kernel
theorem dX1_speedOf_1 : decode cX1_speedOf 1 = .ok (.iload_n 1, 1) := by decide +kernel
theorem dX1_speedOf_2 : decode cX1_speedOf 2 = .ok (.invokevirtual 35, 3) := by decide +kernel
theorem dX1_speedOf_5 : decode cX1_speedOf 5 = .ok (.ifCond .eq 12, 3) := by decide +kernel
theorem dX1_speedOf_8 : decode cX1_speedOf 8 = .ok (.aload_n 0, 1) := by decide +kernel
theorem dX1_speedOf_9 : decode cX1_speedOf 9 = .ok (.getfield 9, 3) := by decide +kernel
theorem dX1_speedOf_12 : decode cX1_speedOf 12 = .ok (.iload_n 1, 1) := by decide +kernel
theorem dX1_speedOf_13 : decode cX1_speedOf 13 = .ok (.iaload, 1) := by decide +kernel
theorem dX1_speedOf_14 : decode cX1_speedOf 14 = .ok (.goto 4, 3) := by decide +kernel
theorem dX1_speedOf_17 : decode cX1_speedOf 17 = .ok (.iconst 0, 1) := by decide +kernel
theorem dX1_speedOf_18 : decode cX1_speedOf 18 = .ok (.ireturn, 1) := by decide +kernel
theorem dX1_baseOf_0 : decode cX1_baseOf 0 = .ok (.aload_n 0, 1) := by decide +kernel
theorem dX1_baseOf_1 : decode cX1_baseOf 1 = .ok (.iload_n 1, 1) := by decide +kernel
theorem dX1_baseOf_2 : decode cX1_baseOf 2 = .ok (.invokevirtual 35, 3) := by decide +kernel
theorem dX1_baseOf_5 : decode cX1_baseOf 5 = .ok (.ifCond .eq 12, 3) := by decide +kernel
theorem dX1_baseOf_8 : decode cX1_baseOf 8 = .ok (.aload_n 0, 1) := by decide +kernel
theorem dX1_baseOf_9 : decode cX1_baseOf 9 = .ok (.getfield 15, 3) := by decide +kernel
theorem dX1_baseOf_12 : decode cX1_baseOf 12 = .ok (.iload_n 1, 1) := by decide +kernel
theorem dX1_baseOf_13 : decode cX1_baseOf 13 = .ok (.iaload, 1) := by decide +kernel
theorem dX1_baseOf_14 : decode cX1_baseOf 14 = .ok (.goto 4, 3) := by decide +kernel
theorem dX1_baseOf_17 : decode cX1_baseOf 17 = .ok (.iconst 0, 1) := by decide +kernel
theorem dX1_baseOf_18 : decode cX1_baseOf 18 = .ok (.ireturn, 1) := by decide +kernel
theorem dX1_shareOf_0 : decode cX1_shareOf 0 = .ok (.aload_n 0, 1) := by decide +kernel
theorem dX1_shareOf_1 : decode cX1_shareOf 1 = .ok (.iload_n 1, 1) := by decide +kernel
theorem dX1_shareOf_2 : decode cX1_shareOf 2 = .ok (.invokevirtual 35, 3) := by decide +kernel
theorem dX1_shareOf_5 : decode cX1_shareOf 5 = .ok (.ifCond .eq 12, 3) := by decide +kernel
theorem dX1_shareOf_8 : decode cX1_shareOf 8 = .ok (.aload_n 0, 1) := by decide +kernel
theorem dX1_shareOf_9 : decode cX1_shareOf 9 = .ok (.getfield 18, 3) := by decide +kernel
theorem dX1_shareOf_12 : decode cX1_shareOf 12 = .ok (.iload_n 1, 1) := by decide +kernel
theorem dX1_shareOf_13 : decode cX1_shareOf 13 = .ok (.iaload, 1) := by decide +kernel
theorem dX1_shareOf_14 : decode cX1_shareOf 14 = .ok (.goto 4, 3) := by decide +kernel
theorem dX1_shareOf_17 : decode cX1_shareOf 17 = .ok (.iconst 0, 1) := by decide +kernel
theorem dX1_shareOf_18 : decode cX1_shareOf 18 = .ok (.ireturn, 1) := by decide +kernel
theorem dX1_shareOfAll_0 : decode cX1_shareOfAll 0 = .ok (.iconst 0, 1) := by decide +kernel
theorem dX1_shareOfAll_1 : decode cX1_shareOfAll 1 = .ok (.istore_n 1, 1) := by decide +kernel
theorem dX1_shareOfAll_2 : decode cX1_shareOfAll 2 = .ok (.iconst 0, 1) := by decide +kernel
theorem dX1_shareOfAll_3 : decode cX1_shareOfAll 3 = .ok (.istore_n 2, 1) := by decide +kernel
theorem dX1_shareOfAll_4 : decode cX1_shareOfAll 4 = .ok (.iload_n 2, 1) := by decide +kernel
theorem dX1_shareOfAll_5 : decode cX1_shareOfAll 5 = .ok (.aload_n 0, 1) := by decide +kernel
theorem dX1_shareOfAll_6 : decode cX1_shareOfAll 6 = .ok (.getfield 21, 3) := by decide +kernel
theorem dX1_shareOfAll_9 : decode cX1_shareOfAll 9 = .ok (.if_icmp .ge 17, 3) := by decide +kernel
theorem dX1_shareOfAll_12 : decode cX1_shareOfAll 12 = .ok (.iload_n 1, 1) := by decide +kernel
theorem dX1_shareOfAll_13 : decode cX1_shareOfAll 13 = .ok (.aload_n 0, 1) := by decide +kernel
theorem dX1_shareOfAll_14 : decode cX1_shareOfAll 14 = .ok (.iload_n 2, 1) := by decide +kernel
theorem dX1_shareOfAll_15 : decode cX1_shareOfAll 15 = .ok (.invokevirtual 39, 3) := by decide +kernel
theorem dX1_shareOfAll_18 : decode cX1_shareOfAll 18 = .ok (.iadd, 1) := by decide +kernel
theorem dX1_shareOfAll_19 : decode cX1_shareOfAll 19 = .ok (.istore_n 1, 1) := by decide +kernel
theorem dX1_shareOfAll_20 : decode cX1_shareOfAll 20 = .ok (.iinc 2 1, 3) := by decide +kernel
theorem dX1_shareOfAll_23 : decode cX1_shareOfAll 23 = .ok (.goto (-19), 3) := by decide +kernel
theorem dX1_shareOfAll_26 : decode cX1_shareOfAll 26 = .ok (.iload_n 1, 1) := by decide +kernel
theorem dX1_shareOfAll_27 : decode cX1_shareOfAll 27 = .ok (.ireturn, 1) := by decide +kernel
theorem dX1_carAtShare_0 : decode cX1_carAtShare 0 = .ok (.iconst 0, 1) := by decide +kernel
theorem dX1_carAtShare_1 : decode cX1_carAtShare 1 = .ok (.istore_n 2, 1) := by decide +kernel
theorem dX1_carAtShare_2 : decode cX1_carAtShare 2 = .ok (.iconst 0, 1) := by decide +kernel
theorem dX1_carAtShare_3 : decode cX1_carAtShare 3 = .ok (.istore_n 3, 1) := by decide +kernel
theorem dX1_carAtShare_4 : decode cX1_carAtShare 4 = .ok (.iload_n 3, 1) := by decide +kernel
theorem dX1_carAtShare_5 : decode cX1_carAtShare 5 = .ok (.aload_n 0, 1) := by decide +kernel
theorem dX1_carAtShare_6 : decode cX1_carAtShare 6 = .ok (.getfield 21, 3) := by decide +kernel
theorem dX1_carAtShare_9 : decode cX1_carAtShare 9 = .ok (.if_icmp .ge 24, 3) := by decide +kernel
theorem dX1_carAtShare_12 : decode cX1_carAtShare 12 = .ok (.iload_n 2, 1) := by decide +kernel
theorem dX1_carAtShare_13 : decode cX1_carAtShare 13 = .ok (.aload_n 0, 1) := by decide +kernel
theorem dX1_carAtShare_14 : decode cX1_carAtShare 14 = .ok (.iload_n 3, 1) := by decide +kernel
theorem dX1_carAtShare_15 : decode cX1_carAtShare 15 = .ok (.invokevirtual 39, 3) := by decide +kernel
theorem dX1_carAtShare_18 : decode cX1_carAtShare 18 = .ok (.iadd, 1) := by decide +kernel
theorem dX1_carAtShare_19 : decode cX1_carAtShare 19 = .ok (.istore_n 2, 1) := by decide +kernel
theorem dX1_carAtShare_20 : decode cX1_carAtShare 20 = .ok (.iload_n 1, 1) := by decide +kernel
theorem dX1_carAtShare_21 : decode cX1_carAtShare 21 = .ok (.iload_n 2, 1) := by decide +kernel
theorem dX1_carAtShare_22 : decode cX1_carAtShare 22 = .ok (.if_icmp .ge 5, 3) := by decide +kernel
theorem dX1_carAtShare_25 : decode cX1_carAtShare 25 = .ok (.iload_n 3, 1) := by decide +kernel
theorem dX1_carAtShare_26 : decode cX1_carAtShare 26 = .ok (.ireturn, 1) := by decide +kernel
theorem dX1_carAtShare_27 : decode cX1_carAtShare 27 = .ok (.iinc 3 1, 3) := by decide +kernel
theorem dX1_carAtShare_30 : decode cX1_carAtShare 30 = .ok (.goto (-26), 3) := by decide +kernel
theorem dX1_carAtShare_33 : decode cX1_carAtShare 33 = .ok (.iconst (-1), 1) := by decide +kernel
theorem dX1_carAtShare_34 : decode cX1_carAtShare 34 = .ok (.ireturn, 1) := by decide +kernel
theorem dX2_init_0 : decode cX2_init 0 = .ok (.aload_n 0, 1) := by decide +kernel
theorem dX2_init_1 : decode cX2_init 1 = .ok (.invokespecial 3, 3) := by decide +kernel
theorem dX2_init_4 : decode cX2_init 4 = .ok (.aload_n 0, 1) := by decide +kernel
theorem dX2_init_5 : decode cX2_init 5 = .ok (.bipush 12, 2) := by decide +kernel
theorem dX2_init_7 : decode cX2_init 7 = .ok (.newarray .int, 2) := by decide +kernel
theorem dX2_init_9 : decode cX2_init 9 = .ok (.putfield 9, 3) := by decide +kernel
theorem dX2_init_12 : decode cX2_init 12 = .ok (.aload_n 0, 1) := by decide +kernel
theorem dX2_init_13 : decode cX2_init 13 = .ok (.bipush 12, 2) := by decide +kernel
theorem dX2_init_15 : decode cX2_init 15 = .ok (.newarray .int, 2) := by decide +kernel
theorem dX2_init_17 : decode cX2_init 17 = .ok (.putfield 15, 3) := by decide +kernel
theorem dX2_init_20 : decode cX2_init 20 = .ok (.aload_n 0, 1) := by decide +kernel
theorem dX2_init_21 : decode cX2_init 21 = .ok (.bipush 12, 2) := by decide +kernel
theorem dX2_init_23 : decode cX2_init 23 = .ok (.newarray .int, 2) := by decide +kernel
theorem dX2_init_25 : decode cX2_init 25 = .ok (.putfield 18, 3) := by decide +kernel
theorem dX2_init_28 : decode cX2_init 28 = .ok (.aload_n 0, 1) := by decide +kernel
theorem dX2_init_29 : decode cX2_init 29 = .ok (.iconst 0, 1) := by decide +kernel
theorem dX2_init_30 : decode cX2_init 30 = .ok (.putfield 21, 3) := by decide +kernel
theorem dX2_init_33 : decode cX2_init 33 = .ok (.return_, 1) := by decide +kernel
theorem dX2_notes_0 : decode cX2_notes 0 = .ok (.aload_n 0, 1) := by decide +kernel
theorem dX2_notes_1 : decode cX2_notes 1 = .ok (.getfield 21, 3) := by decide +kernel
theorem dX2_notes_4 : decode cX2_notes 4 = .ok (.ireturn, 1) := by decide +kernel
theorem dX2_has_0 : decode cX2_has 0 = .ok (.iload_n 1, 1) := by decide +kernel
theorem dX2_has_1 : decode cX2_has 1 = .ok (.ifCond .lt 21, 3) := by decide +kernel
theorem dX2_has_4 : decode cX2_has 4 = .ok (.iload_n 1, 1) := by decide +kernel
theorem dX2_has_5 : decode cX2_has 5 = .ok (.aload_n 0, 1) := by decide +kernel
theorem dX2_has_6 : decode cX2_has 6 = .ok (.getfield 21, 3) := by decide +kernel
theorem dX2_has_9 : decode cX2_has 9 = .ok (.if_icmp .ge 13, 3) := by decide +kernel
theorem dX2_has_12 : decode cX2_has 12 = .ok (.iload_n 1, 1) := by decide +kernel
theorem dX2_has_13 : decode cX2_has 13 = .ok (.bipush 12, 2) := by decide +kernel
theorem dX2_has_15 : decode cX2_has 15 = .ok (.if_icmp .ge 7, 3) := by decide +kernel
theorem dX2_has_18 : decode cX2_has 18 = .ok (.iconst 1, 1) := by decide +kernel
theorem dX2_has_19 : decode cX2_has 19 = .ok (.goto 4, 3) := by decide +kernel
theorem dX2_has_22 : decode cX2_has 22 = .ok (.iconst 0, 1) := by decide +kernel
theorem dX2_has_23 : decode cX2_has 23 = .ok (.ireturn, 1) := by decide +kernel
theorem dX2_spaceOf_0 : decode cX2_spaceOf 0 = .ok (.aload_n 0, 1) := by decide +kernel
theorem dX2_spaceOf_1 : decode cX2_spaceOf 1 = .ok (.iload_n 1, 1) := by decide +kernel
theorem dX2_spaceOf_2 : decode cX2_spaceOf 2 = .ok (.invokevirtual 25, 3) := by decide +kernel
theorem dX2_spaceOf_5 : decode cX2_spaceOf 5 = .ok (.ifCond .eq 12, 3) := by decide +kernel
theorem dX2_spaceOf_8 : decode cX2_spaceOf 8 = .ok (.aload_n 0, 1) := by decide +kernel
theorem dX2_spaceOf_9 : decode cX2_spaceOf 9 = .ok (.getfield 9, 3) := by decide +kernel
theorem dX2_spaceOf_12 : decode cX2_spaceOf 12 = .ok (.iload_n 1, 1) := by decide +kernel
theorem dX2_spaceOf_13 : decode cX2_spaceOf 13 = .ok (.iaload, 1) := by decide +kernel
theorem dX2_spaceOf_14 : decode cX2_spaceOf 14 = .ok (.goto 4, 3) := by decide +kernel
theorem dX2_spaceOf_17 : decode cX2_spaceOf 17 = .ok (.iconst 0, 1) := by decide +kernel
theorem dX2_spaceOf_18 : decode cX2_spaceOf 18 = .ok (.ireturn, 1) := by decide +kernel
theorem dX2_offOf_0 : decode cX2_offOf 0 = .ok (.aload_n 0, 1) := by decide +kernel
theorem dX2_offOf_1 : decode cX2_offOf 1 = .ok (.iload_n 1, 1) := by decide +kernel
theorem dX2_offOf_2 : decode cX2_offOf 2 = .ok (.invokevirtual 25, 3) := by decide +kernel
theorem dX2_offOf_5 : decode cX2_offOf 5 = .ok (.ifCond .eq 12, 3) := by decide +kernel
theorem dX2_offOf_8 : decode cX2_offOf 8 = .ok (.aload_n 0, 1) := by decide +kernel
theorem dX2_offOf_9 : decode cX2_offOf 9 = .ok (.getfield 15, 3) := by decide +kernel
theorem dX2_offOf_12 : decode cX2_offOf 12 = .ok (.iload_n 1, 1) := by decide +kernel
theorem dX2_offOf_13 : decode cX2_offOf 13 = .ok (.iaload, 1) := by decide +kernel
theorem dX2_offOf_14 : decode cX2_offOf 14 = .ok (.goto 4, 3) := by decide +kernel
theorem dX2_offOf_17 : decode cX2_offOf 17 = .ok (.iconst 0, 1) := by decide +kernel
theorem dX2_offOf_18 : decode cX2_offOf 18 = .ok (.ireturn, 1) := by decide +kernel
theorem dX2_timesOf_0 : decode cX2_timesOf 0 = .ok (.aload_n 0, 1) := by decide +kernel
theorem dX2_timesOf_1 : decode cX2_timesOf 1 = .ok (.iload_n 1, 1) := by decide +kernel
theorem dX2_timesOf_2 : decode cX2_timesOf 2 = .ok (.invokevirtual 25, 3) := by decide +kernel
theorem dX2_timesOf_5 : decode cX2_timesOf 5 = .ok (.ifCond .eq 12, 3) := by decide +kernel
theorem dX2_timesOf_8 : decode cX2_timesOf 8 = .ok (.aload_n 0, 1) := by decide +kernel
theorem dX2_timesOf_9 : decode cX2_timesOf 9 = .ok (.getfield 18, 3) := by decide +kernel
theorem dX2_timesOf_12 : decode cX2_timesOf 12 = .ok (.iload_n 1, 1) := by decide +kernel
theorem dX2_timesOf_13 : decode cX2_timesOf 13 = .ok (.iaload, 1) := by decide +kernel
theorem dX2_timesOf_14 : decode cX2_timesOf 14 = .ok (.goto 4, 3) := by decide +kernel
theorem dX2_timesOf_17 : decode cX2_timesOf 17 = .ok (.iconst 0, 1) := by decide +kernel
theorem dX2_timesOf_18 : decode cX2_timesOf 18 = .ok (.ireturn, 1) := by decide +kernel
theorem dX2_cutFor_0 : decode cX2_cutFor 0 = .ok (.aload_n 0, 1) := by decide +kernel
theorem dX2_cutFor_1 : decode cX2_cutFor 1 = .ok (.aload_n 1, 1) := by decide +kernel
theorem dX2_cutFor_2 : decode cX2_cutFor 2 = .ok (.iload_n 2, 1) := by decide +kernel
theorem dX2_cutFor_3 : decode cX2_cutFor 3 = .ok (.iload_n 3, 1) := by decide +kernel
theorem dX2_cutFor_4 : decode cX2_cutFor 4 = .ok (.invokevirtual 29, 3) := by decide +kernel
theorem dX2_cutFor_7 : decode cX2_cutFor 7 = .ok (.aload_n 0, 1) := by decide +kernel
theorem dX2_cutFor_8 : decode cX2_cutFor 8 = .ok (.aload_n 1, 1) := by decide +kernel
theorem dX2_cutFor_9 : decode cX2_cutFor 9 = .ok (.iload_n 2, 1) := by decide +kernel
theorem dX2_cutFor_10 : decode cX2_cutFor 10 = .ok (.iload_n 3, 1) := by decide +kernel
theorem dX2_cutFor_11 : decode cX2_cutFor 11 = .ok (.invokevirtual 33, 3) := by decide +kernel
theorem dX2_cutFor_14 : decode cX2_cutFor 14 = .ok (.return_, 1) := by decide +kernel
theorem dX2_chooseSpaces_0 : decode cX2_chooseSpaces 0 = .ok (.aload_n 0, 1) := by decide +kernel
theorem dX2_chooseSpaces_1 : decode cX2_chooseSpaces 1 = .ok (.bipush 12, 2) := by decide +kernel
theorem dX2_chooseSpaces_3 : decode cX2_chooseSpaces 3 = .ok (.aload_n 1, 1) := by decide +kernel
theorem dX2_chooseSpaces_4 : decode cX2_chooseSpaces 4 = .ok (.getfield 36, 3) := by decide +kernel
theorem dX2_chooseSpaces_7 : decode cX2_chooseSpaces 7 = .ok (.iload_n 2, 1) := by decide +kernel
theorem dX2_chooseSpaces_8 : decode cX2_chooseSpaces 8 = .ok (.invokevirtual 42, 3) := by decide +kernel
theorem dX2_chooseSpaces_11 : decode cX2_chooseSpaces 11 = .ok (.invokestatic 48, 3) := by decide +kernel
theorem dX2_chooseSpaces_14 : decode cX2_chooseSpaces 14 = .ok (.putfield 21, 3) := by decide +kernel
theorem dX2_chooseSpaces_17 : decode cX2_chooseSpaces 17 = .ok (.iconst 0, 1) := by decide +kernel
theorem dX2_chooseSpaces_18 : decode cX2_chooseSpaces 18 = .ok (.istore 4, 2) := by decide +kernel
theorem dX2_chooseSpaces_20 : decode cX2_chooseSpaces 20 = .ok (.iload 4, 2) := by decide +kernel
theorem dX2_chooseSpaces_22 : decode cX2_chooseSpaces 22 = .ok (.aload_n 0, 1) := by decide +kernel
theorem dX2_chooseSpaces_23 : decode cX2_chooseSpaces 23 = .ok (.getfield 21, 3) := by decide +kernel
theorem dX2_chooseSpaces_26 : decode cX2_chooseSpaces 26 = .ok (.if_icmp .ge 80, 3) := by decide +kernel
theorem dX2_chooseSpaces_29 : decode cX2_chooseSpaces 29 = .ok (.aload_n 1, 1) := by decide +kernel
theorem dX2_chooseSpaces_30 : decode cX2_chooseSpaces 30 = .ok (.getfield 36, 3) := by decide +kernel
theorem dX2_chooseSpaces_33 : decode cX2_chooseSpaces 33 = .ok (.iload_n 2, 1) := by decide +kernel
theorem dX2_chooseSpaces_34 : decode cX2_chooseSpaces 34 = .ok (.iload 4, 2) := by decide +kernel
theorem dX2_chooseSpaces_36 : decode cX2_chooseSpaces 36 = .ok (.invokevirtual 54, 3) := by decide +kernel
theorem dX2_chooseSpaces_39 : decode cX2_chooseSpaces 39 = .ok (.istore 5, 2) := by decide +kernel
theorem dX2_chooseSpaces_41 : decode cX2_chooseSpaces 41 = .ok (.iload 5, 2) := by decide +kernel
theorem dX2_chooseSpaces_43 : decode cX2_chooseSpaces 43 = .ok (.ifCond .ne 8, 3) := by decide +kernel
theorem dX2_chooseSpaces_46 : decode cX2_chooseSpaces 46 = .ok (.bipush 10, 2) := by decide +kernel
theorem dX2_chooseSpaces_48 : decode cX2_chooseSpaces 48 = .ok (.goto 14, 3) := by decide +kernel
theorem dX2_chooseSpaces_51 : decode cX2_chooseSpaces 51 = .ok (.iload 5, 2) := by decide +kernel
theorem dX2_chooseSpaces_53 : decode cX2_chooseSpaces 53 = .ok (.aload_n 1, 1) := by decide +kernel
theorem dX2_chooseSpaces_54 : decode cX2_chooseSpaces 54 = .ok (.iconst 1, 1) := by decide +kernel
theorem dX2_chooseSpaces_55 : decode cX2_chooseSpaces 55 = .ok (.invokevirtual 57, 3) := by decide +kernel
theorem dX2_chooseSpaces_58 : decode cX2_chooseSpaces 58 = .ok (.iload_n 3, 1) := by decide +kernel
theorem dX2_chooseSpaces_59 : decode cX2_chooseSpaces 59 = .ok (.invokestatic 60, 3) := by decide +kernel
theorem dX2_chooseSpaces_62 : decode cX2_chooseSpaces 62 = .ok (.istore 6, 2) := by decide +kernel
theorem dX2_chooseSpaces_64 : decode cX2_chooseSpaces 64 = .ok (.aload_n 0, 1) := by decide +kernel
theorem dX2_chooseSpaces_65 : decode cX2_chooseSpaces 65 = .ok (.getfield 9, 3) := by decide +kernel
theorem dX2_chooseSpaces_68 : decode cX2_chooseSpaces 68 = .ok (.iload 4, 2) := by decide +kernel
theorem dX2_chooseSpaces_70 : decode cX2_chooseSpaces 70 = .ok (.iload 6, 2) := by decide +kernel
theorem dX2_chooseSpaces_72 : decode cX2_chooseSpaces 72 = .ok (.iastore, 1) := by decide +kernel
theorem dX2_chooseSpaces_73 : decode cX2_chooseSpaces 73 = .ok (.aload_n 0, 1) := by decide +kernel
theorem dX2_chooseSpaces_74 : decode cX2_chooseSpaces 74 = .ok (.getfield 15, 3) := by decide +kernel
theorem dX2_chooseSpaces_77 : decode cX2_chooseSpaces 77 = .ok (.iload 4, 2) := by decide +kernel
theorem dX2_chooseSpaces_79 : decode cX2_chooseSpaces 79 = .ok (.iload 5, 2) := by decide +kernel
theorem dX2_chooseSpaces_81 : decode cX2_chooseSpaces 81 = .ok (.ifCond .ne 7, 3) := by decide +kernel
theorem dX2_chooseSpaces_84 : decode cX2_chooseSpaces 84 = .ok (.iconst 0, 1) := by decide +kernel
theorem dX2_chooseSpaces_85 : decode cX2_chooseSpaces 85 = .ok (.goto 14, 3) := by decide +kernel
theorem dX2_chooseSpaces_88 : decode cX2_chooseSpaces 88 = .ok (.iload 6, 2) := by decide +kernel
theorem dX2_chooseSpaces_90 : decode cX2_chooseSpaces 90 = .ok (.iload_n 3, 1) := by decide +kernel
theorem dX2_chooseSpaces_91 : decode cX2_chooseSpaces 91 = .ok (.invokestatic 64, 3) := by decide +kernel
theorem dX2_chooseSpaces_94 : decode cX2_chooseSpaces 94 = .ok (.iload 5, 2) := by decide +kernel
theorem dX2_chooseSpaces_96 : decode cX2_chooseSpaces 96 = .ok (.invokestatic 67, 3) := by decide +kernel
theorem dX2_chooseSpaces_99 : decode cX2_chooseSpaces 99 = .ok (.iastore, 1) := by decide +kernel
theorem dX2_chooseSpaces_100 : decode cX2_chooseSpaces 100 = .ok (.iinc 4 1, 3) := by decide +kernel
theorem dX2_chooseSpaces_103 : decode cX2_chooseSpaces 103 = .ok (.goto (-83), 3) := by decide +kernel
theorem dX2_chooseSpaces_106 : decode cX2_chooseSpaces 106 = .ok (.return_, 1) := by decide +kernel
theorem dX2_spaceFor_0 : decode cX2_spaceFor 0 = .ok (.iload_n 1, 1) := by decide +kernel
theorem dX2_spaceFor_1 : decode cX2_spaceFor 1 = .ok (.istore_n 3, 1) := by decide +kernel
theorem dX2_spaceFor_2 : decode cX2_spaceFor 2 = .ok (.sipush 1000, 3) := by decide +kernel
theorem dX2_spaceFor_5 : decode cX2_spaceFor 5 = .ok (.istore 4, 2) := by decide +kernel
theorem dX2_spaceFor_7 : decode cX2_spaceFor 7 = .ok (.iload_n 1, 1) := by decide +kernel
theorem dX2_spaceFor_8 : decode cX2_spaceFor 8 = .ok (.istore 5, 2) := by decide +kernel
theorem dX2_spaceFor_10 : decode cX2_spaceFor 10 = .ok (.iload 5, 2) := by decide +kernel
theorem dX2_spaceFor_12 : decode cX2_spaceFor 12 = .ok (.bipush 60, 2) := by decide +kernel
theorem dX2_spaceFor_14 : decode cX2_spaceFor 14 = .ok (.if_icmp .gt 47, 3) := by decide +kernel
theorem dX2_spaceFor_17 : decode cX2_spaceFor 17 = .ok (.iload 5, 2) := by decide +kernel
theorem dX2_spaceFor_19 : decode cX2_spaceFor 19 = .ok (.iload_n 2, 1) := by decide +kernel
theorem dX2_spaceFor_20 : decode cX2_spaceFor 20 = .ok (.invokestatic 64, 3) := by decide +kernel
theorem dX2_spaceFor_23 : decode cX2_spaceFor 23 = .ok (.istore 6, 2) := by decide +kernel
theorem dX2_spaceFor_25 : decode cX2_spaceFor 25 = .ok (.iload 6, 2) := by decide +kernel
theorem dX2_spaceFor_27 : decode cX2_spaceFor 27 = .ok (.iload_n 0, 1) := by decide +kernel
theorem dX2_spaceFor_28 : decode cX2_spaceFor 28 = .ok (.invokestatic 67, 3) := by decide +kernel
theorem dX2_spaceFor_31 : decode cX2_spaceFor 31 = .ok (.istore 7, 2) := by decide +kernel
theorem dX2_spaceFor_33 : decode cX2_spaceFor 33 = .ok (.iload 7, 2) := by decide +kernel
theorem dX2_spaceFor_35 : decode cX2_spaceFor 35 = .ok (.iload 4, 2) := by decide +kernel
theorem dX2_spaceFor_37 : decode cX2_spaceFor 37 = .ok (.if_icmp .ge 10, 3) := by decide +kernel
theorem dX2_spaceFor_40 : decode cX2_spaceFor 40 = .ok (.iload 7, 2) := by decide +kernel
theorem dX2_spaceFor_42 : decode cX2_spaceFor 42 = .ok (.istore 4, 2) := by decide +kernel
theorem dX2_spaceFor_44 : decode cX2_spaceFor 44 = .ok (.iload 5, 2) := by decide +kernel
theorem dX2_spaceFor_46 : decode cX2_spaceFor 46 = .ok (.istore_n 3, 1) := by decide +kernel
theorem dX2_spaceFor_47 : decode cX2_spaceFor 47 = .ok (.iload 6, 2) := by decide +kernel
theorem dX2_spaceFor_49 : decode cX2_spaceFor 49 = .ok (.iload_n 0, 1) := by decide +kernel
theorem dX2_spaceFor_50 : decode cX2_spaceFor 50 = .ok (.if_icmp .gt 5, 3) := by decide +kernel
theorem dX2_spaceFor_53 : decode cX2_spaceFor 53 = .ok (.iload_n 3, 1) := by decide +kernel
theorem dX2_spaceFor_54 : decode cX2_spaceFor 54 = .ok (.ireturn, 1) := by decide +kernel
theorem dX2_spaceFor_55 : decode cX2_spaceFor 55 = .ok (.iinc 5 1, 3) := by decide +kernel
theorem dX2_spaceFor_58 : decode cX2_spaceFor 58 = .ok (.goto (-48), 3) := by decide +kernel
theorem dX2_spaceFor_61 : decode cX2_spaceFor 61 = .ok (.iload_n 3, 1) := by decide +kernel
theorem dX2_spaceFor_62 : decode cX2_spaceFor 62 = .ok (.ireturn, 1) := by decide +kernel
theorem dX2_chooseTimes_0 : decode cX2_chooseTimes 0 = .ok (.iconst 0, 1) := by decide +kernel
theorem dX2_chooseTimes_1 : decode cX2_chooseTimes 1 = .ok (.istore 4, 2) := by decide +kernel
theorem dX2_chooseTimes_3 : decode cX2_chooseTimes 3 = .ok (.iconst 0, 1) := by decide +kernel
theorem dX2_chooseTimes_4 : decode cX2_chooseTimes 4 = .ok (.istore 5, 2) := by decide +kernel
theorem dX2_chooseTimes_6 : decode cX2_chooseTimes 6 = .ok (.iconst 0, 1) := by decide +kernel
theorem dX2_chooseTimes_7 : decode cX2_chooseTimes 7 = .ok (.istore 6, 2) := by decide +kernel
theorem dX2_chooseTimes_9 : decode cX2_chooseTimes 9 = .ok (.iload 6, 2) := by decide +kernel
theorem dX2_chooseTimes_11 : decode cX2_chooseTimes 11 = .ok (.aload_n 0, 1) := by decide +kernel
theorem dX2_chooseTimes_12 : decode cX2_chooseTimes 12 = .ok (.getfield 21, 3) := by decide +kernel
theorem dX2_chooseTimes_15 : decode cX2_chooseTimes 15 = .ok (.if_icmp .ge 86, 3) := by decide +kernel
theorem dX2_chooseTimes_18 : decode cX2_chooseTimes 18 = .ok (.iload 6, 2) := by decide +kernel
theorem dX2_chooseTimes_20 : decode cX2_chooseTimes 20 = .ok (.bipush 12, 2) := by decide +kernel
theorem dX2_chooseTimes_22 : decode cX2_chooseTimes 22 = .ok (.if_icmp .ge 79, 3) := by decide +kernel
theorem dX2_chooseTimes_25 : decode cX2_chooseTimes 25 = .ok (.iload 5, 2) := by decide +kernel
theorem dX2_chooseTimes_27 : decode cX2_chooseTimes 27 = .ok (.aload_n 1, 1) := by decide +kernel
theorem dX2_chooseTimes_28 : decode cX2_chooseTimes 28 = .ok (.getfield 36, 3) := by decide +kernel
theorem dX2_chooseTimes_31 : decode cX2_chooseTimes 31 = .ok (.iload_n 2, 1) := by decide +kernel
theorem dX2_chooseTimes_32 : decode cX2_chooseTimes 32 = .ok (.iload 6, 2) := by decide +kernel
theorem dX2_chooseTimes_34 : decode cX2_chooseTimes 34 = .ok (.invokevirtual 70, 3) := by decide +kernel
theorem dX2_chooseTimes_37 : decode cX2_chooseTimes 37 = .ok (.iadd, 1) := by decide +kernel
theorem dX2_chooseTimes_38 : decode cX2_chooseTimes 38 = .ok (.istore 5, 2) := by decide +kernel
theorem dX2_chooseTimes_40 : decode cX2_chooseTimes 40 = .ok (.iload 5, 2) := by decide +kernel
theorem dX2_chooseTimes_42 : decode cX2_chooseTimes 42 = .ok (.aload_n 1, 1) := by decide +kernel
theorem dX2_chooseTimes_43 : decode cX2_chooseTimes 43 = .ok (.iconst 3, 1) := by decide +kernel
theorem dX2_chooseTimes_44 : decode cX2_chooseTimes 44 = .ok (.invokevirtual 57, 3) := by decide +kernel
theorem dX2_chooseTimes_47 : decode cX2_chooseTimes 47 = .ok (.iload_n 3, 1) := by decide +kernel
theorem dX2_chooseTimes_48 : decode cX2_chooseTimes 48 = .ok (.invokestatic 73, 3) := by decide +kernel
theorem dX2_chooseTimes_51 : decode cX2_chooseTimes 51 = .ok (.istore 7, 2) := by decide +kernel
theorem dX2_chooseTimes_53 : decode cX2_chooseTimes 53 = .ok (.aload_n 0, 1) := by decide +kernel
theorem dX2_chooseTimes_54 : decode cX2_chooseTimes 54 = .ok (.getfield 18, 3) := by decide +kernel
theorem dX2_chooseTimes_57 : decode cX2_chooseTimes 57 = .ok (.iload 6, 2) := by decide +kernel
theorem dX2_chooseTimes_59 : decode cX2_chooseTimes 59 = .ok (.iload 7, 2) := by decide +kernel
theorem dX2_chooseTimes_61 : decode cX2_chooseTimes 61 = .ok (.iload 4, 2) := by decide +kernel
theorem dX2_chooseTimes_63 : decode cX2_chooseTimes 63 = .ok (.isub, 1) := by decide +kernel
theorem dX2_chooseTimes_64 : decode cX2_chooseTimes 64 = .ok (.aload_n 0, 1) := by decide +kernel
theorem dX2_chooseTimes_65 : decode cX2_chooseTimes 65 = .ok (.getfield 9, 3) := by decide +kernel
theorem dX2_chooseTimes_68 : decode cX2_chooseTimes 68 = .ok (.iload 6, 2) := by decide +kernel
theorem dX2_chooseTimes_70 : decode cX2_chooseTimes 70 = .ok (.iaload, 1) := by decide +kernel
theorem dX2_chooseTimes_71 : decode cX2_chooseTimes 71 = .ok (.invokestatic 76, 3) := by decide +kernel
theorem dX2_chooseTimes_74 : decode cX2_chooseTimes 74 = .ok (.iastore, 1) := by decide +kernel
theorem dX2_chooseTimes_75 : decode cX2_chooseTimes 75 = .ok (.iload 4, 2) := by decide +kernel
theorem dX2_chooseTimes_77 : decode cX2_chooseTimes 77 = .ok (.aload_n 0, 1) := by decide +kernel
theorem dX2_chooseTimes_78 : decode cX2_chooseTimes 78 = .ok (.getfield 18, 3) := by decide +kernel
theorem dX2_chooseTimes_81 : decode cX2_chooseTimes 81 = .ok (.iload 6, 2) := by decide +kernel
theorem dX2_chooseTimes_83 : decode cX2_chooseTimes 83 = .ok (.iaload, 1) := by decide +kernel
theorem dX2_chooseTimes_84 : decode cX2_chooseTimes 84 = .ok (.aload_n 0, 1) := by decide +kernel
theorem dX2_chooseTimes_85 : decode cX2_chooseTimes 85 = .ok (.getfield 9, 3) := by decide +kernel
theorem dX2_chooseTimes_88 : decode cX2_chooseTimes 88 = .ok (.iload 6, 2) := by decide +kernel
theorem dX2_chooseTimes_90 : decode cX2_chooseTimes 90 = .ok (.iaload, 1) := by decide +kernel
theorem dX2_chooseTimes_91 : decode cX2_chooseTimes 91 = .ok (.imul, 1) := by decide +kernel
theorem dX2_chooseTimes_92 : decode cX2_chooseTimes 92 = .ok (.iadd, 1) := by decide +kernel
theorem dX2_chooseTimes_93 : decode cX2_chooseTimes 93 = .ok (.istore 4, 2) := by decide +kernel
theorem dX2_chooseTimes_95 : decode cX2_chooseTimes 95 = .ok (.iinc 6 1, 3) := by decide +kernel
theorem dX2_chooseTimes_98 : decode cX2_chooseTimes 98 = .ok (.goto (-89), 3) := by decide +kernel
theorem dX2_chooseTimes_101 : decode cX2_chooseTimes 101 = .ok (.return_, 1) := by decide +kernel
theorem dX2_placeOf_0 : decode cX2_placeOf 0 = .ok (.iload_n 0, 1) := by decide +kernel
theorem dX2_placeOf_1 : decode cX2_placeOf 1 = .ok (.i2l, 1) := by decide +kernel
theorem dX2_placeOf_2 : decode cX2_placeOf 2 = .ok (.iload_n 1, 1) := by decide +kernel
theorem dX2_placeOf_3 : decode cX2_placeOf 3 = .ok (.i2l, 1) := by decide +kernel
theorem dX2_placeOf_4 : decode cX2_placeOf 4 = .ok (.lmul, 1) := by decide +kernel
theorem dX2_placeOf_5 : decode cX2_placeOf 5 = .ok (.ldc2_w 79, 3) := by decide +kernel
theorem dX2_placeOf_8 : decode cX2_placeOf 8 = .ok (.lmul, 1) := by decide +kernel
theorem dX2_placeOf_9 : decode cX2_placeOf 9 = .ok (.iload_n 2, 1) := by decide +kernel
theorem dX2_placeOf_10 : decode cX2_placeOf 10 = .ok (.i2l, 1) := by decide +kernel
theorem dX2_placeOf_11 : decode cX2_placeOf 11 = .ok (.lmul, 1) := by decide +kernel
theorem dX2_placeOf_12 : decode cX2_placeOf 12 = .ok (.ldc2_w 81, 3) := by decide +kernel
theorem dX2_placeOf_15 : decode cX2_placeOf 15 = .ok (.ldiv, 1) := by decide +kernel
theorem dX2_placeOf_16 : decode cX2_placeOf 16 = .ok (.l2i, 1) := by decide +kernel
theorem dX2_placeOf_17 : decode cX2_placeOf 17 = .ok (.ireturn, 1) := by decide +kernel
theorem dX2_nearestTimes_0 : decode cX2_nearestTimes 0 = .ok (.iload_n 0, 1) := by decide +kernel
theorem dX2_nearestTimes_1 : decode cX2_nearestTimes 1 = .ok (.ifCond .le 7, 3) := by decide +kernel
theorem dX2_nearestTimes_4 : decode cX2_nearestTimes 4 = .ok (.iload_n 1, 1) := by decide +kernel
theorem dX2_nearestTimes_5 : decode cX2_nearestTimes 5 = .ok (.ifCond .gt 5, 3) := by decide +kernel
theorem dX2_nearestTimes_8 : decode cX2_nearestTimes 8 = .ok (.iconst 1, 1) := by decide +kernel
theorem dX2_nearestTimes_9 : decode cX2_nearestTimes 9 = .ok (.ireturn, 1) := by decide +kernel
theorem dX2_nearestTimes_10 : decode cX2_nearestTimes 10 = .ok (.iload_n 0, 1) := by decide +kernel
theorem dX2_nearestTimes_11 : decode cX2_nearestTimes 11 = .ok (.iload_n 1, 1) := by decide +kernel
theorem dX2_nearestTimes_12 : decode cX2_nearestTimes 12 = .ok (.idiv, 1) := by decide +kernel
theorem dX2_nearestTimes_13 : decode cX2_nearestTimes 13 = .ok (.istore_n 2, 1) := by decide +kernel
theorem dX2_nearestTimes_14 : decode cX2_nearestTimes 14 = .ok (.iconst 2, 1) := by decide +kernel
theorem dX2_nearestTimes_15 : decode cX2_nearestTimes 15 = .ok (.iload_n 0, 1) := by decide +kernel
theorem dX2_nearestTimes_16 : decode cX2_nearestTimes 16 = .ok (.iload_n 1, 1) := by decide +kernel
theorem dX2_nearestTimes_17 : decode cX2_nearestTimes 17 = .ok (.irem, 1) := by decide +kernel
theorem dX2_nearestTimes_18 : decode cX2_nearestTimes 18 = .ok (.imul, 1) := by decide +kernel
theorem dX2_nearestTimes_19 : decode cX2_nearestTimes 19 = .ok (.iload_n 1, 1) := by decide +kernel
theorem dX2_nearestTimes_20 : decode cX2_nearestTimes 20 = .ok (.if_icmp .le 9, 3) := by decide +kernel
theorem dX2_nearestTimes_23 : decode cX2_nearestTimes 23 = .ok (.iload_n 2, 1) := by decide +kernel
theorem dX2_nearestTimes_24 : decode cX2_nearestTimes 24 = .ok (.iconst 1, 1) := by decide +kernel
theorem dX2_nearestTimes_25 : decode cX2_nearestTimes 25 = .ok (.iadd, 1) := by decide +kernel
theorem dX2_nearestTimes_26 : decode cX2_nearestTimes 26 = .ok (.goto 4, 3) := by decide +kernel
theorem dX2_nearestTimes_29 : decode cX2_nearestTimes 29 = .ok (.iload_n 2, 1) := by decide +kernel
theorem dX2_nearestTimes_30 : decode cX2_nearestTimes 30 = .ok (.istore_n 3, 1) := by decide +kernel
theorem dX2_nearestTimes_31 : decode cX2_nearestTimes 31 = .ok (.iconst 1, 1) := by decide +kernel
theorem dX2_nearestTimes_32 : decode cX2_nearestTimes 32 = .ok (.iload_n 3, 1) := by decide +kernel
theorem dX2_nearestTimes_33 : decode cX2_nearestTimes 33 = .ok (.bipush 60, 2) := by decide +kernel
theorem dX2_nearestTimes_35 : decode cX2_nearestTimes 35 = .ok (.invokestatic 48, 3) := by decide +kernel
theorem dX2_nearestTimes_38 : decode cX2_nearestTimes 38 = .ok (.invokestatic 83, 3) := by decide +kernel
theorem dX2_nearestTimes_41 : decode cX2_nearestTimes 41 = .ok (.ireturn, 1) := by decide +kernel
theorem dX2_lengthOfAll_0 : decode cX2_lengthOfAll 0 = .ok (.iconst 0, 1) := by decide +kernel
theorem dX2_lengthOfAll_1 : decode cX2_lengthOfAll 1 = .ok (.istore_n 1, 1) := by decide +kernel
theorem dX2_lengthOfAll_2 : decode cX2_lengthOfAll 2 = .ok (.iconst 0, 1) := by decide +kernel
theorem dX2_lengthOfAll_3 : decode cX2_lengthOfAll 3 = .ok (.istore_n 2, 1) := by decide +kernel
theorem dX2_lengthOfAll_4 : decode cX2_lengthOfAll 4 = .ok (.iload_n 2, 1) := by decide +kernel
theorem dX2_lengthOfAll_5 : decode cX2_lengthOfAll 5 = .ok (.aload_n 0, 1) := by decide +kernel
theorem dX2_lengthOfAll_6 : decode cX2_lengthOfAll 6 = .ok (.getfield 21, 3) := by decide +kernel
theorem dX2_lengthOfAll_9 : decode cX2_lengthOfAll 9 = .ok (.if_icmp .ge 23, 3) := by decide +kernel
theorem dX2_lengthOfAll_12 : decode cX2_lengthOfAll 12 = .ok (.iload_n 1, 1) := by decide +kernel
theorem dX2_lengthOfAll_13 : decode cX2_lengthOfAll 13 = .ok (.aload_n 0, 1) := by decide +kernel
theorem dX2_lengthOfAll_14 : decode cX2_lengthOfAll 14 = .ok (.iload_n 2, 1) := by decide +kernel
theorem dX2_lengthOfAll_15 : decode cX2_lengthOfAll 15 = .ok (.invokevirtual 86, 3) := by decide +kernel
theorem dX2_lengthOfAll_18 : decode cX2_lengthOfAll 18 = .ok (.aload_n 0, 1) := by decide +kernel
theorem dX2_lengthOfAll_19 : decode cX2_lengthOfAll 19 = .ok (.iload_n 2, 1) := by decide +kernel
theorem dX2_lengthOfAll_20 : decode cX2_lengthOfAll 20 = .ok (.invokevirtual 89, 3) := by decide +kernel
theorem dX2_lengthOfAll_23 : decode cX2_lengthOfAll 23 = .ok (.imul, 1) := by decide +kernel
theorem dX2_lengthOfAll_24 : decode cX2_lengthOfAll 24 = .ok (.iadd, 1) := by decide +kernel
theorem dX2_lengthOfAll_25 : decode cX2_lengthOfAll 25 = .ok (.istore_n 1, 1) := by decide +kernel
theorem dX2_lengthOfAll_26 : decode cX2_lengthOfAll 26 = .ok (.iinc 2 1, 3) := by decide +kernel
theorem dX2_lengthOfAll_29 : decode cX2_lengthOfAll 29 = .ok (.goto (-25), 3) := by decide +kernel
theorem dX2_lengthOfAll_32 : decode cX2_lengthOfAll 32 = .ok (.iload_n 1, 1) := by decide +kernel
theorem dX2_lengthOfAll_33 : decode cX2_lengthOfAll 33 = .ok (.ireturn, 1) := by decide +kernel
theorem dX2_worstOff_0 : decode cX2_worstOff 0 = .ok (.iconst 0, 1) := by decide +kernel
theorem dX2_worstOff_1 : decode cX2_worstOff 1 = .ok (.istore_n 1, 1) := by decide +kernel
theorem dX2_worstOff_2 : decode cX2_worstOff 2 = .ok (.iconst 0, 1) := by decide +kernel
theorem dX2_worstOff_3 : decode cX2_worstOff 3 = .ok (.istore_n 2, 1) := by decide +kernel
theorem dX2_worstOff_4 : decode cX2_worstOff 4 = .ok (.iload_n 2, 1) := by decide +kernel
theorem dX2_worstOff_5 : decode cX2_worstOff 5 = .ok (.aload_n 0, 1) := by decide +kernel
theorem dX2_worstOff_6 : decode cX2_worstOff 6 = .ok (.getfield 21, 3) := by decide +kernel
theorem dX2_worstOff_9 : decode cX2_worstOff 9 = .ok (.if_icmp .ge 19, 3) := by decide +kernel
theorem dX2_worstOff_12 : decode cX2_worstOff 12 = .ok (.iload_n 1, 1) := by decide +kernel
theorem dX2_worstOff_13 : decode cX2_worstOff 13 = .ok (.aload_n 0, 1) := by decide +kernel
theorem dX2_worstOff_14 : decode cX2_worstOff 14 = .ok (.iload_n 2, 1) := by decide +kernel
theorem dX2_worstOff_15 : decode cX2_worstOff 15 = .ok (.invokevirtual 92, 3) := by decide +kernel
theorem dX2_worstOff_18 : decode cX2_worstOff 18 = .ok (.invokestatic 83, 3) := by decide +kernel
theorem dX2_worstOff_21 : decode cX2_worstOff 21 = .ok (.istore_n 1, 1) := by decide +kernel
theorem dX2_worstOff_22 : decode cX2_worstOff 22 = .ok (.iinc 2 1, 3) := by decide +kernel
theorem dX2_worstOff_25 : decode cX2_worstOff 25 = .ok (.goto (-21), 3) := by decide +kernel
theorem dX2_worstOff_28 : decode cX2_worstOff 28 = .ok (.iload_n 1, 1) := by decide +kernel
theorem dX2_worstOff_29 : decode cX2_worstOff 29 = .ok (.ireturn, 1) := by decide +kernel
theorem dX2_isHeardAt_0 : decode cX2_isHeardAt 0 = .ok (.iconst 0, 1) := by decide +kernel
theorem dX2_isHeardAt_1 : decode cX2_isHeardAt 1 = .ok (.istore 4, 2) := by decide +kernel
theorem dX2_isHeardAt_3 : decode cX2_isHeardAt 3 = .ok (.iload 4, 2) := by decide +kernel
theorem dX2_isHeardAt_5 : decode cX2_isHeardAt 5 = .ok (.aload_n 0, 1) := by decide +kernel
theorem dX2_isHeardAt_6 : decode cX2_isHeardAt 6 = .ok (.getfield 21, 3) := by decide +kernel
theorem dX2_isHeardAt_9 : decode cX2_isHeardAt 9 = .ok (.if_icmp .ge 51, 3) := by decide +kernel
theorem dX2_isHeardAt_12 : decode cX2_isHeardAt 12 = .ok (.aload_n 1, 1) := by decide +kernel
theorem dX2_isHeardAt_13 : decode cX2_isHeardAt 13 = .ok (.getfield 36, 3) := by decide +kernel
theorem dX2_isHeardAt_16 : decode cX2_isHeardAt 16 = .ok (.iload_n 2, 1) := by decide +kernel
theorem dX2_isHeardAt_17 : decode cX2_isHeardAt 17 = .ok (.iload 4, 2) := by decide +kernel
theorem dX2_isHeardAt_19 : decode cX2_isHeardAt 19 = .ok (.invokevirtual 54, 3) := by decide +kernel
theorem dX2_isHeardAt_22 : decode cX2_isHeardAt 22 = .ok (.istore 5, 2) := by decide +kernel
theorem dX2_isHeardAt_24 : decode cX2_isHeardAt 24 = .ok (.iload 5, 2) := by decide +kernel
theorem dX2_isHeardAt_26 : decode cX2_isHeardAt 26 = .ok (.ifCond .eq 28, 3) := by decide +kernel
theorem dX2_isHeardAt_29 : decode cX2_isHeardAt 29 = .ok (.aload_n 0, 1) := by decide +kernel
theorem dX2_isHeardAt_30 : decode cX2_isHeardAt 30 = .ok (.iload 4, 2) := by decide +kernel
theorem dX2_isHeardAt_32 : decode cX2_isHeardAt 32 = .ok (.invokevirtual 86, 3) := by decide +kernel
theorem dX2_isHeardAt_35 : decode cX2_isHeardAt 35 = .ok (.iload_n 3, 1) := by decide +kernel
theorem dX2_isHeardAt_36 : decode cX2_isHeardAt 36 = .ok (.invokestatic 64, 3) := by decide +kernel
theorem dX2_isHeardAt_39 : decode cX2_isHeardAt 39 = .ok (.iload 5, 2) := by decide +kernel
theorem dX2_isHeardAt_41 : decode cX2_isHeardAt 41 = .ok (.invokestatic 67, 3) := by decide +kernel
theorem dX2_isHeardAt_44 : decode cX2_isHeardAt 44 = .ok (.aload_n 1, 1) := by decide +kernel
theorem dX2_isHeardAt_45 : decode cX2_isHeardAt 45 = .ok (.iconst 2, 1) := by decide +kernel
theorem dX2_isHeardAt_46 : decode cX2_isHeardAt 46 = .ok (.invokevirtual 57, 3) := by decide +kernel
theorem dX2_isHeardAt_49 : decode cX2_isHeardAt 49 = .ok (.if_icmp .le 5, 3) := by decide +kernel
theorem dX2_isHeardAt_52 : decode cX2_isHeardAt 52 = .ok (.iconst 0, 1) := by decide +kernel
theorem dX2_isHeardAt_53 : decode cX2_isHeardAt 53 = .ok (.ireturn, 1) := by decide +kernel
theorem dX2_isHeardAt_54 : decode cX2_isHeardAt 54 = .ok (.iinc 4 1, 3) := by decide +kernel
theorem dX2_isHeardAt_57 : decode cX2_isHeardAt 57 = .ok (.goto (-54), 3) := by decide +kernel
theorem dX2_isHeardAt_60 : decode cX2_isHeardAt 60 = .ok (.iconst 1, 1) := by decide +kernel
theorem dX2_isHeardAt_61 : decode cX2_isHeardAt 61 = .ok (.ireturn, 1) := by decide +kernel
theorem dX3_hasOther_0 : decode cX3_hasOther 0 = .ok (.aload_n 0, 1) := by decide +kernel
theorem dX3_hasOther_1 : decode cX3_hasOther 1 = .ok (.getfield 68, 3) := by decide +kernel
theorem dX3_hasOther_4 : decode cX3_hasOther 4 = .ok (.ifCond .ne 32, 3) := by decide +kernel
theorem dX3_hasOther_7 : decode cX3_hasOther 7 = .ok (.aload_n 0, 1) := by decide +kernel
theorem dX3_hasOther_8 : decode cX3_hasOther 8 = .ok (.getfield 72, 3) := by decide +kernel
theorem dX3_hasOther_11 : decode cX3_hasOther 11 = .ok (.iconst 2, 1) := by decide +kernel
theorem dX3_hasOther_12 : decode cX3_hasOther 12 = .ok (.if_icmp .eq 20, 3) := by decide +kernel
theorem dX3_hasOther_15 : decode cX3_hasOther 15 = .ok (.aload_n 0, 1) := by decide +kernel
theorem dX3_hasOther_16 : decode cX3_hasOther 16 = .ok (.getfield 72, 3) := by decide +kernel
theorem dX3_hasOther_19 : decode cX3_hasOther 19 = .ok (.iconst 5, 1) := by decide +kernel
theorem dX3_hasOther_20 : decode cX3_hasOther 20 = .ok (.if_icmp .eq 12, 3) := by decide +kernel
theorem dX3_hasOther_23 : decode cX3_hasOther 23 = .ok (.aload_n 0, 1) := by decide +kernel
theorem dX3_hasOther_24 : decode cX3_hasOther 24 = .ok (.getfield 72, 3) := by decide +kernel
theorem dX3_hasOther_27 : decode cX3_hasOther 27 = .ok (.bipush 6, 2) := by decide +kernel
theorem dX3_hasOther_29 : decode cX3_hasOther 29 = .ok (.if_icmp .ne 7, 3) := by decide +kernel
theorem dX3_hasOther_32 : decode cX3_hasOther 32 = .ok (.iconst 1, 1) := by decide +kernel
theorem dX3_hasOther_33 : decode cX3_hasOther 33 = .ok (.goto 4, 3) := by decide +kernel
theorem dX3_hasOther_36 : decode cX3_hasOther 36 = .ok (.iconst 0, 1) := by decide +kernel
theorem dX3_hasOther_37 : decode cX3_hasOther 37 = .ok (.ireturn, 1) := by decide +kernel
theorem dX4_init_0 : decode cX4_init 0 = .ok (.aload_n 0, 1) := by decide +kernel
theorem dX4_init_1 : decode cX4_init 1 = .ok (.invokespecial 3, 3) := by decide +kernel
theorem dX4_init_4 : decode cX4_init 4 = .ok (.aload_n 0, 1) := by decide +kernel
theorem dX4_init_5 : decode cX4_init 5 = .ok (.iconst 0, 1) := by decide +kernel
theorem dX4_init_6 : decode cX4_init 6 = .ok (.putfield 9, 3) := by decide +kernel
theorem dX4_init_9 : decode cX4_init 9 = .ok (.aload_n 0, 1) := by decide +kernel
theorem dX4_init_10 : decode cX4_init 10 = .ok (.iconst (-1), 1) := by decide +kernel
theorem dX4_init_11 : decode cX4_init 11 = .ok (.putfield 15, 3) := by decide +kernel
theorem dX4_init_14 : decode cX4_init 14 = .ok (.aload_n 0, 1) := by decide +kernel
theorem dX4_init_15 : decode cX4_init 15 = .ok (.aload_n 1, 1) := by decide +kernel
theorem dX4_init_16 : decode cX4_init 16 = .ok (.putfield 18, 3) := by decide +kernel
theorem dX4_init_19 : decode cX4_init 19 = .ok (.aload_n 0, 1) := by decide +kernel
theorem dX4_init_20 : decode cX4_init 20 = .ok (.aload_n 2, 1) := by decide +kernel
theorem dX4_init_21 : decode cX4_init 21 = .ok (.putfield 22, 3) := by decide +kernel
theorem dX4_init_24 : decode cX4_init 24 = .ok (.return_, 1) := by decide +kernel
theorem dX4_faultFound_0 : decode cX4_faultFound 0 = .ok (.aload_n 0, 1) := by decide +kernel
theorem dX4_faultFound_1 : decode cX4_faultFound 1 = .ok (.getfield 15, 3) := by decide +kernel
theorem dX4_faultFound_4 : decode cX4_faultFound 4 = .ok (.ireturn, 1) := by decide +kernel
theorem dX4_readItems_0 : decode cX4_readItems 0 = .ok (.iconst 0, 1) := by decide +kernel
theorem dX4_readItems_1 : decode cX4_readItems 1 = .ok (.istore_n 1, 1) := by decide +kernel
theorem dX4_readItems_2 : decode cX4_readItems 2 = .ok (.iconst 1, 1) := by decide +kernel
theorem dX4_readItems_3 : decode cX4_readItems 3 = .ok (.istore_n 2, 1) := by decide +kernel
theorem dX4_readItems_4 : decode cX4_readItems 4 = .ok (.iload_n 2, 1) := by decide +kernel
theorem dX4_readItems_5 : decode cX4_readItems 5 = .ok (.ifCond .eq 61, 3) := by decide +kernel
theorem dX4_readItems_8 : decode cX4_readItems 8 = .ok (.iload_n 1, 1) := by decide +kernel
theorem dX4_readItems_9 : decode cX4_readItems 9 = .ok (.sipush 160, 3) := by decide +kernel
theorem dX4_readItems_12 : decode cX4_readItems 12 = .ok (.if_icmp .gt 54, 3) := by decide +kernel
theorem dX4_readItems_15 : decode cX4_readItems 15 = .ok (.aload_n 0, 1) := by decide +kernel
theorem dX4_readItems_16 : decode cX4_readItems 16 = .ok (.invokevirtual 26, 3) := by decide +kernel
theorem dX4_readItems_19 : decode cX4_readItems 19 = .ok (.ifCond .ne 5, 3) := by decide +kernel
theorem dX4_readItems_22 : decode cX4_readItems 22 = .ok (.iload_n 1, 1) := by decide +kernel
theorem dX4_readItems_23 : decode cX4_readItems 23 = .ok (.ireturn, 1) := by decide +kernel
theorem dX4_readItems_24 : decode cX4_readItems 24 = .ok (.iinc 1 1, 3) := by decide +kernel
theorem dX4_readItems_27 : decode cX4_readItems 27 = .ok (.aload_n 0, 1) := by decide +kernel
theorem dX4_readItems_28 : decode cX4_readItems 28 = .ok (.getfield 18, 3) := by decide +kernel
theorem dX4_readItems_31 : decode cX4_readItems 31 = .ok (.aload_n 0, 1) := by decide +kernel
theorem dX4_readItems_32 : decode cX4_readItems 32 = .ok (.getfield 9, 3) := by decide +kernel
theorem dX4_readItems_35 : decode cX4_readItems 35 = .ok (.invokevirtual 30, 3) := by decide +kernel
theorem dX4_readItems_38 : decode cX4_readItems 38 = .ok (.bipush 59, 2) := by decide +kernel
theorem dX4_readItems_40 : decode cX4_readItems 40 = .ok (.if_icmp .ne 7, 3) := by decide +kernel
theorem dX4_readItems_43 : decode cX4_readItems 43 = .ok (.iconst 1, 1) := by decide +kernel
theorem dX4_readItems_44 : decode cX4_readItems 44 = .ok (.goto 4, 3) := by decide +kernel
theorem dX4_readItems_47 : decode cX4_readItems 47 = .ok (.iconst 0, 1) := by decide +kernel
theorem dX4_readItems_48 : decode cX4_readItems 48 = .ok (.istore_n 2, 1) := by decide +kernel
theorem dX4_readItems_49 : decode cX4_readItems 49 = .ok (.iload_n 2, 1) := by decide +kernel
theorem dX4_readItems_50 : decode cX4_readItems 50 = .ok (.ifCond .eq (-46), 3) := by decide +kernel
theorem dX4_readItems_53 : decode cX4_readItems 53 = .ok (.aload_n 0, 1) := by decide +kernel
theorem dX4_readItems_54 : decode cX4_readItems 54 = .ok (.dup, 1) := by decide +kernel
theorem dX4_readItems_55 : decode cX4_readItems 55 = .ok (.getfield 9, 3) := by decide +kernel
theorem dX4_readItems_58 : decode cX4_readItems 58 = .ok (.iconst 1, 1) := by decide +kernel
theorem dX4_readItems_59 : decode cX4_readItems 59 = .ok (.iadd, 1) := by decide +kernel
theorem dX4_readItems_60 : decode cX4_readItems 60 = .ok (.putfield 9, 3) := by decide +kernel
theorem dX4_readItems_63 : decode cX4_readItems 63 = .ok (.goto (-59), 3) := by decide +kernel
theorem dX4_readItems_66 : decode cX4_readItems 66 = .ok (.aload_n 0, 1) := by decide +kernel
theorem dX4_readItems_67 : decode cX4_readItems 67 = .ok (.getfield 9, 3) := by decide +kernel
theorem dX4_readItems_70 : decode cX4_readItems 70 = .ok (.aload_n 0, 1) := by decide +kernel
theorem dX4_readItems_71 : decode cX4_readItems 71 = .ok (.getfield 18, 3) := by decide +kernel
theorem dX4_readItems_74 : decode cX4_readItems 74 = .ok (.invokevirtual 36, 3) := by decide +kernel
theorem dX4_readItems_77 : decode cX4_readItems 77 = .ok (.if_icmp .ge 11, 3) := by decide +kernel
theorem dX4_readItems_80 : decode cX4_readItems 80 = .ok (.aload_n 0, 1) := by decide +kernel
theorem dX4_readItems_81 : decode cX4_readItems 81 = .ok (.aload_n 0, 1) := by decide +kernel
theorem dX4_readItems_82 : decode cX4_readItems 82 = .ok (.getfield 9, 3) := by decide +kernel
theorem dX4_readItems_85 : decode cX4_readItems 85 = .ok (.putfield 15, 3) := by decide +kernel
theorem dX4_readItems_88 : decode cX4_readItems 88 = .ok (.iload_n 1, 1) := by decide +kernel
theorem dX4_readItems_89 : decode cX4_readItems 89 = .ok (.ireturn, 1) := by decide +kernel
theorem dX4_failAt_0 : decode cX4_failAt 0 = .ok (.aload_n 0, 1) := by decide +kernel
theorem dX4_failAt_1 : decode cX4_failAt 1 = .ok (.iload_n 1, 1) := by decide +kernel
theorem dX4_failAt_2 : decode cX4_failAt 2 = .ok (.putfield 15, 3) := by decide +kernel
theorem dX4_failAt_5 : decode cX4_failAt 5 = .ok (.iconst 0, 1) := by decide +kernel
theorem dX4_failAt_6 : decode cX4_failAt 6 = .ok (.ireturn, 1) := by decide +kernel
theorem dX4_readItem_0 : decode cX4_readItem 0 = .ok (.aload_n 0, 1) := by decide +kernel
theorem dX4_readItem_1 : decode cX4_readItem 1 = .ok (.getfield 9, 3) := by decide +kernel
theorem dX4_readItem_4 : decode cX4_readItem 4 = .ok (.istore_n 1, 1) := by decide +kernel
theorem dX4_readItem_5 : decode cX4_readItem 5 = .ok (.aload_n 0, 1) := by decide +kernel
theorem dX4_readItem_6 : decode cX4_readItem 6 = .ok (.invokevirtual 40, 3) := by decide +kernel
theorem dX4_readItem_9 : decode cX4_readItem 9 = .ok (.astore_n 2, 1) := by decide +kernel
theorem dX4_readItem_10 : decode cX4_readItem 10 = .ok (.aload_n 2, 1) := by decide +kernel
theorem dX4_readItem_11 : decode cX4_readItem 11 = .ok (.ifnonnull 5, 3) := by decide +kernel
theorem dX4_readItem_14 : decode cX4_readItem 14 = .ok (.iconst 0, 1) := by decide +kernel
theorem dX4_readItem_15 : decode cX4_readItem 15 = .ok (.ireturn, 1) := by decide +kernel
theorem dX4_readItem_16 : decode cX4_readItem 16 = .ok (.aload_n 0, 1) := by decide +kernel
theorem dX4_readItem_17 : decode cX4_readItem 17 = .ok (.aload_n 2, 1) := by decide +kernel
theorem dX4_readItem_18 : decode cX4_readItem 18 = .ok (.invokevirtual 44, 3) := by decide +kernel
theorem dX4_readItem_21 : decode cX4_readItem 21 = .ok (.ifCond .ne 9, 3) := by decide +kernel
theorem dX4_readItem_24 : decode cX4_readItem 24 = .ok (.aload_n 0, 1) := by decide +kernel
theorem dX4_readItem_25 : decode cX4_readItem 25 = .ok (.iload_n 1, 1) := by decide +kernel
theorem dX4_readItem_26 : decode cX4_readItem 26 = .ok (.invokevirtual 48, 3) := by decide +kernel
theorem dX4_readItem_29 : decode cX4_readItem 29 = .ok (.ireturn, 1) := by decide +kernel
theorem dX4_readItem_30 : decode cX4_readItem 30 = .ok (.aload_n 2, 1) := by decide +kernel
theorem dX4_readItem_31 : decode cX4_readItem 31 = .ok (.getfield 52, 3) := by decide +kernel
theorem dX4_readItem_34 : decode cX4_readItem 34 = .ok (.tableswitch 66 0 3 #[30, 36, 41, 61], 30) := by decide +kernel
theorem dX4_readItem_64 : decode cX4_readItem 64 = .ok (.aload_n 0, 1) := by decide +kernel
theorem dX4_readItem_65 : decode cX4_readItem 65 = .ok (.aload_n 2, 1) := by decide +kernel
theorem dX4_readItem_66 : decode cX4_readItem 66 = .ok (.invokevirtual 57, 3) := by decide +kernel
theorem dX4_readItem_69 : decode cX4_readItem 69 = .ok (.ireturn, 1) := by decide +kernel
theorem dX4_readItem_70 : decode cX4_readItem 70 = .ok (.aload_n 0, 1) := by decide +kernel
theorem dX4_readItem_71 : decode cX4_readItem 71 = .ok (.invokevirtual 60, 3) := by decide +kernel
theorem dX4_readItem_74 : decode cX4_readItem 74 = .ok (.ireturn, 1) := by decide +kernel
theorem dX4_readItem_75 : decode cX4_readItem 75 = .ok (.aload_n 0, 1) := by decide +kernel
theorem dX4_readItem_76 : decode cX4_readItem 76 = .ok (.getfield 22, 3) := by decide +kernel
theorem dX4_readItem_79 : decode cX4_readItem 79 = .ok (.getfield 63, 3) := by decide +kernel
theorem dX4_readItem_82 : decode cX4_readItem 82 = .ok (.invokevirtual 69, 3) := by decide +kernel
theorem dX4_readItem_85 : decode cX4_readItem 85 = .ok (.iconst (-1), 1) := by decide +kernel
theorem dX4_readItem_86 : decode cX4_readItem 86 = .ok (.if_icmp .eq 7, 3) := by decide +kernel
theorem dX4_readItem_89 : decode cX4_readItem 89 = .ok (.iconst 1, 1) := by decide +kernel
theorem dX4_readItem_90 : decode cX4_readItem 90 = .ok (.goto 4, 3) := by decide +kernel
theorem dX4_readItem_93 : decode cX4_readItem 93 = .ok (.iconst 0, 1) := by decide +kernel
theorem dX4_readItem_94 : decode cX4_readItem 94 = .ok (.ireturn, 1) := by decide +kernel
theorem dX4_readItem_95 : decode cX4_readItem 95 = .ok (.aload_n 0, 1) := by decide +kernel
theorem dX4_readItem_96 : decode cX4_readItem 96 = .ok (.invokevirtual 74, 3) := by decide +kernel
theorem dX4_readItem_99 : decode cX4_readItem 99 = .ok (.ireturn, 1) := by decide +kernel
theorem dX4_readItem_100 : decode cX4_readItem 100 = .ok (.aload_n 0, 1) := by decide +kernel
theorem dX4_readItem_101 : decode cX4_readItem 101 = .ok (.aload_n 2, 1) := by decide +kernel
theorem dX4_readItem_102 : decode cX4_readItem 102 = .ok (.getfield 77, 3) := by decide +kernel
theorem dX4_readItem_105 : decode cX4_readItem 105 = .ok (.invokevirtual 80, 3) := by decide +kernel
theorem dX4_readItem_108 : decode cX4_readItem 108 = .ok (.ireturn, 1) := by decide +kernel
theorem dX4_readWord_0 : decode cX4_readWord 0 = .ok (.aconst_null, 1) := by decide +kernel
theorem dX4_readWord_1 : decode cX4_readWord 1 = .ok (.astore_n 1, 1) := by decide +kernel
theorem dX4_readWord_2 : decode cX4_readWord 2 = .ok (.iconst 0, 1) := by decide +kernel
theorem dX4_readWord_3 : decode cX4_readWord 3 = .ok (.istore_n 2, 1) := by decide +kernel
theorem dX4_readWord_4 : decode cX4_readWord 4 = .ok (.iconst 0, 1) := by decide +kernel
theorem dX4_readWord_5 : decode cX4_readWord 5 = .ok (.istore_n 3, 1) := by decide +kernel
theorem dX4_readWord_6 : decode cX4_readWord 6 = .ok (.iload_n 3, 1) := by decide +kernel
theorem dX4_readWord_7 : decode cX4_readWord 7 = .ok (.getstatic 83, 3) := by decide +kernel
theorem dX4_readWord_10 : decode cX4_readWord 10 = .ok (.arraylength, 1) := by decide +kernel
theorem dX4_readWord_11 : decode cX4_readWord 11 = .ok (.if_icmp .ge 39, 3) := by decide +kernel
theorem dX4_readWord_14 : decode cX4_readWord 14 = .ok (.getstatic 83, 3) := by decide +kernel
theorem dX4_readWord_17 : decode cX4_readWord 17 = .ok (.iload_n 3, 1) := by decide +kernel
theorem dX4_readWord_18 : decode cX4_readWord 18 = .ok (.aaload, 1) := by decide +kernel
theorem dX4_readWord_19 : decode cX4_readWord 19 = .ok (.astore 4, 2) := by decide +kernel
theorem dX4_readWord_21 : decode cX4_readWord 21 = .ok (.aload_n 0, 1) := by decide +kernel
theorem dX4_readWord_22 : decode cX4_readWord 22 = .ok (.aload 4, 2) := by decide +kernel
theorem dX4_readWord_24 : decode cX4_readWord 24 = .ok (.getfield 87, 3) := by decide +kernel
theorem dX4_readWord_27 : decode cX4_readWord 27 = .ok (.invokevirtual 91, 3) := by decide +kernel
theorem dX4_readWord_30 : decode cX4_readWord 30 = .ok (.istore 5, 2) := by decide +kernel
theorem dX4_readWord_32 : decode cX4_readWord 32 = .ok (.iload 5, 2) := by decide +kernel
theorem dX4_readWord_34 : decode cX4_readWord 34 = .ok (.iload_n 2, 1) := by decide +kernel
theorem dX4_readWord_35 : decode cX4_readWord 35 = .ok (.if_icmp .le 9, 3) := by decide +kernel
theorem dX4_readWord_38 : decode cX4_readWord 38 = .ok (.iload 5, 2) := by decide +kernel
theorem dX4_readWord_40 : decode cX4_readWord 40 = .ok (.istore_n 2, 1) := by decide +kernel
theorem dX4_readWord_41 : decode cX4_readWord 41 = .ok (.aload 4, 2) := by decide +kernel
theorem dX4_readWord_43 : decode cX4_readWord 43 = .ok (.astore_n 1, 1) := by decide +kernel
theorem dX4_readWord_44 : decode cX4_readWord 44 = .ok (.iinc 3 1, 3) := by decide +kernel
theorem dX4_readWord_47 : decode cX4_readWord 47 = .ok (.goto (-41), 3) := by decide +kernel
theorem dX4_readWord_50 : decode cX4_readWord 50 = .ok (.aload_n 0, 1) := by decide +kernel
theorem dX4_readWord_51 : decode cX4_readWord 51 = .ok (.dup, 1) := by decide +kernel
theorem dX4_readWord_52 : decode cX4_readWord 52 = .ok (.getfield 9, 3) := by decide +kernel
theorem dX4_readWord_55 : decode cX4_readWord 55 = .ok (.iload_n 2, 1) := by decide +kernel
theorem dX4_readWord_56 : decode cX4_readWord 56 = .ok (.iadd, 1) := by decide +kernel
theorem dX4_readWord_57 : decode cX4_readWord 57 = .ok (.putfield 9, 3) := by decide +kernel
theorem dX4_readWord_60 : decode cX4_readWord 60 = .ok (.aload_n 1, 1) := by decide +kernel
theorem dX4_readWord_61 : decode cX4_readWord 61 = .ok (.ifnull 14, 3) := by decide +kernel
theorem dX4_readWord_64 : decode cX4_readWord 64 = .ok (.iload_n 2, 1) := by decide +kernel
theorem dX4_readWord_65 : decode cX4_readWord 65 = .ok (.aload_n 1, 1) := by decide +kernel
theorem dX4_readWord_66 : decode cX4_readWord 66 = .ok (.getfield 87, 3) := by decide +kernel
theorem dX4_readWord_69 : decode cX4_readWord 69 = .ok (.invokevirtual 95, 3) := by decide +kernel
theorem dX4_readWord_72 : decode cX4_readWord 72 = .ok (.if_icmp .ge 13, 3) := by decide +kernel
theorem dX4_readWord_75 : decode cX4_readWord 75 = .ok (.aload_n 0, 1) := by decide +kernel
theorem dX4_readWord_76 : decode cX4_readWord 76 = .ok (.aload_n 0, 1) := by decide +kernel
theorem dX4_readWord_77 : decode cX4_readWord 77 = .ok (.getfield 9, 3) := by decide +kernel
theorem dX4_readWord_80 : decode cX4_readWord 80 = .ok (.putfield 15, 3) := by decide +kernel
theorem dX4_readWord_83 : decode cX4_readWord 83 = .ok (.aconst_null, 1) := by decide +kernel
theorem dX4_readWord_84 : decode cX4_readWord 84 = .ok (.areturn, 1) := by decide +kernel
theorem dX4_readWord_85 : decode cX4_readWord 85 = .ok (.aload_n 1, 1) := by decide +kernel
theorem dX4_readWord_86 : decode cX4_readWord 86 = .ok (.areturn, 1) := by decide +kernel
theorem dX4_lettersFitting_0 : decode cX4_lettersFitting 0 = .ok (.iconst 0, 1) := by decide +kernel
theorem dX4_lettersFitting_1 : decode cX4_lettersFitting 1 = .ok (.istore_n 2, 1) := by decide +kernel
theorem dX4_lettersFitting_2 : decode cX4_lettersFitting 2 = .ok (.iload_n 2, 1) := by decide +kernel
theorem dX4_lettersFitting_3 : decode cX4_lettersFitting 3 = .ok (.aload_n 1, 1) := by decide +kernel
theorem dX4_lettersFitting_4 : decode cX4_lettersFitting 4 = .ok (.invokevirtual 95, 3) := by decide +kernel
theorem dX4_lettersFitting_7 : decode cX4_lettersFitting 7 = .ok (.if_icmp .ge 46, 3) := by decide +kernel
theorem dX4_lettersFitting_10 : decode cX4_lettersFitting 10 = .ok (.aload_n 0, 1) := by decide +kernel
theorem dX4_lettersFitting_11 : decode cX4_lettersFitting 11 = .ok (.getfield 9, 3) := by decide +kernel
theorem dX4_lettersFitting_14 : decode cX4_lettersFitting 14 = .ok (.iload_n 2, 1) := by decide +kernel
theorem dX4_lettersFitting_15 : decode cX4_lettersFitting 15 = .ok (.iadd, 1) := by decide +kernel
theorem dX4_lettersFitting_16 : decode cX4_lettersFitting 16 = .ok (.aload_n 0, 1) := by decide +kernel
theorem dX4_lettersFitting_17 : decode cX4_lettersFitting 17 = .ok (.getfield 18, 3) := by decide +kernel
theorem dX4_lettersFitting_20 : decode cX4_lettersFitting 20 = .ok (.invokevirtual 36, 3) := by decide +kernel
theorem dX4_lettersFitting_23 : decode cX4_lettersFitting 23 = .ok (.if_icmp .ge 30, 3) := by decide +kernel
theorem dX4_lettersFitting_26 : decode cX4_lettersFitting 26 = .ok (.aload_n 0, 1) := by decide +kernel
theorem dX4_lettersFitting_27 : decode cX4_lettersFitting 27 = .ok (.getfield 18, 3) := by decide +kernel
theorem dX4_lettersFitting_30 : decode cX4_lettersFitting 30 = .ok (.aload_n 0, 1) := by decide +kernel
theorem dX4_lettersFitting_31 : decode cX4_lettersFitting 31 = .ok (.getfield 9, 3) := by decide +kernel
theorem dX4_lettersFitting_34 : decode cX4_lettersFitting 34 = .ok (.iload_n 2, 1) := by decide +kernel
theorem dX4_lettersFitting_35 : decode cX4_lettersFitting 35 = .ok (.iadd, 1) := by decide +kernel
theorem dX4_lettersFitting_36 : decode cX4_lettersFitting 36 = .ok (.invokevirtual 30, 3) := by decide +kernel
theorem dX4_lettersFitting_39 : decode cX4_lettersFitting 39 = .ok (.aload_n 1, 1) := by decide +kernel
theorem dX4_lettersFitting_40 : decode cX4_lettersFitting 40 = .ok (.iload_n 2, 1) := by decide +kernel
theorem dX4_lettersFitting_41 : decode cX4_lettersFitting 41 = .ok (.invokevirtual 100, 3) := by decide +kernel
theorem dX4_lettersFitting_44 : decode cX4_lettersFitting 44 = .ok (.if_icmp .ne 9, 3) := by decide +kernel
theorem dX4_lettersFitting_47 : decode cX4_lettersFitting 47 = .ok (.iinc 2 1, 3) := by decide +kernel
theorem dX4_lettersFitting_50 : decode cX4_lettersFitting 50 = .ok (.goto (-48), 3) := by decide +kernel
theorem dX4_lettersFitting_53 : decode cX4_lettersFitting 53 = .ok (.iload_n 2, 1) := by decide +kernel
theorem dX4_lettersFitting_54 : decode cX4_lettersFitting 54 = .ok (.ireturn, 1) := by decide +kernel
theorem dX4_mayStand_0 : decode cX4_mayStand 0 = .ok (.aload_n 1, 1) := by decide +kernel
theorem dX4_mayStand_1 : decode cX4_mayStand 1 = .ok (.getfield 52, 3) := by decide +kernel
theorem dX4_mayStand_4 : decode cX4_mayStand 4 = .ok (.tableswitch 100 0 3 #[32, 51, 70, 89], 32) := by decide +kernel
theorem dX4_mayStand_36 : decode cX4_mayStand 36 = .ok (.aload_n 0, 1) := by decide +kernel
theorem dX4_mayStand_37 : decode cX4_mayStand 37 = .ok (.getfield 22, 3) := by decide +kernel
theorem dX4_mayStand_40 : decode cX4_mayStand 40 = .ok (.getfield 104, 3) := by decide +kernel
theorem dX4_mayStand_43 : decode cX4_mayStand 43 = .ok (.invokevirtual 108, 3) := by decide +kernel
theorem dX4_mayStand_46 : decode cX4_mayStand 46 = .ok (.ifCond .ne 7, 3) := by decide +kernel
theorem dX4_mayStand_49 : decode cX4_mayStand 49 = .ok (.iconst 1, 1) := by decide +kernel
theorem dX4_mayStand_50 : decode cX4_mayStand 50 = .ok (.goto 4, 3) := by decide +kernel
theorem dX4_mayStand_53 : decode cX4_mayStand 53 = .ok (.iconst 0, 1) := by decide +kernel
theorem dX4_mayStand_54 : decode cX4_mayStand 54 = .ok (.ireturn, 1) := by decide +kernel
theorem dX4_mayStand_55 : decode cX4_mayStand 55 = .ok (.aload_n 0, 1) := by decide +kernel
theorem dX4_mayStand_56 : decode cX4_mayStand 56 = .ok (.getfield 22, 3) := by decide +kernel
theorem dX4_mayStand_59 : decode cX4_mayStand 59 = .ok (.getfield 113, 3) := by decide +kernel
theorem dX4_mayStand_62 : decode cX4_mayStand 62 = .ok (.invokevirtual 117, 3) := by decide +kernel
theorem dX4_mayStand_65 : decode cX4_mayStand 65 = .ok (.ifCond .ne 7, 3) := by decide +kernel
theorem dX4_mayStand_68 : decode cX4_mayStand 68 = .ok (.iconst 1, 1) := by decide +kernel
theorem dX4_mayStand_69 : decode cX4_mayStand 69 = .ok (.goto 4, 3) := by decide +kernel
theorem dX4_mayStand_72 : decode cX4_mayStand 72 = .ok (.iconst 0, 1) := by decide +kernel
theorem dX4_mayStand_73 : decode cX4_mayStand 73 = .ok (.ireturn, 1) := by decide +kernel
theorem dX4_mayStand_74 : decode cX4_mayStand 74 = .ok (.aload_n 0, 1) := by decide +kernel
theorem dX4_mayStand_75 : decode cX4_mayStand 75 = .ok (.getfield 22, 3) := by decide +kernel
theorem dX4_mayStand_78 : decode cX4_mayStand 78 = .ok (.getfield 63, 3) := by decide +kernel
theorem dX4_mayStand_81 : decode cX4_mayStand 81 = .ok (.invokevirtual 120, 3) := by decide +kernel
theorem dX4_mayStand_84 : decode cX4_mayStand 84 = .ok (.ifCond .ne 7, 3) := by decide +kernel
theorem dX4_mayStand_87 : decode cX4_mayStand 87 = .ok (.iconst 1, 1) := by decide +kernel
theorem dX4_mayStand_88 : decode cX4_mayStand 88 = .ok (.goto 4, 3) := by decide +kernel
theorem dX4_mayStand_91 : decode cX4_mayStand 91 = .ok (.iconst 0, 1) := by decide +kernel
theorem dX4_mayStand_92 : decode cX4_mayStand 92 = .ok (.ireturn, 1) := by decide +kernel
theorem dX4_mayStand_93 : decode cX4_mayStand 93 = .ok (.aload_n 0, 1) := by decide +kernel
theorem dX4_mayStand_94 : decode cX4_mayStand 94 = .ok (.getfield 22, 3) := by decide +kernel
theorem dX4_mayStand_97 : decode cX4_mayStand 97 = .ok (.getfield 63, 3) := by decide +kernel
theorem dX4_mayStand_100 : decode cX4_mayStand 100 = .ok (.invokevirtual 121, 3) := by decide +kernel
theorem dX4_mayStand_103 : decode cX4_mayStand 103 = .ok (.ireturn, 1) := by decide +kernel
theorem dX4_mayStand_104 : decode cX4_mayStand 104 = .ok (.iconst 1, 1) := by decide +kernel
theorem dX4_mayStand_105 : decode cX4_mayStand 105 = .ok (.ireturn, 1) := by decide +kernel
theorem dX4_readStretch_0 : decode cX4_readStretch 0 = .ok (.aload_n 0, 1) := by decide +kernel
theorem dX4_readStretch_1 : decode cX4_readStretch 1 = .ok (.iconst 1, 1) := by decide +kernel
theorem dX4_readStretch_2 : decode cX4_readStretch 2 = .ok (.bipush 60, 2) := by decide +kernel
theorem dX4_readStretch_4 : decode cX4_readStretch 4 = .ok (.invokevirtual 124, 3) := by decide +kernel
theorem dX4_readStretch_7 : decode cX4_readStretch 7 = .ok (.istore_n 2, 1) := by decide +kernel
theorem dX4_readStretch_8 : decode cX4_readStretch 8 = .ok (.aload_n 1, 1) := by decide +kernel
theorem dX4_readStretch_9 : decode cX4_readStretch 9 = .ok (.invokevirtual 128, 3) := by decide +kernel
theorem dX4_readStretch_12 : decode cX4_readStretch 12 = .ok (.ifCond .eq 18, 3) := by decide +kernel
theorem dX4_readStretch_15 : decode cX4_readStretch 15 = .ok (.iload_n 2, 1) := by decide +kernel
theorem dX4_readStretch_16 : decode cX4_readStretch 16 = .ok (.iconst (-1), 1) := by decide +kernel
theorem dX4_readStretch_17 : decode cX4_readStretch 17 = .ok (.if_icmp .eq 13, 3) := by decide +kernel
theorem dX4_readStretch_20 : decode cX4_readStretch 20 = .ok (.aload_n 0, 1) := by decide +kernel
theorem dX4_readStretch_21 : decode cX4_readStretch 21 = .ok (.iconst 0, 1) := by decide +kernel
theorem dX4_readStretch_22 : decode cX4_readStretch 22 = .ok (.bipush 60, 2) := by decide +kernel
theorem dX4_readStretch_24 : decode cX4_readStretch 24 = .ok (.invokevirtual 124, 3) := by decide +kernel
theorem dX4_readStretch_27 : decode cX4_readStretch 27 = .ok (.goto 4, 3) := by decide +kernel
theorem dX4_readStretch_30 : decode cX4_readStretch 30 = .ok (.iconst 0, 1) := by decide +kernel
theorem dX4_readStretch_31 : decode cX4_readStretch 31 = .ok (.istore_n 3, 1) := by decide +kernel
theorem dX4_readStretch_32 : decode cX4_readStretch 32 = .ok (.iload_n 2, 1) := by decide +kernel
theorem dX4_readStretch_33 : decode cX4_readStretch 33 = .ok (.iconst (-1), 1) := by decide +kernel
theorem dX4_readStretch_34 : decode cX4_readStretch 34 = .ok (.if_icmp .eq 8, 3) := by decide +kernel
theorem dX4_readStretch_37 : decode cX4_readStretch 37 = .ok (.iload_n 3, 1) := by decide +kernel
theorem dX4_readStretch_38 : decode cX4_readStretch 38 = .ok (.iconst (-1), 1) := by decide +kernel
theorem dX4_readStretch_39 : decode cX4_readStretch 39 = .ok (.if_icmp .ne 5, 3) := by decide +kernel
theorem dX4_readStretch_42 : decode cX4_readStretch 42 = .ok (.iconst 0, 1) := by decide +kernel
theorem dX4_readStretch_43 : decode cX4_readStretch 43 = .ok (.ireturn, 1) := by decide +kernel
theorem dX4_readStretch_44 : decode cX4_readStretch 44 = .ok (.aload_n 0, 1) := by decide +kernel
theorem dX4_readStretch_45 : decode cX4_readStretch 45 = .ok (.iconst 1, 1) := by decide +kernel
theorem dX4_readStretch_46 : decode cX4_readStretch 46 = .ok (.bipush 60, 2) := by decide +kernel
theorem dX4_readStretch_48 : decode cX4_readStretch 48 = .ok (.invokevirtual 124, 3) := by decide +kernel
theorem dX4_readStretch_51 : decode cX4_readStretch 51 = .ok (.istore 4, 2) := by decide +kernel
theorem dX4_readStretch_53 : decode cX4_readStretch 53 = .ok (.iload 4, 2) := by decide +kernel
theorem dX4_readStretch_55 : decode cX4_readStretch 55 = .ok (.iconst (-1), 1) := by decide +kernel
theorem dX4_readStretch_56 : decode cX4_readStretch 56 = .ok (.if_icmp .eq 29, 3) := by decide +kernel
theorem dX4_readStretch_59 : decode cX4_readStretch 59 = .ok (.aload_n 0, 1) := by decide +kernel
theorem dX4_readStretch_60 : decode cX4_readStretch 60 = .ok (.getfield 22, 3) := by decide +kernel
theorem dX4_readStretch_63 : decode cX4_readStretch 63 = .ok (.getfield 104, 3) := by decide +kernel
theorem dX4_readStretch_66 : decode cX4_readStretch 66 = .ok (.aload_n 1, 1) := by decide +kernel
theorem dX4_readStretch_67 : decode cX4_readStretch 67 = .ok (.getfield 77, 3) := by decide +kernel
theorem dX4_readStretch_70 : decode cX4_readStretch 70 = .ok (.iload_n 2, 1) := by decide +kernel
theorem dX4_readStretch_71 : decode cX4_readStretch 71 = .ok (.iload_n 3, 1) := by decide +kernel
theorem dX4_readStretch_72 : decode cX4_readStretch 72 = .ok (.iload 4, 2) := by decide +kernel
theorem dX4_readStretch_74 : decode cX4_readStretch 74 = .ok (.invokevirtual 131, 3) := by decide +kernel
theorem dX4_readStretch_77 : decode cX4_readStretch 77 = .ok (.iconst (-1), 1) := by decide +kernel
theorem dX4_readStretch_78 : decode cX4_readStretch 78 = .ok (.if_icmp .eq 7, 3) := by decide +kernel
theorem dX4_readStretch_81 : decode cX4_readStretch 81 = .ok (.iconst 1, 1) := by decide +kernel
theorem dX4_readStretch_82 : decode cX4_readStretch 82 = .ok (.goto 4, 3) := by decide +kernel
theorem dX4_readStretch_85 : decode cX4_readStretch 85 = .ok (.iconst 0, 1) := by decide +kernel
theorem dX4_readStretch_86 : decode cX4_readStretch 86 = .ok (.ireturn, 1) := by decide +kernel
theorem dX4_readCar_0 : decode cX4_readCar 0 = .ok (.aload_n 0, 1) := by decide +kernel
theorem dX4_readCar_1 : decode cX4_readCar 1 = .ok (.iconst 1, 1) := by decide +kernel
theorem dX4_readCar_2 : decode cX4_readCar 2 = .ok (.bipush 99, 2) := by decide +kernel
theorem dX4_readCar_4 : decode cX4_readCar 4 = .ok (.invokevirtual 124, 3) := by decide +kernel
theorem dX4_readCar_7 : decode cX4_readCar 7 = .ok (.istore_n 1, 1) := by decide +kernel
theorem dX4_readCar_8 : decode cX4_readCar 8 = .ok (.iload_n 1, 1) := by decide +kernel
theorem dX4_readCar_9 : decode cX4_readCar 9 = .ok (.iconst (-1), 1) := by decide +kernel
theorem dX4_readCar_10 : decode cX4_readCar 10 = .ok (.if_icmp .ne 7, 3) := by decide +kernel
theorem dX4_readCar_13 : decode cX4_readCar 13 = .ok (.iconst (-1), 1) := by decide +kernel
theorem dX4_readCar_14 : decode cX4_readCar 14 = .ok (.goto 11, 3) := by decide +kernel
theorem dX4_readCar_17 : decode cX4_readCar 17 = .ok (.aload_n 0, 1) := by decide +kernel
theorem dX4_readCar_18 : decode cX4_readCar 18 = .ok (.iconst 0, 1) := by decide +kernel
theorem dX4_readCar_19 : decode cX4_readCar 19 = .ok (.sipush 999, 3) := by decide +kernel
theorem dX4_readCar_22 : decode cX4_readCar 22 = .ok (.invokevirtual 124, 3) := by decide +kernel
theorem dX4_readCar_25 : decode cX4_readCar 25 = .ok (.istore_n 2, 1) := by decide +kernel
theorem dX4_readCar_26 : decode cX4_readCar 26 = .ok (.bipush 100, 2) := by decide +kernel
theorem dX4_readCar_28 : decode cX4_readCar 28 = .ok (.aload_n 0, 1) := by decide +kernel
theorem dX4_readCar_29 : decode cX4_readCar 29 = .ok (.getfield 22, 3) := by decide +kernel
theorem dX4_readCar_32 : decode cX4_readCar 32 = .ok (.getfield 113, 3) := by decide +kernel
theorem dX4_readCar_35 : decode cX4_readCar 35 = .ok (.invokevirtual 135, 3) := by decide +kernel
theorem dX4_readCar_38 : decode cX4_readCar 38 = .ok (.isub, 1) := by decide +kernel
theorem dX4_readCar_39 : decode cX4_readCar 39 = .ok (.istore_n 3, 1) := by decide +kernel
theorem dX4_readCar_40 : decode cX4_readCar 40 = .ok (.iload_n 2, 1) := by decide +kernel
theorem dX4_readCar_41 : decode cX4_readCar 41 = .ok (.iconst (-1), 1) := by decide +kernel
theorem dX4_readCar_42 : decode cX4_readCar 42 = .ok (.if_icmp .ne 7, 3) := by decide +kernel
theorem dX4_readCar_45 : decode cX4_readCar 45 = .ok (.iconst (-1), 1) := by decide +kernel
theorem dX4_readCar_46 : decode cX4_readCar 46 = .ok (.goto 9, 3) := by decide +kernel
theorem dX4_readCar_49 : decode cX4_readCar 49 = .ok (.aload_n 0, 1) := by decide +kernel
theorem dX4_readCar_50 : decode cX4_readCar 50 = .ok (.iconst 0, 1) := by decide +kernel
theorem dX4_readCar_51 : decode cX4_readCar 51 = .ok (.iload_n 3, 1) := by decide +kernel
theorem dX4_readCar_52 : decode cX4_readCar 52 = .ok (.invokevirtual 124, 3) := by decide +kernel
theorem dX4_readCar_55 : decode cX4_readCar 55 = .ok (.istore 4, 2) := by decide +kernel
theorem dX4_readCar_57 : decode cX4_readCar 57 = .ok (.iload 4, 2) := by decide +kernel
theorem dX4_readCar_59 : decode cX4_readCar 59 = .ok (.iconst (-1), 1) := by decide +kernel
theorem dX4_readCar_60 : decode cX4_readCar 60 = .ok (.if_icmp .eq 25, 3) := by decide +kernel
theorem dX4_readCar_63 : decode cX4_readCar 63 = .ok (.aload_n 0, 1) := by decide +kernel
theorem dX4_readCar_64 : decode cX4_readCar 64 = .ok (.getfield 22, 3) := by decide +kernel
theorem dX4_readCar_67 : decode cX4_readCar 67 = .ok (.getfield 113, 3) := by decide +kernel
theorem dX4_readCar_70 : decode cX4_readCar 70 = .ok (.iload_n 1, 1) := by decide +kernel
theorem dX4_readCar_71 : decode cX4_readCar 71 = .ok (.iload_n 2, 1) := by decide +kernel
theorem dX4_readCar_72 : decode cX4_readCar 72 = .ok (.iload 4, 2) := by decide +kernel
theorem dX4_readCar_74 : decode cX4_readCar 74 = .ok (.invokevirtual 138, 3) := by decide +kernel
theorem dX4_readCar_77 : decode cX4_readCar 77 = .ok (.iconst (-1), 1) := by decide +kernel
theorem dX4_readCar_78 : decode cX4_readCar 78 = .ok (.if_icmp .eq 7, 3) := by decide +kernel
theorem dX4_readCar_81 : decode cX4_readCar 81 = .ok (.iconst 1, 1) := by decide +kernel
theorem dX4_readCar_82 : decode cX4_readCar 82 = .ok (.goto 4, 3) := by decide +kernel
theorem dX4_readCar_85 : decode cX4_readCar 85 = .ok (.iconst 0, 1) := by decide +kernel
theorem dX4_readCar_86 : decode cX4_readCar 86 = .ok (.ireturn, 1) := by decide +kernel
theorem dX4_readNote_0 : decode cX4_readNote 0 = .ok (.aload_n 0, 1) := by decide +kernel
theorem dX4_readNote_1 : decode cX4_readNote 1 = .ok (.iconst 0, 1) := by decide +kernel
theorem dX4_readNote_2 : decode cX4_readNote 2 = .ok (.sipush 9999, 3) := by decide +kernel
theorem dX4_readNote_5 : decode cX4_readNote 5 = .ok (.invokevirtual 124, 3) := by decide +kernel
theorem dX4_readNote_8 : decode cX4_readNote 8 = .ok (.istore_n 1, 1) := by decide +kernel
theorem dX4_readNote_9 : decode cX4_readNote 9 = .ok (.iload_n 1, 1) := by decide +kernel
theorem dX4_readNote_10 : decode cX4_readNote 10 = .ok (.iconst (-1), 1) := by decide +kernel
theorem dX4_readNote_11 : decode cX4_readNote 11 = .ok (.if_icmp .ne 7, 3) := by decide +kernel
theorem dX4_readNote_14 : decode cX4_readNote 14 = .ok (.iconst (-1), 1) := by decide +kernel
theorem dX4_readNote_15 : decode cX4_readNote 15 = .ok (.goto 10, 3) := by decide +kernel
theorem dX4_readNote_18 : decode cX4_readNote 18 = .ok (.aload_n 0, 1) := by decide +kernel
theorem dX4_readNote_19 : decode cX4_readNote 19 = .ok (.iconst 1, 1) := by decide +kernel
theorem dX4_readNote_20 : decode cX4_readNote 20 = .ok (.bipush 16, 2) := by decide +kernel
theorem dX4_readNote_22 : decode cX4_readNote 22 = .ok (.invokevirtual 124, 3) := by decide +kernel
theorem dX4_readNote_25 : decode cX4_readNote 25 = .ok (.istore_n 2, 1) := by decide +kernel
theorem dX4_readNote_26 : decode cX4_readNote 26 = .ok (.iload_n 2, 1) := by decide +kernel
theorem dX4_readNote_27 : decode cX4_readNote 27 = .ok (.iconst (-1), 1) := by decide +kernel
theorem dX4_readNote_28 : decode cX4_readNote 28 = .ok (.if_icmp .ne 5, 3) := by decide +kernel
theorem dX4_readNote_31 : decode cX4_readNote 31 = .ok (.iconst 0, 1) := by decide +kernel
theorem dX4_readNote_32 : decode cX4_readNote 32 = .ok (.ireturn, 1) := by decide +kernel
theorem dX4_readNote_33 : decode cX4_readNote 33 = .ok (.aload_n 0, 1) := by decide +kernel
theorem dX4_readNote_34 : decode cX4_readNote 34 = .ok (.getfield 22, 3) := by decide +kernel
theorem dX4_readNote_37 : decode cX4_readNote 37 = .ok (.getfield 63, 3) := by decide +kernel
theorem dX4_readNote_40 : decode cX4_readNote 40 = .ok (.iload_n 1, 1) := by decide +kernel
theorem dX4_readNote_41 : decode cX4_readNote 41 = .ok (.iload_n 2, 1) := by decide +kernel
theorem dX4_readNote_42 : decode cX4_readNote 42 = .ok (.invokevirtual 141, 3) := by decide +kernel
theorem dX4_readNote_45 : decode cX4_readNote 45 = .ok (.iconst 1, 1) := by decide +kernel
theorem dX4_readNote_46 : decode cX4_readNote 46 = .ok (.ireturn, 1) := by decide +kernel
theorem dX4_readDemand_0 : decode cX4_readDemand 0 = .ok (.iload_n 1, 1) := by decide +kernel
theorem dX4_readDemand_1 : decode cX4_readDemand 1 = .ok (.iconst 0, 1) := by decide +kernel
theorem dX4_readDemand_2 : decode cX4_readDemand 2 = .ok (.iconst 3, 1) := by decide +kernel
theorem dX4_readDemand_3 : decode cX4_readDemand 3 = .ok (.invokestatic 145, 3) := by decide +kernel
theorem dX4_readDemand_6 : decode cX4_readDemand 6 = .ok (.ifCond .ne 12, 3) := by decide +kernel
theorem dX4_readDemand_9 : decode cX4_readDemand 9 = .ok (.aload_n 0, 1) := by decide +kernel
theorem dX4_readDemand_10 : decode cX4_readDemand 10 = .ok (.aload_n 0, 1) := by decide +kernel
theorem dX4_readDemand_11 : decode cX4_readDemand 11 = .ok (.getfield 9, 3) := by decide +kernel
theorem dX4_readDemand_14 : decode cX4_readDemand 14 = .ok (.invokevirtual 48, 3) := by decide +kernel
theorem dX4_readDemand_17 : decode cX4_readDemand 17 = .ok (.ireturn, 1) := by decide +kernel
theorem dX4_readDemand_18 : decode cX4_readDemand 18 = .ok (.aload_n 0, 1) := by decide +kernel
theorem dX4_readDemand_19 : decode cX4_readDemand 19 = .ok (.getstatic 149, 3) := by decide +kernel
theorem dX4_readDemand_22 : decode cX4_readDemand 22 = .ok (.iload_n 1, 1) := by decide +kernel
theorem dX4_readDemand_23 : decode cX4_readDemand 23 = .ok (.iaload, 1) := by decide +kernel
theorem dX4_readDemand_24 : decode cX4_readDemand 24 = .ok (.getstatic 153, 3) := by decide +kernel
theorem dX4_readDemand_27 : decode cX4_readDemand 27 = .ok (.iload_n 1, 1) := by decide +kernel
theorem dX4_readDemand_28 : decode cX4_readDemand 28 = .ok (.iaload, 1) := by decide +kernel
theorem dX4_readDemand_29 : decode cX4_readDemand 29 = .ok (.invokevirtual 124, 3) := by decide +kernel
theorem dX4_readDemand_32 : decode cX4_readDemand 32 = .ok (.istore_n 2, 1) := by decide +kernel
theorem dX4_readDemand_33 : decode cX4_readDemand 33 = .ok (.iload_n 2, 1) := by decide +kernel
theorem dX4_readDemand_34 : decode cX4_readDemand 34 = .ok (.iconst (-1), 1) := by decide +kernel
theorem dX4_readDemand_35 : decode cX4_readDemand 35 = .ok (.if_icmp .ne 5, 3) := by decide +kernel
theorem dX4_readDemand_38 : decode cX4_readDemand 38 = .ok (.iconst 0, 1) := by decide +kernel
theorem dX4_readDemand_39 : decode cX4_readDemand 39 = .ok (.ireturn, 1) := by decide +kernel
theorem dX4_readDemand_40 : decode cX4_readDemand 40 = .ok (.aload_n 0, 1) := by decide +kernel
theorem dX4_readDemand_41 : decode cX4_readDemand 41 = .ok (.getfield 22, 3) := by decide +kernel
theorem dX4_readDemand_44 : decode cX4_readDemand 44 = .ok (.iload_n 1, 1) := by decide +kernel
theorem dX4_readDemand_45 : decode cX4_readDemand 45 = .ok (.iload_n 2, 1) := by decide +kernel
theorem dX4_readDemand_46 : decode cX4_readDemand 46 = .ok (.invokevirtual 156, 3) := by decide +kernel
theorem dX4_readDemand_49 : decode cX4_readDemand 49 = .ok (.iconst 1, 1) := by decide +kernel
theorem dX4_readDemand_50 : decode cX4_readDemand 50 = .ok (.ireturn, 1) := by decide +kernel
theorem dX4_readNumber_0 : decode cX4_readNumber 0 = .ok (.aload_n 0, 1) := by decide +kernel
theorem dX4_readNumber_1 : decode cX4_readNumber 1 = .ok (.getfield 18, 3) := by decide +kernel
theorem dX4_readNumber_4 : decode cX4_readNumber 4 = .ok (.aload_n 0, 1) := by decide +kernel
theorem dX4_readNumber_5 : decode cX4_readNumber 5 = .ok (.getfield 9, 3) := by decide +kernel
theorem dX4_readNumber_8 : decode cX4_readNumber 8 = .ok (.invokevirtual 30, 3) := by decide +kernel
theorem dX4_readNumber_11 : decode cX4_readNumber 11 = .ok (.bipush 32, 2) := by decide +kernel
theorem dX4_readNumber_13 : decode cX4_readNumber 13 = .ok (.if_icmp .eq 13, 3) := by decide +kernel
theorem dX4_readNumber_16 : decode cX4_readNumber 16 = .ok (.aload_n 0, 1) := by decide +kernel
theorem dX4_readNumber_17 : decode cX4_readNumber 17 = .ok (.aload_n 0, 1) := by decide +kernel
theorem dX4_readNumber_18 : decode cX4_readNumber 18 = .ok (.getfield 9, 3) := by decide +kernel
theorem dX4_readNumber_21 : decode cX4_readNumber 21 = .ok (.putfield 15, 3) := by decide +kernel
theorem dX4_readNumber_24 : decode cX4_readNumber 24 = .ok (.iconst (-1), 1) := by decide +kernel
theorem dX4_readNumber_25 : decode cX4_readNumber 25 = .ok (.ireturn, 1) := by decide +kernel
theorem dX4_readNumber_26 : decode cX4_readNumber 26 = .ok (.aload_n 0, 1) := by decide +kernel
theorem dX4_readNumber_27 : decode cX4_readNumber 27 = .ok (.dup, 1) := by decide +kernel
theorem dX4_readNumber_28 : decode cX4_readNumber 28 = .ok (.getfield 9, 3) := by decide +kernel
theorem dX4_readNumber_31 : decode cX4_readNumber 31 = .ok (.iconst 1, 1) := by decide +kernel
theorem dX4_readNumber_32 : decode cX4_readNumber 32 = .ok (.iadd, 1) := by decide +kernel
theorem dX4_readNumber_33 : decode cX4_readNumber 33 = .ok (.putfield 9, 3) := by decide +kernel
theorem dX4_readNumber_36 : decode cX4_readNumber 36 = .ok (.aload_n 0, 1) := by decide +kernel
theorem dX4_readNumber_37 : decode cX4_readNumber 37 = .ok (.getfield 9, 3) := by decide +kernel
theorem dX4_readNumber_40 : decode cX4_readNumber 40 = .ok (.istore_n 3, 1) := by decide +kernel
theorem dX4_readNumber_41 : decode cX4_readNumber 41 = .ok (.iconst 0, 1) := by decide +kernel
theorem dX4_readNumber_42 : decode cX4_readNumber 42 = .ok (.istore 4, 2) := by decide +kernel
theorem dX4_readNumber_44 : decode cX4_readNumber 44 = .ok (.aload_n 0, 1) := by decide +kernel
theorem dX4_readNumber_45 : decode cX4_readNumber 45 = .ok (.getfield 9, 3) := by decide +kernel
theorem dX4_readNumber_48 : decode cX4_readNumber 48 = .ok (.iload_n 3, 1) := by decide +kernel
theorem dX4_readNumber_49 : decode cX4_readNumber 49 = .ok (.isub, 1) := by decide +kernel
theorem dX4_readNumber_50 : decode cX4_readNumber 50 = .ok (.iconst 4, 1) := by decide +kernel
theorem dX4_readNumber_51 : decode cX4_readNumber 51 = .ok (.if_icmp .ge 59, 3) := by decide +kernel
theorem dX4_readNumber_54 : decode cX4_readNumber 54 = .ok (.aload_n 0, 1) := by decide +kernel
theorem dX4_readNumber_55 : decode cX4_readNumber 55 = .ok (.getfield 18, 3) := by decide +kernel
theorem dX4_readNumber_58 : decode cX4_readNumber 58 = .ok (.aload_n 0, 1) := by decide +kernel
theorem dX4_readNumber_59 : decode cX4_readNumber 59 = .ok (.getfield 9, 3) := by decide +kernel
theorem dX4_readNumber_62 : decode cX4_readNumber 62 = .ok (.invokevirtual 30, 3) := by decide +kernel
theorem dX4_readNumber_65 : decode cX4_readNumber 65 = .ok (.bipush 48, 2) := by decide +kernel
theorem dX4_readNumber_67 : decode cX4_readNumber 67 = .ok (.bipush 57, 2) := by decide +kernel
theorem dX4_readNumber_69 : decode cX4_readNumber 69 = .ok (.invokestatic 145, 3) := by decide +kernel
theorem dX4_readNumber_72 : decode cX4_readNumber 72 = .ok (.ifCond .eq 38, 3) := by decide +kernel
theorem dX4_readNumber_75 : decode cX4_readNumber 75 = .ok (.bipush 10, 2) := by decide +kernel
theorem dX4_readNumber_77 : decode cX4_readNumber 77 = .ok (.iload 4, 2) := by decide +kernel
theorem dX4_readNumber_79 : decode cX4_readNumber 79 = .ok (.imul, 1) := by decide +kernel
theorem dX4_readNumber_80 : decode cX4_readNumber 80 = .ok (.aload_n 0, 1) := by decide +kernel
theorem dX4_readNumber_81 : decode cX4_readNumber 81 = .ok (.getfield 18, 3) := by decide +kernel
theorem dX4_readNumber_84 : decode cX4_readNumber 84 = .ok (.aload_n 0, 1) := by decide +kernel
theorem dX4_readNumber_85 : decode cX4_readNumber 85 = .ok (.getfield 9, 3) := by decide +kernel
theorem dX4_readNumber_88 : decode cX4_readNumber 88 = .ok (.invokevirtual 30, 3) := by decide +kernel
theorem dX4_readNumber_91 : decode cX4_readNumber 91 = .ok (.iadd, 1) := by decide +kernel
theorem dX4_readNumber_92 : decode cX4_readNumber 92 = .ok (.bipush 48, 2) := by decide +kernel
theorem dX4_readNumber_94 : decode cX4_readNumber 94 = .ok (.isub, 1) := by decide +kernel
theorem dX4_readNumber_95 : decode cX4_readNumber 95 = .ok (.istore 4, 2) := by decide +kernel
theorem dX4_readNumber_97 : decode cX4_readNumber 97 = .ok (.aload_n 0, 1) := by decide +kernel
theorem dX4_readNumber_98 : decode cX4_readNumber 98 = .ok (.dup, 1) := by decide +kernel
theorem dX4_readNumber_99 : decode cX4_readNumber 99 = .ok (.getfield 9, 3) := by decide +kernel
theorem dX4_readNumber_102 : decode cX4_readNumber 102 = .ok (.iconst 1, 1) := by decide +kernel
theorem dX4_readNumber_103 : decode cX4_readNumber 103 = .ok (.iadd, 1) := by decide +kernel
theorem dX4_readNumber_104 : decode cX4_readNumber 104 = .ok (.putfield 9, 3) := by decide +kernel
theorem dX4_readNumber_107 : decode cX4_readNumber 107 = .ok (.goto (-63), 3) := by decide +kernel
theorem dX4_readNumber_110 : decode cX4_readNumber 110 = .ok (.aload_n 0, 1) := by decide +kernel
theorem dX4_readNumber_111 : decode cX4_readNumber 111 = .ok (.getfield 9, 3) := by decide +kernel
theorem dX4_readNumber_114 : decode cX4_readNumber 114 = .ok (.iload_n 3, 1) := by decide +kernel
theorem dX4_readNumber_115 : decode cX4_readNumber 115 = .ok (.if_icmp .eq 13, 3) := by decide +kernel
theorem dX4_readNumber_118 : decode cX4_readNumber 118 = .ok (.iload 4, 2) := by decide +kernel
theorem dX4_readNumber_120 : decode cX4_readNumber 120 = .ok (.iload_n 1, 1) := by decide +kernel
theorem dX4_readNumber_121 : decode cX4_readNumber 121 = .ok (.iload_n 2, 1) := by decide +kernel
theorem dX4_readNumber_122 : decode cX4_readNumber 122 = .ok (.invokestatic 145, 3) := by decide +kernel
theorem dX4_readNumber_125 : decode cX4_readNumber 125 = .ok (.ifCond .ne 10, 3) := by decide +kernel
theorem dX4_readNumber_128 : decode cX4_readNumber 128 = .ok (.aload_n 0, 1) := by decide +kernel
theorem dX4_readNumber_129 : decode cX4_readNumber 129 = .ok (.iload_n 3, 1) := by decide +kernel
theorem dX4_readNumber_130 : decode cX4_readNumber 130 = .ok (.putfield 15, 3) := by decide +kernel
theorem dX4_readNumber_133 : decode cX4_readNumber 133 = .ok (.iconst (-1), 1) := by decide +kernel
theorem dX4_readNumber_134 : decode cX4_readNumber 134 = .ok (.ireturn, 1) := by decide +kernel
theorem dX4_readNumber_135 : decode cX4_readNumber 135 = .ok (.iload 4, 2) := by decide +kernel
theorem dX4_readNumber_137 : decode cX4_readNumber 137 = .ok (.ireturn, 1) := by decide +kernel
theorem dX5_init_0 : decode cX5_init 0 = .ok (.aload_n 0, 1) := by decide +kernel
theorem dX5_init_1 : decode cX5_init 1 = .ok (.invokespecial 3, 3) := by decide +kernel
theorem dX5_init_4 : decode cX5_init 4 = .ok (.aload_n 0, 1) := by decide +kernel
theorem dX5_init_5 : decode cX5_init 5 = .ok (.new 9, 3) := by decide +kernel
theorem dX5_init_8 : decode cX5_init 8 = .ok (.dup, 1) := by decide +kernel
theorem dX5_init_9 : decode cX5_init 9 = .ok (.invokespecial 11, 3) := by decide +kernel
theorem dX5_init_12 : decode cX5_init 12 = .ok (.putfield 12, 3) := by decide +kernel
theorem dX5_init_15 : decode cX5_init 15 = .ok (.aload_n 0, 1) := by decide +kernel
theorem dX5_init_16 : decode cX5_init 16 = .ok (.new 18, 3) := by decide +kernel
theorem dX5_init_19 : decode cX5_init 19 = .ok (.dup, 1) := by decide +kernel
theorem dX5_init_20 : decode cX5_init 20 = .ok (.invokespecial 20, 3) := by decide +kernel
theorem dX5_init_23 : decode cX5_init 23 = .ok (.putfield 21, 3) := by decide +kernel
theorem dX5_init_26 : decode cX5_init 26 = .ok (.aload_n 0, 1) := by decide +kernel
theorem dX5_init_27 : decode cX5_init 27 = .ok (.new 25, 3) := by decide +kernel
theorem dX5_init_30 : decode cX5_init 30 = .ok (.dup, 1) := by decide +kernel
theorem dX5_init_31 : decode cX5_init 31 = .ok (.invokespecial 27, 3) := by decide +kernel
theorem dX5_init_34 : decode cX5_init 34 = .ok (.putfield 28, 3) := by decide +kernel
theorem dX5_init_37 : decode cX5_init 37 = .ok (.aload_n 0, 1) := by decide +kernel
theorem dX5_init_38 : decode cX5_init 38 = .ok (.iconst 4, 1) := by decide +kernel
theorem dX5_init_39 : decode cX5_init 39 = .ok (.newarray .int, 2) := by decide +kernel
theorem dX5_init_41 : decode cX5_init 41 = .ok (.dup, 1) := by decide +kernel
theorem dX5_init_42 : decode cX5_init 42 = .ok (.iconst 0, 1) := by decide +kernel
theorem dX5_init_43 : decode cX5_init 43 = .ok (.sipush 2000, 3) := by decide +kernel
theorem dX5_init_46 : decode cX5_init 46 = .ok (.iastore, 1) := by decide +kernel
theorem dX5_init_47 : decode cX5_init 47 = .ok (.dup, 1) := by decide +kernel
theorem dX5_init_48 : decode cX5_init 48 = .ok (.iconst 1, 1) := by decide +kernel
theorem dX5_init_49 : decode cX5_init 49 = .ok (.iconst 4, 1) := by decide +kernel
theorem dX5_init_50 : decode cX5_init 50 = .ok (.iastore, 1) := by decide +kernel
theorem dX5_init_51 : decode cX5_init 51 = .ok (.dup, 1) := by decide +kernel
theorem dX5_init_52 : decode cX5_init 52 = .ok (.iconst 2, 1) := by decide +kernel
theorem dX5_init_53 : decode cX5_init 53 = .ok (.bipush 20, 2) := by decide +kernel
theorem dX5_init_55 : decode cX5_init 55 = .ok (.iastore, 1) := by decide +kernel
theorem dX5_init_56 : decode cX5_init 56 = .ok (.dup, 1) := by decide +kernel
theorem dX5_init_57 : decode cX5_init 57 = .ok (.iconst 3, 1) := by decide +kernel
theorem dX5_init_58 : decode cX5_init 58 = .ok (.sipush 200, 3) := by decide +kernel
theorem dX5_init_61 : decode cX5_init 61 = .ok (.iastore, 1) := by decide +kernel
theorem dX5_init_62 : decode cX5_init 62 = .ok (.putfield 32, 3) := by decide +kernel
theorem dX5_init_65 : decode cX5_init 65 = .ok (.aload_n 0, 1) := by decide +kernel
theorem dX5_init_66 : decode cX5_init 66 = .ok (.iconst 1, 1) := by decide +kernel
theorem dX5_init_67 : decode cX5_init 67 = .ok (.putfield 36, 3) := by decide +kernel
theorem dX5_init_70 : decode cX5_init 70 = .ok (.return_, 1) := by decide +kernel
theorem dX5_become_0 : decode cX5_become 0 = .ok (.aload_n 0, 1) := by decide +kernel
theorem dX5_become_1 : decode cX5_become 1 = .ok (.getfield 12, 3) := by decide +kernel
theorem dX5_become_4 : decode cX5_become 4 = .ok (.aload_n 1, 1) := by decide +kernel
theorem dX5_become_5 : decode cX5_become 5 = .ok (.getfield 12, 3) := by decide +kernel
theorem dX5_become_8 : decode cX5_become 8 = .ok (.invokevirtual 40, 3) := by decide +kernel
theorem dX5_become_11 : decode cX5_become 11 = .ok (.aload_n 0, 1) := by decide +kernel
theorem dX5_become_12 : decode cX5_become 12 = .ok (.getfield 21, 3) := by decide +kernel
theorem dX5_become_15 : decode cX5_become 15 = .ok (.aload_n 1, 1) := by decide +kernel
theorem dX5_become_16 : decode cX5_become 16 = .ok (.getfield 21, 3) := by decide +kernel
theorem dX5_become_19 : decode cX5_become 19 = .ok (.invokevirtual 44, 3) := by decide +kernel
theorem dX5_become_22 : decode cX5_become 22 = .ok (.aload_n 0, 1) := by decide +kernel
theorem dX5_become_23 : decode cX5_become 23 = .ok (.getfield 28, 3) := by decide +kernel
theorem dX5_become_26 : decode cX5_become 26 = .ok (.aload_n 1, 1) := by decide +kernel
theorem dX5_become_27 : decode cX5_become 27 = .ok (.getfield 28, 3) := by decide +kernel
theorem dX5_become_30 : decode cX5_become 30 = .ok (.invokevirtual 47, 3) := by decide +kernel
theorem dX5_become_33 : decode cX5_become 33 = .ok (.aload_n 1, 1) := by decide +kernel
theorem dX5_become_34 : decode cX5_become 34 = .ok (.getfield 32, 3) := by decide +kernel
theorem dX5_become_37 : decode cX5_become 37 = .ok (.iconst 0, 1) := by decide +kernel
theorem dX5_become_38 : decode cX5_become 38 = .ok (.aload_n 0, 1) := by decide +kernel
theorem dX5_become_39 : decode cX5_become 39 = .ok (.getfield 32, 3) := by decide +kernel
theorem dX5_become_42 : decode cX5_become 42 = .ok (.iconst 0, 1) := by decide +kernel
theorem dX5_become_43 : decode cX5_become 43 = .ok (.iconst 4, 1) := by decide +kernel
theorem dX5_become_44 : decode cX5_become 44 = .ok (.invokestatic 50, 3) := by decide +kernel
theorem dX5_become_47 : decode cX5_become 47 = .ok (.aload_n 0, 1) := by decide +kernel
theorem dX5_become_48 : decode cX5_become 48 = .ok (.aload_n 1, 1) := by decide +kernel
theorem dX5_become_49 : decode cX5_become 49 = .ok (.getfield 36, 3) := by decide +kernel
theorem dX5_become_52 : decode cX5_become 52 = .ok (.putfield 36, 3) := by decide +kernel
theorem dX5_become_55 : decode cX5_become 55 = .ok (.return_, 1) := by decide +kernel
theorem dX5_asked_0 : decode cX5_asked 0 = .ok (.iload_n 1, 1) := by decide +kernel
theorem dX5_asked_1 : decode cX5_asked 1 = .ok (.iconst 0, 1) := by decide +kernel
theorem dX5_asked_2 : decode cX5_asked 2 = .ok (.iconst 3, 1) := by decide +kernel
theorem dX5_asked_3 : decode cX5_asked 3 = .ok (.invokestatic 56, 3) := by decide +kernel
theorem dX5_asked_6 : decode cX5_asked 6 = .ok (.ifCond .eq 12, 3) := by decide +kernel
theorem dX5_asked_9 : decode cX5_asked 9 = .ok (.aload_n 0, 1) := by decide +kernel
theorem dX5_asked_10 : decode cX5_asked 10 = .ok (.getfield 32, 3) := by decide +kernel
theorem dX5_asked_13 : decode cX5_asked 13 = .ok (.iload_n 1, 1) := by decide +kernel
theorem dX5_asked_14 : decode cX5_asked 14 = .ok (.iaload, 1) := by decide +kernel
theorem dX5_asked_15 : decode cX5_asked 15 = .ok (.goto 4, 3) := by decide +kernel
theorem dX5_asked_18 : decode cX5_asked 18 = .ok (.iconst 0, 1) := by decide +kernel
theorem dX5_asked_19 : decode cX5_asked 19 = .ok (.ireturn, 1) := by decide +kernel
theorem dX5_demand_0 : decode cX5_demand 0 = .ok (.iload_n 1, 1) := by decide +kernel
theorem dX5_demand_1 : decode cX5_demand 1 = .ok (.iload_n 2, 1) := by decide +kernel
theorem dX5_demand_2 : decode cX5_demand 2 = .ok (.invokestatic 60, 3) := by decide +kernel
theorem dX5_demand_5 : decode cX5_demand 5 = .ok (.ifCond .eq 10, 3) := by decide +kernel
theorem dX5_demand_8 : decode cX5_demand 8 = .ok (.aload_n 0, 1) := by decide +kernel
theorem dX5_demand_9 : decode cX5_demand 9 = .ok (.getfield 32, 3) := by decide +kernel
theorem dX5_demand_12 : decode cX5_demand 12 = .ok (.iload_n 1, 1) := by decide +kernel
theorem dX5_demand_13 : decode cX5_demand 13 = .ok (.iload_n 2, 1) := by decide +kernel
theorem dX5_demand_14 : decode cX5_demand 14 = .ok (.iastore, 1) := by decide +kernel
theorem dX5_demand_15 : decode cX5_demand 15 = .ok (.return_, 1) := by decide +kernel
theorem dX5_seedNow_0 : decode cX5_seedNow 0 = .ok (.aload_n 0, 1) := by decide +kernel
theorem dX5_seedNow_1 : decode cX5_seedNow 1 = .ok (.getfield 36, 3) := by decide +kernel
theorem dX5_seedNow_4 : decode cX5_seedNow 4 = .ok (.ireturn, 1) := by decide +kernel
theorem dX5_seedAnew_0 : decode cX5_seedAnew 0 = .ok (.aload_n 0, 1) := by decide +kernel
theorem dX5_seedAnew_1 : decode cX5_seedAnew 1 = .ok (.iload_n 1, 1) := by decide +kernel
theorem dX5_seedAnew_2 : decode cX5_seedAnew 2 = .ok (.putfield 36, 3) := by decide +kernel
theorem dX5_seedAnew_5 : decode cX5_seedAnew 5 = .ok (.return_, 1) := by decide +kernel
theorem dX5_draw_0 : decode cX5_draw 0 = .ok (.aload_n 0, 1) := by decide +kernel
theorem dX5_draw_1 : decode cX5_draw 1 = .ok (.aload_n 0, 1) := by decide +kernel
theorem dX5_draw_2 : decode cX5_draw 2 = .ok (.getfield 36, 3) := by decide +kernel
theorem dX5_draw_5 : decode cX5_draw 5 = .ok (.ldc 64, 2) := by decide +kernel
theorem dX5_draw_7 : decode cX5_draw 7 = .ok (.imul, 1) := by decide +kernel
theorem dX5_draw_8 : decode cX5_draw 8 = .ok (.sipush 12345, 3) := by decide +kernel
theorem dX5_draw_11 : decode cX5_draw 11 = .ok (.iadd, 1) := by decide +kernel
theorem dX5_draw_12 : decode cX5_draw 12 = .ok (.putfield 36, 3) := by decide +kernel
theorem dX5_draw_15 : decode cX5_draw 15 = .ok (.iload_n 1, 1) := by decide +kernel
theorem dX5_draw_16 : decode cX5_draw 16 = .ok (.ifCond .gt 7, 3) := by decide +kernel
theorem dX5_draw_19 : decode cX5_draw 19 = .ok (.iconst 0, 1) := by decide +kernel
theorem dX5_draw_20 : decode cX5_draw 20 = .ok (.goto 12, 3) := by decide +kernel
theorem dX5_draw_23 : decode cX5_draw 23 = .ok (.aload_n 0, 1) := by decide +kernel
theorem dX5_draw_24 : decode cX5_draw 24 = .ok (.getfield 36, 3) := by decide +kernel
theorem dX5_draw_27 : decode cX5_draw 27 = .ok (.bipush 16, 2) := by decide +kernel
theorem dX5_draw_29 : decode cX5_draw 29 = .ok (.iushr, 1) := by decide +kernel
theorem dX5_draw_30 : decode cX5_draw 30 = .ok (.iload_n 1, 1) := by decide +kernel
theorem dX5_draw_31 : decode cX5_draw 31 = .ok (.irem, 1) := by decide +kernel
theorem dX5_draw_32 : decode cX5_draw 32 = .ok (.ireturn, 1) := by decide +kernel
theorem dX5_offOfNote_0 : decode cX5_offOfNote 0 = .ok (.aload_n 0, 1) := by decide +kernel
theorem dX5_offOfNote_1 : decode cX5_offOfNote 1 = .ok (.getfield 12, 3) := by decide +kernel
theorem dX5_offOfNote_4 : decode cX5_offOfNote 4 = .ok (.iload_n 3, 1) := by decide +kernel
theorem dX5_offOfNote_5 : decode cX5_offOfNote 5 = .ok (.invokevirtual 65, 3) := by decide +kernel
theorem dX5_offOfNote_8 : decode cX5_offOfNote 8 = .ok (.ifCond .ne 7, 3) := by decide +kernel
theorem dX5_offOfNote_11 : decode cX5_offOfNote 11 = .ok (.sipush 999, 3) := by decide +kernel
theorem dX5_offOfNote_14 : decode cX5_offOfNote 14 = .ok (.ireturn, 1) := by decide +kernel
theorem dX5_offOfNote_15 : decode cX5_offOfNote 15 = .ok (.aload_n 0, 1) := by decide +kernel
theorem dX5_offOfNote_16 : decode cX5_offOfNote 16 = .ok (.getfield 12, 3) := by decide +kernel
theorem dX5_offOfNote_19 : decode cX5_offOfNote 19 = .ok (.iload_n 3, 1) := by decide +kernel
theorem dX5_offOfNote_20 : decode cX5_offOfNote 20 = .ok (.aload_n 0, 1) := by decide +kernel
theorem dX5_offOfNote_21 : decode cX5_offOfNote 21 = .ok (.getfield 21, 3) := by decide +kernel
theorem dX5_offOfNote_24 : decode cX5_offOfNote 24 = .ok (.iload_n 1, 1) := by decide +kernel
theorem dX5_offOfNote_25 : decode cX5_offOfNote 25 = .ok (.invokevirtual 69, 3) := by decide +kernel
theorem dX5_offOfNote_28 : decode cX5_offOfNote 28 = .ok (.invokevirtual 73, 3) := by decide +kernel
theorem dX5_offOfNote_31 : decode cX5_offOfNote 31 = .ok (.istore 4, 2) := by decide +kernel
theorem dX5_offOfNote_33 : decode cX5_offOfNote 33 = .ok (.iload 4, 2) := by decide +kernel
theorem dX5_offOfNote_35 : decode cX5_offOfNote 35 = .ok (.aload_n 0, 1) := by decide +kernel
theorem dX5_offOfNote_36 : decode cX5_offOfNote 36 = .ok (.getfield 28, 3) := by decide +kernel
theorem dX5_offOfNote_39 : decode cX5_offOfNote 39 = .ok (.iload_n 2, 1) := by decide +kernel
theorem dX5_offOfNote_40 : decode cX5_offOfNote 40 = .ok (.iload_n 3, 1) := by decide +kernel
theorem dX5_offOfNote_41 : decode cX5_offOfNote 41 = .ok (.invokevirtual 77, 3) := by decide +kernel
theorem dX5_offOfNote_44 : decode cX5_offOfNote 44 = .ok (.invokestatic 80, 3) := by decide +kernel
theorem dX5_offOfNote_47 : decode cX5_offOfNote 47 = .ok (.ireturn, 1) := by decide +kernel
theorem dX5_worstOf_0 : decode cX5_worstOf 0 = .ok (.iconst 0, 1) := by decide +kernel
theorem dX5_worstOf_1 : decode cX5_worstOf 1 = .ok (.istore_n 3, 1) := by decide +kernel
theorem dX5_worstOf_2 : decode cX5_worstOf 2 = .ok (.iconst 0, 1) := by decide +kernel
theorem dX5_worstOf_3 : decode cX5_worstOf 3 = .ok (.istore 4, 2) := by decide +kernel
theorem dX5_worstOf_5 : decode cX5_worstOf 5 = .ok (.iload 4, 2) := by decide +kernel
theorem dX5_worstOf_7 : decode cX5_worstOf 7 = .ok (.aload_n 0, 1) := by decide +kernel
theorem dX5_worstOf_8 : decode cX5_worstOf 8 = .ok (.getfield 28, 3) := by decide +kernel
theorem dX5_worstOf_11 : decode cX5_worstOf 11 = .ok (.iload_n 2, 1) := by decide +kernel
theorem dX5_worstOf_12 : decode cX5_worstOf 12 = .ok (.invokevirtual 83, 3) := by decide +kernel
theorem dX5_worstOf_15 : decode cX5_worstOf 15 = .ok (.if_icmp .ge 22, 3) := by decide +kernel
theorem dX5_worstOf_18 : decode cX5_worstOf 18 = .ok (.iload_n 3, 1) := by decide +kernel
theorem dX5_worstOf_19 : decode cX5_worstOf 19 = .ok (.aload_n 0, 1) := by decide +kernel
theorem dX5_worstOf_20 : decode cX5_worstOf 20 = .ok (.iload_n 1, 1) := by decide +kernel
theorem dX5_worstOf_21 : decode cX5_worstOf 21 = .ok (.iload_n 2, 1) := by decide +kernel
theorem dX5_worstOf_22 : decode cX5_worstOf 22 = .ok (.iload 4, 2) := by decide +kernel
theorem dX5_worstOf_24 : decode cX5_worstOf 24 = .ok (.invokevirtual 86, 3) := by decide +kernel
theorem dX5_worstOf_27 : decode cX5_worstOf 27 = .ok (.invokestatic 90, 3) := by decide +kernel
theorem dX5_worstOf_30 : decode cX5_worstOf 30 = .ok (.istore_n 3, 1) := by decide +kernel
theorem dX5_worstOf_31 : decode cX5_worstOf 31 = .ok (.iinc 4 1, 3) := by decide +kernel
theorem dX5_worstOf_34 : decode cX5_worstOf 34 = .ok (.goto (-29), 3) := by decide +kernel
theorem dX5_worstOf_37 : decode cX5_worstOf 37 = .ok (.iload_n 3, 1) := by decide +kernel
theorem dX5_worstOf_38 : decode cX5_worstOf 38 = .ok (.ireturn, 1) := by decide +kernel
theorem dX5_latenessOf_0 : decode cX5_latenessOf 0 = .ok (.iconst 0, 1) := by decide +kernel
theorem dX5_latenessOf_1 : decode cX5_latenessOf 1 = .ok (.istore_n 3, 1) := by decide +kernel
theorem dX5_latenessOf_2 : decode cX5_latenessOf 2 = .ok (.iconst 0, 1) := by decide +kernel
theorem dX5_latenessOf_3 : decode cX5_latenessOf 3 = .ok (.istore 4, 2) := by decide +kernel
theorem dX5_latenessOf_5 : decode cX5_latenessOf 5 = .ok (.iconst 0, 1) := by decide +kernel
theorem dX5_latenessOf_6 : decode cX5_latenessOf 6 = .ok (.istore 5, 2) := by decide +kernel
theorem dX5_latenessOf_8 : decode cX5_latenessOf 8 = .ok (.iconst 0, 1) := by decide +kernel
theorem dX5_latenessOf_9 : decode cX5_latenessOf 9 = .ok (.istore 6, 2) := by decide +kernel
theorem dX5_latenessOf_11 : decode cX5_latenessOf 11 = .ok (.iload 6, 2) := by decide +kernel
theorem dX5_latenessOf_13 : decode cX5_latenessOf 13 = .ok (.aload_n 0, 1) := by decide +kernel
theorem dX5_latenessOf_14 : decode cX5_latenessOf 14 = .ok (.getfield 28, 3) := by decide +kernel
theorem dX5_latenessOf_17 : decode cX5_latenessOf 17 = .ok (.iload_n 2, 1) := by decide +kernel
theorem dX5_latenessOf_18 : decode cX5_latenessOf 18 = .ok (.invokevirtual 83, 3) := by decide +kernel
theorem dX5_latenessOf_21 : decode cX5_latenessOf 21 = .ok (.if_icmp .ge 65, 3) := by decide +kernel
theorem dX5_latenessOf_24 : decode cX5_latenessOf 24 = .ok (.iload_n 3, 1) := by decide +kernel
theorem dX5_latenessOf_25 : decode cX5_latenessOf 25 = .ok (.iload 4, 2) := by decide +kernel
theorem dX5_latenessOf_27 : decode cX5_latenessOf 27 = .ok (.iload 5, 2) := by decide +kernel
theorem dX5_latenessOf_29 : decode cX5_latenessOf 29 = .ok (.isub, 1) := by decide +kernel
theorem dX5_latenessOf_30 : decode cX5_latenessOf 30 = .ok (.invokestatic 95, 3) := by decide +kernel
theorem dX5_latenessOf_33 : decode cX5_latenessOf 33 = .ok (.invokestatic 90, 3) := by decide +kernel
theorem dX5_latenessOf_36 : decode cX5_latenessOf 36 = .ok (.istore_n 3, 1) := by decide +kernel
theorem dX5_latenessOf_37 : decode cX5_latenessOf 37 = .ok (.iload 4, 2) := by decide +kernel
theorem dX5_latenessOf_39 : decode cX5_latenessOf 39 = .ok (.aload_n 0, 1) := by decide +kernel
theorem dX5_latenessOf_40 : decode cX5_latenessOf 40 = .ok (.getfield 12, 3) := by decide +kernel
theorem dX5_latenessOf_43 : decode cX5_latenessOf 43 = .ok (.iload 6, 2) := by decide +kernel
theorem dX5_latenessOf_45 : decode cX5_latenessOf 45 = .ok (.aload_n 0, 1) := by decide +kernel
theorem dX5_latenessOf_46 : decode cX5_latenessOf 46 = .ok (.getfield 21, 3) := by decide +kernel
theorem dX5_latenessOf_49 : decode cX5_latenessOf 49 = .ok (.iload_n 1, 1) := by decide +kernel
theorem dX5_latenessOf_50 : decode cX5_latenessOf 50 = .ok (.invokevirtual 69, 3) := by decide +kernel
theorem dX5_latenessOf_53 : decode cX5_latenessOf 53 = .ok (.invokevirtual 98, 3) := by decide +kernel
theorem dX5_latenessOf_56 : decode cX5_latenessOf 56 = .ok (.iadd, 1) := by decide +kernel
theorem dX5_latenessOf_57 : decode cX5_latenessOf 57 = .ok (.istore 4, 2) := by decide +kernel
theorem dX5_latenessOf_59 : decode cX5_latenessOf 59 = .ok (.iload 5, 2) := by decide +kernel
theorem dX5_latenessOf_61 : decode cX5_latenessOf 61 = .ok (.aload_n 0, 1) := by decide +kernel
theorem dX5_latenessOf_62 : decode cX5_latenessOf 62 = .ok (.getfield 28, 3) := by decide +kernel
theorem dX5_latenessOf_65 : decode cX5_latenessOf 65 = .ok (.iload_n 2, 1) := by decide +kernel
theorem dX5_latenessOf_66 : decode cX5_latenessOf 66 = .ok (.iload 6, 2) := by decide +kernel
theorem dX5_latenessOf_68 : decode cX5_latenessOf 68 = .ok (.invokevirtual 101, 3) := by decide +kernel
theorem dX5_latenessOf_71 : decode cX5_latenessOf 71 = .ok (.aload_n 0, 1) := by decide +kernel
theorem dX5_latenessOf_72 : decode cX5_latenessOf 72 = .ok (.iconst 3, 1) := by decide +kernel
theorem dX5_latenessOf_73 : decode cX5_latenessOf 73 = .ok (.invokevirtual 104, 3) := by decide +kernel
theorem dX5_latenessOf_76 : decode cX5_latenessOf 76 = .ok (.imul, 1) := by decide +kernel
theorem dX5_latenessOf_77 : decode cX5_latenessOf 77 = .ok (.iadd, 1) := by decide +kernel
theorem dX5_latenessOf_78 : decode cX5_latenessOf 78 = .ok (.istore 5, 2) := by decide +kernel
theorem dX5_latenessOf_80 : decode cX5_latenessOf 80 = .ok (.iinc 6 1, 3) := by decide +kernel
theorem dX5_latenessOf_83 : decode cX5_latenessOf 83 = .ok (.goto (-72), 3) := by decide +kernel
theorem dX5_latenessOf_86 : decode cX5_latenessOf 86 = .ok (.iload_n 3, 1) := by decide +kernel
theorem dX5_latenessOf_87 : decode cX5_latenessOf 87 = .ok (.ireturn, 1) := by decide +kernel
theorem dX5_isHeardBy_0 : decode cX5_isHeardBy 0 = .ok (.aload_n 0, 1) := by decide +kernel
theorem dX5_isHeardBy_1 : decode cX5_isHeardBy 1 = .ok (.iload_n 1, 1) := by decide +kernel
theorem dX5_isHeardBy_2 : decode cX5_isHeardBy 2 = .ok (.iload_n 2, 1) := by decide +kernel
theorem dX5_isHeardBy_3 : decode cX5_isHeardBy 3 = .ok (.invokevirtual 107, 3) := by decide +kernel
theorem dX5_isHeardBy_6 : decode cX5_isHeardBy 6 = .ok (.aload_n 0, 1) := by decide +kernel
theorem dX5_isHeardBy_7 : decode cX5_isHeardBy 7 = .ok (.iconst 2, 1) := by decide +kernel
theorem dX5_isHeardBy_8 : decode cX5_isHeardBy 8 = .ok (.invokevirtual 104, 3) := by decide +kernel
theorem dX5_isHeardBy_11 : decode cX5_isHeardBy 11 = .ok (.if_icmp .gt 7, 3) := by decide +kernel
theorem dX5_isHeardBy_14 : decode cX5_isHeardBy 14 = .ok (.iconst 1, 1) := by decide +kernel
theorem dX5_isHeardBy_15 : decode cX5_isHeardBy 15 = .ok (.goto 4, 3) := by decide +kernel
theorem dX5_isHeardBy_18 : decode cX5_isHeardBy 18 = .ok (.iconst 0, 1) := by decide +kernel
theorem dX5_isHeardBy_19 : decode cX5_isHeardBy 19 = .ok (.ireturn, 1) := by decide +kernel
theorem dX5_hearingCars_0 : decode cX5_hearingCars 0 = .ok (.iconst 0, 1) := by decide +kernel
theorem dX5_hearingCars_1 : decode cX5_hearingCars 1 = .ok (.istore_n 2, 1) := by decide +kernel
theorem dX5_hearingCars_2 : decode cX5_hearingCars 2 = .ok (.iconst 0, 1) := by decide +kernel
theorem dX5_hearingCars_3 : decode cX5_hearingCars 3 = .ok (.istore_n 3, 1) := by decide +kernel
theorem dX5_hearingCars_4 : decode cX5_hearingCars 4 = .ok (.iload_n 3, 1) := by decide +kernel
theorem dX5_hearingCars_5 : decode cX5_hearingCars 5 = .ok (.aload_n 0, 1) := by decide +kernel
theorem dX5_hearingCars_6 : decode cX5_hearingCars 6 = .ok (.getfield 21, 3) := by decide +kernel
theorem dX5_hearingCars_9 : decode cX5_hearingCars 9 = .ok (.invokevirtual 110, 3) := by decide +kernel
theorem dX5_hearingCars_12 : decode cX5_hearingCars 12 = .ok (.if_icmp .ge 29, 3) := by decide +kernel
theorem dX5_hearingCars_15 : decode cX5_hearingCars 15 = .ok (.aload_n 0, 1) := by decide +kernel
theorem dX5_hearingCars_16 : decode cX5_hearingCars 16 = .ok (.iload_n 3, 1) := by decide +kernel
theorem dX5_hearingCars_17 : decode cX5_hearingCars 17 = .ok (.iload_n 1, 1) := by decide +kernel
theorem dX5_hearingCars_18 : decode cX5_hearingCars 18 = .ok (.invokevirtual 107, 3) := by decide +kernel
theorem dX5_hearingCars_21 : decode cX5_hearingCars 21 = .ok (.aload_n 0, 1) := by decide +kernel
theorem dX5_hearingCars_22 : decode cX5_hearingCars 22 = .ok (.iconst 2, 1) := by decide +kernel
theorem dX5_hearingCars_23 : decode cX5_hearingCars 23 = .ok (.invokevirtual 104, 3) := by decide +kernel
theorem dX5_hearingCars_26 : decode cX5_hearingCars 26 = .ok (.if_icmp .gt 9, 3) := by decide +kernel
theorem dX5_hearingCars_29 : decode cX5_hearingCars 29 = .ok (.iload_n 2, 1) := by decide +kernel
theorem dX5_hearingCars_30 : decode cX5_hearingCars 30 = .ok (.iconst 1, 1) := by decide +kernel
theorem dX5_hearingCars_31 : decode cX5_hearingCars 31 = .ok (.iload_n 3, 1) := by decide +kernel
theorem dX5_hearingCars_32 : decode cX5_hearingCars 32 = .ok (.ishl, 1) := by decide +kernel
theorem dX5_hearingCars_33 : decode cX5_hearingCars 33 = .ok (.ior, 1) := by decide +kernel
theorem dX5_hearingCars_34 : decode cX5_hearingCars 34 = .ok (.istore_n 2, 1) := by decide +kernel
theorem dX5_hearingCars_35 : decode cX5_hearingCars 35 = .ok (.iinc 3 1, 3) := by decide +kernel
theorem dX5_hearingCars_38 : decode cX5_hearingCars 38 = .ok (.goto (-34), 3) := by decide +kernel
theorem dX5_hearingCars_41 : decode cX5_hearingCars 41 = .ok (.iload_n 2, 1) := by decide +kernel
theorem dX5_hearingCars_42 : decode cX5_hearingCars 42 = .ok (.ireturn, 1) := by decide +kernel
theorem dX5_firstTooNear_0 : decode cX5_firstTooNear 0 = .ok (.iconst 0, 1) := by decide +kernel
theorem dX5_firstTooNear_1 : decode cX5_firstTooNear 1 = .ok (.istore_n 1, 1) := by decide +kernel
theorem dX5_firstTooNear_2 : decode cX5_firstTooNear 2 = .ok (.iload_n 1, 1) := by decide +kernel
theorem dX5_firstTooNear_3 : decode cX5_firstTooNear 3 = .ok (.aload_n 0, 1) := by decide +kernel
theorem dX5_firstTooNear_4 : decode cX5_firstTooNear 4 = .ok (.getfield 12, 3) := by decide +kernel
theorem dX5_firstTooNear_7 : decode cX5_firstTooNear 7 = .ok (.invokevirtual 114, 3) := by decide +kernel
theorem dX5_firstTooNear_10 : decode cX5_firstTooNear 10 = .ok (.if_icmp .ge 27, 3) := by decide +kernel
theorem dX5_firstTooNear_13 : decode cX5_firstTooNear 13 = .ok (.aload_n 0, 1) := by decide +kernel
theorem dX5_firstTooNear_14 : decode cX5_firstTooNear 14 = .ok (.getfield 12, 3) := by decide +kernel
theorem dX5_firstTooNear_17 : decode cX5_firstTooNear 17 = .ok (.iload_n 1, 1) := by decide +kernel
theorem dX5_firstTooNear_18 : decode cX5_firstTooNear 18 = .ok (.aload_n 0, 1) := by decide +kernel
theorem dX5_firstTooNear_19 : decode cX5_firstTooNear 19 = .ok (.iconst 1, 1) := by decide +kernel
theorem dX5_firstTooNear_20 : decode cX5_firstTooNear 20 = .ok (.invokevirtual 104, 3) := by decide +kernel
theorem dX5_firstTooNear_23 : decode cX5_firstTooNear 23 = .ok (.invokevirtual 115, 3) := by decide +kernel
theorem dX5_firstTooNear_26 : decode cX5_firstTooNear 26 = .ok (.ifCond .eq 5, 3) := by decide +kernel
theorem dX5_firstTooNear_29 : decode cX5_firstTooNear 29 = .ok (.iload_n 1, 1) := by decide +kernel
theorem dX5_firstTooNear_30 : decode cX5_firstTooNear 30 = .ok (.ireturn, 1) := by decide +kernel
theorem dX5_firstTooNear_31 : decode cX5_firstTooNear 31 = .ok (.iinc 1 1, 3) := by decide +kernel
theorem dX5_firstTooNear_34 : decode cX5_firstTooNear 34 = .ok (.goto (-32), 3) := by decide +kernel
theorem dX5_firstTooNear_37 : decode cX5_firstTooNear 37 = .ok (.iconst (-1), 1) := by decide +kernel
theorem dX5_firstTooNear_38 : decode cX5_firstTooNear 38 = .ok (.ireturn, 1) := by decide +kernel
theorem dX5_firstTooFar_0 : decode cX5_firstTooFar 0 = .ok (.iconst 0, 1) := by decide +kernel
theorem dX5_firstTooFar_1 : decode cX5_firstTooFar 1 = .ok (.istore_n 1, 1) := by decide +kernel
theorem dX5_firstTooFar_2 : decode cX5_firstTooFar 2 = .ok (.iconst 0, 1) := by decide +kernel
theorem dX5_firstTooFar_3 : decode cX5_firstTooFar 3 = .ok (.istore_n 2, 1) := by decide +kernel
theorem dX5_firstTooFar_4 : decode cX5_firstTooFar 4 = .ok (.iload_n 2, 1) := by decide +kernel
theorem dX5_firstTooFar_5 : decode cX5_firstTooFar 5 = .ok (.aload_n 0, 1) := by decide +kernel
theorem dX5_firstTooFar_6 : decode cX5_firstTooFar 6 = .ok (.getfield 12, 3) := by decide +kernel
theorem dX5_firstTooFar_9 : decode cX5_firstTooFar 9 = .ok (.invokevirtual 114, 3) := by decide +kernel
theorem dX5_firstTooFar_12 : decode cX5_firstTooFar 12 = .ok (.if_icmp .ge 31, 3) := by decide +kernel
theorem dX5_firstTooFar_15 : decode cX5_firstTooFar 15 = .ok (.iload_n 1, 1) := by decide +kernel
theorem dX5_firstTooFar_16 : decode cX5_firstTooFar 16 = .ok (.aload_n 0, 1) := by decide +kernel
theorem dX5_firstTooFar_17 : decode cX5_firstTooFar 17 = .ok (.getfield 12, 3) := by decide +kernel
theorem dX5_firstTooFar_20 : decode cX5_firstTooFar 20 = .ok (.iload_n 2, 1) := by decide +kernel
theorem dX5_firstTooFar_21 : decode cX5_firstTooFar 21 = .ok (.invokevirtual 118, 3) := by decide +kernel
theorem dX5_firstTooFar_24 : decode cX5_firstTooFar 24 = .ok (.iadd, 1) := by decide +kernel
theorem dX5_firstTooFar_25 : decode cX5_firstTooFar 25 = .ok (.istore_n 1, 1) := by decide +kernel
theorem dX5_firstTooFar_26 : decode cX5_firstTooFar 26 = .ok (.iload_n 1, 1) := by decide +kernel
theorem dX5_firstTooFar_27 : decode cX5_firstTooFar 27 = .ok (.aload_n 0, 1) := by decide +kernel
theorem dX5_firstTooFar_28 : decode cX5_firstTooFar 28 = .ok (.iconst 0, 1) := by decide +kernel
theorem dX5_firstTooFar_29 : decode cX5_firstTooFar 29 = .ok (.invokevirtual 104, 3) := by decide +kernel
theorem dX5_firstTooFar_32 : decode cX5_firstTooFar 32 = .ok (.if_icmp .le 5, 3) := by decide +kernel
theorem dX5_firstTooFar_35 : decode cX5_firstTooFar 35 = .ok (.iload_n 2, 1) := by decide +kernel
theorem dX5_firstTooFar_36 : decode cX5_firstTooFar 36 = .ok (.ireturn, 1) := by decide +kernel
theorem dX5_firstTooFar_37 : decode cX5_firstTooFar 37 = .ok (.iinc 2 1, 3) := by decide +kernel
theorem dX5_firstTooFar_40 : decode cX5_firstTooFar 40 = .ok (.goto (-36), 3) := by decide +kernel
theorem dX5_firstTooFar_43 : decode cX5_firstTooFar 43 = .ok (.iconst (-1), 1) := by decide +kernel
theorem dX5_firstTooFar_44 : decode cX5_firstTooFar 44 = .ok (.ireturn, 1) := by decide +kernel
theorem dX6_init_0 : decode cX6_init 0 = .ok (.aload_n 0, 1) := by decide +kernel
theorem dX6_init_1 : decode cX6_init 1 = .ok (.invokespecial 3, 3) := by decide +kernel
theorem dX6_init_4 : decode cX6_init 4 = .ok (.aload_n 0, 1) := by decide +kernel
theorem dX6_init_5 : decode cX6_init 5 = .ok (.sipush 160, 3) := by decide +kernel
theorem dX6_init_8 : decode cX6_init 8 = .ok (.newarray .long, 2) := by decide +kernel
theorem dX6_init_10 : decode cX6_init 10 = .ok (.putfield 9, 3) := by decide +kernel
theorem dX6_init_13 : decode cX6_init 13 = .ok (.aload_n 0, 1) := by decide +kernel
theorem dX6_init_14 : decode cX6_init 14 = .ok (.iconst 0, 1) := by decide +kernel
theorem dX6_init_15 : decode cX6_init 15 = .ok (.putfield 15, 3) := by decide +kernel
theorem dX6_init_18 : decode cX6_init 18 = .ok (.aload_n 0, 1) := by decide +kernel
theorem dX6_init_19 : decode cX6_init 19 = .ok (.iconst 0, 1) := by decide +kernel
theorem dX6_init_20 : decode cX6_init 20 = .ok (.putfield 19, 3) := by decide +kernel
theorem dX6_init_23 : decode cX6_init 23 = .ok (.aload_n 0, 1) := by decide +kernel
theorem dX6_init_24 : decode cX6_init 24 = .ok (.iconst 0, 1) := by decide +kernel
theorem dX6_init_25 : decode cX6_init 25 = .ok (.putfield 22, 3) := by decide +kernel
theorem dX6_init_28 : decode cX6_init 28 = .ok (.aload_n 0, 1) := by decide +kernel
theorem dX6_init_29 : decode cX6_init 29 = .ok (.iconst (-1), 1) := by decide +kernel
theorem dX6_init_30 : decode cX6_init 30 = .ok (.putfield 25, 3) := by decide +kernel
theorem dX6_init_33 : decode cX6_init 33 = .ok (.return_, 1) := by decide +kernel
theorem dX6_holdsRow_0 : decode cX6_holdsRow 0 = .ok (.aload_n 0, 1) := by decide +kernel
theorem dX6_holdsRow_1 : decode cX6_holdsRow 1 = .ok (.getfield 15, 3) := by decide +kernel
theorem dX6_holdsRow_4 : decode cX6_holdsRow 4 = .ok (.iconst 1, 1) := by decide +kernel
theorem dX6_holdsRow_5 : decode cX6_holdsRow 5 = .ok (.if_icmp .ne 7, 3) := by decide +kernel
theorem dX6_holdsRow_8 : decode cX6_holdsRow 8 = .ok (.iconst 1, 1) := by decide +kernel
theorem dX6_holdsRow_9 : decode cX6_holdsRow 9 = .ok (.goto 4, 3) := by decide +kernel
theorem dX6_holdsRow_12 : decode cX6_holdsRow 12 = .ok (.iconst 0, 1) := by decide +kernel
theorem dX6_holdsRow_13 : decode cX6_holdsRow 13 = .ok (.ireturn, 1) := by decide +kernel
theorem dX6_holdsStretch_0 : decode cX6_holdsStretch 0 = .ok (.aload_n 0, 1) := by decide +kernel
theorem dX6_holdsStretch_1 : decode cX6_holdsStretch 1 = .ok (.getfield 15, 3) := by decide +kernel
theorem dX6_holdsStretch_4 : decode cX6_holdsStretch 4 = .ok (.iconst 2, 1) := by decide +kernel
theorem dX6_holdsStretch_5 : decode cX6_holdsStretch 5 = .ok (.if_icmp .ne 7, 3) := by decide +kernel
theorem dX6_holdsStretch_8 : decode cX6_holdsStretch 8 = .ok (.iconst 1, 1) := by decide +kernel
theorem dX6_holdsStretch_9 : decode cX6_holdsStretch 9 = .ok (.goto 4, 3) := by decide +kernel
theorem dX6_holdsStretch_12 : decode cX6_holdsStretch 12 = .ok (.iconst 0, 1) := by decide +kernel
theorem dX6_holdsStretch_13 : decode cX6_holdsStretch 13 = .ok (.ireturn, 1) := by decide +kernel
theorem dX6_whatIsHeld_0 : decode cX6_whatIsHeld 0 = .ok (.aload_n 0, 1) := by decide +kernel
theorem dX6_whatIsHeld_1 : decode cX6_whatIsHeld 1 = .ok (.invokevirtual 28, 3) := by decide +kernel
theorem dX6_whatIsHeld_4 : decode cX6_whatIsHeld 4 = .ok (.ifCond .eq 11, 3) := by decide +kernel
theorem dX6_whatIsHeld_7 : decode cX6_whatIsHeld 7 = .ok (.bipush 100, 2) := by decide +kernel
theorem dX6_whatIsHeld_9 : decode cX6_whatIsHeld 9 = .ok (.aload_n 0, 1) := by decide +kernel
theorem dX6_whatIsHeld_10 : decode cX6_whatIsHeld 10 = .ok (.getfield 19, 3) := by decide +kernel
theorem dX6_whatIsHeld_13 : decode cX6_whatIsHeld 13 = .ok (.iadd, 1) := by decide +kernel
theorem dX6_whatIsHeld_14 : decode cX6_whatIsHeld 14 = .ok (.ireturn, 1) := by decide +kernel
theorem dX6_whatIsHeld_15 : decode cX6_whatIsHeld 15 = .ok (.aload_n 0, 1) := by decide +kernel
theorem dX6_whatIsHeld_16 : decode cX6_whatIsHeld 16 = .ok (.invokevirtual 32, 3) := by decide +kernel
theorem dX6_whatIsHeld_19 : decode cX6_whatIsHeld 19 = .ok (.ifCond .eq 10, 3) := by decide +kernel
theorem dX6_whatIsHeld_22 : decode cX6_whatIsHeld 22 = .ok (.aload_n 0, 1) := by decide +kernel
theorem dX6_whatIsHeld_23 : decode cX6_whatIsHeld 23 = .ok (.getfield 25, 3) := by decide +kernel
theorem dX6_whatIsHeld_26 : decode cX6_whatIsHeld 26 = .ok (.goto 4, 3) := by decide +kernel
theorem dX6_whatIsHeld_29 : decode cX6_whatIsHeld 29 = .ok (.iconst (-1), 1) := by decide +kernel
theorem dX6_whatIsHeld_30 : decode cX6_whatIsHeld 30 = .ok (.ireturn, 1) := by decide +kernel
theorem dX6_stretchHeld_0 : decode cX6_stretchHeld 0 = .ok (.aload_n 0, 1) := by decide +kernel
theorem dX6_stretchHeld_1 : decode cX6_stretchHeld 1 = .ok (.invokevirtual 32, 3) := by decide +kernel
theorem dX6_stretchHeld_4 : decode cX6_stretchHeld 4 = .ok (.ifCond .eq 10, 3) := by decide +kernel
theorem dX6_stretchHeld_7 : decode cX6_stretchHeld 7 = .ok (.aload_n 0, 1) := by decide +kernel
theorem dX6_stretchHeld_8 : decode cX6_stretchHeld 8 = .ok (.getfield 25, 3) := by decide +kernel
theorem dX6_stretchHeld_11 : decode cX6_stretchHeld 11 = .ok (.goto 4, 3) := by decide +kernel
theorem dX6_stretchHeld_14 : decode cX6_stretchHeld 14 = .ok (.iconst (-1), 1) := by decide +kernel
theorem dX6_stretchHeld_15 : decode cX6_stretchHeld 15 = .ok (.ireturn, 1) := by decide +kernel
theorem dX6_size_0 : decode cX6_size 0 = .ok (.aload_n 0, 1) := by decide +kernel
theorem dX6_size_1 : decode cX6_size 1 = .ok (.getfield 22, 3) := by decide +kernel
theorem dX6_size_4 : decode cX6_size 4 = .ok (.ireturn, 1) := by decide +kernel
theorem dX6_isRowUnlike_0 : decode cX6_isRowUnlike 0 = .ok (.aload_n 0, 1) := by decide +kernel
theorem dX6_isRowUnlike_1 : decode cX6_isRowUnlike 1 = .ok (.invokevirtual 28, 3) := by decide +kernel
theorem dX6_isRowUnlike_4 : decode cX6_isRowUnlike 4 = .ok (.ifCond .eq 25, 3) := by decide +kernel
theorem dX6_isRowUnlike_7 : decode cX6_isRowUnlike 7 = .ok (.aload_n 1, 1) := by decide +kernel
theorem dX6_isRowUnlike_8 : decode cX6_isRowUnlike 8 = .ok (.invokevirtual 28, 3) := by decide +kernel
theorem dX6_isRowUnlike_11 : decode cX6_isRowUnlike 11 = .ok (.ifCond .eq 18, 3) := by decide +kernel
theorem dX6_isRowUnlike_14 : decode cX6_isRowUnlike 14 = .ok (.aload_n 0, 1) := by decide +kernel
theorem dX6_isRowUnlike_15 : decode cX6_isRowUnlike 15 = .ok (.getfield 19, 3) := by decide +kernel
theorem dX6_isRowUnlike_18 : decode cX6_isRowUnlike 18 = .ok (.aload_n 1, 1) := by decide +kernel
theorem dX6_isRowUnlike_19 : decode cX6_isRowUnlike 19 = .ok (.getfield 19, 3) := by decide +kernel
theorem dX6_isRowUnlike_22 : decode cX6_isRowUnlike 22 = .ok (.if_icmp .eq 7, 3) := by decide +kernel
theorem dX6_isRowUnlike_25 : decode cX6_isRowUnlike 25 = .ok (.iconst 1, 1) := by decide +kernel
theorem dX6_isRowUnlike_26 : decode cX6_isRowUnlike 26 = .ok (.goto 4, 3) := by decide +kernel
theorem dX6_isRowUnlike_29 : decode cX6_isRowUnlike 29 = .ok (.iconst 0, 1) := by decide +kernel
theorem dX6_isRowUnlike_30 : decode cX6_isRowUnlike 30 = .ok (.ireturn, 1) := by decide +kernel
theorem dX6_holdNothing_0 : decode cX6_holdNothing 0 = .ok (.aload_n 0, 1) := by decide +kernel
theorem dX6_holdNothing_1 : decode cX6_holdNothing 1 = .ok (.iconst 0, 1) := by decide +kernel
theorem dX6_holdNothing_2 : decode cX6_holdNothing 2 = .ok (.putfield 15, 3) := by decide +kernel
theorem dX6_holdNothing_5 : decode cX6_holdNothing 5 = .ok (.aload_n 0, 1) := by decide +kernel
theorem dX6_holdNothing_6 : decode cX6_holdNothing 6 = .ok (.iconst 0, 1) := by decide +kernel
theorem dX6_holdNothing_7 : decode cX6_holdNothing 7 = .ok (.putfield 22, 3) := by decide +kernel
theorem dX6_holdNothing_10 : decode cX6_holdNothing 10 = .ok (.return_, 1) := by decide +kernel
theorem dX6_holdStretch_0 : decode cX6_holdStretch 0 = .ok (.aload_n 0, 1) := by decide +kernel
theorem dX6_holdStretch_1 : decode cX6_holdStretch 1 = .ok (.iconst 2, 1) := by decide +kernel
theorem dX6_holdStretch_2 : decode cX6_holdStretch 2 = .ok (.putfield 15, 3) := by decide +kernel
theorem dX6_holdStretch_5 : decode cX6_holdStretch 5 = .ok (.aload_n 0, 1) := by decide +kernel
theorem dX6_holdStretch_6 : decode cX6_holdStretch 6 = .ok (.iconst 0, 1) := by decide +kernel
theorem dX6_holdStretch_7 : decode cX6_holdStretch 7 = .ok (.putfield 22, 3) := by decide +kernel
theorem dX6_holdStretch_10 : decode cX6_holdStretch 10 = .ok (.aload_n 0, 1) := by decide +kernel
theorem dX6_holdStretch_11 : decode cX6_holdStretch 11 = .ok (.iload_n 1, 1) := by decide +kernel
theorem dX6_holdStretch_12 : decode cX6_holdStretch 12 = .ok (.putfield 25, 3) := by decide +kernel
theorem dX6_holdStretch_15 : decode cX6_holdStretch 15 = .ok (.return_, 1) := by decide +kernel
theorem dX6_holdRow_0 : decode cX6_holdRow 0 = .ok (.aload_n 0, 1) := by decide +kernel
theorem dX6_holdRow_1 : decode cX6_holdRow 1 = .ok (.iconst 1, 1) := by decide +kernel
theorem dX6_holdRow_2 : decode cX6_holdRow 2 = .ok (.putfield 15, 3) := by decide +kernel
theorem dX6_holdRow_5 : decode cX6_holdRow 5 = .ok (.aload_n 0, 1) := by decide +kernel
theorem dX6_holdRow_6 : decode cX6_holdRow 6 = .ok (.iload_n 1, 1) := by decide +kernel
theorem dX6_holdRow_7 : decode cX6_holdRow 7 = .ok (.putfield 19, 3) := by decide +kernel
theorem dX6_holdRow_10 : decode cX6_holdRow 10 = .ok (.aload_n 0, 1) := by decide +kernel
theorem dX6_holdRow_11 : decode cX6_holdRow 11 = .ok (.iconst 0, 1) := by decide +kernel
theorem dX6_holdRow_12 : decode cX6_holdRow 12 = .ok (.iload_n 2, 1) := by decide +kernel
theorem dX6_holdRow_13 : decode cX6_holdRow 13 = .ok (.sipush 160, 3) := by decide +kernel
theorem dX6_holdRow_16 : decode cX6_holdRow 16 = .ok (.invokestatic 35, 3) := by decide +kernel
theorem dX6_holdRow_19 : decode cX6_holdRow 19 = .ok (.invokestatic 41, 3) := by decide +kernel
theorem dX6_holdRow_22 : decode cX6_holdRow 22 = .ok (.putfield 22, 3) := by decide +kernel
theorem dX6_holdRow_25 : decode cX6_holdRow 25 = .ok (.aload_n 0, 1) := by decide +kernel
theorem dX6_holdRow_26 : decode cX6_holdRow 26 = .ok (.getfield 9, 3) := by decide +kernel
theorem dX6_holdRow_29 : decode cX6_holdRow 29 = .ok (.lconst 0, 1) := by decide +kernel
theorem dX6_holdRow_30 : decode cX6_holdRow 30 = .ok (.invokestatic 44, 3) := by decide +kernel
theorem dX6_holdRow_33 : decode cX6_holdRow 33 = .ok (.return_, 1) := by decide +kernel
theorem dX6_hasElement_0 : decode cX6_hasElement 0 = .ok (.iload_n 1, 1) := by decide +kernel
theorem dX6_hasElement_1 : decode cX6_hasElement 1 = .ok (.ifCond .lt 22, 3) := by decide +kernel
theorem dX6_hasElement_4 : decode cX6_hasElement 4 = .ok (.iload_n 1, 1) := by decide +kernel
theorem dX6_hasElement_5 : decode cX6_hasElement 5 = .ok (.aload_n 0, 1) := by decide +kernel
theorem dX6_hasElement_6 : decode cX6_hasElement 6 = .ok (.getfield 22, 3) := by decide +kernel
theorem dX6_hasElement_9 : decode cX6_hasElement 9 = .ok (.if_icmp .ge 14, 3) := by decide +kernel
theorem dX6_hasElement_12 : decode cX6_hasElement 12 = .ok (.iload_n 1, 1) := by decide +kernel
theorem dX6_hasElement_13 : decode cX6_hasElement 13 = .ok (.sipush 160, 3) := by decide +kernel
theorem dX6_hasElement_16 : decode cX6_hasElement 16 = .ok (.if_icmp .ge 7, 3) := by decide +kernel
theorem dX6_hasElement_19 : decode cX6_hasElement 19 = .ok (.iconst 1, 1) := by decide +kernel
theorem dX6_hasElement_20 : decode cX6_hasElement 20 = .ok (.goto 4, 3) := by decide +kernel
theorem dX6_hasElement_23 : decode cX6_hasElement 23 = .ok (.iconst 0, 1) := by decide +kernel
theorem dX6_hasElement_24 : decode cX6_hasElement 24 = .ok (.ireturn, 1) := by decide +kernel
theorem dX6_hasElements_0 : decode cX6_hasElements 0 = .ok (.iload_n 1, 1) := by decide +kernel
theorem dX6_hasElements_1 : decode cX6_hasElements 1 = .ok (.ifCond .lt 29, 3) := by decide +kernel
theorem dX6_hasElements_4 : decode cX6_hasElements 4 = .ok (.iload_n 2, 1) := by decide +kernel
theorem dX6_hasElements_5 : decode cX6_hasElements 5 = .ok (.ifCond .lt 25, 3) := by decide +kernel
theorem dX6_hasElements_8 : decode cX6_hasElements 8 = .ok (.iload_n 1, 1) := by decide +kernel
theorem dX6_hasElements_9 : decode cX6_hasElements 9 = .ok (.aload_n 0, 1) := by decide +kernel
theorem dX6_hasElements_10 : decode cX6_hasElements 10 = .ok (.getfield 22, 3) := by decide +kernel
theorem dX6_hasElements_13 : decode cX6_hasElements 13 = .ok (.if_icmp .gt 17, 3) := by decide +kernel
theorem dX6_hasElements_16 : decode cX6_hasElements 16 = .ok (.iload_n 2, 1) := by decide +kernel
theorem dX6_hasElements_17 : decode cX6_hasElements 17 = .ok (.aload_n 0, 1) := by decide +kernel
theorem dX6_hasElements_18 : decode cX6_hasElements 18 = .ok (.getfield 22, 3) := by decide +kernel
theorem dX6_hasElements_21 : decode cX6_hasElements 21 = .ok (.iload_n 1, 1) := by decide +kernel
theorem dX6_hasElements_22 : decode cX6_hasElements 22 = .ok (.isub, 1) := by decide +kernel
theorem dX6_hasElements_23 : decode cX6_hasElements 23 = .ok (.if_icmp .gt 7, 3) := by decide +kernel
theorem dX6_hasElements_26 : decode cX6_hasElements 26 = .ok (.iconst 1, 1) := by decide +kernel
theorem dX6_hasElements_27 : decode cX6_hasElements 27 = .ok (.goto 4, 3) := by decide +kernel
theorem dX6_hasElements_30 : decode cX6_hasElements 30 = .ok (.iconst 0, 1) := by decide +kernel
theorem dX6_hasElements_31 : decode cX6_hasElements 31 = .ok (.ireturn, 1) := by decide +kernel
theorem dX6_put_0 : decode cX6_put 0 = .ok (.aload_n 0, 1) := by decide +kernel
theorem dX6_put_1 : decode cX6_put 1 = .ok (.iload_n 1, 1) := by decide +kernel
theorem dX6_put_2 : decode cX6_put 2 = .ok (.invokevirtual 50, 3) := by decide +kernel
theorem dX6_put_5 : decode cX6_put 5 = .ok (.ifCond .eq 14, 3) := by decide +kernel
theorem dX6_put_8 : decode cX6_put 8 = .ok (.aload_n 0, 1) := by decide +kernel
theorem dX6_put_9 : decode cX6_put 9 = .ok (.getfield 9, 3) := by decide +kernel
theorem dX6_put_12 : decode cX6_put 12 = .ok (.iload_n 1, 1) := by decide +kernel
theorem dX6_put_13 : decode cX6_put 13 = .ok (.aload_n 0, 1) := by decide +kernel
theorem dX6_put_14 : decode cX6_put 14 = .ok (.lload_n 2, 1) := by decide +kernel
theorem dX6_put_15 : decode cX6_put 15 = .ok (.invokevirtual 54, 3) := by decide +kernel
theorem dX6_put_18 : decode cX6_put 18 = .ok (.lastore, 1) := by decide +kernel
theorem dX6_put_19 : decode cX6_put 19 = .ok (.return_, 1) := by decide +kernel
theorem dX6_lowestBits_0 : decode cX6_lowestBits 0 = .ok (.aload_n 0, 1) := by decide +kernel
theorem dX6_lowestBits_1 : decode cX6_lowestBits 1 = .ok (.getfield 19, 3) := by decide +kernel
theorem dX6_lowestBits_4 : decode cX6_lowestBits 4 = .ok (.tableswitch 42 0 2 #[28, 33, 38], 28) := by decide +kernel
theorem dX6_lowestBits_32 : decode cX6_lowestBits 32 = .ok (.lload_n 1, 1) := by decide +kernel
theorem dX6_lowestBits_33 : decode cX6_lowestBits 33 = .ok (.l2i, 1) := by decide +kernel
theorem dX6_lowestBits_34 : decode cX6_lowestBits 34 = .ok (.i2b, 1) := by decide +kernel
theorem dX6_lowestBits_35 : decode cX6_lowestBits 35 = .ok (.i2l, 1) := by decide +kernel
theorem dX6_lowestBits_36 : decode cX6_lowestBits 36 = .ok (.lreturn, 1) := by decide +kernel
theorem dX6_lowestBits_37 : decode cX6_lowestBits 37 = .ok (.lload_n 1, 1) := by decide +kernel
theorem dX6_lowestBits_38 : decode cX6_lowestBits 38 = .ok (.l2i, 1) := by decide +kernel
theorem dX6_lowestBits_39 : decode cX6_lowestBits 39 = .ok (.i2s, 1) := by decide +kernel
theorem dX6_lowestBits_40 : decode cX6_lowestBits 40 = .ok (.i2l, 1) := by decide +kernel
theorem dX6_lowestBits_41 : decode cX6_lowestBits 41 = .ok (.lreturn, 1) := by decide +kernel
theorem dX6_lowestBits_42 : decode cX6_lowestBits 42 = .ok (.lload_n 1, 1) := by decide +kernel
theorem dX6_lowestBits_43 : decode cX6_lowestBits 43 = .ok (.l2i, 1) := by decide +kernel
theorem dX6_lowestBits_44 : decode cX6_lowestBits 44 = .ok (.i2l, 1) := by decide +kernel
theorem dX6_lowestBits_45 : decode cX6_lowestBits 45 = .ok (.lreturn, 1) := by decide +kernel
theorem dX6_lowestBits_46 : decode cX6_lowestBits 46 = .ok (.lload_n 1, 1) := by decide +kernel
theorem dX6_lowestBits_47 : decode cX6_lowestBits 47 = .ok (.lreturn, 1) := by decide +kernel
theorem dX6_elementAt_0 : decode cX6_elementAt 0 = .ok (.aload_n 0, 1) := by decide +kernel
theorem dX6_elementAt_1 : decode cX6_elementAt 1 = .ok (.iload_n 1, 1) := by decide +kernel
theorem dX6_elementAt_2 : decode cX6_elementAt 2 = .ok (.invokevirtual 50, 3) := by decide +kernel
theorem dX6_elementAt_5 : decode cX6_elementAt 5 = .ok (.ifCond .eq 12, 3) := by decide +kernel
theorem dX6_elementAt_8 : decode cX6_elementAt 8 = .ok (.aload_n 0, 1) := by decide +kernel
theorem dX6_elementAt_9 : decode cX6_elementAt 9 = .ok (.getfield 9, 3) := by decide +kernel
theorem dX6_elementAt_12 : decode cX6_elementAt 12 = .ok (.iload_n 1, 1) := by decide +kernel
theorem dX6_elementAt_13 : decode cX6_elementAt 13 = .ok (.laload, 1) := by decide +kernel
theorem dX6_elementAt_14 : decode cX6_elementAt 14 = .ok (.goto 4, 3) := by decide +kernel
theorem dX6_elementAt_17 : decode cX6_elementAt 17 = .ok (.lconst 0, 1) := by decide +kernel
theorem dX6_elementAt_18 : decode cX6_elementAt 18 = .ok (.lreturn, 1) := by decide +kernel
theorem dX6_intAt_0 : decode cX6_intAt 0 = .ok (.aload_n 0, 1) := by decide +kernel
theorem dX6_intAt_1 : decode cX6_intAt 1 = .ok (.iload_n 1, 1) := by decide +kernel
theorem dX6_intAt_2 : decode cX6_intAt 2 = .ok (.invokevirtual 50, 3) := by decide +kernel
theorem dX6_intAt_5 : decode cX6_intAt 5 = .ok (.ifCond .eq 13, 3) := by decide +kernel
theorem dX6_intAt_8 : decode cX6_intAt 8 = .ok (.aload_n 0, 1) := by decide +kernel
theorem dX6_intAt_9 : decode cX6_intAt 9 = .ok (.getfield 9, 3) := by decide +kernel
theorem dX6_intAt_12 : decode cX6_intAt 12 = .ok (.iload_n 1, 1) := by decide +kernel
theorem dX6_intAt_13 : decode cX6_intAt 13 = .ok (.laload, 1) := by decide +kernel
theorem dX6_intAt_14 : decode cX6_intAt 14 = .ok (.l2i, 1) := by decide +kernel
theorem dX6_intAt_15 : decode cX6_intAt 15 = .ok (.goto 4, 3) := by decide +kernel
theorem dX6_intAt_18 : decode cX6_intAt 18 = .ok (.iconst 0, 1) := by decide +kernel
theorem dX6_intAt_19 : decode cX6_intAt 19 = .ok (.ireturn, 1) := by decide +kernel
theorem dX6_takeFrom_0 : decode cX6_takeFrom 0 = .ok (.aload_n 1, 1) := by decide +kernel
theorem dX6_takeFrom_1 : decode cX6_takeFrom 1 = .ok (.iload_n 2, 1) := by decide +kernel
theorem dX6_takeFrom_2 : decode cX6_takeFrom 2 = .ok (.iload 4, 2) := by decide +kernel
theorem dX6_takeFrom_4 : decode cX6_takeFrom 4 = .ok (.invokevirtual 58, 3) := by decide +kernel
theorem dX6_takeFrom_7 : decode cX6_takeFrom 7 = .ok (.ifCond .eq 28, 3) := by decide +kernel
theorem dX6_takeFrom_10 : decode cX6_takeFrom 10 = .ok (.aload_n 0, 1) := by decide +kernel
theorem dX6_takeFrom_11 : decode cX6_takeFrom 11 = .ok (.iload_n 3, 1) := by decide +kernel
theorem dX6_takeFrom_12 : decode cX6_takeFrom 12 = .ok (.iload 4, 2) := by decide +kernel
theorem dX6_takeFrom_14 : decode cX6_takeFrom 14 = .ok (.invokevirtual 58, 3) := by decide +kernel
theorem dX6_takeFrom_17 : decode cX6_takeFrom 17 = .ok (.ifCond .eq 18, 3) := by decide +kernel
theorem dX6_takeFrom_20 : decode cX6_takeFrom 20 = .ok (.aload_n 1, 1) := by decide +kernel
theorem dX6_takeFrom_21 : decode cX6_takeFrom 21 = .ok (.getfield 9, 3) := by decide +kernel
theorem dX6_takeFrom_24 : decode cX6_takeFrom 24 = .ok (.iload_n 2, 1) := by decide +kernel
theorem dX6_takeFrom_25 : decode cX6_takeFrom 25 = .ok (.aload_n 0, 1) := by decide +kernel
theorem dX6_takeFrom_26 : decode cX6_takeFrom 26 = .ok (.getfield 9, 3) := by decide +kernel
theorem dX6_takeFrom_29 : decode cX6_takeFrom 29 = .ok (.iload_n 3, 1) := by decide +kernel
theorem dX6_takeFrom_30 : decode cX6_takeFrom 30 = .ok (.iload 4, 2) := by decide +kernel
theorem dX6_takeFrom_32 : decode cX6_takeFrom 32 = .ok (.invokestatic 62, 3) := by decide +kernel
theorem dX6_takeFrom_35 : decode cX6_takeFrom 35 = .ok (.return_, 1) := by decide +kernel
theorem dX7_init_0 : decode cX7_init 0 = .ok (.aload_n 0, 1) := by decide +kernel
theorem dX7_init_1 : decode cX7_init 1 = .ok (.invokespecial 3, 3) := by decide +kernel
theorem dX7_init_4 : decode cX7_init 4 = .ok (.aload_n 0, 1) := by decide +kernel
theorem dX7_init_5 : decode cX7_init 5 = .ok (.bipush 16, 2) := by decide +kernel
theorem dX7_init_7 : decode cX7_init 7 = .ok (.newarray .int, 2) := by decide +kernel
theorem dX7_init_9 : decode cX7_init 9 = .ok (.putfield 9, 3) := by decide +kernel
theorem dX7_init_12 : decode cX7_init 12 = .ok (.aload_n 0, 1) := by decide +kernel
theorem dX7_init_13 : decode cX7_init 13 = .ok (.bipush 16, 2) := by decide +kernel
theorem dX7_init_15 : decode cX7_init 15 = .ok (.newarray .int, 2) := by decide +kernel
theorem dX7_init_17 : decode cX7_init 17 = .ok (.putfield 15, 3) := by decide +kernel
theorem dX7_init_20 : decode cX7_init 20 = .ok (.aload_n 0, 1) := by decide +kernel
theorem dX7_init_21 : decode cX7_init 21 = .ok (.bipush 16, 2) := by decide +kernel
theorem dX7_init_23 : decode cX7_init 23 = .ok (.newarray .int, 2) := by decide +kernel
theorem dX7_init_25 : decode cX7_init 25 = .ok (.putfield 18, 3) := by decide +kernel
theorem dX7_init_28 : decode cX7_init 28 = .ok (.aload_n 0, 1) := by decide +kernel
theorem dX7_init_29 : decode cX7_init 29 = .ok (.bipush 16, 2) := by decide +kernel
theorem dX7_init_31 : decode cX7_init 31 = .ok (.newarray .int, 2) := by decide +kernel
theorem dX7_init_33 : decode cX7_init 33 = .ok (.putfield 21, 3) := by decide +kernel
theorem dX7_init_36 : decode cX7_init 36 = .ok (.aload_n 0, 1) := by decide +kernel
theorem dX7_init_37 : decode cX7_init 37 = .ok (.iconst 0, 1) := by decide +kernel
theorem dX7_init_38 : decode cX7_init 38 = .ok (.putfield 24, 3) := by decide +kernel
theorem dX7_init_41 : decode cX7_init 41 = .ok (.return_, 1) := by decide +kernel
theorem dX7_become_0 : decode cX7_become 0 = .ok (.aload_n 1, 1) := by decide +kernel
theorem dX7_become_1 : decode cX7_become 1 = .ok (.getfield 9, 3) := by decide +kernel
theorem dX7_become_4 : decode cX7_become 4 = .ok (.iconst 0, 1) := by decide +kernel
theorem dX7_become_5 : decode cX7_become 5 = .ok (.aload_n 0, 1) := by decide +kernel
theorem dX7_become_6 : decode cX7_become 6 = .ok (.getfield 9, 3) := by decide +kernel
theorem dX7_become_9 : decode cX7_become 9 = .ok (.iconst 0, 1) := by decide +kernel
theorem dX7_become_10 : decode cX7_become 10 = .ok (.bipush 16, 2) := by decide +kernel
theorem dX7_become_12 : decode cX7_become 12 = .ok (.invokestatic 28, 3) := by decide +kernel
theorem dX7_become_15 : decode cX7_become 15 = .ok (.aload_n 1, 1) := by decide +kernel
theorem dX7_become_16 : decode cX7_become 16 = .ok (.getfield 15, 3) := by decide +kernel
theorem dX7_become_19 : decode cX7_become 19 = .ok (.iconst 0, 1) := by decide +kernel
theorem dX7_become_20 : decode cX7_become 20 = .ok (.aload_n 0, 1) := by decide +kernel
theorem dX7_become_21 : decode cX7_become 21 = .ok (.getfield 15, 3) := by decide +kernel
theorem dX7_become_24 : decode cX7_become 24 = .ok (.iconst 0, 1) := by decide +kernel
theorem dX7_become_25 : decode cX7_become 25 = .ok (.bipush 16, 2) := by decide +kernel
theorem dX7_become_27 : decode cX7_become 27 = .ok (.invokestatic 28, 3) := by decide +kernel
theorem dX7_become_30 : decode cX7_become 30 = .ok (.aload_n 1, 1) := by decide +kernel
theorem dX7_become_31 : decode cX7_become 31 = .ok (.getfield 18, 3) := by decide +kernel
theorem dX7_become_34 : decode cX7_become 34 = .ok (.iconst 0, 1) := by decide +kernel
theorem dX7_become_35 : decode cX7_become 35 = .ok (.aload_n 0, 1) := by decide +kernel
theorem dX7_become_36 : decode cX7_become 36 = .ok (.getfield 18, 3) := by decide +kernel
theorem dX7_become_39 : decode cX7_become 39 = .ok (.iconst 0, 1) := by decide +kernel
theorem dX7_become_40 : decode cX7_become 40 = .ok (.bipush 16, 2) := by decide +kernel
theorem dX7_become_42 : decode cX7_become 42 = .ok (.invokestatic 28, 3) := by decide +kernel
theorem dX7_become_45 : decode cX7_become 45 = .ok (.aload_n 1, 1) := by decide +kernel
theorem dX7_become_46 : decode cX7_become 46 = .ok (.getfield 21, 3) := by decide +kernel
theorem dX7_become_49 : decode cX7_become 49 = .ok (.iconst 0, 1) := by decide +kernel
theorem dX7_become_50 : decode cX7_become 50 = .ok (.aload_n 0, 1) := by decide +kernel
theorem dX7_become_51 : decode cX7_become 51 = .ok (.getfield 21, 3) := by decide +kernel
theorem dX7_become_54 : decode cX7_become 54 = .ok (.iconst 0, 1) := by decide +kernel
theorem dX7_become_55 : decode cX7_become 55 = .ok (.bipush 16, 2) := by decide +kernel
theorem dX7_become_57 : decode cX7_become 57 = .ok (.invokestatic 28, 3) := by decide +kernel
theorem dX7_become_60 : decode cX7_become 60 = .ok (.aload_n 0, 1) := by decide +kernel
theorem dX7_become_61 : decode cX7_become 61 = .ok (.aload_n 1, 1) := by decide +kernel
theorem dX7_become_62 : decode cX7_become 62 = .ok (.getfield 24, 3) := by decide +kernel
theorem dX7_become_65 : decode cX7_become 65 = .ok (.putfield 24, 3) := by decide +kernel
theorem dX7_become_68 : decode cX7_become 68 = .ok (.return_, 1) := by decide +kernel
theorem dX7_count_0 : decode cX7_count 0 = .ok (.aload_n 0, 1) := by decide +kernel
theorem dX7_count_1 : decode cX7_count 1 = .ok (.getfield 24, 3) := by decide +kernel
theorem dX7_count_4 : decode cX7_count 4 = .ok (.ireturn, 1) := by decide +kernel
theorem dX7_has_0 : decode cX7_has 0 = .ok (.iload_n 1, 1) := by decide +kernel
theorem dX7_has_1 : decode cX7_has 1 = .ok (.ifCond .lt 21, 3) := by decide +kernel
theorem dX7_has_4 : decode cX7_has 4 = .ok (.iload_n 1, 1) := by decide +kernel
theorem dX7_has_5 : decode cX7_has 5 = .ok (.aload_n 0, 1) := by decide +kernel
theorem dX7_has_6 : decode cX7_has 6 = .ok (.getfield 24, 3) := by decide +kernel
theorem dX7_has_9 : decode cX7_has 9 = .ok (.if_icmp .ge 13, 3) := by decide +kernel
theorem dX7_has_12 : decode cX7_has 12 = .ok (.iload_n 1, 1) := by decide +kernel
theorem dX7_has_13 : decode cX7_has 13 = .ok (.bipush 16, 2) := by decide +kernel
theorem dX7_has_15 : decode cX7_has 15 = .ok (.if_icmp .ge 7, 3) := by decide +kernel
theorem dX7_has_18 : decode cX7_has 18 = .ok (.iconst 1, 1) := by decide +kernel
theorem dX7_has_19 : decode cX7_has 19 = .ok (.goto 4, 3) := by decide +kernel
theorem dX7_has_22 : decode cX7_has 22 = .ok (.iconst 0, 1) := by decide +kernel
theorem dX7_has_23 : decode cX7_has 23 = .ok (.ireturn, 1) := by decide +kernel
theorem dX7_isFull_0 : decode cX7_isFull 0 = .ok (.aload_n 0, 1) := by decide +kernel
theorem dX7_isFull_1 : decode cX7_isFull 1 = .ok (.getfield 24, 3) := by decide +kernel
theorem dX7_isFull_4 : decode cX7_isFull 4 = .ok (.bipush 16, 2) := by decide +kernel
theorem dX7_isFull_6 : decode cX7_isFull 6 = .ok (.if_icmp .lt 7, 3) := by decide +kernel
theorem dX7_isFull_9 : decode cX7_isFull 9 = .ok (.iconst 1, 1) := by decide +kernel
theorem dX7_isFull_10 : decode cX7_isFull 10 = .ok (.goto 4, 3) := by decide +kernel
theorem dX7_isFull_13 : decode cX7_isFull 13 = .ok (.iconst 0, 1) := by decide +kernel
theorem dX7_isFull_14 : decode cX7_isFull 14 = .ok (.ireturn, 1) := by decide +kernel
theorem dX7_add_0 : decode cX7_add 0 = .ok (.aload_n 0, 1) := by decide +kernel
theorem dX7_add_1 : decode cX7_add 1 = .ok (.invokevirtual 34, 3) := by decide +kernel
theorem dX7_add_4 : decode cX7_add 4 = .ok (.ifCond .ne 10, 3) := by decide +kernel
theorem dX7_add_7 : decode cX7_add 7 = .ok (.aload_n 0, 1) := by decide +kernel
theorem dX7_add_8 : decode cX7_add 8 = .ok (.getfield 24, 3) := by decide +kernel
theorem dX7_add_11 : decode cX7_add 11 = .ok (.ifCond .ge 5, 3) := by decide +kernel
theorem dX7_add_14 : decode cX7_add 14 = .ok (.iconst (-1), 1) := by decide +kernel
theorem dX7_add_15 : decode cX7_add 15 = .ok (.ireturn, 1) := by decide +kernel
theorem dX7_add_16 : decode cX7_add 16 = .ok (.aload_n 0, 1) := by decide +kernel
theorem dX7_add_17 : decode cX7_add 17 = .ok (.getfield 9, 3) := by decide +kernel
theorem dX7_add_20 : decode cX7_add 20 = .ok (.aload_n 0, 1) := by decide +kernel
theorem dX7_add_21 : decode cX7_add 21 = .ok (.getfield 24, 3) := by decide +kernel
theorem dX7_add_24 : decode cX7_add 24 = .ok (.iload_n 1, 1) := by decide +kernel
theorem dX7_add_25 : decode cX7_add 25 = .ok (.iastore, 1) := by decide +kernel
theorem dX7_add_26 : decode cX7_add 26 = .ok (.aload_n 0, 1) := by decide +kernel
theorem dX7_add_27 : decode cX7_add 27 = .ok (.getfield 15, 3) := by decide +kernel
theorem dX7_add_30 : decode cX7_add 30 = .ok (.aload_n 0, 1) := by decide +kernel
theorem dX7_add_31 : decode cX7_add 31 = .ok (.getfield 24, 3) := by decide +kernel
theorem dX7_add_34 : decode cX7_add 34 = .ok (.iload_n 2, 1) := by decide +kernel
theorem dX7_add_35 : decode cX7_add 35 = .ok (.iastore, 1) := by decide +kernel
theorem dX7_add_36 : decode cX7_add 36 = .ok (.aload_n 0, 1) := by decide +kernel
theorem dX7_add_37 : decode cX7_add 37 = .ok (.getfield 18, 3) := by decide +kernel
theorem dX7_add_40 : decode cX7_add 40 = .ok (.aload_n 0, 1) := by decide +kernel
theorem dX7_add_41 : decode cX7_add 41 = .ok (.getfield 24, 3) := by decide +kernel
theorem dX7_add_44 : decode cX7_add 44 = .ok (.iload_n 3, 1) := by decide +kernel
theorem dX7_add_45 : decode cX7_add 45 = .ok (.iastore, 1) := by decide +kernel
theorem dX7_add_46 : decode cX7_add 46 = .ok (.aload_n 0, 1) := by decide +kernel
theorem dX7_add_47 : decode cX7_add 47 = .ok (.getfield 21, 3) := by decide +kernel
theorem dX7_add_50 : decode cX7_add 50 = .ok (.aload_n 0, 1) := by decide +kernel
theorem dX7_add_51 : decode cX7_add 51 = .ok (.getfield 24, 3) := by decide +kernel
theorem dX7_add_54 : decode cX7_add 54 = .ok (.iload 4, 2) := by decide +kernel
theorem dX7_add_56 : decode cX7_add 56 = .ok (.iastore, 1) := by decide +kernel
theorem dX7_add_57 : decode cX7_add 57 = .ok (.aload_n 0, 1) := by decide +kernel
theorem dX7_add_58 : decode cX7_add 58 = .ok (.dup, 1) := by decide +kernel
theorem dX7_add_59 : decode cX7_add 59 = .ok (.getfield 24, 3) := by decide +kernel
theorem dX7_add_62 : decode cX7_add 62 = .ok (.iconst 1, 1) := by decide +kernel
theorem dX7_add_63 : decode cX7_add 63 = .ok (.iadd, 1) := by decide +kernel
theorem dX7_add_64 : decode cX7_add 64 = .ok (.putfield 24, 3) := by decide +kernel
theorem dX7_add_67 : decode cX7_add 67 = .ok (.aload_n 0, 1) := by decide +kernel
theorem dX7_add_68 : decode cX7_add 68 = .ok (.getfield 24, 3) := by decide +kernel
theorem dX7_add_71 : decode cX7_add 71 = .ok (.iconst 1, 1) := by decide +kernel
theorem dX7_add_72 : decode cX7_add 72 = .ok (.isub, 1) := by decide +kernel
theorem dX7_add_73 : decode cX7_add 73 = .ok (.ireturn, 1) := by decide +kernel
theorem dX7_leave_0 : decode cX7_leave 0 = .ok (.aload_n 0, 1) := by decide +kernel
theorem dX7_leave_1 : decode cX7_leave 1 = .ok (.iconst 0, 1) := by decide +kernel
theorem dX7_leave_2 : decode cX7_leave 2 = .ok (.iload_n 1, 1) := by decide +kernel
theorem dX7_leave_3 : decode cX7_leave 3 = .ok (.aload_n 0, 1) := by decide +kernel
theorem dX7_leave_4 : decode cX7_leave 4 = .ok (.getfield 24, 3) := by decide +kernel
theorem dX7_leave_7 : decode cX7_leave 7 = .ok (.invokestatic 38, 3) := by decide +kernel
theorem dX7_leave_10 : decode cX7_leave 10 = .ok (.invokestatic 44, 3) := by decide +kernel
theorem dX7_leave_13 : decode cX7_leave 13 = .ok (.putfield 24, 3) := by decide +kernel
theorem dX7_leave_16 : decode cX7_leave 16 = .ok (.return_, 1) := by decide +kernel
theorem dX7_kindOf_0 : decode cX7_kindOf 0 = .ok (.aload_n 0, 1) := by decide +kernel
theorem dX7_kindOf_1 : decode cX7_kindOf 1 = .ok (.iload_n 1, 1) := by decide +kernel
theorem dX7_kindOf_2 : decode cX7_kindOf 2 = .ok (.invokevirtual 47, 3) := by decide +kernel
theorem dX7_kindOf_5 : decode cX7_kindOf 5 = .ok (.ifCond .eq 12, 3) := by decide +kernel
theorem dX7_kindOf_8 : decode cX7_kindOf 8 = .ok (.aload_n 0, 1) := by decide +kernel
theorem dX7_kindOf_9 : decode cX7_kindOf 9 = .ok (.getfield 9, 3) := by decide +kernel
theorem dX7_kindOf_12 : decode cX7_kindOf 12 = .ok (.iload_n 1, 1) := by decide +kernel
theorem dX7_kindOf_13 : decode cX7_kindOf 13 = .ok (.iaload, 1) := by decide +kernel
theorem dX7_kindOf_14 : decode cX7_kindOf 14 = .ok (.goto 4, 3) := by decide +kernel
theorem dX7_kindOf_17 : decode cX7_kindOf 17 = .ok (.iconst (-1), 1) := by decide +kernel
theorem dX7_kindOf_18 : decode cX7_kindOf 18 = .ok (.ireturn, 1) := by decide +kernel
theorem dX7_spaceOf_0 : decode cX7_spaceOf 0 = .ok (.aload_n 0, 1) := by decide +kernel
theorem dX7_spaceOf_1 : decode cX7_spaceOf 1 = .ok (.iload_n 1, 1) := by decide +kernel
theorem dX7_spaceOf_2 : decode cX7_spaceOf 2 = .ok (.invokevirtual 47, 3) := by decide +kernel
theorem dX7_spaceOf_5 : decode cX7_spaceOf 5 = .ok (.ifCond .eq 12, 3) := by decide +kernel
theorem dX7_spaceOf_8 : decode cX7_spaceOf 8 = .ok (.aload_n 0, 1) := by decide +kernel
theorem dX7_spaceOf_9 : decode cX7_spaceOf 9 = .ok (.getfield 15, 3) := by decide +kernel
theorem dX7_spaceOf_12 : decode cX7_spaceOf 12 = .ok (.iload_n 1, 1) := by decide +kernel
theorem dX7_spaceOf_13 : decode cX7_spaceOf 13 = .ok (.iaload, 1) := by decide +kernel
theorem dX7_spaceOf_14 : decode cX7_spaceOf 14 = .ok (.goto 4, 3) := by decide +kernel
theorem dX7_spaceOf_17 : decode cX7_spaceOf 17 = .ok (.iconst 0, 1) := by decide +kernel
theorem dX7_spaceOf_18 : decode cX7_spaceOf 18 = .ok (.ireturn, 1) := by decide +kernel
theorem dX7_otherOf_0 : decode cX7_otherOf 0 = .ok (.aload_n 0, 1) := by decide +kernel
theorem dX7_otherOf_1 : decode cX7_otherOf 1 = .ok (.iload_n 1, 1) := by decide +kernel
theorem dX7_otherOf_2 : decode cX7_otherOf 2 = .ok (.invokevirtual 47, 3) := by decide +kernel
theorem dX7_otherOf_5 : decode cX7_otherOf 5 = .ok (.ifCond .eq 12, 3) := by decide +kernel
theorem dX7_otherOf_8 : decode cX7_otherOf 8 = .ok (.aload_n 0, 1) := by decide +kernel
theorem dX7_otherOf_9 : decode cX7_otherOf 9 = .ok (.getfield 18, 3) := by decide +kernel
theorem dX7_otherOf_12 : decode cX7_otherOf 12 = .ok (.iload_n 1, 1) := by decide +kernel
theorem dX7_otherOf_13 : decode cX7_otherOf 13 = .ok (.iaload, 1) := by decide +kernel
theorem dX7_otherOf_14 : decode cX7_otherOf 14 = .ok (.goto 4, 3) := by decide +kernel
theorem dX7_otherOf_17 : decode cX7_otherOf 17 = .ok (.iconst 0, 1) := by decide +kernel
theorem dX7_otherOf_18 : decode cX7_otherOf 18 = .ok (.ireturn, 1) := by decide +kernel
theorem dX7_timesOf_0 : decode cX7_timesOf 0 = .ok (.aload_n 0, 1) := by decide +kernel
theorem dX7_timesOf_1 : decode cX7_timesOf 1 = .ok (.iload_n 1, 1) := by decide +kernel
theorem dX7_timesOf_2 : decode cX7_timesOf 2 = .ok (.invokevirtual 47, 3) := by decide +kernel
theorem dX7_timesOf_5 : decode cX7_timesOf 5 = .ok (.ifCond .eq 12, 3) := by decide +kernel
theorem dX7_timesOf_8 : decode cX7_timesOf 8 = .ok (.aload_n 0, 1) := by decide +kernel
theorem dX7_timesOf_9 : decode cX7_timesOf 9 = .ok (.getfield 21, 3) := by decide +kernel
theorem dX7_timesOf_12 : decode cX7_timesOf 12 = .ok (.iload_n 1, 1) := by decide +kernel
theorem dX7_timesOf_13 : decode cX7_timesOf 13 = .ok (.iaload, 1) := by decide +kernel
theorem dX7_timesOf_14 : decode cX7_timesOf 14 = .ok (.goto 4, 3) := by decide +kernel
theorem dX7_timesOf_17 : decode cX7_timesOf 17 = .ok (.iconst 0, 1) := by decide +kernel
theorem dX7_timesOf_18 : decode cX7_timesOf 18 = .ok (.ireturn, 1) := by decide +kernel
theorem dX7_spacesTogether_0 : decode cX7_spacesTogether 0 = .ok (.aload_n 0, 1) := by decide +kernel
theorem dX7_spacesTogether_1 : decode cX7_spacesTogether 1 = .ok (.iload_n 1, 1) := by decide +kernel
theorem dX7_spacesTogether_2 : decode cX7_spacesTogether 2 = .ok (.invokevirtual 47, 3) := by decide +kernel
theorem dX7_spacesTogether_5 : decode cX7_spacesTogether 5 = .ok (.ifCond .ne 5, 3) := by decide +kernel
theorem dX7_spacesTogether_8 : decode cX7_spacesTogether 8 = .ok (.iconst 0, 1) := by decide +kernel
theorem dX7_spacesTogether_9 : decode cX7_spacesTogether 9 = .ok (.ireturn, 1) := by decide +kernel
theorem dX7_spacesTogether_10 : decode cX7_spacesTogether 10 = .ok (.aload_n 0, 1) := by decide +kernel
theorem dX7_spacesTogether_11 : decode cX7_spacesTogether 11 = .ok (.getfield 9, 3) := by decide +kernel
theorem dX7_spacesTogether_14 : decode cX7_spacesTogether 14 = .ok (.iload_n 1, 1) := by decide +kernel
theorem dX7_spacesTogether_15 : decode cX7_spacesTogether 15 = .ok (.iaload, 1) := by decide +kernel
theorem dX7_spacesTogether_16 : decode cX7_spacesTogether 16 = .ok (.invokestatic 51, 3) := by decide +kernel
theorem dX7_spacesTogether_19 : decode cX7_spacesTogether 19 = .ok (.ifCond .eq 19, 3) := by decide +kernel
theorem dX7_spacesTogether_22 : decode cX7_spacesTogether 22 = .ok (.aload_n 0, 1) := by decide +kernel
theorem dX7_spacesTogether_23 : decode cX7_spacesTogether 23 = .ok (.getfield 15, 3) := by decide +kernel
theorem dX7_spacesTogether_26 : decode cX7_spacesTogether 26 = .ok (.iload_n 1, 1) := by decide +kernel
theorem dX7_spacesTogether_27 : decode cX7_spacesTogether 27 = .ok (.iaload, 1) := by decide +kernel
theorem dX7_spacesTogether_28 : decode cX7_spacesTogether 28 = .ok (.aload_n 0, 1) := by decide +kernel
theorem dX7_spacesTogether_29 : decode cX7_spacesTogether 29 = .ok (.getfield 18, 3) := by decide +kernel
theorem dX7_spacesTogether_32 : decode cX7_spacesTogether 32 = .ok (.iload_n 1, 1) := by decide +kernel
theorem dX7_spacesTogether_33 : decode cX7_spacesTogether 33 = .ok (.iaload, 1) := by decide +kernel
theorem dX7_spacesTogether_34 : decode cX7_spacesTogether 34 = .ok (.iadd, 1) := by decide +kernel
theorem dX7_spacesTogether_35 : decode cX7_spacesTogether 35 = .ok (.goto 9, 3) := by decide +kernel
theorem dX7_spacesTogether_38 : decode cX7_spacesTogether 38 = .ok (.aload_n 0, 1) := by decide +kernel
theorem dX7_spacesTogether_39 : decode cX7_spacesTogether 39 = .ok (.getfield 15, 3) := by decide +kernel
theorem dX7_spacesTogether_42 : decode cX7_spacesTogether 42 = .ok (.iload_n 1, 1) := by decide +kernel
theorem dX7_spacesTogether_43 : decode cX7_spacesTogether 43 = .ok (.iaload, 1) := by decide +kernel
theorem dX7_spacesTogether_44 : decode cX7_spacesTogether 44 = .ok (.ireturn, 1) := by decide +kernel
theorem dX7_lengthOf_0 : decode cX7_lengthOf 0 = .ok (.aload_n 0, 1) := by decide +kernel
theorem dX7_lengthOf_1 : decode cX7_lengthOf 1 = .ok (.iload_n 1, 1) := by decide +kernel
theorem dX7_lengthOf_2 : decode cX7_lengthOf 2 = .ok (.invokevirtual 54, 3) := by decide +kernel
theorem dX7_lengthOf_5 : decode cX7_lengthOf 5 = .ok (.bipush 6, 2) := by decide +kernel
theorem dX7_lengthOf_7 : decode cX7_lengthOf 7 = .ok (.if_icmp .ne 11, 3) := by decide +kernel
theorem dX7_lengthOf_10 : decode cX7_lengthOf 10 = .ok (.aload_n 0, 1) := by decide +kernel
theorem dX7_lengthOf_11 : decode cX7_lengthOf 11 = .ok (.iload_n 1, 1) := by decide +kernel
theorem dX7_lengthOf_12 : decode cX7_lengthOf 12 = .ok (.invokevirtual 58, 3) := by decide +kernel
theorem dX7_lengthOf_15 : decode cX7_lengthOf 15 = .ok (.goto 8, 3) := by decide +kernel
theorem dX7_lengthOf_18 : decode cX7_lengthOf 18 = .ok (.aload_n 0, 1) := by decide +kernel
theorem dX7_lengthOf_19 : decode cX7_lengthOf 19 = .ok (.iload_n 1, 1) := by decide +kernel
theorem dX7_lengthOf_20 : decode cX7_lengthOf 20 = .ok (.invokevirtual 61, 3) := by decide +kernel
theorem dX7_lengthOf_23 : decode cX7_lengthOf 23 = .ok (.istore_n 2, 1) := by decide +kernel
theorem dX7_lengthOf_24 : decode cX7_lengthOf 24 = .ok (.aload_n 0, 1) := by decide +kernel
theorem dX7_lengthOf_25 : decode cX7_lengthOf 25 = .ok (.iload_n 1, 1) := by decide +kernel
theorem dX7_lengthOf_26 : decode cX7_lengthOf 26 = .ok (.invokevirtual 64, 3) := by decide +kernel
theorem dX7_lengthOf_29 : decode cX7_lengthOf 29 = .ok (.iload_n 2, 1) := by decide +kernel
theorem dX7_lengthOf_30 : decode cX7_lengthOf 30 = .ok (.imul, 1) := by decide +kernel
theorem dX7_lengthOf_31 : decode cX7_lengthOf 31 = .ok (.ireturn, 1) := by decide +kernel
theorem dX7_lengthOfAll_0 : decode cX7_lengthOfAll 0 = .ok (.iconst 0, 1) := by decide +kernel
theorem dX7_lengthOfAll_1 : decode cX7_lengthOfAll 1 = .ok (.istore_n 1, 1) := by decide +kernel
theorem dX7_lengthOfAll_2 : decode cX7_lengthOfAll 2 = .ok (.iconst 0, 1) := by decide +kernel
theorem dX7_lengthOfAll_3 : decode cX7_lengthOfAll 3 = .ok (.istore_n 2, 1) := by decide +kernel
theorem dX7_lengthOfAll_4 : decode cX7_lengthOfAll 4 = .ok (.iload_n 2, 1) := by decide +kernel
theorem dX7_lengthOfAll_5 : decode cX7_lengthOfAll 5 = .ok (.aload_n 0, 1) := by decide +kernel
theorem dX7_lengthOfAll_6 : decode cX7_lengthOfAll 6 = .ok (.getfield 24, 3) := by decide +kernel
theorem dX7_lengthOfAll_9 : decode cX7_lengthOfAll 9 = .ok (.if_icmp .ge 17, 3) := by decide +kernel
theorem dX7_lengthOfAll_12 : decode cX7_lengthOfAll 12 = .ok (.iload_n 1, 1) := by decide +kernel
theorem dX7_lengthOfAll_13 : decode cX7_lengthOfAll 13 = .ok (.aload_n 0, 1) := by decide +kernel
theorem dX7_lengthOfAll_14 : decode cX7_lengthOfAll 14 = .ok (.iload_n 2, 1) := by decide +kernel
theorem dX7_lengthOfAll_15 : decode cX7_lengthOfAll 15 = .ok (.invokevirtual 67, 3) := by decide +kernel
theorem dX7_lengthOfAll_18 : decode cX7_lengthOfAll 18 = .ok (.iadd, 1) := by decide +kernel
theorem dX7_lengthOfAll_19 : decode cX7_lengthOfAll 19 = .ok (.istore_n 1, 1) := by decide +kernel
theorem dX7_lengthOfAll_20 : decode cX7_lengthOfAll 20 = .ok (.iinc 2 1, 3) := by decide +kernel
theorem dX7_lengthOfAll_23 : decode cX7_lengthOfAll 23 = .ok (.goto (-19), 3) := by decide +kernel
theorem dX7_lengthOfAll_26 : decode cX7_lengthOfAll 26 = .ok (.iload_n 1, 1) := by decide +kernel
theorem dX7_lengthOfAll_27 : decode cX7_lengthOfAll 27 = .ok (.ireturn, 1) := by decide +kernel
theorem dX7_sayingOf_0 : decode cX7_sayingOf 0 = .ok (.iload_n 2, 1) := by decide +kernel
theorem dX7_sayingOf_1 : decode cX7_sayingOf 1 = .ok (.tableswitch 73 0 6 #[43, 73, 49, 61, 73, 49, 67], 43) := by decide +kernel
theorem dX7_sayingOf_44 : decode cX7_sayingOf 44 = .ok (.aload_n 0, 1) := by decide +kernel
theorem dX7_sayingOf_45 : decode cX7_sayingOf 45 = .ok (.iload_n 1, 1) := by decide +kernel
theorem dX7_sayingOf_46 : decode cX7_sayingOf 46 = .ok (.invokevirtual 67, 3) := by decide +kernel
theorem dX7_sayingOf_49 : decode cX7_sayingOf 49 = .ok (.ireturn, 1) := by decide +kernel
theorem dX7_sayingOf_50 : decode cX7_sayingOf 50 = .ok (.aload_n 0, 1) := by decide +kernel
theorem dX7_sayingOf_51 : decode cX7_sayingOf 51 = .ok (.iload_n 1, 1) := by decide +kernel
theorem dX7_sayingOf_52 : decode cX7_sayingOf 52 = .ok (.invokevirtual 70, 3) := by decide +kernel
theorem dX7_sayingOf_55 : decode cX7_sayingOf 55 = .ok (.aload_n 0, 1) := by decide +kernel
theorem dX7_sayingOf_56 : decode cX7_sayingOf 56 = .ok (.iload_n 1, 1) := by decide +kernel
theorem dX7_sayingOf_57 : decode cX7_sayingOf 57 = .ok (.invokevirtual 58, 3) := by decide +kernel
theorem dX7_sayingOf_60 : decode cX7_sayingOf 60 = .ok (.iadd, 1) := by decide +kernel
theorem dX7_sayingOf_61 : decode cX7_sayingOf 61 = .ok (.ireturn, 1) := by decide +kernel
theorem dX7_sayingOf_62 : decode cX7_sayingOf 62 = .ok (.aload_n 0, 1) := by decide +kernel
theorem dX7_sayingOf_63 : decode cX7_sayingOf 63 = .ok (.iload_n 1, 1) := by decide +kernel
theorem dX7_sayingOf_64 : decode cX7_sayingOf 64 = .ok (.invokevirtual 64, 3) := by decide +kernel
theorem dX7_sayingOf_67 : decode cX7_sayingOf 67 = .ok (.ireturn, 1) := by decide +kernel
theorem dX7_sayingOf_68 : decode cX7_sayingOf 68 = .ok (.aload_n 0, 1) := by decide +kernel
theorem dX7_sayingOf_69 : decode cX7_sayingOf 69 = .ok (.iload_n 1, 1) := by decide +kernel
theorem dX7_sayingOf_70 : decode cX7_sayingOf 70 = .ok (.invokevirtual 58, 3) := by decide +kernel
theorem dX7_sayingOf_73 : decode cX7_sayingOf 73 = .ok (.ireturn, 1) := by decide +kernel
theorem dX7_sayingOf_74 : decode cX7_sayingOf 74 = .ok (.aload_n 0, 1) := by decide +kernel
theorem dX7_sayingOf_75 : decode cX7_sayingOf 75 = .ok (.iload_n 1, 1) := by decide +kernel
theorem dX7_sayingOf_76 : decode cX7_sayingOf 76 = .ok (.invokevirtual 70, 3) := by decide +kernel
theorem dX7_sayingOf_79 : decode cX7_sayingOf 79 = .ok (.ireturn, 1) := by decide +kernel
theorem dX7_humOf_0 : decode cX7_humOf 0 = .ok (.aload_n 0, 1) := by decide +kernel
theorem dX7_humOf_1 : decode cX7_humOf 1 = .ok (.iload_n 1, 1) := by decide +kernel
theorem dX7_humOf_2 : decode cX7_humOf 2 = .ok (.invokevirtual 47, 3) := by decide +kernel
theorem dX7_humOf_5 : decode cX7_humOf 5 = .ok (.ifCond .eq 12, 3) := by decide +kernel
theorem dX7_humOf_8 : decode cX7_humOf 8 = .ok (.aload_n 0, 1) := by decide +kernel
theorem dX7_humOf_9 : decode cX7_humOf 9 = .ok (.iload_n 1, 1) := by decide +kernel
theorem dX7_humOf_10 : decode cX7_humOf 10 = .ok (.invokevirtual 54, 3) := by decide +kernel
theorem dX7_humOf_13 : decode cX7_humOf 13 = .ok (.iconst 3, 1) := by decide +kernel
theorem dX7_humOf_14 : decode cX7_humOf 14 = .ok (.if_icmp .ne 5, 3) := by decide +kernel
theorem dX7_humOf_17 : decode cX7_humOf 17 = .ok (.iconst 0, 1) := by decide +kernel
theorem dX7_humOf_18 : decode cX7_humOf 18 = .ok (.ireturn, 1) := by decide +kernel
theorem dX7_humOf_19 : decode cX7_humOf 19 = .ok (.aload_n 0, 1) := by decide +kernel
theorem dX7_humOf_20 : decode cX7_humOf 20 = .ok (.iload_n 1, 1) := by decide +kernel
theorem dX7_humOf_21 : decode cX7_humOf 21 = .ok (.invokevirtual 61, 3) := by decide +kernel
theorem dX7_humOf_24 : decode cX7_humOf 24 = .ok (.iload_n 2, 1) := by decide +kernel
theorem dX7_humOf_25 : decode cX7_humOf 25 = .ok (.invokestatic 73, 3) := by decide +kernel
theorem dX7_humOf_28 : decode cX7_humOf 28 = .ok (.istore_n 3, 1) := by decide +kernel
theorem dX7_humOf_29 : decode cX7_humOf 29 = .ok (.aload_n 0, 1) := by decide +kernel
theorem dX7_humOf_30 : decode cX7_humOf 30 = .ok (.iload_n 1, 1) := by decide +kernel
theorem dX7_humOf_31 : decode cX7_humOf 31 = .ok (.invokevirtual 54, 3) := by decide +kernel
theorem dX7_humOf_34 : decode cX7_humOf 34 = .ok (.iconst 2, 1) := by decide +kernel
theorem dX7_humOf_35 : decode cX7_humOf 35 = .ok (.if_icmp .ne 9, 3) := by decide +kernel
theorem dX7_humOf_38 : decode cX7_humOf 38 = .ok (.iconst 2, 1) := by decide +kernel
theorem dX7_humOf_39 : decode cX7_humOf 39 = .ok (.iload_n 3, 1) := by decide +kernel
theorem dX7_humOf_40 : decode cX7_humOf 40 = .ok (.imul, 1) := by decide +kernel
theorem dX7_humOf_41 : decode cX7_humOf 41 = .ok (.goto 4, 3) := by decide +kernel
theorem dX7_humOf_44 : decode cX7_humOf 44 = .ok (.iload_n 3, 1) := by decide +kernel
theorem dX7_humOf_45 : decode cX7_humOf 45 = .ok (.ireturn, 1) := by decide +kernel
theorem dX7_lastingOf_0 : decode cX7_lastingOf 0 = .ok (.aload_n 0, 1) := by decide +kernel
theorem dX7_lastingOf_1 : decode cX7_lastingOf 1 = .ok (.iload_n 1, 1) := by decide +kernel
theorem dX7_lastingOf_2 : decode cX7_lastingOf 2 = .ok (.invokevirtual 67, 3) := by decide +kernel
theorem dX7_lastingOf_5 : decode cX7_lastingOf 5 = .ok (.sipush 10000, 3) := by decide +kernel
theorem dX7_lastingOf_8 : decode cX7_lastingOf 8 = .ok (.imul, 1) := by decide +kernel
theorem dX7_lastingOf_9 : decode cX7_lastingOf 9 = .ok (.sipush 704, 3) := by decide +kernel
theorem dX7_lastingOf_12 : decode cX7_lastingOf 12 = .ok (.iload_n 2, 1) := by decide +kernel
theorem dX7_lastingOf_13 : decode cX7_lastingOf 13 = .ok (.imul, 1) := by decide +kernel
theorem dX7_lastingOf_14 : decode cX7_lastingOf 14 = .ok (.invokestatic 76, 3) := by decide +kernel
theorem dX7_lastingOf_17 : decode cX7_lastingOf 17 = .ok (.ireturn, 1) := by decide +kernel
theorem dX7_loudnessOf_0 : decode cX7_loudnessOf 0 = .ok (.iconst 0, 1) := by decide +kernel
theorem dX7_loudnessOf_1 : decode cX7_loudnessOf 1 = .ok (.aload_n 0, 1) := by decide +kernel
theorem dX7_loudnessOf_2 : decode cX7_loudnessOf 2 = .ok (.iload_n 1, 1) := by decide +kernel
theorem dX7_loudnessOf_3 : decode cX7_loudnessOf 3 = .ok (.invokevirtual 79, 3) := by decide +kernel
theorem dX7_loudnessOf_6 : decode cX7_loudnessOf 6 = .ok (.iload_n 2, 1) := by decide +kernel
theorem dX7_loudnessOf_7 : decode cX7_loudnessOf 7 = .ok (.iconst 5, 1) := by decide +kernel
theorem dX7_loudnessOf_8 : decode cX7_loudnessOf 8 = .ok (.idiv, 1) := by decide +kernel
theorem dX7_loudnessOf_9 : decode cX7_loudnessOf 9 = .ok (.isub, 1) := by decide +kernel
theorem dX7_loudnessOf_10 : decode cX7_loudnessOf 10 = .ok (.invokestatic 44, 3) := by decide +kernel
theorem dX7_loudnessOf_13 : decode cX7_loudnessOf 13 = .ok (.ireturn, 1) := by decide +kernel
theorem dX7_newLoudnessOf_0 : decode cX7_newLoudnessOf 0 = .ok (.aload_n 0, 1) := by decide +kernel
theorem dX7_newLoudnessOf_1 : decode cX7_newLoudnessOf 1 = .ok (.iload_n 1, 1) := by decide +kernel
theorem dX7_newLoudnessOf_2 : decode cX7_newLoudnessOf 2 = .ok (.invokevirtual 54, 3) := by decide +kernel
theorem dX7_newLoudnessOf_5 : decode cX7_newLoudnessOf 5 = .ok (.tableswitch 35 3 5 #[27, 29, 32], 27) := by decide +kernel
theorem dX7_newLoudnessOf_32 : decode cX7_newLoudnessOf 32 = .ok (.iconst 0, 1) := by decide +kernel
theorem dX7_newLoudnessOf_33 : decode cX7_newLoudnessOf 33 = .ok (.ireturn, 1) := by decide +kernel
theorem dX7_newLoudnessOf_34 : decode cX7_newLoudnessOf 34 = .ok (.bipush 15, 2) := by decide +kernel
theorem dX7_newLoudnessOf_36 : decode cX7_newLoudnessOf 36 = .ok (.ireturn, 1) := by decide +kernel
theorem dX7_newLoudnessOf_37 : decode cX7_newLoudnessOf 37 = .ok (.bipush 8, 2) := by decide +kernel
theorem dX7_newLoudnessOf_39 : decode cX7_newLoudnessOf 39 = .ok (.ireturn, 1) := by decide +kernel
theorem dX7_newLoudnessOf_40 : decode cX7_newLoudnessOf 40 = .ok (.bipush 10, 2) := by decide +kernel
theorem dX7_newLoudnessOf_42 : decode cX7_newLoudnessOf 42 = .ok (.ireturn, 1) := by decide +kernel
theorem dX7_isOneLoud_0 : decode cX7_isOneLoud 0 = .ok (.iconst 0, 1) := by decide +kernel
theorem dX7_isOneLoud_1 : decode cX7_isOneLoud 1 = .ok (.istore_n 2, 1) := by decide +kernel
theorem dX7_isOneLoud_2 : decode cX7_isOneLoud 2 = .ok (.iload_n 2, 1) := by decide +kernel
theorem dX7_isOneLoud_3 : decode cX7_isOneLoud 3 = .ok (.aload_n 0, 1) := by decide +kernel
theorem dX7_isOneLoud_4 : decode cX7_isOneLoud 4 = .ok (.getfield 24, 3) := by decide +kernel
theorem dX7_isOneLoud_7 : decode cX7_isOneLoud 7 = .ok (.if_icmp .ge 20, 3) := by decide +kernel
theorem dX7_isOneLoud_10 : decode cX7_isOneLoud 10 = .ok (.aload_n 0, 1) := by decide +kernel
theorem dX7_isOneLoud_11 : decode cX7_isOneLoud 11 = .ok (.iload_n 2, 1) := by decide +kernel
theorem dX7_isOneLoud_12 : decode cX7_isOneLoud 12 = .ok (.iload_n 1, 1) := by decide +kernel
theorem dX7_isOneLoud_13 : decode cX7_isOneLoud 13 = .ok (.invokevirtual 82, 3) := by decide +kernel
theorem dX7_isOneLoud_16 : decode cX7_isOneLoud 16 = .ok (.ifCond .le 5, 3) := by decide +kernel
theorem dX7_isOneLoud_19 : decode cX7_isOneLoud 19 = .ok (.iconst 1, 1) := by decide +kernel
theorem dX7_isOneLoud_20 : decode cX7_isOneLoud 20 = .ok (.ireturn, 1) := by decide +kernel
theorem dX7_isOneLoud_21 : decode cX7_isOneLoud 21 = .ok (.iinc 2 1, 3) := by decide +kernel
theorem dX7_isOneLoud_24 : decode cX7_isOneLoud 24 = .ok (.goto (-22), 3) := by decide +kernel
theorem dX7_isOneLoud_27 : decode cX7_isOneLoud 27 = .ok (.iconst 0, 1) := by decide +kernel
theorem dX7_isOneLoud_28 : decode cX7_isOneLoud 28 = .ok (.ireturn, 1) := by decide +kernel
theorem dX7_isNearerThan_0 : decode cX7_isNearerThan 0 = .ok (.aload_n 0, 1) := by decide +kernel
theorem dX7_isNearerThan_1 : decode cX7_isNearerThan 1 = .ok (.iload_n 1, 1) := by decide +kernel
theorem dX7_isNearerThan_2 : decode cX7_isNearerThan 2 = .ok (.invokevirtual 54, 3) := by decide +kernel
theorem dX7_isNearerThan_5 : decode cX7_isNearerThan 5 = .ok (.istore_n 3, 1) := by decide +kernel
theorem dX7_isNearerThan_6 : decode cX7_isNearerThan 6 = .ok (.iload_n 3, 1) := by decide +kernel
theorem dX7_isNearerThan_7 : decode cX7_isNearerThan 7 = .ok (.bipush 6, 2) := by decide +kernel
theorem dX7_isNearerThan_9 : decode cX7_isNearerThan 9 = .ok (.if_icmp .eq 8, 3) := by decide +kernel
theorem dX7_isNearerThan_12 : decode cX7_isNearerThan 12 = .ok (.iload_n 3, 1) := by decide +kernel
theorem dX7_isNearerThan_13 : decode cX7_isNearerThan 13 = .ok (.iconst 3, 1) := by decide +kernel
theorem dX7_isNearerThan_14 : decode cX7_isNearerThan 14 = .ok (.if_icmp .ne 5, 3) := by decide +kernel
theorem dX7_isNearerThan_17 : decode cX7_isNearerThan 17 = .ok (.iconst 0, 1) := by decide +kernel
theorem dX7_isNearerThan_18 : decode cX7_isNearerThan 18 = .ok (.ireturn, 1) := by decide +kernel
theorem dX7_isNearerThan_19 : decode cX7_isNearerThan 19 = .ok (.iload_n 3, 1) := by decide +kernel
theorem dX7_isNearerThan_20 : decode cX7_isNearerThan 20 = .ok (.invokestatic 51, 3) := by decide +kernel
theorem dX7_isNearerThan_23 : decode cX7_isNearerThan 23 = .ok (.ifCond .eq 24, 3) := by decide +kernel
theorem dX7_isNearerThan_26 : decode cX7_isNearerThan 26 = .ok (.aload_n 0, 1) := by decide +kernel
theorem dX7_isNearerThan_27 : decode cX7_isNearerThan 27 = .ok (.iload_n 1, 1) := by decide +kernel
theorem dX7_isNearerThan_28 : decode cX7_isNearerThan 28 = .ok (.invokevirtual 58, 3) := by decide +kernel
theorem dX7_isNearerThan_31 : decode cX7_isNearerThan 31 = .ok (.ifCond .eq 16, 3) := by decide +kernel
theorem dX7_isNearerThan_34 : decode cX7_isNearerThan 34 = .ok (.aload_n 0, 1) := by decide +kernel
theorem dX7_isNearerThan_35 : decode cX7_isNearerThan 35 = .ok (.iload_n 1, 1) := by decide +kernel
theorem dX7_isNearerThan_36 : decode cX7_isNearerThan 36 = .ok (.invokevirtual 58, 3) := by decide +kernel
theorem dX7_isNearerThan_39 : decode cX7_isNearerThan 39 = .ok (.iload_n 2, 1) := by decide +kernel
theorem dX7_isNearerThan_40 : decode cX7_isNearerThan 40 = .ok (.if_icmp .ge 7, 3) := by decide +kernel
theorem dX7_isNearerThan_43 : decode cX7_isNearerThan 43 = .ok (.iconst 1, 1) := by decide +kernel
theorem dX7_isNearerThan_44 : decode cX7_isNearerThan 44 = .ok (.goto 4, 3) := by decide +kernel
theorem dX7_isNearerThan_47 : decode cX7_isNearerThan 47 = .ok (.iconst 0, 1) := by decide +kernel
theorem dX7_isNearerThan_48 : decode cX7_isNearerThan 48 = .ok (.istore 4, 2) := by decide +kernel
theorem dX7_isNearerThan_50 : decode cX7_isNearerThan 50 = .ok (.aload_n 0, 1) := by decide +kernel
theorem dX7_isNearerThan_51 : decode cX7_isNearerThan 51 = .ok (.iload_n 1, 1) := by decide +kernel
theorem dX7_isNearerThan_52 : decode cX7_isNearerThan 52 = .ok (.invokevirtual 70, 3) := by decide +kernel
theorem dX7_isNearerThan_55 : decode cX7_isNearerThan 55 = .ok (.iload_n 2, 1) := by decide +kernel
theorem dX7_isNearerThan_56 : decode cX7_isNearerThan 56 = .ok (.if_icmp .lt 8, 3) := by decide +kernel
theorem dX7_isNearerThan_59 : decode cX7_isNearerThan 59 = .ok (.iload 4, 2) := by decide +kernel
theorem dX7_isNearerThan_61 : decode cX7_isNearerThan 61 = .ok (.ifCond .eq 7, 3) := by decide +kernel
theorem dX7_isNearerThan_64 : decode cX7_isNearerThan 64 = .ok (.iconst 1, 1) := by decide +kernel
theorem dX7_isNearerThan_65 : decode cX7_isNearerThan 65 = .ok (.goto 4, 3) := by decide +kernel
theorem dX7_isNearerThan_68 : decode cX7_isNearerThan 68 = .ok (.iconst 0, 1) := by decide +kernel
theorem dX7_isNearerThan_69 : decode cX7_isNearerThan 69 = .ok (.ireturn, 1) := by decide +kernel
theorem dX7_isMetBy_0 : decode cX7_isMetBy 0 = .ok (.aload_n 0, 1) := by decide +kernel
theorem dX7_isMetBy_1 : decode cX7_isMetBy 1 = .ok (.iload_n 1, 1) := by decide +kernel
theorem dX7_isMetBy_2 : decode cX7_isMetBy 2 = .ok (.invokevirtual 61, 3) := by decide +kernel
theorem dX7_isMetBy_5 : decode cX7_isMetBy 5 = .ok (.istore_n 3, 1) := by decide +kernel
theorem dX7_isMetBy_6 : decode cX7_isMetBy 6 = .ok (.aload_n 0, 1) := by decide +kernel
theorem dX7_isMetBy_7 : decode cX7_isMetBy 7 = .ok (.iload_n 1, 1) := by decide +kernel
theorem dX7_isMetBy_8 : decode cX7_isMetBy 8 = .ok (.invokevirtual 54, 3) := by decide +kernel
theorem dX7_isMetBy_11 : decode cX7_isMetBy 11 = .ok (.iconst 3, 1) := by decide +kernel
theorem dX7_isMetBy_12 : decode cX7_isMetBy 12 = .ok (.if_icmp .eq 17, 3) := by decide +kernel
theorem dX7_isMetBy_15 : decode cX7_isMetBy 15 = .ok (.iload_n 3, 1) := by decide +kernel
theorem dX7_isMetBy_16 : decode cX7_isMetBy 16 = .ok (.ifCond .le 13, 3) := by decide +kernel
theorem dX7_isMetBy_19 : decode cX7_isMetBy 19 = .ok (.iload_n 2, 1) := by decide +kernel
theorem dX7_isMetBy_20 : decode cX7_isMetBy 20 = .ok (.iload_n 3, 1) := by decide +kernel
theorem dX7_isMetBy_21 : decode cX7_isMetBy 21 = .ok (.irem, 1) := by decide +kernel
theorem dX7_isMetBy_22 : decode cX7_isMetBy 22 = .ok (.ifCond .ne 7, 3) := by decide +kernel
theorem dX7_isMetBy_25 : decode cX7_isMetBy 25 = .ok (.iconst 1, 1) := by decide +kernel
theorem dX7_isMetBy_26 : decode cX7_isMetBy 26 = .ok (.goto 4, 3) := by decide +kernel
theorem dX7_isMetBy_29 : decode cX7_isMetBy 29 = .ok (.iconst 0, 1) := by decide +kernel
theorem dX7_isMetBy_30 : decode cX7_isMetBy 30 = .ok (.ireturn, 1) := by decide +kernel
theorem dX8_init_0 : decode cX8_init 0 = .ok (.aload_n 0, 1) := by decide +kernel
theorem dX8_init_1 : decode cX8_init 1 = .ok (.invokespecial 3, 3) := by decide +kernel
theorem dX8_init_4 : decode cX8_init 4 = .ok (.aload_n 0, 1) := by decide +kernel
theorem dX8_init_5 : decode cX8_init 5 = .ok (.bipush 72, 2) := by decide +kernel
theorem dX8_init_7 : decode cX8_init 7 = .ok (.newarray .int, 2) := by decide +kernel
theorem dX8_init_9 : decode cX8_init 9 = .ok (.putfield 9, 3) := by decide +kernel
theorem dX8_init_12 : decode cX8_init 12 = .ok (.aload_n 0, 1) := by decide +kernel
theorem dX8_init_13 : decode cX8_init 13 = .ok (.bipush 72, 2) := by decide +kernel
theorem dX8_init_15 : decode cX8_init 15 = .ok (.newarray .int, 2) := by decide +kernel
theorem dX8_init_17 : decode cX8_init 17 = .ok (.putfield 15, 3) := by decide +kernel
theorem dX8_init_20 : decode cX8_init 20 = .ok (.aload_n 0, 1) := by decide +kernel
theorem dX8_init_21 : decode cX8_init 21 = .ok (.bipush 6, 2) := by decide +kernel
theorem dX8_init_23 : decode cX8_init 23 = .ok (.newarray .int, 2) := by decide +kernel
theorem dX8_init_25 : decode cX8_init 25 = .ok (.putfield 18, 3) := by decide +kernel
theorem dX8_init_28 : decode cX8_init 28 = .ok (.aload_n 0, 1) := by decide +kernel
theorem dX8_init_29 : decode cX8_init 29 = .ok (.iconst 0, 1) := by decide +kernel
theorem dX8_init_30 : decode cX8_init 30 = .ok (.putfield 21, 3) := by decide +kernel
theorem dX8_init_33 : decode cX8_init 33 = .ok (.return_, 1) := by decide +kernel
theorem dX8_become_0 : decode cX8_become 0 = .ok (.aload_n 1, 1) := by decide +kernel
theorem dX8_become_1 : decode cX8_become 1 = .ok (.getfield 9, 3) := by decide +kernel
theorem dX8_become_4 : decode cX8_become 4 = .ok (.iconst 0, 1) := by decide +kernel
theorem dX8_become_5 : decode cX8_become 5 = .ok (.aload_n 0, 1) := by decide +kernel
theorem dX8_become_6 : decode cX8_become 6 = .ok (.getfield 9, 3) := by decide +kernel
theorem dX8_become_9 : decode cX8_become 9 = .ok (.iconst 0, 1) := by decide +kernel
theorem dX8_become_10 : decode cX8_become 10 = .ok (.bipush 72, 2) := by decide +kernel
theorem dX8_become_12 : decode cX8_become 12 = .ok (.invokestatic 25, 3) := by decide +kernel
theorem dX8_become_15 : decode cX8_become 15 = .ok (.aload_n 1, 1) := by decide +kernel
theorem dX8_become_16 : decode cX8_become 16 = .ok (.getfield 15, 3) := by decide +kernel
theorem dX8_become_19 : decode cX8_become 19 = .ok (.iconst 0, 1) := by decide +kernel
theorem dX8_become_20 : decode cX8_become 20 = .ok (.aload_n 0, 1) := by decide +kernel
theorem dX8_become_21 : decode cX8_become 21 = .ok (.getfield 15, 3) := by decide +kernel
theorem dX8_become_24 : decode cX8_become 24 = .ok (.iconst 0, 1) := by decide +kernel
theorem dX8_become_25 : decode cX8_become 25 = .ok (.bipush 72, 2) := by decide +kernel
theorem dX8_become_27 : decode cX8_become 27 = .ok (.invokestatic 25, 3) := by decide +kernel
theorem dX8_become_30 : decode cX8_become 30 = .ok (.aload_n 1, 1) := by decide +kernel
theorem dX8_become_31 : decode cX8_become 31 = .ok (.getfield 18, 3) := by decide +kernel
theorem dX8_become_34 : decode cX8_become 34 = .ok (.iconst 0, 1) := by decide +kernel
theorem dX8_become_35 : decode cX8_become 35 = .ok (.aload_n 0, 1) := by decide +kernel
theorem dX8_become_36 : decode cX8_become 36 = .ok (.getfield 18, 3) := by decide +kernel
theorem dX8_become_39 : decode cX8_become 39 = .ok (.iconst 0, 1) := by decide +kernel
theorem dX8_become_40 : decode cX8_become 40 = .ok (.bipush 6, 2) := by decide +kernel
theorem dX8_become_42 : decode cX8_become 42 = .ok (.invokestatic 25, 3) := by decide +kernel
theorem dX8_become_45 : decode cX8_become 45 = .ok (.aload_n 0, 1) := by decide +kernel
theorem dX8_become_46 : decode cX8_become 46 = .ok (.aload_n 1, 1) := by decide +kernel
theorem dX8_become_47 : decode cX8_become 47 = .ok (.getfield 21, 3) := by decide +kernel
theorem dX8_become_50 : decode cX8_become 50 = .ok (.putfield 21, 3) := by decide +kernel
theorem dX8_become_53 : decode cX8_become 53 = .ok (.return_, 1) := by decide +kernel
theorem dX8_count_0 : decode cX8_count 0 = .ok (.aload_n 0, 1) := by decide +kernel
theorem dX8_count_1 : decode cX8_count 1 = .ok (.getfield 21, 3) := by decide +kernel
theorem dX8_count_4 : decode cX8_count 4 = .ok (.ireturn, 1) := by decide +kernel
theorem dX8_has_0 : decode cX8_has 0 = .ok (.iload_n 1, 1) := by decide +kernel
theorem dX8_has_1 : decode cX8_has 1 = .ok (.ifCond .lt 21, 3) := by decide +kernel
theorem dX8_has_4 : decode cX8_has 4 = .ok (.iload_n 1, 1) := by decide +kernel
theorem dX8_has_5 : decode cX8_has 5 = .ok (.aload_n 0, 1) := by decide +kernel
theorem dX8_has_6 : decode cX8_has 6 = .ok (.getfield 21, 3) := by decide +kernel
theorem dX8_has_9 : decode cX8_has 9 = .ok (.if_icmp .ge 13, 3) := by decide +kernel
theorem dX8_has_12 : decode cX8_has 12 = .ok (.iload_n 1, 1) := by decide +kernel
theorem dX8_has_13 : decode cX8_has 13 = .ok (.bipush 6, 2) := by decide +kernel
theorem dX8_has_15 : decode cX8_has 15 = .ok (.if_icmp .ge 7, 3) := by decide +kernel
theorem dX8_has_18 : decode cX8_has 18 = .ok (.iconst 1, 1) := by decide +kernel
theorem dX8_has_19 : decode cX8_has 19 = .ok (.goto 4, 3) := by decide +kernel
theorem dX8_has_22 : decode cX8_has 22 = .ok (.iconst 0, 1) := by decide +kernel
theorem dX8_has_23 : decode cX8_has 23 = .ok (.ireturn, 1) := by decide +kernel
theorem dX8_hasNote_0 : decode cX8_hasNote 0 = .ok (.aload_n 0, 1) := by decide +kernel
theorem dX8_hasNote_1 : decode cX8_hasNote 1 = .ok (.iload_n 1, 1) := by decide +kernel
theorem dX8_hasNote_2 : decode cX8_hasNote 2 = .ok (.invokevirtual 31, 3) := by decide +kernel
theorem dX8_hasNote_5 : decode cX8_hasNote 5 = .ok (.ifCond .eq 27, 3) := by decide +kernel
theorem dX8_hasNote_8 : decode cX8_hasNote 8 = .ok (.iload_n 2, 1) := by decide +kernel
theorem dX8_hasNote_9 : decode cX8_hasNote 9 = .ok (.ifCond .lt 23, 3) := by decide +kernel
theorem dX8_hasNote_12 : decode cX8_hasNote 12 = .ok (.iload_n 2, 1) := by decide +kernel
theorem dX8_hasNote_13 : decode cX8_hasNote 13 = .ok (.aload_n 0, 1) := by decide +kernel
theorem dX8_hasNote_14 : decode cX8_hasNote 14 = .ok (.getfield 18, 3) := by decide +kernel
theorem dX8_hasNote_17 : decode cX8_hasNote 17 = .ok (.iload_n 1, 1) := by decide +kernel
theorem dX8_hasNote_18 : decode cX8_hasNote 18 = .ok (.iaload, 1) := by decide +kernel
theorem dX8_hasNote_19 : decode cX8_hasNote 19 = .ok (.if_icmp .ge 13, 3) := by decide +kernel
theorem dX8_hasNote_22 : decode cX8_hasNote 22 = .ok (.iload_n 2, 1) := by decide +kernel
theorem dX8_hasNote_23 : decode cX8_hasNote 23 = .ok (.bipush 12, 2) := by decide +kernel
theorem dX8_hasNote_25 : decode cX8_hasNote 25 = .ok (.if_icmp .ge 7, 3) := by decide +kernel
theorem dX8_hasNote_28 : decode cX8_hasNote 28 = .ok (.iconst 1, 1) := by decide +kernel
theorem dX8_hasNote_29 : decode cX8_hasNote 29 = .ok (.goto 4, 3) := by decide +kernel
theorem dX8_hasNote_32 : decode cX8_hasNote 32 = .ok (.iconst 0, 1) := by decide +kernel
theorem dX8_hasNote_33 : decode cX8_hasNote 33 = .ok (.ireturn, 1) := by decide +kernel
theorem dX8_isFull_0 : decode cX8_isFull 0 = .ok (.aload_n 0, 1) := by decide +kernel
theorem dX8_isFull_1 : decode cX8_isFull 1 = .ok (.getfield 21, 3) := by decide +kernel
theorem dX8_isFull_4 : decode cX8_isFull 4 = .ok (.bipush 6, 2) := by decide +kernel
theorem dX8_isFull_6 : decode cX8_isFull 6 = .ok (.if_icmp .lt 7, 3) := by decide +kernel
theorem dX8_isFull_9 : decode cX8_isFull 9 = .ok (.iconst 1, 1) := by decide +kernel
theorem dX8_isFull_10 : decode cX8_isFull 10 = .ok (.goto 4, 3) := by decide +kernel
theorem dX8_isFull_13 : decode cX8_isFull 13 = .ok (.iconst 0, 1) := by decide +kernel
theorem dX8_isFull_14 : decode cX8_isFull 14 = .ok (.ireturn, 1) := by decide +kernel
theorem dX8_begin_0 : decode cX8_begin 0 = .ok (.aload_n 0, 1) := by decide +kernel
theorem dX8_begin_1 : decode cX8_begin 1 = .ok (.invokevirtual 35, 3) := by decide +kernel
theorem dX8_begin_4 : decode cX8_begin 4 = .ok (.ifCond .ne 10, 3) := by decide +kernel
theorem dX8_begin_7 : decode cX8_begin 7 = .ok (.aload_n 0, 1) := by decide +kernel
theorem dX8_begin_8 : decode cX8_begin 8 = .ok (.getfield 21, 3) := by decide +kernel
theorem dX8_begin_11 : decode cX8_begin 11 = .ok (.ifCond .ge 5, 3) := by decide +kernel
theorem dX8_begin_14 : decode cX8_begin 14 = .ok (.iconst (-1), 1) := by decide +kernel
theorem dX8_begin_15 : decode cX8_begin 15 = .ok (.ireturn, 1) := by decide +kernel
theorem dX8_begin_16 : decode cX8_begin 16 = .ok (.aload_n 0, 1) := by decide +kernel
theorem dX8_begin_17 : decode cX8_begin 17 = .ok (.getfield 18, 3) := by decide +kernel
theorem dX8_begin_20 : decode cX8_begin 20 = .ok (.aload_n 0, 1) := by decide +kernel
theorem dX8_begin_21 : decode cX8_begin 21 = .ok (.getfield 21, 3) := by decide +kernel
theorem dX8_begin_24 : decode cX8_begin 24 = .ok (.iconst 0, 1) := by decide +kernel
theorem dX8_begin_25 : decode cX8_begin 25 = .ok (.iastore, 1) := by decide +kernel
theorem dX8_begin_26 : decode cX8_begin 26 = .ok (.aload_n 0, 1) := by decide +kernel
theorem dX8_begin_27 : decode cX8_begin 27 = .ok (.dup, 1) := by decide +kernel
theorem dX8_begin_28 : decode cX8_begin 28 = .ok (.getfield 21, 3) := by decide +kernel
theorem dX8_begin_31 : decode cX8_begin 31 = .ok (.iconst 1, 1) := by decide +kernel
theorem dX8_begin_32 : decode cX8_begin 32 = .ok (.iadd, 1) := by decide +kernel
theorem dX8_begin_33 : decode cX8_begin 33 = .ok (.putfield 21, 3) := by decide +kernel
theorem dX8_begin_36 : decode cX8_begin 36 = .ok (.aload_n 0, 1) := by decide +kernel
theorem dX8_begin_37 : decode cX8_begin 37 = .ok (.getfield 21, 3) := by decide +kernel
theorem dX8_begin_40 : decode cX8_begin 40 = .ok (.iconst 1, 1) := by decide +kernel
theorem dX8_begin_41 : decode cX8_begin 41 = .ok (.isub, 1) := by decide +kernel
theorem dX8_begin_42 : decode cX8_begin 42 = .ok (.ireturn, 1) := by decide +kernel
theorem dX8_mayTakeNote_0 : decode cX8_mayTakeNote 0 = .ok (.aload_n 0, 1) := by decide +kernel
theorem dX8_mayTakeNote_1 : decode cX8_mayTakeNote 1 = .ok (.aload_n 0, 1) := by decide +kernel
theorem dX8_mayTakeNote_2 : decode cX8_mayTakeNote 2 = .ok (.getfield 21, 3) := by decide +kernel
theorem dX8_mayTakeNote_5 : decode cX8_mayTakeNote 5 = .ok (.iconst 1, 1) := by decide +kernel
theorem dX8_mayTakeNote_6 : decode cX8_mayTakeNote 6 = .ok (.isub, 1) := by decide +kernel
theorem dX8_mayTakeNote_7 : decode cX8_mayTakeNote 7 = .ok (.invokevirtual 31, 3) := by decide +kernel
theorem dX8_mayTakeNote_10 : decode cX8_mayTakeNote 10 = .ok (.ifCond .eq 22, 3) := by decide +kernel
theorem dX8_mayTakeNote_13 : decode cX8_mayTakeNote 13 = .ok (.aload_n 0, 1) := by decide +kernel
theorem dX8_mayTakeNote_14 : decode cX8_mayTakeNote 14 = .ok (.aload_n 0, 1) := by decide +kernel
theorem dX8_mayTakeNote_15 : decode cX8_mayTakeNote 15 = .ok (.getfield 21, 3) := by decide +kernel
theorem dX8_mayTakeNote_18 : decode cX8_mayTakeNote 18 = .ok (.iconst 1, 1) := by decide +kernel
theorem dX8_mayTakeNote_19 : decode cX8_mayTakeNote 19 = .ok (.isub, 1) := by decide +kernel
theorem dX8_mayTakeNote_20 : decode cX8_mayTakeNote 20 = .ok (.invokevirtual 39, 3) := by decide +kernel
theorem dX8_mayTakeNote_23 : decode cX8_mayTakeNote 23 = .ok (.bipush 12, 2) := by decide +kernel
theorem dX8_mayTakeNote_25 : decode cX8_mayTakeNote 25 = .ok (.if_icmp .ge 7, 3) := by decide +kernel
theorem dX8_mayTakeNote_28 : decode cX8_mayTakeNote 28 = .ok (.iconst 1, 1) := by decide +kernel
theorem dX8_mayTakeNote_29 : decode cX8_mayTakeNote 29 = .ok (.goto 4, 3) := by decide +kernel
theorem dX8_mayTakeNote_32 : decode cX8_mayTakeNote 32 = .ok (.iconst 0, 1) := by decide +kernel
theorem dX8_mayTakeNote_33 : decode cX8_mayTakeNote 33 = .ok (.ireturn, 1) := by decide +kernel
theorem dX8_addNote_0 : decode cX8_addNote 0 = .ok (.aload_n 0, 1) := by decide +kernel
theorem dX8_addNote_1 : decode cX8_addNote 1 = .ok (.getfield 21, 3) := by decide +kernel
theorem dX8_addNote_4 : decode cX8_addNote 4 = .ok (.iconst 1, 1) := by decide +kernel
theorem dX8_addNote_5 : decode cX8_addNote 5 = .ok (.isub, 1) := by decide +kernel
theorem dX8_addNote_6 : decode cX8_addNote 6 = .ok (.istore_n 3, 1) := by decide +kernel
theorem dX8_addNote_7 : decode cX8_addNote 7 = .ok (.aload_n 0, 1) := by decide +kernel
theorem dX8_addNote_8 : decode cX8_addNote 8 = .ok (.iload_n 3, 1) := by decide +kernel
theorem dX8_addNote_9 : decode cX8_addNote 9 = .ok (.invokevirtual 31, 3) := by decide +kernel
theorem dX8_addNote_12 : decode cX8_addNote 12 = .ok (.ifCond .eq 23, 3) := by decide +kernel
theorem dX8_addNote_15 : decode cX8_addNote 15 = .ok (.aload_n 0, 1) := by decide +kernel
theorem dX8_addNote_16 : decode cX8_addNote 16 = .ok (.getfield 18, 3) := by decide +kernel
theorem dX8_addNote_19 : decode cX8_addNote 19 = .ok (.iload_n 3, 1) := by decide +kernel
theorem dX8_addNote_20 : decode cX8_addNote 20 = .ok (.iaload, 1) := by decide +kernel
theorem dX8_addNote_21 : decode cX8_addNote 21 = .ok (.ifCond .lt 14, 3) := by decide +kernel
theorem dX8_addNote_24 : decode cX8_addNote 24 = .ok (.aload_n 0, 1) := by decide +kernel
theorem dX8_addNote_25 : decode cX8_addNote 25 = .ok (.getfield 18, 3) := by decide +kernel
theorem dX8_addNote_28 : decode cX8_addNote 28 = .ok (.iload_n 3, 1) := by decide +kernel
theorem dX8_addNote_29 : decode cX8_addNote 29 = .ok (.iaload, 1) := by decide +kernel
theorem dX8_addNote_30 : decode cX8_addNote 30 = .ok (.bipush 12, 2) := by decide +kernel
theorem dX8_addNote_32 : decode cX8_addNote 32 = .ok (.if_icmp .lt 4, 3) := by decide +kernel
theorem dX8_addNote_35 : decode cX8_addNote 35 = .ok (.return_, 1) := by decide +kernel
theorem dX8_addNote_36 : decode cX8_addNote 36 = .ok (.iload_n 3, 1) := by decide +kernel
theorem dX8_addNote_37 : decode cX8_addNote 37 = .ok (.bipush 12, 2) := by decide +kernel
theorem dX8_addNote_39 : decode cX8_addNote 39 = .ok (.imul, 1) := by decide +kernel
theorem dX8_addNote_40 : decode cX8_addNote 40 = .ok (.aload_n 0, 1) := by decide +kernel
theorem dX8_addNote_41 : decode cX8_addNote 41 = .ok (.getfield 18, 3) := by decide +kernel
theorem dX8_addNote_44 : decode cX8_addNote 44 = .ok (.iload_n 3, 1) := by decide +kernel
theorem dX8_addNote_45 : decode cX8_addNote 45 = .ok (.iaload, 1) := by decide +kernel
theorem dX8_addNote_46 : decode cX8_addNote 46 = .ok (.iadd, 1) := by decide +kernel
theorem dX8_addNote_47 : decode cX8_addNote 47 = .ok (.istore 4, 2) := by decide +kernel
theorem dX8_addNote_49 : decode cX8_addNote 49 = .ok (.aload_n 0, 1) := by decide +kernel
theorem dX8_addNote_50 : decode cX8_addNote 50 = .ok (.getfield 9, 3) := by decide +kernel
theorem dX8_addNote_53 : decode cX8_addNote 53 = .ok (.iload 4, 2) := by decide +kernel
theorem dX8_addNote_55 : decode cX8_addNote 55 = .ok (.iload_n 1, 1) := by decide +kernel
theorem dX8_addNote_56 : decode cX8_addNote 56 = .ok (.iastore, 1) := by decide +kernel
theorem dX8_addNote_57 : decode cX8_addNote 57 = .ok (.aload_n 0, 1) := by decide +kernel
theorem dX8_addNote_58 : decode cX8_addNote 58 = .ok (.getfield 15, 3) := by decide +kernel
theorem dX8_addNote_61 : decode cX8_addNote 61 = .ok (.iload 4, 2) := by decide +kernel
theorem dX8_addNote_63 : decode cX8_addNote 63 = .ok (.iload_n 2, 1) := by decide +kernel
theorem dX8_addNote_64 : decode cX8_addNote 64 = .ok (.iastore, 1) := by decide +kernel
theorem dX8_addNote_65 : decode cX8_addNote 65 = .ok (.aload_n 0, 1) := by decide +kernel
theorem dX8_addNote_66 : decode cX8_addNote 66 = .ok (.getfield 18, 3) := by decide +kernel
theorem dX8_addNote_69 : decode cX8_addNote 69 = .ok (.iload_n 3, 1) := by decide +kernel
theorem dX8_addNote_70 : decode cX8_addNote 70 = .ok (.dup2, 1) := by decide +kernel
theorem dX8_addNote_71 : decode cX8_addNote 71 = .ok (.iaload, 1) := by decide +kernel
theorem dX8_addNote_72 : decode cX8_addNote 72 = .ok (.iconst 1, 1) := by decide +kernel
theorem dX8_addNote_73 : decode cX8_addNote 73 = .ok (.iadd, 1) := by decide +kernel
theorem dX8_addNote_74 : decode cX8_addNote 74 = .ok (.iastore, 1) := by decide +kernel
theorem dX8_addNote_75 : decode cX8_addNote 75 = .ok (.return_, 1) := by decide +kernel
theorem dX8_notesOf_0 : decode cX8_notesOf 0 = .ok (.aload_n 0, 1) := by decide +kernel
theorem dX8_notesOf_1 : decode cX8_notesOf 1 = .ok (.iload_n 1, 1) := by decide +kernel
theorem dX8_notesOf_2 : decode cX8_notesOf 2 = .ok (.invokevirtual 31, 3) := by decide +kernel
theorem dX8_notesOf_5 : decode cX8_notesOf 5 = .ok (.ifCond .eq 12, 3) := by decide +kernel
theorem dX8_notesOf_8 : decode cX8_notesOf 8 = .ok (.aload_n 0, 1) := by decide +kernel
theorem dX8_notesOf_9 : decode cX8_notesOf 9 = .ok (.getfield 18, 3) := by decide +kernel
theorem dX8_notesOf_12 : decode cX8_notesOf 12 = .ok (.iload_n 1, 1) := by decide +kernel
theorem dX8_notesOf_13 : decode cX8_notesOf 13 = .ok (.iaload, 1) := by decide +kernel
theorem dX8_notesOf_14 : decode cX8_notesOf 14 = .ok (.goto 4, 3) := by decide +kernel
theorem dX8_notesOf_17 : decode cX8_notesOf 17 = .ok (.iconst 0, 1) := by decide +kernel
theorem dX8_notesOf_18 : decode cX8_notesOf 18 = .ok (.ireturn, 1) := by decide +kernel
theorem dX8_pitchOf_0 : decode cX8_pitchOf 0 = .ok (.aload_n 0, 1) := by decide +kernel
theorem dX8_pitchOf_1 : decode cX8_pitchOf 1 = .ok (.iload_n 1, 1) := by decide +kernel
theorem dX8_pitchOf_2 : decode cX8_pitchOf 2 = .ok (.iload_n 2, 1) := by decide +kernel
theorem dX8_pitchOf_3 : decode cX8_pitchOf 3 = .ok (.invokevirtual 43, 3) := by decide +kernel
theorem dX8_pitchOf_6 : decode cX8_pitchOf 6 = .ok (.ifCond .eq 17, 3) := by decide +kernel
theorem dX8_pitchOf_9 : decode cX8_pitchOf 9 = .ok (.aload_n 0, 1) := by decide +kernel
theorem dX8_pitchOf_10 : decode cX8_pitchOf 10 = .ok (.getfield 9, 3) := by decide +kernel
theorem dX8_pitchOf_13 : decode cX8_pitchOf 13 = .ok (.iload_n 1, 1) := by decide +kernel
theorem dX8_pitchOf_14 : decode cX8_pitchOf 14 = .ok (.bipush 12, 2) := by decide +kernel
theorem dX8_pitchOf_16 : decode cX8_pitchOf 16 = .ok (.imul, 1) := by decide +kernel
theorem dX8_pitchOf_17 : decode cX8_pitchOf 17 = .ok (.iload_n 2, 1) := by decide +kernel
theorem dX8_pitchOf_18 : decode cX8_pitchOf 18 = .ok (.iadd, 1) := by decide +kernel
theorem dX8_pitchOf_19 : decode cX8_pitchOf 19 = .ok (.iaload, 1) := by decide +kernel
theorem dX8_pitchOf_20 : decode cX8_pitchOf 20 = .ok (.goto 4, 3) := by decide +kernel
theorem dX8_pitchOf_23 : decode cX8_pitchOf 23 = .ok (.iconst 0, 1) := by decide +kernel
theorem dX8_pitchOf_24 : decode cX8_pitchOf 24 = .ok (.ireturn, 1) := by decide +kernel
theorem dX8_beatsOf_0 : decode cX8_beatsOf 0 = .ok (.aload_n 0, 1) := by decide +kernel
theorem dX8_beatsOf_1 : decode cX8_beatsOf 1 = .ok (.iload_n 1, 1) := by decide +kernel
theorem dX8_beatsOf_2 : decode cX8_beatsOf 2 = .ok (.iload_n 2, 1) := by decide +kernel
theorem dX8_beatsOf_3 : decode cX8_beatsOf 3 = .ok (.invokevirtual 43, 3) := by decide +kernel
theorem dX8_beatsOf_6 : decode cX8_beatsOf 6 = .ok (.ifCond .eq 17, 3) := by decide +kernel
theorem dX8_beatsOf_9 : decode cX8_beatsOf 9 = .ok (.aload_n 0, 1) := by decide +kernel
theorem dX8_beatsOf_10 : decode cX8_beatsOf 10 = .ok (.getfield 15, 3) := by decide +kernel
theorem dX8_beatsOf_13 : decode cX8_beatsOf 13 = .ok (.iload_n 1, 1) := by decide +kernel
theorem dX8_beatsOf_14 : decode cX8_beatsOf 14 = .ok (.bipush 12, 2) := by decide +kernel
theorem dX8_beatsOf_16 : decode cX8_beatsOf 16 = .ok (.imul, 1) := by decide +kernel
theorem dX8_beatsOf_17 : decode cX8_beatsOf 17 = .ok (.iload_n 2, 1) := by decide +kernel
theorem dX8_beatsOf_18 : decode cX8_beatsOf 18 = .ok (.iadd, 1) := by decide +kernel
theorem dX8_beatsOf_19 : decode cX8_beatsOf 19 = .ok (.iaload, 1) := by decide +kernel
theorem dX8_beatsOf_20 : decode cX8_beatsOf 20 = .ok (.goto 4, 3) := by decide +kernel
theorem dX8_beatsOf_23 : decode cX8_beatsOf 23 = .ok (.iconst 0, 1) := by decide +kernel
theorem dX8_beatsOf_24 : decode cX8_beatsOf 24 = .ok (.ireturn, 1) := by decide +kernel
theorem dX8_beatsAhead_0 : decode cX8_beatsAhead 0 = .ok (.iconst 0, 1) := by decide +kernel
theorem dX8_beatsAhead_1 : decode cX8_beatsAhead 1 = .ok (.istore_n 3, 1) := by decide +kernel
theorem dX8_beatsAhead_2 : decode cX8_beatsAhead 2 = .ok (.iconst 0, 1) := by decide +kernel
theorem dX8_beatsAhead_3 : decode cX8_beatsAhead 3 = .ok (.istore 4, 2) := by decide +kernel
theorem dX8_beatsAhead_5 : decode cX8_beatsAhead 5 = .ok (.iload 4, 2) := by decide +kernel
theorem dX8_beatsAhead_7 : decode cX8_beatsAhead 7 = .ok (.iload_n 2, 1) := by decide +kernel
theorem dX8_beatsAhead_8 : decode cX8_beatsAhead 8 = .ok (.if_icmp .ge 26, 3) := by decide +kernel
theorem dX8_beatsAhead_11 : decode cX8_beatsAhead 11 = .ok (.iload 4, 2) := by decide +kernel
theorem dX8_beatsAhead_13 : decode cX8_beatsAhead 13 = .ok (.bipush 12, 2) := by decide +kernel
theorem dX8_beatsAhead_15 : decode cX8_beatsAhead 15 = .ok (.if_icmp .ge 19, 3) := by decide +kernel
theorem dX8_beatsAhead_18 : decode cX8_beatsAhead 18 = .ok (.iload_n 3, 1) := by decide +kernel
theorem dX8_beatsAhead_19 : decode cX8_beatsAhead 19 = .ok (.aload_n 0, 1) := by decide +kernel
theorem dX8_beatsAhead_20 : decode cX8_beatsAhead 20 = .ok (.iload_n 1, 1) := by decide +kernel
theorem dX8_beatsAhead_21 : decode cX8_beatsAhead 21 = .ok (.iload 4, 2) := by decide +kernel
theorem dX8_beatsAhead_23 : decode cX8_beatsAhead 23 = .ok (.invokevirtual 47, 3) := by decide +kernel
theorem dX8_beatsAhead_26 : decode cX8_beatsAhead 26 = .ok (.iadd, 1) := by decide +kernel
theorem dX8_beatsAhead_27 : decode cX8_beatsAhead 27 = .ok (.istore_n 3, 1) := by decide +kernel
theorem dX8_beatsAhead_28 : decode cX8_beatsAhead 28 = .ok (.iinc 4 1, 3) := by decide +kernel
theorem dX8_beatsAhead_31 : decode cX8_beatsAhead 31 = .ok (.goto (-26), 3) := by decide +kernel
theorem dX8_beatsAhead_34 : decode cX8_beatsAhead 34 = .ok (.iload_n 3, 1) := by decide +kernel
theorem dX8_beatsAhead_35 : decode cX8_beatsAhead 35 = .ok (.ireturn, 1) := by decide +kernel
theorem dX9_init_0 : decode cX9_init 0 = .ok (.aload_n 0, 1) := by decide +kernel
theorem dX9_init_1 : decode cX9_init 1 = .ok (.invokespecial 1, 3) := by decide +kernel
theorem dX9_init_4 : decode cX9_init 4 = .ok (.aload_n 0, 1) := by decide +kernel
theorem dX9_init_5 : decode cX9_init 5 = .ok (.new 7, 3) := by decide +kernel
theorem dX9_init_8 : decode cX9_init 8 = .ok (.dup, 1) := by decide +kernel
theorem dX9_init_9 : decode cX9_init 9 = .ok (.invokespecial 9, 3) := by decide +kernel
theorem dX9_init_12 : decode cX9_init 12 = .ok (.putfield 10, 3) := by decide +kernel
theorem dX9_init_15 : decode cX9_init 15 = .ok (.aload_n 0, 1) := by decide +kernel
theorem dX9_init_16 : decode cX9_init 16 = .ok (.new 7, 3) := by decide +kernel
theorem dX9_init_19 : decode cX9_init 19 = .ok (.dup, 1) := by decide +kernel
theorem dX9_init_20 : decode cX9_init 20 = .ok (.invokespecial 9, 3) := by decide +kernel
theorem dX9_init_23 : decode cX9_init 23 = .ok (.putfield 16, 3) := by decide +kernel
theorem dX9_init_26 : decode cX9_init 26 = .ok (.aload_n 0, 1) := by decide +kernel
theorem dX9_init_27 : decode cX9_init 27 = .ok (.new 7, 3) := by decide +kernel
theorem dX9_init_30 : decode cX9_init 30 = .ok (.dup, 1) := by decide +kernel
theorem dX9_init_31 : decode cX9_init 31 = .ok (.invokespecial 9, 3) := by decide +kernel
theorem dX9_init_34 : decode cX9_init 34 = .ok (.putfield 19, 3) := by decide +kernel
theorem dX9_init_37 : decode cX9_init 37 = .ok (.aload_n 0, 1) := by decide +kernel
theorem dX9_init_38 : decode cX9_init 38 = .ok (.bipush 8, 2) := by decide +kernel
theorem dX9_init_40 : decode cX9_init 40 = .ok (.anewarray 22, 3) := by decide +kernel
theorem dX9_init_43 : decode cX9_init 43 = .ok (.putfield 24, 3) := by decide +kernel
theorem dX9_init_46 : decode cX9_init 46 = .ok (.aload_n 0, 1) := by decide +kernel
theorem dX9_init_47 : decode cX9_init 47 = .ok (.new 28, 3) := by decide +kernel
theorem dX9_init_50 : decode cX9_init 50 = .ok (.dup, 1) := by decide +kernel
theorem dX9_init_51 : decode cX9_init 51 = .ok (.invokespecial 30, 3) := by decide +kernel
theorem dX9_init_54 : decode cX9_init 54 = .ok (.putfield 31, 3) := by decide +kernel
theorem dX9_init_57 : decode cX9_init 57 = .ok (.aload_n 0, 1) := by decide +kernel
theorem dX9_init_58 : decode cX9_init 58 = .ok (.new 35, 3) := by decide +kernel
theorem dX9_init_61 : decode cX9_init 61 = .ok (.dup, 1) := by decide +kernel
theorem dX9_init_62 : decode cX9_init 62 = .ok (.invokespecial 37, 3) := by decide +kernel
theorem dX9_init_65 : decode cX9_init 65 = .ok (.putfield 38, 3) := by decide +kernel
theorem dX9_init_68 : decode cX9_init 68 = .ok (.aload_n 0, 1) := by decide +kernel
theorem dX9_init_69 : decode cX9_init 69 = .ok (.bipush 8, 2) := by decide +kernel
theorem dX9_init_71 : decode cX9_init 71 = .ok (.newarray .int, 2) := by decide +kernel
theorem dX9_init_73 : decode cX9_init 73 = .ok (.putfield 42, 3) := by decide +kernel
theorem dX9_init_76 : decode cX9_init 76 = .ok (.aload_n 0, 1) := by decide +kernel
theorem dX9_init_77 : decode cX9_init 77 = .ok (.iconst 0, 1) := by decide +kernel
theorem dX9_init_78 : decode cX9_init 78 = .ok (.putfield 46, 3) := by decide +kernel
theorem dX9_init_81 : decode cX9_init 81 = .ok (.aload_n 0, 1) := by decide +kernel
theorem dX9_init_82 : decode cX9_init 82 = .ok (.iconst (-1), 1) := by decide +kernel
theorem dX9_init_83 : decode cX9_init 83 = .ok (.putfield 50, 3) := by decide +kernel
theorem dX9_init_86 : decode cX9_init 86 = .ok (.iconst 0, 1) := by decide +kernel
theorem dX9_init_87 : decode cX9_init 87 = .ok (.istore_n 1, 1) := by decide +kernel
theorem dX9_init_88 : decode cX9_init 88 = .ok (.iload_n 1, 1) := by decide +kernel
theorem dX9_init_89 : decode cX9_init 89 = .ok (.bipush 8, 2) := by decide +kernel
theorem dX9_init_91 : decode cX9_init 91 = .ok (.if_icmp .ge 22, 3) := by decide +kernel
theorem dX9_init_94 : decode cX9_init 94 = .ok (.aload_n 0, 1) := by decide +kernel
theorem dX9_init_95 : decode cX9_init 95 = .ok (.getfield 24, 3) := by decide +kernel
theorem dX9_init_98 : decode cX9_init 98 = .ok (.iload_n 1, 1) := by decide +kernel
theorem dX9_init_99 : decode cX9_init 99 = .ok (.new 22, 3) := by decide +kernel
theorem dX9_init_102 : decode cX9_init 102 = .ok (.dup, 1) := by decide +kernel
theorem dX9_init_103 : decode cX9_init 103 = .ok (.invokespecial 54, 3) := by decide +kernel
theorem dX9_init_106 : decode cX9_init 106 = .ok (.aastore, 1) := by decide +kernel
theorem dX9_init_107 : decode cX9_init 107 = .ok (.iinc 1 1, 3) := by decide +kernel
theorem dX9_init_110 : decode cX9_init 110 = .ok (.goto (-22), 3) := by decide +kernel
theorem dX9_init_113 : decode cX9_init 113 = .ok (.return_, 1) := by decide +kernel
theorem dX9_row_0 : decode cX9_row 0 = .ok (.aload_n 0, 1) := by decide +kernel
theorem dX9_row_1 : decode cX9_row 1 = .ok (.iload_n 1, 1) := by decide +kernel
theorem dX9_row_2 : decode cX9_row 2 = .ok (.invokevirtual 55, 3) := by decide +kernel
theorem dX9_row_5 : decode cX9_row 5 = .ok (.astore 4, 2) := by decide +kernel
theorem dX9_row_7 : decode cX9_row 7 = .ok (.aload 4, 2) := by decide +kernel
theorem dX9_row_9 : decode cX9_row 9 = .ok (.ifnonnull 9, 3) := by decide +kernel
theorem dX9_row_12 : decode cX9_row 12 = .ok (.aload_n 0, 1) := by decide +kernel
theorem dX9_row_13 : decode cX9_row 13 = .ok (.iconst (-1), 1) := by decide +kernel
theorem dX9_row_14 : decode cX9_row 14 = .ok (.invokevirtual 59, 3) := by decide +kernel
theorem dX9_row_17 : decode cX9_row 17 = .ok (.ireturn, 1) := by decide +kernel
theorem dX9_row_18 : decode cX9_row 18 = .ok (.iload_n 3, 1) := by decide +kernel
theorem dX9_row_19 : decode cX9_row 19 = .ok (.ifCond .ge 10, 3) := by decide +kernel
theorem dX9_row_22 : decode cX9_row 22 = .ok (.aload_n 0, 1) := by decide +kernel
theorem dX9_row_23 : decode cX9_row 23 = .ok (.bipush (-4), 2) := by decide +kernel
theorem dX9_row_25 : decode cX9_row 25 = .ok (.invokevirtual 59, 3) := by decide +kernel
theorem dX9_row_28 : decode cX9_row 28 = .ok (.ireturn, 1) := by decide +kernel
theorem dX9_row_29 : decode cX9_row 29 = .ok (.iload_n 2, 1) := by decide +kernel
theorem dX9_row_30 : decode cX9_row 30 = .ok (.iconst 0, 1) := by decide +kernel
theorem dX9_row_31 : decode cX9_row 31 = .ok (.iconst 3, 1) := by decide +kernel
theorem dX9_row_32 : decode cX9_row 32 = .ok (.invokestatic 63, 3) := by decide +kernel
theorem dX9_row_35 : decode cX9_row 35 = .ok (.ifCond .ne 10, 3) := by decide +kernel
theorem dX9_row_38 : decode cX9_row 38 = .ok (.aload_n 0, 1) := by decide +kernel
theorem dX9_row_39 : decode cX9_row 39 = .ok (.bipush (-6), 2) := by decide +kernel
theorem dX9_row_41 : decode cX9_row 41 = .ok (.invokevirtual 59, 3) := by decide +kernel
theorem dX9_row_44 : decode cX9_row 44 = .ok (.ireturn, 1) := by decide +kernel
theorem dX9_row_45 : decode cX9_row 45 = .ok (.iload_n 3, 1) := by decide +kernel
theorem dX9_row_46 : decode cX9_row 46 = .ok (.sipush 160, 3) := by decide +kernel
theorem dX9_row_49 : decode cX9_row 49 = .ok (.if_icmp .le 10, 3) := by decide +kernel
theorem dX9_row_52 : decode cX9_row 52 = .ok (.aload_n 0, 1) := by decide +kernel
theorem dX9_row_53 : decode cX9_row 53 = .ok (.bipush (-7), 2) := by decide +kernel
theorem dX9_row_55 : decode cX9_row 55 = .ok (.invokevirtual 59, 3) := by decide +kernel
theorem dX9_row_58 : decode cX9_row 58 = .ok (.ireturn, 1) := by decide +kernel
theorem dX9_row_59 : decode cX9_row 59 = .ok (.aload 4, 2) := by decide +kernel
theorem dX9_row_61 : decode cX9_row 61 = .ok (.iload_n 2, 1) := by decide +kernel
theorem dX9_row_62 : decode cX9_row 62 = .ok (.iload_n 3, 1) := by decide +kernel
theorem dX9_row_63 : decode cX9_row 63 = .ok (.invokevirtual 67, 3) := by decide +kernel
theorem dX9_row_66 : decode cX9_row 66 = .ok (.iconst 1, 1) := by decide +kernel
theorem dX9_row_67 : decode cX9_row 67 = .ok (.ireturn, 1) := by decide +kernel
theorem dX9_set_0 : decode cX9_set 0 = .ok (.aload_n 0, 1) := by decide +kernel
theorem dX9_set_1 : decode cX9_set 1 = .ok (.iload_n 1, 1) := by decide +kernel
theorem dX9_set_2 : decode cX9_set 2 = .ok (.invokevirtual 55, 3) := by decide +kernel
theorem dX9_set_5 : decode cX9_set 5 = .ok (.astore 5, 2) := by decide +kernel
theorem dX9_set_7 : decode cX9_set 7 = .ok (.aload 5, 2) := by decide +kernel
theorem dX9_set_9 : decode cX9_set 9 = .ok (.invokestatic 71, 3) := by decide +kernel
theorem dX9_set_12 : decode cX9_set 12 = .ok (.istore 6, 2) := by decide +kernel
theorem dX9_set_14 : decode cX9_set 14 = .ok (.iload 6, 2) := by decide +kernel
theorem dX9_set_16 : decode cX9_set 16 = .ok (.ifCond .ne 8, 3) := by decide +kernel
theorem dX9_set_19 : decode cX9_set 19 = .ok (.aload 5, 2) := by decide +kernel
theorem dX9_set_21 : decode cX9_set 21 = .ok (.ifnonnull 10, 3) := by decide +kernel
theorem dX9_set_24 : decode cX9_set 24 = .ok (.aload_n 0, 1) := by decide +kernel
theorem dX9_set_25 : decode cX9_set 25 = .ok (.iload 6, 2) := by decide +kernel
theorem dX9_set_27 : decode cX9_set 27 = .ok (.invokevirtual 59, 3) := by decide +kernel
theorem dX9_set_30 : decode cX9_set 30 = .ok (.ireturn, 1) := by decide +kernel
theorem dX9_set_31 : decode cX9_set 31 = .ok (.aload 5, 2) := by decide +kernel
theorem dX9_set_33 : decode cX9_set 33 = .ok (.iload_n 2, 1) := by decide +kernel
theorem dX9_set_34 : decode cX9_set 34 = .ok (.invokevirtual 75, 3) := by decide +kernel
theorem dX9_set_37 : decode cX9_set 37 = .ok (.ifCond .ne 10, 3) := by decide +kernel
theorem dX9_set_40 : decode cX9_set 40 = .ok (.aload_n 0, 1) := by decide +kernel
theorem dX9_set_41 : decode cX9_set 41 = .ok (.bipush (-5), 2) := by decide +kernel
theorem dX9_set_43 : decode cX9_set 43 = .ok (.invokevirtual 59, 3) := by decide +kernel
theorem dX9_set_46 : decode cX9_set 46 = .ok (.ireturn, 1) := by decide +kernel
theorem dX9_set_47 : decode cX9_set 47 = .ok (.aload 5, 2) := by decide +kernel
theorem dX9_set_49 : decode cX9_set 49 = .ok (.iload_n 2, 1) := by decide +kernel
theorem dX9_set_50 : decode cX9_set 50 = .ok (.lload_n 3, 1) := by decide +kernel
theorem dX9_set_51 : decode cX9_set 51 = .ok (.invokevirtual 79, 3) := by decide +kernel
theorem dX9_set_54 : decode cX9_set 54 = .ok (.iconst 1, 1) := by decide +kernel
theorem dX9_set_55 : decode cX9_set 55 = .ok (.ireturn, 1) := by decide +kernel
theorem dX9_copy_0 : decode cX9_copy 0 = .ok (.aload_n 0, 1) := by decide +kernel
theorem dX9_copy_1 : decode cX9_copy 1 = .ok (.iload_n 1, 1) := by decide +kernel
theorem dX9_copy_2 : decode cX9_copy 2 = .ok (.invokevirtual 55, 3) := by decide +kernel
theorem dX9_copy_5 : decode cX9_copy 5 = .ok (.astore 6, 2) := by decide +kernel
theorem dX9_copy_7 : decode cX9_copy 7 = .ok (.aload_n 0, 1) := by decide +kernel
theorem dX9_copy_8 : decode cX9_copy 8 = .ok (.iload_n 2, 1) := by decide +kernel
theorem dX9_copy_9 : decode cX9_copy 9 = .ok (.invokevirtual 55, 3) := by decide +kernel
theorem dX9_copy_12 : decode cX9_copy 12 = .ok (.astore 7, 2) := by decide +kernel
theorem dX9_copy_14 : decode cX9_copy 14 = .ok (.aload 6, 2) := by decide +kernel
theorem dX9_copy_16 : decode cX9_copy 16 = .ok (.ifnull 8, 3) := by decide +kernel
theorem dX9_copy_19 : decode cX9_copy 19 = .ok (.aload 7, 2) := by decide +kernel
theorem dX9_copy_21 : decode cX9_copy 21 = .ok (.ifnonnull 9, 3) := by decide +kernel
theorem dX9_copy_24 : decode cX9_copy 24 = .ok (.aload_n 0, 1) := by decide +kernel
theorem dX9_copy_25 : decode cX9_copy 25 = .ok (.iconst (-1), 1) := by decide +kernel
theorem dX9_copy_26 : decode cX9_copy 26 = .ok (.invokevirtual 59, 3) := by decide +kernel
theorem dX9_copy_29 : decode cX9_copy 29 = .ok (.ireturn, 1) := by decide +kernel
theorem dX9_copy_30 : decode cX9_copy 30 = .ok (.aload 6, 2) := by decide +kernel
theorem dX9_copy_32 : decode cX9_copy 32 = .ok (.invokevirtual 83, 3) := by decide +kernel
theorem dX9_copy_35 : decode cX9_copy 35 = .ok (.ifCond .ne 21, 3) := by decide +kernel
theorem dX9_copy_38 : decode cX9_copy 38 = .ok (.aload 7, 2) := by decide +kernel
theorem dX9_copy_40 : decode cX9_copy 40 = .ok (.invokevirtual 83, 3) := by decide +kernel
theorem dX9_copy_43 : decode cX9_copy 43 = .ok (.ifCond .ne 13, 3) := by decide +kernel
theorem dX9_copy_46 : decode cX9_copy 46 = .ok (.aload 6, 2) := by decide +kernel
theorem dX9_copy_48 : decode cX9_copy 48 = .ok (.aload 7, 2) := by decide +kernel
theorem dX9_copy_50 : decode cX9_copy 50 = .ok (.invokevirtual 87, 3) := by decide +kernel
theorem dX9_copy_53 : decode cX9_copy 53 = .ok (.ifCond .eq 10, 3) := by decide +kernel
theorem dX9_copy_56 : decode cX9_copy 56 = .ok (.aload_n 0, 1) := by decide +kernel
theorem dX9_copy_57 : decode cX9_copy 57 = .ok (.bipush (-2), 2) := by decide +kernel
theorem dX9_copy_59 : decode cX9_copy 59 = .ok (.invokevirtual 59, 3) := by decide +kernel
theorem dX9_copy_62 : decode cX9_copy 62 = .ok (.ireturn, 1) := by decide +kernel
theorem dX9_copy_63 : decode cX9_copy 63 = .ok (.aload 6, 2) := by decide +kernel
theorem dX9_copy_65 : decode cX9_copy 65 = .ok (.invokevirtual 91, 3) := by decide +kernel
theorem dX9_copy_68 : decode cX9_copy 68 = .ok (.ifCond .eq 11, 3) := by decide +kernel
theorem dX9_copy_71 : decode cX9_copy 71 = .ok (.aload 7, 2) := by decide +kernel
theorem dX9_copy_73 : decode cX9_copy 73 = .ok (.invokevirtual 91, 3) := by decide +kernel
theorem dX9_copy_76 : decode cX9_copy 76 = .ok (.ifCond .ne 10, 3) := by decide +kernel
theorem dX9_copy_79 : decode cX9_copy 79 = .ok (.aload_n 0, 1) := by decide +kernel
theorem dX9_copy_80 : decode cX9_copy 80 = .ok (.bipush (-3), 2) := by decide +kernel
theorem dX9_copy_82 : decode cX9_copy 82 = .ok (.invokevirtual 59, 3) := by decide +kernel
theorem dX9_copy_85 : decode cX9_copy 85 = .ok (.ireturn, 1) := by decide +kernel
theorem dX9_copy_86 : decode cX9_copy 86 = .ok (.iload 5, 2) := by decide +kernel
theorem dX9_copy_88 : decode cX9_copy 88 = .ok (.ifCond .ge 10, 3) := by decide +kernel
theorem dX9_copy_91 : decode cX9_copy 91 = .ok (.aload_n 0, 1) := by decide +kernel
theorem dX9_copy_92 : decode cX9_copy 92 = .ok (.bipush (-4), 2) := by decide +kernel
theorem dX9_copy_94 : decode cX9_copy 94 = .ok (.invokevirtual 59, 3) := by decide +kernel
theorem dX9_copy_97 : decode cX9_copy 97 = .ok (.ireturn, 1) := by decide +kernel
theorem dX9_copy_98 : decode cX9_copy 98 = .ok (.aload 6, 2) := by decide +kernel
theorem dX9_copy_100 : decode cX9_copy 100 = .ok (.iload_n 3, 1) := by decide +kernel
theorem dX9_copy_101 : decode cX9_copy 101 = .ok (.iload 5, 2) := by decide +kernel
theorem dX9_copy_103 : decode cX9_copy 103 = .ok (.invokevirtual 94, 3) := by decide +kernel
theorem dX9_copy_106 : decode cX9_copy 106 = .ok (.ifCond .eq 15, 3) := by decide +kernel
theorem dX9_copy_109 : decode cX9_copy 109 = .ok (.aload 7, 2) := by decide +kernel
theorem dX9_copy_111 : decode cX9_copy 111 = .ok (.iload 4, 2) := by decide +kernel
theorem dX9_copy_113 : decode cX9_copy 113 = .ok (.iload 5, 2) := by decide +kernel
theorem dX9_copy_115 : decode cX9_copy 115 = .ok (.invokevirtual 94, 3) := by decide +kernel
theorem dX9_copy_118 : decode cX9_copy 118 = .ok (.ifCond .ne 10, 3) := by decide +kernel
theorem dX9_copy_121 : decode cX9_copy 121 = .ok (.aload_n 0, 1) := by decide +kernel
theorem dX9_copy_122 : decode cX9_copy 122 = .ok (.bipush (-5), 2) := by decide +kernel
theorem dX9_copy_124 : decode cX9_copy 124 = .ok (.invokevirtual 59, 3) := by decide +kernel
theorem dX9_copy_127 : decode cX9_copy 127 = .ok (.ireturn, 1) := by decide +kernel
theorem dX9_copy_128 : decode cX9_copy 128 = .ok (.aload 7, 2) := by decide +kernel
theorem dX9_copy_130 : decode cX9_copy 130 = .ok (.aload 6, 2) := by decide +kernel
theorem dX9_copy_132 : decode cX9_copy 132 = .ok (.iload_n 3, 1) := by decide +kernel
theorem dX9_copy_133 : decode cX9_copy 133 = .ok (.iload 4, 2) := by decide +kernel
theorem dX9_copy_135 : decode cX9_copy 135 = .ok (.iload 5, 2) := by decide +kernel
theorem dX9_copy_137 : decode cX9_copy 137 = .ok (.invokevirtual 98, 3) := by decide +kernel
theorem dX9_copy_140 : decode cX9_copy 140 = .ok (.iconst 1, 1) := by decide +kernel
theorem dX9_copy_141 : decode cX9_copy 141 = .ok (.ireturn, 1) := by decide +kernel
theorem dX9_element_0 : decode cX9_element 0 = .ok (.aload_n 0, 1) := by decide +kernel
theorem dX9_element_1 : decode cX9_element 1 = .ok (.iload_n 1, 1) := by decide +kernel
theorem dX9_element_2 : decode cX9_element 2 = .ok (.invokevirtual 55, 3) := by decide +kernel
theorem dX9_element_5 : decode cX9_element 5 = .ok (.astore_n 3, 1) := by decide +kernel
theorem dX9_element_6 : decode cX9_element 6 = .ok (.aload_n 3, 1) := by decide +kernel
theorem dX9_element_7 : decode cX9_element 7 = .ok (.ifnonnull 7, 3) := by decide +kernel
theorem dX9_element_10 : decode cX9_element 10 = .ok (.lconst 0, 1) := by decide +kernel
theorem dX9_element_11 : decode cX9_element 11 = .ok (.goto 8, 3) := by decide +kernel
theorem dX9_element_14 : decode cX9_element 14 = .ok (.aload_n 3, 1) := by decide +kernel
theorem dX9_element_15 : decode cX9_element 15 = .ok (.iload_n 2, 1) := by decide +kernel
theorem dX9_element_16 : decode cX9_element 16 = .ok (.invokevirtual 102, 3) := by decide +kernel
theorem dX9_element_19 : decode cX9_element 19 = .ok (.lreturn, 1) := by decide +kernel
theorem dX9_show_0 : decode cX9_show 0 = .ok (.aload_n 0, 1) := by decide +kernel
theorem dX9_show_1 : decode cX9_show 1 = .ok (.iload_n 1, 1) := by decide +kernel
theorem dX9_show_2 : decode cX9_show 2 = .ok (.invokevirtual 55, 3) := by decide +kernel
theorem dX9_show_5 : decode cX9_show 5 = .ok (.astore_n 3, 1) := by decide +kernel
theorem dX9_show_6 : decode cX9_show 6 = .ok (.aload_n 3, 1) := by decide +kernel
theorem dX9_show_7 : decode cX9_show 7 = .ok (.ifnull 22, 3) := by decide +kernel
theorem dX9_show_10 : decode cX9_show 10 = .ok (.iload_n 2, 1) := by decide +kernel
theorem dX9_show_11 : decode cX9_show 11 = .ok (.iconst (-1), 1) := by decide +kernel
theorem dX9_show_12 : decode cX9_show 12 = .ok (.if_icmp .eq 23, 3) := by decide +kernel
theorem dX9_show_15 : decode cX9_show 15 = .ok (.aload_n 0, 1) := by decide +kernel
theorem dX9_show_16 : decode cX9_show 16 = .ok (.getfield 10, 3) := by decide +kernel
theorem dX9_show_19 : decode cX9_show 19 = .ok (.getfield 106, 3) := by decide +kernel
theorem dX9_show_22 : decode cX9_show 22 = .ok (.iload_n 2, 1) := by decide +kernel
theorem dX9_show_23 : decode cX9_show 23 = .ok (.invokevirtual 110, 3) := by decide +kernel
theorem dX9_show_26 : decode cX9_show 26 = .ok (.ifCond .ne 9, 3) := by decide +kernel
theorem dX9_show_29 : decode cX9_show 29 = .ok (.aload_n 0, 1) := by decide +kernel
theorem dX9_show_30 : decode cX9_show 30 = .ok (.iconst (-1), 1) := by decide +kernel
theorem dX9_show_31 : decode cX9_show 31 = .ok (.invokevirtual 59, 3) := by decide +kernel
theorem dX9_show_34 : decode cX9_show 34 = .ok (.ireturn, 1) := by decide +kernel
theorem dX9_show_35 : decode cX9_show 35 = .ok (.iload_n 2, 1) := by decide +kernel
theorem dX9_show_36 : decode cX9_show 36 = .ok (.iconst (-1), 1) := by decide +kernel
theorem dX9_show_37 : decode cX9_show 37 = .ok (.if_icmp .ne 9, 3) := by decide +kernel
theorem dX9_show_40 : decode cX9_show 40 = .ok (.aload_n 3, 1) := by decide +kernel
theorem dX9_show_41 : decode cX9_show 41 = .ok (.invokevirtual 115, 3) := by decide +kernel
theorem dX9_show_44 : decode cX9_show 44 = .ok (.iconst 0, 1) := by decide +kernel
theorem dX9_show_45 : decode cX9_show 45 = .ok (.ireturn, 1) := by decide +kernel
theorem dX9_show_46 : decode cX9_show 46 = .ok (.aload_n 3, 1) := by decide +kernel
theorem dX9_show_47 : decode cX9_show 47 = .ok (.iload_n 2, 1) := by decide +kernel
theorem dX9_show_48 : decode cX9_show 48 = .ok (.invokevirtual 118, 3) := by decide +kernel
theorem dX9_show_51 : decode cX9_show 51 = .ok (.iconst 1, 1) := by decide +kernel
theorem dX9_show_52 : decode cX9_show 52 = .ok (.ireturn, 1) := by decide +kernel
theorem dX9_holds_0 : decode cX9_holds 0 = .ok (.aload_n 0, 1) := by decide +kernel
theorem dX9_holds_1 : decode cX9_holds 1 = .ok (.iload_n 1, 1) := by decide +kernel
theorem dX9_holds_2 : decode cX9_holds 2 = .ok (.invokevirtual 55, 3) := by decide +kernel
theorem dX9_holds_5 : decode cX9_holds 5 = .ok (.astore_n 2, 1) := by decide +kernel
theorem dX9_holds_6 : decode cX9_holds 6 = .ok (.aload_n 2, 1) := by decide +kernel
theorem dX9_holds_7 : decode cX9_holds 7 = .ok (.ifnonnull 7, 3) := by decide +kernel
theorem dX9_holds_10 : decode cX9_holds 10 = .ok (.iconst (-1), 1) := by decide +kernel
theorem dX9_holds_11 : decode cX9_holds 11 = .ok (.goto 7, 3) := by decide +kernel
theorem dX9_holds_14 : decode cX9_holds 14 = .ok (.aload_n 2, 1) := by decide +kernel
theorem dX9_holds_15 : decode cX9_holds 15 = .ok (.invokevirtual 122, 3) := by decide +kernel
theorem dX9_holds_18 : decode cX9_holds 18 = .ok (.ireturn, 1) := by decide +kernel
theorem dX9_says_0 : decode cX9_says 0 = .ok (.aload_n 0, 1) := by decide +kernel
theorem dX9_says_1 : decode cX9_says 1 = .ok (.iload_n 1, 1) := by decide +kernel
theorem dX9_says_2 : decode cX9_says 2 = .ok (.invokevirtual 55, 3) := by decide +kernel
theorem dX9_says_5 : decode cX9_says 5 = .ok (.astore_n 3, 1) := by decide +kernel
theorem dX9_says_6 : decode cX9_says 6 = .ok (.aload_n 3, 1) := by decide +kernel
theorem dX9_says_7 : decode cX9_says 7 = .ok (.ifnull 13, 3) := by decide +kernel
theorem dX9_says_10 : decode cX9_says 10 = .ok (.iload_n 2, 1) := by decide +kernel
theorem dX9_says_11 : decode cX9_says 11 = .ok (.iconst 0, 1) := by decide +kernel
theorem dX9_says_12 : decode cX9_says 12 = .ok (.bipush 6, 2) := by decide +kernel
theorem dX9_says_14 : decode cX9_says 14 = .ok (.invokestatic 63, 3) := by decide +kernel
theorem dX9_says_17 : decode cX9_says 17 = .ok (.ifCond .ne 9, 3) := by decide +kernel
theorem dX9_says_20 : decode cX9_says 20 = .ok (.aload_n 0, 1) := by decide +kernel
theorem dX9_says_21 : decode cX9_says 21 = .ok (.iconst (-1), 1) := by decide +kernel
theorem dX9_says_22 : decode cX9_says 22 = .ok (.invokevirtual 59, 3) := by decide +kernel
theorem dX9_says_25 : decode cX9_says 25 = .ok (.ireturn, 1) := by decide +kernel
theorem dX9_says_26 : decode cX9_says 26 = .ok (.aload_n 3, 1) := by decide +kernel
theorem dX9_says_27 : decode cX9_says 27 = .ok (.invokevirtual 91, 3) := by decide +kernel
theorem dX9_says_30 : decode cX9_says 30 = .ok (.ifCond .eq 10, 3) := by decide +kernel
theorem dX9_says_33 : decode cX9_says 33 = .ok (.aload_n 0, 1) := by decide +kernel
theorem dX9_says_34 : decode cX9_says 34 = .ok (.bipush (-2), 2) := by decide +kernel
theorem dX9_says_36 : decode cX9_says 36 = .ok (.invokevirtual 59, 3) := by decide +kernel
theorem dX9_says_39 : decode cX9_says 39 = .ok (.ireturn, 1) := by decide +kernel
theorem dX9_says_40 : decode cX9_says 40 = .ok (.aload_n 3, 1) := by decide +kernel
theorem dX9_says_41 : decode cX9_says 41 = .ok (.invokevirtual 83, 3) := by decide +kernel
theorem dX9_says_44 : decode cX9_says 44 = .ok (.ifCond .ne 10, 3) := by decide +kernel
theorem dX9_says_47 : decode cX9_says 47 = .ok (.aload_n 0, 1) := by decide +kernel
theorem dX9_says_48 : decode cX9_says 48 = .ok (.bipush (-3), 2) := by decide +kernel
theorem dX9_says_50 : decode cX9_says 50 = .ok (.invokevirtual 59, 3) := by decide +kernel
theorem dX9_says_53 : decode cX9_says 53 = .ok (.ireturn, 1) := by decide +kernel
theorem dX9_says_54 : decode cX9_says 54 = .ok (.aload_n 3, 1) := by decide +kernel
theorem dX9_says_55 : decode cX9_says 55 = .ok (.invokevirtual 126, 3) := by decide +kernel
theorem dX9_says_58 : decode cX9_says 58 = .ok (.istore 4, 2) := by decide +kernel
theorem dX9_says_60 : decode cX9_says 60 = .ok (.aload_n 0, 1) := by decide +kernel
theorem dX9_says_61 : decode cX9_says 61 = .ok (.getfield 10, 3) := by decide +kernel
theorem dX9_says_64 : decode cX9_says 64 = .ok (.getfield 106, 3) := by decide +kernel
theorem dX9_says_67 : decode cX9_says 67 = .ok (.iload 4, 2) := by decide +kernel
theorem dX9_says_69 : decode cX9_says 69 = .ok (.invokevirtual 129, 3) := by decide +kernel
theorem dX9_says_72 : decode cX9_says 72 = .ok (.iload_n 2, 1) := by decide +kernel
theorem dX9_says_73 : decode cX9_says 73 = .ok (.invokestatic 132, 3) := by decide +kernel
theorem dX9_says_76 : decode cX9_says 76 = .ok (.ifCond .ne 10, 3) := by decide +kernel
theorem dX9_says_79 : decode cX9_says 79 = .ok (.aload_n 0, 1) := by decide +kernel
theorem dX9_says_80 : decode cX9_says 80 = .ok (.bipush (-2), 2) := by decide +kernel
theorem dX9_says_82 : decode cX9_says 82 = .ok (.invokevirtual 59, 3) := by decide +kernel
theorem dX9_says_85 : decode cX9_says 85 = .ok (.ireturn, 1) := by decide +kernel
theorem dX9_says_86 : decode cX9_says 86 = .ok (.aload_n 0, 1) := by decide +kernel
theorem dX9_says_87 : decode cX9_says 87 = .ok (.getfield 10, 3) := by decide +kernel
theorem dX9_says_90 : decode cX9_says 90 = .ok (.getfield 106, 3) := by decide +kernel
theorem dX9_says_93 : decode cX9_says 93 = .ok (.iload 4, 2) := by decide +kernel
theorem dX9_says_95 : decode cX9_says 95 = .ok (.iload_n 2, 1) := by decide +kernel
theorem dX9_says_96 : decode cX9_says 96 = .ok (.invokevirtual 135, 3) := by decide +kernel
theorem dX9_says_99 : decode cX9_says 99 = .ok (.ireturn, 1) := by decide +kernel
theorem dX9_stretch_0 : decode cX9_stretch 0 = .ok (.iload_n 1, 1) := by decide +kernel
theorem dX9_stretch_1 : decode cX9_stretch 1 = .ok (.iconst 0, 1) := by decide +kernel
theorem dX9_stretch_2 : decode cX9_stretch 2 = .ok (.bipush 6, 2) := by decide +kernel
theorem dX9_stretch_4 : decode cX9_stretch 4 = .ok (.invokestatic 63, 3) := by decide +kernel
theorem dX9_stretch_7 : decode cX9_stretch 7 = .ok (.ifCond .ne 9, 3) := by decide +kernel
theorem dX9_stretch_10 : decode cX9_stretch 10 = .ok (.aload_n 0, 1) := by decide +kernel
theorem dX9_stretch_11 : decode cX9_stretch 11 = .ok (.iconst (-1), 1) := by decide +kernel
theorem dX9_stretch_12 : decode cX9_stretch 12 = .ok (.invokevirtual 59, 3) := by decide +kernel
theorem dX9_stretch_15 : decode cX9_stretch 15 = .ok (.ireturn, 1) := by decide +kernel
theorem dX9_stretch_16 : decode cX9_stretch 16 = .ok (.iload_n 2, 1) := by decide +kernel
theorem dX9_stretch_17 : decode cX9_stretch 17 = .ok (.iload_n 3, 1) := by decide +kernel
theorem dX9_stretch_18 : decode cX9_stretch 18 = .ok (.iload 4, 2) := by decide +kernel
theorem dX9_stretch_20 : decode cX9_stretch 20 = .ok (.invokestatic 139, 3) := by decide +kernel
theorem dX9_stretch_23 : decode cX9_stretch 23 = .ok (.ifCond .ne 10, 3) := by decide +kernel
theorem dX9_stretch_26 : decode cX9_stretch 26 = .ok (.aload_n 0, 1) := by decide +kernel
theorem dX9_stretch_27 : decode cX9_stretch 27 = .ok (.bipush (-6), 2) := by decide +kernel
theorem dX9_stretch_29 : decode cX9_stretch 29 = .ok (.invokevirtual 59, 3) := by decide +kernel
theorem dX9_stretch_32 : decode cX9_stretch 32 = .ok (.ireturn, 1) := by decide +kernel
theorem dX9_stretch_33 : decode cX9_stretch 33 = .ok (.aload_n 0, 1) := by decide +kernel
theorem dX9_stretch_34 : decode cX9_stretch 34 = .ok (.getfield 10, 3) := by decide +kernel
theorem dX9_stretch_37 : decode cX9_stretch 37 = .ok (.getfield 106, 3) := by decide +kernel
theorem dX9_stretch_40 : decode cX9_stretch 40 = .ok (.invokevirtual 142, 3) := by decide +kernel
theorem dX9_stretch_43 : decode cX9_stretch 43 = .ok (.ifCond .eq 10, 3) := by decide +kernel
theorem dX9_stretch_46 : decode cX9_stretch 46 = .ok (.aload_n 0, 1) := by decide +kernel
theorem dX9_stretch_47 : decode cX9_stretch 47 = .ok (.bipush (-7), 2) := by decide +kernel
theorem dX9_stretch_49 : decode cX9_stretch 49 = .ok (.invokevirtual 59, 3) := by decide +kernel
theorem dX9_stretch_52 : decode cX9_stretch 52 = .ok (.ireturn, 1) := by decide +kernel
theorem dX9_stretch_53 : decode cX9_stretch 53 = .ok (.aload_n 0, 1) := by decide +kernel
theorem dX9_stretch_54 : decode cX9_stretch 54 = .ok (.getfield 10, 3) := by decide +kernel
theorem dX9_stretch_57 : decode cX9_stretch 57 = .ok (.getfield 106, 3) := by decide +kernel
theorem dX9_stretch_60 : decode cX9_stretch 60 = .ok (.iload_n 1, 1) := by decide +kernel
theorem dX9_stretch_61 : decode cX9_stretch 61 = .ok (.iload_n 2, 1) := by decide +kernel
theorem dX9_stretch_62 : decode cX9_stretch 62 = .ok (.iload_n 3, 1) := by decide +kernel
theorem dX9_stretch_63 : decode cX9_stretch 63 = .ok (.iload 4, 2) := by decide +kernel
theorem dX9_stretch_65 : decode cX9_stretch 65 = .ok (.invokevirtual 145, 3) := by decide +kernel
theorem dX9_stretch_68 : decode cX9_stretch 68 = .ok (.ireturn, 1) := by decide +kernel
theorem dX9_stretches_0 : decode cX9_stretches 0 = .ok (.aload_n 0, 1) := by decide +kernel
theorem dX9_stretches_1 : decode cX9_stretches 1 = .ok (.iload_n 1, 1) := by decide +kernel
theorem dX9_stretches_2 : decode cX9_stretches 2 = .ok (.invokevirtual 55, 3) := by decide +kernel
theorem dX9_stretches_5 : decode cX9_stretches 5 = .ok (.astore 4, 2) := by decide +kernel
theorem dX9_stretches_7 : decode cX9_stretches 7 = .ok (.aload 4, 2) := by decide +kernel
theorem dX9_stretches_9 : decode cX9_stretches 9 = .ok (.invokestatic 71, 3) := by decide +kernel
theorem dX9_stretches_12 : decode cX9_stretches 12 = .ok (.istore 5, 2) := by decide +kernel
theorem dX9_stretches_14 : decode cX9_stretches 14 = .ok (.iload 5, 2) := by decide +kernel
theorem dX9_stretches_16 : decode cX9_stretches 16 = .ok (.ifCond .ne 8, 3) := by decide +kernel
theorem dX9_stretches_19 : decode cX9_stretches 19 = .ok (.aload 4, 2) := by decide +kernel
theorem dX9_stretches_21 : decode cX9_stretches 21 = .ok (.ifnonnull 10, 3) := by decide +kernel
theorem dX9_stretches_24 : decode cX9_stretches 24 = .ok (.aload_n 0, 1) := by decide +kernel
theorem dX9_stretches_25 : decode cX9_stretches 25 = .ok (.iload 5, 2) := by decide +kernel
theorem dX9_stretches_27 : decode cX9_stretches 27 = .ok (.invokevirtual 59, 3) := by decide +kernel
theorem dX9_stretches_30 : decode cX9_stretches 30 = .ok (.ireturn, 1) := by decide +kernel
theorem dX9_stretches_31 : decode cX9_stretches 31 = .ok (.iload_n 3, 1) := by decide +kernel
theorem dX9_stretches_32 : decode cX9_stretches 32 = .ok (.ifCond .ge 10, 3) := by decide +kernel
theorem dX9_stretches_35 : decode cX9_stretches 35 = .ok (.aload_n 0, 1) := by decide +kernel
theorem dX9_stretches_36 : decode cX9_stretches 36 = .ok (.bipush (-4), 2) := by decide +kernel
theorem dX9_stretches_38 : decode cX9_stretches 38 = .ok (.invokevirtual 59, 3) := by decide +kernel
theorem dX9_stretches_41 : decode cX9_stretches 41 = .ok (.ireturn, 1) := by decide +kernel
theorem dX9_stretches_42 : decode cX9_stretches 42 = .ok (.aload 4, 2) := by decide +kernel
theorem dX9_stretches_44 : decode cX9_stretches 44 = .ok (.iload_n 2, 1) := by decide +kernel
theorem dX9_stretches_45 : decode cX9_stretches 45 = .ok (.iload_n 3, 1) := by decide +kernel
theorem dX9_stretches_46 : decode cX9_stretches 46 = .ok (.invokevirtual 94, 3) := by decide +kernel
theorem dX9_stretches_49 : decode cX9_stretches 49 = .ok (.ifCond .ne 10, 3) := by decide +kernel
theorem dX9_stretches_52 : decode cX9_stretches 52 = .ok (.aload_n 0, 1) := by decide +kernel
theorem dX9_stretches_53 : decode cX9_stretches 53 = .ok (.bipush (-5), 2) := by decide +kernel
theorem dX9_stretches_55 : decode cX9_stretches 55 = .ok (.invokevirtual 59, 3) := by decide +kernel
theorem dX9_stretches_58 : decode cX9_stretches 58 = .ok (.ireturn, 1) := by decide +kernel
theorem dX9_stretches_59 : decode cX9_stretches 59 = .ok (.iload_n 3, 1) := by decide +kernel
theorem dX9_stretches_60 : decode cX9_stretches 60 = .ok (.iconst 4, 1) := by decide +kernel
theorem dX9_stretches_61 : decode cX9_stretches 61 = .ok (.irem, 1) := by decide +kernel
theorem dX9_stretches_62 : decode cX9_stretches 62 = .ok (.ifCond .eq 10, 3) := by decide +kernel
theorem dX9_stretches_65 : decode cX9_stretches 65 = .ok (.aload_n 0, 1) := by decide +kernel
theorem dX9_stretches_66 : decode cX9_stretches 66 = .ok (.bipush (-6), 2) := by decide +kernel
theorem dX9_stretches_68 : decode cX9_stretches 68 = .ok (.invokevirtual 59, 3) := by decide +kernel
theorem dX9_stretches_71 : decode cX9_stretches 71 = .ok (.ireturn, 1) := by decide +kernel
theorem dX9_stretches_72 : decode cX9_stretches 72 = .ok (.iconst 0, 1) := by decide +kernel
theorem dX9_stretches_73 : decode cX9_stretches 73 = .ok (.istore 6, 2) := by decide +kernel
theorem dX9_stretches_75 : decode cX9_stretches 75 = .ok (.iload 6, 2) := by decide +kernel
theorem dX9_stretches_77 : decode cX9_stretches 77 = .ok (.iload_n 3, 1) := by decide +kernel
theorem dX9_stretches_78 : decode cX9_stretches 78 = .ok (.iconst 4, 1) := by decide +kernel
theorem dX9_stretches_79 : decode cX9_stretches 79 = .ok (.idiv, 1) := by decide +kernel
theorem dX9_stretches_80 : decode cX9_stretches 80 = .ok (.if_icmp .ge 24, 3) := by decide +kernel
theorem dX9_stretches_83 : decode cX9_stretches 83 = .ok (.aload_n 0, 1) := by decide +kernel
theorem dX9_stretches_84 : decode cX9_stretches 84 = .ok (.aload 4, 2) := by decide +kernel
theorem dX9_stretches_86 : decode cX9_stretches 86 = .ok (.iload_n 2, 1) := by decide +kernel
theorem dX9_stretches_87 : decode cX9_stretches 87 = .ok (.iconst 4, 1) := by decide +kernel
theorem dX9_stretches_88 : decode cX9_stretches 88 = .ok (.iload 6, 2) := by decide +kernel
theorem dX9_stretches_90 : decode cX9_stretches 90 = .ok (.imul, 1) := by decide +kernel
theorem dX9_stretches_91 : decode cX9_stretches 91 = .ok (.iadd, 1) := by decide +kernel
theorem dX9_stretches_92 : decode cX9_stretches 92 = .ok (.invokevirtual 149, 3) := by decide +kernel
theorem dX9_stretches_95 : decode cX9_stretches 95 = .ok (.ifCond .eq 9, 3) := by decide +kernel
theorem dX9_stretches_98 : decode cX9_stretches 98 = .ok (.iinc 6 1, 3) := by decide +kernel
theorem dX9_stretches_101 : decode cX9_stretches 101 = .ok (.goto (-26), 3) := by decide +kernel
theorem dX9_stretches_104 : decode cX9_stretches 104 = .ok (.iload 6, 2) := by decide +kernel
theorem dX9_stretches_106 : decode cX9_stretches 106 = .ok (.ireturn, 1) := by decide +kernel
theorem dX9_addStretchFrom_0 : decode cX9_addStretchFrom 0 = .ok (.aload_n 1, 1) := by decide +kernel
theorem dX9_addStretchFrom_1 : decode cX9_addStretchFrom 1 = .ok (.iload_n 2, 1) := by decide +kernel
theorem dX9_addStretchFrom_2 : decode cX9_addStretchFrom 2 = .ok (.invokevirtual 153, 3) := by decide +kernel
theorem dX9_addStretchFrom_5 : decode cX9_addStretchFrom 5 = .ok (.istore_n 3, 1) := by decide +kernel
theorem dX9_addStretchFrom_6 : decode cX9_addStretchFrom 6 = .ok (.aload_n 1, 1) := by decide +kernel
theorem dX9_addStretchFrom_7 : decode cX9_addStretchFrom 7 = .ok (.iload_n 2, 1) := by decide +kernel
theorem dX9_addStretchFrom_8 : decode cX9_addStretchFrom 8 = .ok (.iconst 1, 1) := by decide +kernel
theorem dX9_addStretchFrom_9 : decode cX9_addStretchFrom 9 = .ok (.iadd, 1) := by decide +kernel
theorem dX9_addStretchFrom_10 : decode cX9_addStretchFrom 10 = .ok (.invokevirtual 153, 3) := by decide +kernel
theorem dX9_addStretchFrom_13 : decode cX9_addStretchFrom 13 = .ok (.istore 4, 2) := by decide +kernel
theorem dX9_addStretchFrom_15 : decode cX9_addStretchFrom 15 = .ok (.aload_n 1, 1) := by decide +kernel
theorem dX9_addStretchFrom_16 : decode cX9_addStretchFrom 16 = .ok (.iload_n 2, 1) := by decide +kernel
theorem dX9_addStretchFrom_17 : decode cX9_addStretchFrom 17 = .ok (.iconst 2, 1) := by decide +kernel
theorem dX9_addStretchFrom_18 : decode cX9_addStretchFrom 18 = .ok (.iadd, 1) := by decide +kernel
theorem dX9_addStretchFrom_19 : decode cX9_addStretchFrom 19 = .ok (.invokevirtual 153, 3) := by decide +kernel
theorem dX9_addStretchFrom_22 : decode cX9_addStretchFrom 22 = .ok (.istore 5, 2) := by decide +kernel
theorem dX9_addStretchFrom_24 : decode cX9_addStretchFrom 24 = .ok (.aload_n 1, 1) := by decide +kernel
theorem dX9_addStretchFrom_25 : decode cX9_addStretchFrom 25 = .ok (.iload_n 2, 1) := by decide +kernel
theorem dX9_addStretchFrom_26 : decode cX9_addStretchFrom 26 = .ok (.iconst 3, 1) := by decide +kernel
theorem dX9_addStretchFrom_27 : decode cX9_addStretchFrom 27 = .ok (.iadd, 1) := by decide +kernel
theorem dX9_addStretchFrom_28 : decode cX9_addStretchFrom 28 = .ok (.invokevirtual 153, 3) := by decide +kernel
theorem dX9_addStretchFrom_31 : decode cX9_addStretchFrom 31 = .ok (.istore 6, 2) := by decide +kernel
theorem dX9_addStretchFrom_33 : decode cX9_addStretchFrom 33 = .ok (.iload_n 3, 1) := by decide +kernel
theorem dX9_addStretchFrom_34 : decode cX9_addStretchFrom 34 = .ok (.iconst 0, 1) := by decide +kernel
theorem dX9_addStretchFrom_35 : decode cX9_addStretchFrom 35 = .ok (.bipush 6, 2) := by decide +kernel
theorem dX9_addStretchFrom_37 : decode cX9_addStretchFrom 37 = .ok (.invokestatic 63, 3) := by decide +kernel
theorem dX9_addStretchFrom_40 : decode cX9_addStretchFrom 40 = .ok (.ifCond .eq 15, 3) := by decide +kernel
theorem dX9_addStretchFrom_43 : decode cX9_addStretchFrom 43 = .ok (.iload 4, 2) := by decide +kernel
theorem dX9_addStretchFrom_45 : decode cX9_addStretchFrom 45 = .ok (.iload 5, 2) := by decide +kernel
theorem dX9_addStretchFrom_47 : decode cX9_addStretchFrom 47 = .ok (.iload 6, 2) := by decide +kernel
theorem dX9_addStretchFrom_49 : decode cX9_addStretchFrom 49 = .ok (.invokestatic 139, 3) := by decide +kernel
theorem dX9_addStretchFrom_52 : decode cX9_addStretchFrom 52 = .ok (.ifCond .ne 5, 3) := by decide +kernel
theorem dX9_addStretchFrom_55 : decode cX9_addStretchFrom 55 = .ok (.iconst 0, 1) := by decide +kernel
theorem dX9_addStretchFrom_56 : decode cX9_addStretchFrom 56 = .ok (.ireturn, 1) := by decide +kernel
theorem dX9_addStretchFrom_57 : decode cX9_addStretchFrom 57 = .ok (.aload_n 0, 1) := by decide +kernel
theorem dX9_addStretchFrom_58 : decode cX9_addStretchFrom 58 = .ok (.getfield 10, 3) := by decide +kernel
theorem dX9_addStretchFrom_61 : decode cX9_addStretchFrom 61 = .ok (.getfield 106, 3) := by decide +kernel
theorem dX9_addStretchFrom_64 : decode cX9_addStretchFrom 64 = .ok (.iload_n 3, 1) := by decide +kernel
theorem dX9_addStretchFrom_65 : decode cX9_addStretchFrom 65 = .ok (.iload 4, 2) := by decide +kernel
theorem dX9_addStretchFrom_67 : decode cX9_addStretchFrom 67 = .ok (.iload 5, 2) := by decide +kernel
theorem dX9_addStretchFrom_69 : decode cX9_addStretchFrom 69 = .ok (.iload 6, 2) := by decide +kernel
theorem dX9_addStretchFrom_71 : decode cX9_addStretchFrom 71 = .ok (.invokevirtual 145, 3) := by decide +kernel
theorem dX9_addStretchFrom_74 : decode cX9_addStretchFrom 74 = .ok (.iconst (-1), 1) := by decide +kernel
theorem dX9_addStretchFrom_75 : decode cX9_addStretchFrom 75 = .ok (.if_icmp .eq 7, 3) := by decide +kernel
theorem dX9_addStretchFrom_78 : decode cX9_addStretchFrom 78 = .ok (.iconst 1, 1) := by decide +kernel
theorem dX9_addStretchFrom_79 : decode cX9_addStretchFrom 79 = .ok (.goto 4, 3) := by decide +kernel
theorem dX9_addStretchFrom_82 : decode cX9_addStretchFrom 82 = .ok (.iconst 0, 1) := by decide +kernel
theorem dX9_addStretchFrom_83 : decode cX9_addStretchFrom 83 = .ok (.ireturn, 1) := by decide +kernel
theorem dX9_till_0 : decode cX9_till 0 = .ok (.iload_n 1, 1) := by decide +kernel
theorem dX9_till_1 : decode cX9_till 1 = .ok (.iconst 0, 1) := by decide +kernel
theorem dX9_till_2 : decode cX9_till 2 = .ok (.aload_n 0, 1) := by decide +kernel
theorem dX9_till_3 : decode cX9_till 3 = .ok (.getfield 10, 3) := by decide +kernel
theorem dX9_till_6 : decode cX9_till 6 = .ok (.getfield 106, 3) := by decide +kernel
theorem dX9_till_9 : decode cX9_till 9 = .ok (.invokevirtual 156, 3) := by decide +kernel
theorem dX9_till_12 : decode cX9_till 12 = .ok (.invokestatic 63, 3) := by decide +kernel
theorem dX9_till_15 : decode cX9_till 15 = .ok (.ifCond .ne 10, 3) := by decide +kernel
theorem dX9_till_18 : decode cX9_till 18 = .ok (.aload_n 0, 1) := by decide +kernel
theorem dX9_till_19 : decode cX9_till 19 = .ok (.bipush (-6), 2) := by decide +kernel
theorem dX9_till_21 : decode cX9_till 21 = .ok (.invokevirtual 59, 3) := by decide +kernel
theorem dX9_till_24 : decode cX9_till 24 = .ok (.ireturn, 1) := by decide +kernel
theorem dX9_till_25 : decode cX9_till 25 = .ok (.aload_n 0, 1) := by decide +kernel
theorem dX9_till_26 : decode cX9_till 26 = .ok (.getfield 10, 3) := by decide +kernel
theorem dX9_till_29 : decode cX9_till 29 = .ok (.getfield 106, 3) := by decide +kernel
theorem dX9_till_32 : decode cX9_till 32 = .ok (.iload_n 1, 1) := by decide +kernel
theorem dX9_till_33 : decode cX9_till 33 = .ok (.invokevirtual 159, 3) := by decide +kernel
theorem dX9_till_36 : decode cX9_till 36 = .ok (.aload_n 0, 1) := by decide +kernel
theorem dX9_till_37 : decode cX9_till 37 = .ok (.invokevirtual 162, 3) := by decide +kernel
theorem dX9_till_40 : decode cX9_till 40 = .ok (.iload_n 1, 1) := by decide +kernel
theorem dX9_till_41 : decode cX9_till 41 = .ok (.ireturn, 1) := by decide +kernel
theorem dX9_stretchOf_0 : decode cX9_stretchOf 0 = .ok (.aload_n 0, 1) := by decide +kernel
theorem dX9_stretchOf_1 : decode cX9_stretchOf 1 = .ok (.getfield 10, 3) := by decide +kernel
theorem dX9_stretchOf_4 : decode cX9_stretchOf 4 = .ok (.getfield 106, 3) := by decide +kernel
theorem dX9_stretchOf_7 : decode cX9_stretchOf 7 = .ok (.astore_n 3, 1) := by decide +kernel
theorem dX9_stretchOf_8 : decode cX9_stretchOf 8 = .ok (.aload_n 3, 1) := by decide +kernel
theorem dX9_stretchOf_9 : decode cX9_stretchOf 9 = .ok (.iload_n 1, 1) := by decide +kernel
theorem dX9_stretchOf_10 : decode cX9_stretchOf 10 = .ok (.invokevirtual 110, 3) := by decide +kernel
theorem dX9_stretchOf_13 : decode cX9_stretchOf 13 = .ok (.ifCond .ne 10, 3) := by decide +kernel
theorem dX9_stretchOf_16 : decode cX9_stretchOf 16 = .ok (.aload_n 0, 1) := by decide +kernel
theorem dX9_stretchOf_17 : decode cX9_stretchOf 17 = .ok (.bipush (-5), 2) := by decide +kernel
theorem dX9_stretchOf_19 : decode cX9_stretchOf 19 = .ok (.invokevirtual 59, 3) := by decide +kernel
theorem dX9_stretchOf_22 : decode cX9_stretchOf 22 = .ok (.ireturn, 1) := by decide +kernel
theorem dX9_stretchOf_23 : decode cX9_stretchOf 23 = .ok (.iload_n 2, 1) := by decide +kernel
theorem dX9_stretchOf_24 : decode cX9_stretchOf 24 = .ok (.tableswitch 66 0 4 #[36, 42, 48, 54, 60], 36) := by decide +kernel
theorem dX9_stretchOf_60 : decode cX9_stretchOf 60 = .ok (.aload_n 3, 1) := by decide +kernel
theorem dX9_stretchOf_61 : decode cX9_stretchOf 61 = .ok (.iload_n 1, 1) := by decide +kernel
theorem dX9_stretchOf_62 : decode cX9_stretchOf 62 = .ok (.invokevirtual 129, 3) := by decide +kernel
theorem dX9_stretchOf_65 : decode cX9_stretchOf 65 = .ok (.ireturn, 1) := by decide +kernel
theorem dX9_stretchOf_66 : decode cX9_stretchOf 66 = .ok (.aload_n 3, 1) := by decide +kernel
theorem dX9_stretchOf_67 : decode cX9_stretchOf 67 = .ok (.iload_n 1, 1) := by decide +kernel
theorem dX9_stretchOf_68 : decode cX9_stretchOf 68 = .ok (.invokevirtual 165, 3) := by decide +kernel
theorem dX9_stretchOf_71 : decode cX9_stretchOf 71 = .ok (.ireturn, 1) := by decide +kernel
theorem dX9_stretchOf_72 : decode cX9_stretchOf 72 = .ok (.aload_n 3, 1) := by decide +kernel
theorem dX9_stretchOf_73 : decode cX9_stretchOf 73 = .ok (.iload_n 1, 1) := by decide +kernel
theorem dX9_stretchOf_74 : decode cX9_stretchOf 74 = .ok (.invokevirtual 168, 3) := by decide +kernel
theorem dX9_stretchOf_77 : decode cX9_stretchOf 77 = .ok (.ireturn, 1) := by decide +kernel
theorem dX9_stretchOf_78 : decode cX9_stretchOf 78 = .ok (.aload_n 3, 1) := by decide +kernel
theorem dX9_stretchOf_79 : decode cX9_stretchOf 79 = .ok (.iload_n 1, 1) := by decide +kernel
theorem dX9_stretchOf_80 : decode cX9_stretchOf 80 = .ok (.invokevirtual 171, 3) := by decide +kernel
theorem dX9_stretchOf_83 : decode cX9_stretchOf 83 = .ok (.ireturn, 1) := by decide +kernel
theorem dX9_stretchOf_84 : decode cX9_stretchOf 84 = .ok (.aload_n 3, 1) := by decide +kernel
theorem dX9_stretchOf_85 : decode cX9_stretchOf 85 = .ok (.iload_n 1, 1) := by decide +kernel
theorem dX9_stretchOf_86 : decode cX9_stretchOf 86 = .ok (.invokevirtual 174, 3) := by decide +kernel
theorem dX9_stretchOf_89 : decode cX9_stretchOf 89 = .ok (.ireturn, 1) := by decide +kernel
theorem dX9_stretchOf_90 : decode cX9_stretchOf 90 = .ok (.aload_n 0, 1) := by decide +kernel
theorem dX9_stretchOf_91 : decode cX9_stretchOf 91 = .ok (.bipush (-5), 2) := by decide +kernel
theorem dX9_stretchOf_93 : decode cX9_stretchOf 93 = .ok (.invokevirtual 59, 3) := by decide +kernel
theorem dX9_stretchOf_96 : decode cX9_stretchOf 96 = .ok (.ireturn, 1) := by decide +kernel
theorem dX9_car_0 : decode cX9_car 0 = .ok (.iload_n 1, 1) := by decide +kernel
theorem dX9_car_1 : decode cX9_car 1 = .ok (.invokestatic 177, 3) := by decide +kernel
theorem dX9_car_4 : decode cX9_car 4 = .ok (.ifCond .eq 35, 3) := by decide +kernel
theorem dX9_car_7 : decode cX9_car 7 = .ok (.iload_n 2, 1) := by decide +kernel
theorem dX9_car_8 : decode cX9_car 8 = .ok (.iconst 0, 1) := by decide +kernel
theorem dX9_car_9 : decode cX9_car 9 = .ok (.sipush 999, 3) := by decide +kernel
theorem dX9_car_12 : decode cX9_car 12 = .ok (.invokestatic 63, 3) := by decide +kernel
theorem dX9_car_15 : decode cX9_car 15 = .ok (.ifCond .eq 24, 3) := by decide +kernel
theorem dX9_car_18 : decode cX9_car 18 = .ok (.iload_n 3, 1) := by decide +kernel
theorem dX9_car_19 : decode cX9_car 19 = .ok (.iconst 0, 1) := by decide +kernel
theorem dX9_car_20 : decode cX9_car 20 = .ok (.bipush 100, 2) := by decide +kernel
theorem dX9_car_22 : decode cX9_car 22 = .ok (.aload_n 0, 1) := by decide +kernel
theorem dX9_car_23 : decode cX9_car 23 = .ok (.getfield 10, 3) := by decide +kernel
theorem dX9_car_26 : decode cX9_car 26 = .ok (.getfield 180, 3) := by decide +kernel
theorem dX9_car_29 : decode cX9_car 29 = .ok (.invokevirtual 184, 3) := by decide +kernel
theorem dX9_car_32 : decode cX9_car 32 = .ok (.isub, 1) := by decide +kernel
theorem dX9_car_33 : decode cX9_car 33 = .ok (.invokestatic 63, 3) := by decide +kernel
theorem dX9_car_36 : decode cX9_car 36 = .ok (.ifCond .ne 10, 3) := by decide +kernel
theorem dX9_car_39 : decode cX9_car 39 = .ok (.aload_n 0, 1) := by decide +kernel
theorem dX9_car_40 : decode cX9_car 40 = .ok (.bipush (-6), 2) := by decide +kernel
theorem dX9_car_42 : decode cX9_car 42 = .ok (.invokevirtual 59, 3) := by decide +kernel
theorem dX9_car_45 : decode cX9_car 45 = .ok (.ireturn, 1) := by decide +kernel
theorem dX9_car_46 : decode cX9_car 46 = .ok (.aload_n 0, 1) := by decide +kernel
theorem dX9_car_47 : decode cX9_car 47 = .ok (.getfield 10, 3) := by decide +kernel
theorem dX9_car_50 : decode cX9_car 50 = .ok (.getfield 180, 3) := by decide +kernel
theorem dX9_car_53 : decode cX9_car 53 = .ok (.invokevirtual 189, 3) := by decide +kernel
theorem dX9_car_56 : decode cX9_car 56 = .ok (.ifCond .eq 10, 3) := by decide +kernel
theorem dX9_car_59 : decode cX9_car 59 = .ok (.aload_n 0, 1) := by decide +kernel
theorem dX9_car_60 : decode cX9_car 60 = .ok (.bipush (-7), 2) := by decide +kernel
theorem dX9_car_62 : decode cX9_car 62 = .ok (.invokevirtual 59, 3) := by decide +kernel
theorem dX9_car_65 : decode cX9_car 65 = .ok (.ireturn, 1) := by decide +kernel
theorem dX9_car_66 : decode cX9_car 66 = .ok (.aload_n 0, 1) := by decide +kernel
theorem dX9_car_67 : decode cX9_car 67 = .ok (.getfield 10, 3) := by decide +kernel
theorem dX9_car_70 : decode cX9_car 70 = .ok (.getfield 180, 3) := by decide +kernel
theorem dX9_car_73 : decode cX9_car 73 = .ok (.iload_n 1, 1) := by decide +kernel
theorem dX9_car_74 : decode cX9_car 74 = .ok (.iload_n 2, 1) := by decide +kernel
theorem dX9_car_75 : decode cX9_car 75 = .ok (.iload_n 3, 1) := by decide +kernel
theorem dX9_car_76 : decode cX9_car 76 = .ok (.invokevirtual 190, 3) := by decide +kernel
theorem dX9_car_79 : decode cX9_car 79 = .ok (.ireturn, 1) := by decide +kernel
theorem dX9_carOf_0 : decode cX9_carOf 0 = .ok (.aload_n 0, 1) := by decide +kernel
theorem dX9_carOf_1 : decode cX9_carOf 1 = .ok (.getfield 10, 3) := by decide +kernel
theorem dX9_carOf_4 : decode cX9_carOf 4 = .ok (.getfield 180, 3) := by decide +kernel
theorem dX9_carOf_7 : decode cX9_carOf 7 = .ok (.iload_n 1, 1) := by decide +kernel
theorem dX9_carOf_8 : decode cX9_carOf 8 = .ok (.invokevirtual 193, 3) := by decide +kernel
theorem dX9_carOf_11 : decode cX9_carOf 11 = .ok (.ifCond .ne 10, 3) := by decide +kernel
theorem dX9_carOf_14 : decode cX9_carOf 14 = .ok (.aload_n 0, 1) := by decide +kernel
theorem dX9_carOf_15 : decode cX9_carOf 15 = .ok (.bipush (-5), 2) := by decide +kernel
theorem dX9_carOf_17 : decode cX9_carOf 17 = .ok (.invokevirtual 59, 3) := by decide +kernel
theorem dX9_carOf_20 : decode cX9_carOf 20 = .ok (.ireturn, 1) := by decide +kernel
theorem dX9_carOf_21 : decode cX9_carOf 21 = .ok (.iload_n 2, 1) := by decide +kernel
theorem dX9_carOf_22 : decode cX9_carOf 22 = .ok (.tableswitch 62 0 2 #[26, 38, 50], 26) := by decide +kernel
theorem dX9_carOf_48 : decode cX9_carOf 48 = .ok (.aload_n 0, 1) := by decide +kernel
theorem dX9_carOf_49 : decode cX9_carOf 49 = .ok (.getfield 10, 3) := by decide +kernel
theorem dX9_carOf_52 : decode cX9_carOf 52 = .ok (.getfield 180, 3) := by decide +kernel
theorem dX9_carOf_55 : decode cX9_carOf 55 = .ok (.iload_n 1, 1) := by decide +kernel
theorem dX9_carOf_56 : decode cX9_carOf 56 = .ok (.invokevirtual 194, 3) := by decide +kernel
theorem dX9_carOf_59 : decode cX9_carOf 59 = .ok (.ireturn, 1) := by decide +kernel
theorem dX9_carOf_60 : decode cX9_carOf 60 = .ok (.aload_n 0, 1) := by decide +kernel
theorem dX9_carOf_61 : decode cX9_carOf 61 = .ok (.getfield 10, 3) := by decide +kernel
theorem dX9_carOf_64 : decode cX9_carOf 64 = .ok (.getfield 180, 3) := by decide +kernel
theorem dX9_carOf_67 : decode cX9_carOf 67 = .ok (.iload_n 1, 1) := by decide +kernel
theorem dX9_carOf_68 : decode cX9_carOf 68 = .ok (.invokevirtual 197, 3) := by decide +kernel
theorem dX9_carOf_71 : decode cX9_carOf 71 = .ok (.ireturn, 1) := by decide +kernel
theorem dX9_carOf_72 : decode cX9_carOf 72 = .ok (.aload_n 0, 1) := by decide +kernel
theorem dX9_carOf_73 : decode cX9_carOf 73 = .ok (.getfield 10, 3) := by decide +kernel
theorem dX9_carOf_76 : decode cX9_carOf 76 = .ok (.getfield 180, 3) := by decide +kernel
theorem dX9_carOf_79 : decode cX9_carOf 79 = .ok (.iload_n 1, 1) := by decide +kernel
theorem dX9_carOf_80 : decode cX9_carOf 80 = .ok (.invokevirtual 200, 3) := by decide +kernel
theorem dX9_carOf_83 : decode cX9_carOf 83 = .ok (.ireturn, 1) := by decide +kernel
theorem dX9_carOf_84 : decode cX9_carOf 84 = .ok (.aload_n 0, 1) := by decide +kernel
theorem dX9_carOf_85 : decode cX9_carOf 85 = .ok (.bipush (-5), 2) := by decide +kernel
theorem dX9_carOf_87 : decode cX9_carOf 87 = .ok (.invokevirtual 59, 3) := by decide +kernel
theorem dX9_carOf_90 : decode cX9_carOf 90 = .ok (.ireturn, 1) := by decide +kernel
theorem dX9_tune_0 : decode cX9_tune 0 = .ok (.aload_n 0, 1) := by decide +kernel
theorem dX9_tune_1 : decode cX9_tune 1 = .ok (.iload_n 1, 1) := by decide +kernel
theorem dX9_tune_2 : decode cX9_tune 2 = .ok (.invokevirtual 55, 3) := by decide +kernel
theorem dX9_tune_5 : decode cX9_tune 5 = .ok (.astore_n 3, 1) := by decide +kernel
theorem dX9_tune_6 : decode cX9_tune 6 = .ok (.aload_n 3, 1) := by decide +kernel
theorem dX9_tune_7 : decode cX9_tune 7 = .ok (.invokestatic 71, 3) := by decide +kernel
theorem dX9_tune_10 : decode cX9_tune 10 = .ok (.istore 4, 2) := by decide +kernel
theorem dX9_tune_12 : decode cX9_tune 12 = .ok (.iload 4, 2) := by decide +kernel
theorem dX9_tune_14 : decode cX9_tune 14 = .ok (.ifCond .ne 7, 3) := by decide +kernel
theorem dX9_tune_17 : decode cX9_tune 17 = .ok (.aload_n 3, 1) := by decide +kernel
theorem dX9_tune_18 : decode cX9_tune 18 = .ok (.ifnonnull 10, 3) := by decide +kernel
theorem dX9_tune_21 : decode cX9_tune 21 = .ok (.aload_n 0, 1) := by decide +kernel
theorem dX9_tune_22 : decode cX9_tune 22 = .ok (.iload 4, 2) := by decide +kernel
theorem dX9_tune_24 : decode cX9_tune 24 = .ok (.invokevirtual 59, 3) := by decide +kernel
theorem dX9_tune_27 : decode cX9_tune 27 = .ok (.ireturn, 1) := by decide +kernel
theorem dX9_tune_28 : decode cX9_tune 28 = .ok (.iload_n 2, 1) := by decide +kernel
theorem dX9_tune_29 : decode cX9_tune 29 = .ok (.ifCond .ge 10, 3) := by decide +kernel
theorem dX9_tune_32 : decode cX9_tune 32 = .ok (.aload_n 0, 1) := by decide +kernel
theorem dX9_tune_33 : decode cX9_tune 33 = .ok (.bipush (-4), 2) := by decide +kernel
theorem dX9_tune_35 : decode cX9_tune 35 = .ok (.invokevirtual 59, 3) := by decide +kernel
theorem dX9_tune_38 : decode cX9_tune 38 = .ok (.ireturn, 1) := by decide +kernel
theorem dX9_tune_39 : decode cX9_tune 39 = .ok (.iload_n 2, 1) := by decide +kernel
theorem dX9_tune_40 : decode cX9_tune 40 = .ok (.aload_n 3, 1) := by decide +kernel
theorem dX9_tune_41 : decode cX9_tune 41 = .ok (.invokevirtual 203, 3) := by decide +kernel
theorem dX9_tune_44 : decode cX9_tune 44 = .ok (.iconst 2, 1) := by decide +kernel
theorem dX9_tune_45 : decode cX9_tune 45 = .ok (.idiv, 1) := by decide +kernel
theorem dX9_tune_46 : decode cX9_tune 46 = .ok (.if_icmp .le 10, 3) := by decide +kernel
theorem dX9_tune_49 : decode cX9_tune 49 = .ok (.aload_n 0, 1) := by decide +kernel
theorem dX9_tune_50 : decode cX9_tune 50 = .ok (.bipush (-5), 2) := by decide +kernel
theorem dX9_tune_52 : decode cX9_tune 52 = .ok (.invokevirtual 59, 3) := by decide +kernel
theorem dX9_tune_55 : decode cX9_tune 55 = .ok (.ireturn, 1) := by decide +kernel
theorem dX9_tune_56 : decode cX9_tune 56 = .ok (.iload_n 2, 1) := by decide +kernel
theorem dX9_tune_57 : decode cX9_tune 57 = .ok (.bipush 12, 2) := by decide +kernel
theorem dX9_tune_59 : decode cX9_tune 59 = .ok (.if_icmp .gt 11, 3) := by decide +kernel
theorem dX9_tune_62 : decode cX9_tune 62 = .ok (.aload_n 3, 1) := by decide +kernel
theorem dX9_tune_63 : decode cX9_tune 63 = .ok (.iload_n 2, 1) := by decide +kernel
theorem dX9_tune_64 : decode cX9_tune 64 = .ok (.invokestatic 206, 3) := by decide +kernel
theorem dX9_tune_67 : decode cX9_tune 67 = .ok (.ifCond .ne 10, 3) := by decide +kernel
theorem dX9_tune_70 : decode cX9_tune 70 = .ok (.aload_n 0, 1) := by decide +kernel
theorem dX9_tune_71 : decode cX9_tune 71 = .ok (.bipush (-6), 2) := by decide +kernel
theorem dX9_tune_73 : decode cX9_tune 73 = .ok (.invokevirtual 59, 3) := by decide +kernel
theorem dX9_tune_76 : decode cX9_tune 76 = .ok (.ireturn, 1) := by decide +kernel
theorem dX9_tune_77 : decode cX9_tune 77 = .ok (.aload_n 0, 1) := by decide +kernel
theorem dX9_tune_78 : decode cX9_tune 78 = .ok (.getfield 10, 3) := by decide +kernel
theorem dX9_tune_81 : decode cX9_tune 81 = .ok (.getfield 209, 3) := by decide +kernel
theorem dX9_tune_84 : decode cX9_tune 84 = .ok (.invokevirtual 213, 3) := by decide +kernel
theorem dX9_tune_87 : decode cX9_tune 87 = .ok (.ifCond .eq 10, 3) := by decide +kernel
theorem dX9_tune_90 : decode cX9_tune 90 = .ok (.aload_n 0, 1) := by decide +kernel
theorem dX9_tune_91 : decode cX9_tune 91 = .ok (.bipush (-7), 2) := by decide +kernel
theorem dX9_tune_93 : decode cX9_tune 93 = .ok (.invokevirtual 59, 3) := by decide +kernel
theorem dX9_tune_96 : decode cX9_tune 96 = .ok (.ireturn, 1) := by decide +kernel
theorem dX9_tune_97 : decode cX9_tune 97 = .ok (.aload_n 0, 1) := by decide +kernel
theorem dX9_tune_98 : decode cX9_tune 98 = .ok (.getfield 10, 3) := by decide +kernel
theorem dX9_tune_101 : decode cX9_tune 101 = .ok (.getfield 209, 3) := by decide +kernel
theorem dX9_tune_104 : decode cX9_tune 104 = .ok (.invokevirtual 216, 3) := by decide +kernel
theorem dX9_tune_107 : decode cX9_tune 107 = .ok (.istore 5, 2) := by decide +kernel
theorem dX9_tune_109 : decode cX9_tune 109 = .ok (.iconst 0, 1) := by decide +kernel
theorem dX9_tune_110 : decode cX9_tune 110 = .ok (.istore 6, 2) := by decide +kernel
theorem dX9_tune_112 : decode cX9_tune 112 = .ok (.iload 6, 2) := by decide +kernel
theorem dX9_tune_114 : decode cX9_tune 114 = .ok (.iload_n 2, 1) := by decide +kernel
theorem dX9_tune_115 : decode cX9_tune 115 = .ok (.if_icmp .ge 37, 3) := by decide +kernel
theorem dX9_tune_118 : decode cX9_tune 118 = .ok (.aload_n 0, 1) := by decide +kernel
theorem dX9_tune_119 : decode cX9_tune 119 = .ok (.getfield 10, 3) := by decide +kernel
theorem dX9_tune_122 : decode cX9_tune 122 = .ok (.getfield 209, 3) := by decide +kernel
theorem dX9_tune_125 : decode cX9_tune 125 = .ok (.aload_n 3, 1) := by decide +kernel
theorem dX9_tune_126 : decode cX9_tune 126 = .ok (.iconst 2, 1) := by decide +kernel
theorem dX9_tune_127 : decode cX9_tune 127 = .ok (.iload 6, 2) := by decide +kernel
theorem dX9_tune_129 : decode cX9_tune 129 = .ok (.imul, 1) := by decide +kernel
theorem dX9_tune_130 : decode cX9_tune 130 = .ok (.invokevirtual 153, 3) := by decide +kernel
theorem dX9_tune_133 : decode cX9_tune 133 = .ok (.aload_n 3, 1) := by decide +kernel
theorem dX9_tune_134 : decode cX9_tune 134 = .ok (.iconst 2, 1) := by decide +kernel
theorem dX9_tune_135 : decode cX9_tune 135 = .ok (.iload 6, 2) := by decide +kernel
theorem dX9_tune_137 : decode cX9_tune 137 = .ok (.imul, 1) := by decide +kernel
theorem dX9_tune_138 : decode cX9_tune 138 = .ok (.iconst 1, 1) := by decide +kernel
theorem dX9_tune_139 : decode cX9_tune 139 = .ok (.iadd, 1) := by decide +kernel
theorem dX9_tune_140 : decode cX9_tune 140 = .ok (.invokevirtual 153, 3) := by decide +kernel
theorem dX9_tune_143 : decode cX9_tune 143 = .ok (.invokevirtual 219, 3) := by decide +kernel
theorem dX9_tune_146 : decode cX9_tune 146 = .ok (.iinc 6 1, 3) := by decide +kernel
theorem dX9_tune_149 : decode cX9_tune 149 = .ok (.goto (-37), 3) := by decide +kernel
theorem dX9_tune_152 : decode cX9_tune 152 = .ok (.iload 5, 2) := by decide +kernel
theorem dX9_tune_154 : decode cX9_tune 154 = .ok (.ireturn, 1) := by decide +kernel
theorem dX9_areNotes_0 : decode cX9_areNotes 0 = .ok (.iconst 0, 1) := by decide +kernel
theorem dX9_areNotes_1 : decode cX9_areNotes 1 = .ok (.istore_n 2, 1) := by decide +kernel
theorem dX9_areNotes_2 : decode cX9_areNotes 2 = .ok (.iload_n 2, 1) := by decide +kernel
theorem dX9_areNotes_3 : decode cX9_areNotes 3 = .ok (.iload_n 1, 1) := by decide +kernel
theorem dX9_areNotes_4 : decode cX9_areNotes 4 = .ok (.if_icmp .ge 46, 3) := by decide +kernel
theorem dX9_areNotes_7 : decode cX9_areNotes 7 = .ok (.aload_n 0, 1) := by decide +kernel
theorem dX9_areNotes_8 : decode cX9_areNotes 8 = .ok (.iconst 2, 1) := by decide +kernel
theorem dX9_areNotes_9 : decode cX9_areNotes 9 = .ok (.iload_n 2, 1) := by decide +kernel
theorem dX9_areNotes_10 : decode cX9_areNotes 10 = .ok (.imul, 1) := by decide +kernel
theorem dX9_areNotes_11 : decode cX9_areNotes 11 = .ok (.invokevirtual 153, 3) := by decide +kernel
theorem dX9_areNotes_14 : decode cX9_areNotes 14 = .ok (.iconst 0, 1) := by decide +kernel
theorem dX9_areNotes_15 : decode cX9_areNotes 15 = .ok (.sipush 9999, 3) := by decide +kernel
theorem dX9_areNotes_18 : decode cX9_areNotes 18 = .ok (.invokestatic 63, 3) := by decide +kernel
theorem dX9_areNotes_21 : decode cX9_areNotes 21 = .ok (.ifCond .eq 21, 3) := by decide +kernel
theorem dX9_areNotes_24 : decode cX9_areNotes 24 = .ok (.aload_n 0, 1) := by decide +kernel
theorem dX9_areNotes_25 : decode cX9_areNotes 25 = .ok (.iconst 2, 1) := by decide +kernel
theorem dX9_areNotes_26 : decode cX9_areNotes 26 = .ok (.iload_n 2, 1) := by decide +kernel
theorem dX9_areNotes_27 : decode cX9_areNotes 27 = .ok (.imul, 1) := by decide +kernel
theorem dX9_areNotes_28 : decode cX9_areNotes 28 = .ok (.iconst 1, 1) := by decide +kernel
theorem dX9_areNotes_29 : decode cX9_areNotes 29 = .ok (.iadd, 1) := by decide +kernel
theorem dX9_areNotes_30 : decode cX9_areNotes 30 = .ok (.invokevirtual 153, 3) := by decide +kernel
theorem dX9_areNotes_33 : decode cX9_areNotes 33 = .ok (.iconst 1, 1) := by decide +kernel
theorem dX9_areNotes_34 : decode cX9_areNotes 34 = .ok (.bipush 16, 2) := by decide +kernel
theorem dX9_areNotes_36 : decode cX9_areNotes 36 = .ok (.invokestatic 63, 3) := by decide +kernel
theorem dX9_areNotes_39 : decode cX9_areNotes 39 = .ok (.ifCond .ne 5, 3) := by decide +kernel
theorem dX9_areNotes_42 : decode cX9_areNotes 42 = .ok (.iconst 0, 1) := by decide +kernel
theorem dX9_areNotes_43 : decode cX9_areNotes 43 = .ok (.ireturn, 1) := by decide +kernel
theorem dX9_areNotes_44 : decode cX9_areNotes 44 = .ok (.iinc 2 1, 3) := by decide +kernel
theorem dX9_areNotes_47 : decode cX9_areNotes 47 = .ok (.goto (-45), 3) := by decide +kernel
theorem dX9_areNotes_50 : decode cX9_areNotes 50 = .ok (.iconst 1, 1) := by decide +kernel
theorem dX9_areNotes_51 : decode cX9_areNotes 51 = .ok (.ireturn, 1) := by decide +kernel
theorem dX9_noteOf_0 : decode cX9_noteOf 0 = .ok (.aload_n 0, 1) := by decide +kernel
theorem dX9_noteOf_1 : decode cX9_noteOf 1 = .ok (.getfield 10, 3) := by decide +kernel
theorem dX9_noteOf_4 : decode cX9_noteOf 4 = .ok (.getfield 209, 3) := by decide +kernel
theorem dX9_noteOf_7 : decode cX9_noteOf 7 = .ok (.astore 4, 2) := by decide +kernel
theorem dX9_noteOf_9 : decode cX9_noteOf 9 = .ok (.aload 4, 2) := by decide +kernel
theorem dX9_noteOf_11 : decode cX9_noteOf 11 = .ok (.iload_n 1, 1) := by decide +kernel
theorem dX9_noteOf_12 : decode cX9_noteOf 12 = .ok (.invokevirtual 222, 3) := by decide +kernel
theorem dX9_noteOf_15 : decode cX9_noteOf 15 = .ok (.ifCond .eq 12, 3) := by decide +kernel
theorem dX9_noteOf_18 : decode cX9_noteOf 18 = .ok (.iload_n 2, 1) := by decide +kernel
theorem dX9_noteOf_19 : decode cX9_noteOf 19 = .ok (.iconst (-1), 1) := by decide +kernel
theorem dX9_noteOf_20 : decode cX9_noteOf 20 = .ok (.if_icmp .ne 7, 3) := by decide +kernel
theorem dX9_noteOf_23 : decode cX9_noteOf 23 = .ok (.iconst 1, 1) := by decide +kernel
theorem dX9_noteOf_24 : decode cX9_noteOf 24 = .ok (.goto 4, 3) := by decide +kernel
theorem dX9_noteOf_27 : decode cX9_noteOf 27 = .ok (.iconst 0, 1) := by decide +kernel
theorem dX9_noteOf_28 : decode cX9_noteOf 28 = .ok (.istore 5, 2) := by decide +kernel
theorem dX9_noteOf_30 : decode cX9_noteOf 30 = .ok (.iload_n 3, 1) := by decide +kernel
theorem dX9_noteOf_31 : decode cX9_noteOf 31 = .ok (.iconst 0, 1) := by decide +kernel
theorem dX9_noteOf_32 : decode cX9_noteOf 32 = .ok (.iconst 1, 1) := by decide +kernel
theorem dX9_noteOf_33 : decode cX9_noteOf 33 = .ok (.invokestatic 63, 3) := by decide +kernel
theorem dX9_noteOf_36 : decode cX9_noteOf 36 = .ok (.ifCond .eq 18, 3) := by decide +kernel
theorem dX9_noteOf_39 : decode cX9_noteOf 39 = .ok (.iload 5, 2) := by decide +kernel
theorem dX9_noteOf_41 : decode cX9_noteOf 41 = .ok (.ifCond .ne 20, 3) := by decide +kernel
theorem dX9_noteOf_44 : decode cX9_noteOf 44 = .ok (.aload 4, 2) := by decide +kernel
theorem dX9_noteOf_46 : decode cX9_noteOf 46 = .ok (.iload_n 1, 1) := by decide +kernel
theorem dX9_noteOf_47 : decode cX9_noteOf 47 = .ok (.iload_n 2, 1) := by decide +kernel
theorem dX9_noteOf_48 : decode cX9_noteOf 48 = .ok (.invokevirtual 223, 3) := by decide +kernel
theorem dX9_noteOf_51 : decode cX9_noteOf 51 = .ok (.ifCond .ne 10, 3) := by decide +kernel
theorem dX9_noteOf_54 : decode cX9_noteOf 54 = .ok (.aload_n 0, 1) := by decide +kernel
theorem dX9_noteOf_55 : decode cX9_noteOf 55 = .ok (.bipush (-5), 2) := by decide +kernel
theorem dX9_noteOf_57 : decode cX9_noteOf 57 = .ok (.invokevirtual 59, 3) := by decide +kernel
theorem dX9_noteOf_60 : decode cX9_noteOf 60 = .ok (.ireturn, 1) := by decide +kernel
theorem dX9_noteOf_61 : decode cX9_noteOf 61 = .ok (.iload 5, 2) := by decide +kernel
theorem dX9_noteOf_63 : decode cX9_noteOf 63 = .ok (.ifCond .eq 29, 3) := by decide +kernel
theorem dX9_noteOf_66 : decode cX9_noteOf 66 = .ok (.iload_n 3, 1) := by decide +kernel
theorem dX9_noteOf_67 : decode cX9_noteOf 67 = .ok (.ifCond .ne 12, 3) := by decide +kernel
theorem dX9_noteOf_70 : decode cX9_noteOf 70 = .ok (.aload 4, 2) := by decide +kernel
theorem dX9_noteOf_72 : decode cX9_noteOf 72 = .ok (.iload_n 1, 1) := by decide +kernel
theorem dX9_noteOf_73 : decode cX9_noteOf 73 = .ok (.invokevirtual 226, 3) := by decide +kernel
theorem dX9_noteOf_76 : decode cX9_noteOf 76 = .ok (.goto 15, 3) := by decide +kernel
theorem dX9_noteOf_79 : decode cX9_noteOf 79 = .ok (.aload 4, 2) := by decide +kernel
theorem dX9_noteOf_81 : decode cX9_noteOf 81 = .ok (.iload_n 1, 1) := by decide +kernel
theorem dX9_noteOf_82 : decode cX9_noteOf 82 = .ok (.aload 4, 2) := by decide +kernel
theorem dX9_noteOf_84 : decode cX9_noteOf 84 = .ok (.iload_n 1, 1) := by decide +kernel
theorem dX9_noteOf_85 : decode cX9_noteOf 85 = .ok (.invokevirtual 226, 3) := by decide +kernel
theorem dX9_noteOf_88 : decode cX9_noteOf 88 = .ok (.invokevirtual 229, 3) := by decide +kernel
theorem dX9_noteOf_91 : decode cX9_noteOf 91 = .ok (.ireturn, 1) := by decide +kernel
theorem dX9_noteOf_92 : decode cX9_noteOf 92 = .ok (.iload_n 3, 1) := by decide +kernel
theorem dX9_noteOf_93 : decode cX9_noteOf 93 = .ok (.ifCond .ne 13, 3) := by decide +kernel
theorem dX9_noteOf_96 : decode cX9_noteOf 96 = .ok (.aload 4, 2) := by decide +kernel
theorem dX9_noteOf_98 : decode cX9_noteOf 98 = .ok (.iload_n 1, 1) := by decide +kernel
theorem dX9_noteOf_99 : decode cX9_noteOf 99 = .ok (.iload_n 2, 1) := by decide +kernel
theorem dX9_noteOf_100 : decode cX9_noteOf 100 = .ok (.invokevirtual 232, 3) := by decide +kernel
theorem dX9_noteOf_103 : decode cX9_noteOf 103 = .ok (.goto 10, 3) := by decide +kernel
theorem dX9_noteOf_106 : decode cX9_noteOf 106 = .ok (.aload 4, 2) := by decide +kernel
theorem dX9_noteOf_108 : decode cX9_noteOf 108 = .ok (.iload_n 1, 1) := by decide +kernel
theorem dX9_noteOf_109 : decode cX9_noteOf 109 = .ok (.iload_n 2, 1) := by decide +kernel
theorem dX9_noteOf_110 : decode cX9_noteOf 110 = .ok (.invokevirtual 235, 3) := by decide +kernel
theorem dX9_noteOf_113 : decode cX9_noteOf 113 = .ok (.ireturn, 1) := by decide +kernel
theorem dX9_ask_0 : decode cX9_ask 0 = .ok (.iload_n 1, 1) := by decide +kernel
theorem dX9_ask_1 : decode cX9_ask 1 = .ok (.iload_n 2, 1) := by decide +kernel
theorem dX9_ask_2 : decode cX9_ask 2 = .ok (.invokestatic 238, 3) := by decide +kernel
theorem dX9_ask_5 : decode cX9_ask 5 = .ok (.ifCond .ne 10, 3) := by decide +kernel
theorem dX9_ask_8 : decode cX9_ask 8 = .ok (.aload_n 0, 1) := by decide +kernel
theorem dX9_ask_9 : decode cX9_ask 9 = .ok (.bipush (-6), 2) := by decide +kernel
theorem dX9_ask_11 : decode cX9_ask 11 = .ok (.invokevirtual 59, 3) := by decide +kernel
theorem dX9_ask_14 : decode cX9_ask 14 = .ok (.ireturn, 1) := by decide +kernel
theorem dX9_ask_15 : decode cX9_ask 15 = .ok (.aload_n 0, 1) := by decide +kernel
theorem dX9_ask_16 : decode cX9_ask 16 = .ok (.getfield 10, 3) := by decide +kernel
theorem dX9_ask_19 : decode cX9_ask 19 = .ok (.iload_n 1, 1) := by decide +kernel
theorem dX9_ask_20 : decode cX9_ask 20 = .ok (.invokevirtual 241, 3) := by decide +kernel
theorem dX9_ask_23 : decode cX9_ask 23 = .ok (.istore_n 3, 1) := by decide +kernel
theorem dX9_ask_24 : decode cX9_ask 24 = .ok (.aload_n 0, 1) := by decide +kernel
theorem dX9_ask_25 : decode cX9_ask 25 = .ok (.getfield 10, 3) := by decide +kernel
theorem dX9_ask_28 : decode cX9_ask 28 = .ok (.iload_n 1, 1) := by decide +kernel
theorem dX9_ask_29 : decode cX9_ask 29 = .ok (.iload_n 2, 1) := by decide +kernel
theorem dX9_ask_30 : decode cX9_ask 30 = .ok (.invokevirtual 244, 3) := by decide +kernel
theorem dX9_ask_33 : decode cX9_ask 33 = .ok (.iload_n 3, 1) := by decide +kernel
theorem dX9_ask_34 : decode cX9_ask 34 = .ok (.ireturn, 1) := by decide +kernel
theorem dX9_book_0 : decode cX9_book 0 = .ok (.aload_n 0, 1) := by decide +kernel
theorem dX9_book_1 : decode cX9_book 1 = .ok (.iload_n 1, 1) := by decide +kernel
theorem dX9_book_2 : decode cX9_book 2 = .ok (.invokevirtual 55, 3) := by decide +kernel
theorem dX9_book_5 : decode cX9_book 5 = .ok (.astore_n 2, 1) := by decide +kernel
theorem dX9_book_6 : decode cX9_book 6 = .ok (.aload_n 2, 1) := by decide +kernel
theorem dX9_book_7 : decode cX9_book 7 = .ok (.invokestatic 71, 3) := by decide +kernel
theorem dX9_book_10 : decode cX9_book 10 = .ok (.istore_n 3, 1) := by decide +kernel
theorem dX9_book_11 : decode cX9_book 11 = .ok (.iload_n 3, 1) := by decide +kernel
theorem dX9_book_12 : decode cX9_book 12 = .ok (.ifCond .ne 7, 3) := by decide +kernel
theorem dX9_book_15 : decode cX9_book 15 = .ok (.aload_n 2, 1) := by decide +kernel
theorem dX9_book_16 : decode cX9_book 16 = .ok (.ifnonnull 9, 3) := by decide +kernel
theorem dX9_book_19 : decode cX9_book 19 = .ok (.aload_n 0, 1) := by decide +kernel
theorem dX9_book_20 : decode cX9_book 20 = .ok (.iload_n 3, 1) := by decide +kernel
theorem dX9_book_21 : decode cX9_book 21 = .ok (.invokevirtual 59, 3) := by decide +kernel
theorem dX9_book_24 : decode cX9_book 24 = .ok (.ireturn, 1) := by decide +kernel
theorem dX9_book_25 : decode cX9_book 25 = .ok (.aload_n 0, 1) := by decide +kernel
theorem dX9_book_26 : decode cX9_book 26 = .ok (.getfield 19, 3) := by decide +kernel
theorem dX9_book_29 : decode cX9_book 29 = .ok (.aload_n 0, 1) := by decide +kernel
theorem dX9_book_30 : decode cX9_book 30 = .ok (.getfield 10, 3) := by decide +kernel
theorem dX9_book_33 : decode cX9_book 33 = .ok (.invokevirtual 247, 3) := by decide +kernel
theorem dX9_book_36 : decode cX9_book 36 = .ok (.new 251, 3) := by decide +kernel
theorem dX9_book_39 : decode cX9_book 39 = .ok (.dup, 1) := by decide +kernel
theorem dX9_book_40 : decode cX9_book 40 = .ok (.aload_n 2, 1) := by decide +kernel
theorem dX9_book_41 : decode cX9_book 41 = .ok (.aload_n 0, 1) := by decide +kernel
theorem dX9_book_42 : decode cX9_book 42 = .ok (.getfield 10, 3) := by decide +kernel
theorem dX9_book_45 : decode cX9_book 45 = .ok (.invokespecial 253, 3) := by decide +kernel
theorem dX9_book_48 : decode cX9_book 48 = .ok (.astore 4, 2) := by decide +kernel
theorem dX9_book_50 : decode cX9_book 50 = .ok (.aload 4, 2) := by decide +kernel
theorem dX9_book_52 : decode cX9_book 52 = .ok (.invokevirtual 256, 3) := by decide +kernel
theorem dX9_book_55 : decode cX9_book 55 = .ok (.istore 5, 2) := by decide +kernel
theorem dX9_book_57 : decode cX9_book 57 = .ok (.aload_n 0, 1) := by decide +kernel
theorem dX9_book_58 : decode cX9_book 58 = .ok (.aload 4, 2) := by decide +kernel
theorem dX9_book_60 : decode cX9_book 60 = .ok (.invokevirtual 259, 3) := by decide +kernel
theorem dX9_book_63 : decode cX9_book 63 = .ok (.putfield 50, 3) := by decide +kernel
theorem dX9_book_66 : decode cX9_book 66 = .ok (.aload_n 0, 1) := by decide +kernel
theorem dX9_book_67 : decode cX9_book 67 = .ok (.getfield 50, 3) := by decide +kernel
theorem dX9_book_70 : decode cX9_book 70 = .ok (.iconst (-1), 1) := by decide +kernel
theorem dX9_book_71 : decode cX9_book 71 = .ok (.if_icmp .eq 21, 3) := by decide +kernel
theorem dX9_book_74 : decode cX9_book 74 = .ok (.aload_n 0, 1) := by decide +kernel
theorem dX9_book_75 : decode cX9_book 75 = .ok (.getfield 10, 3) := by decide +kernel
theorem dX9_book_78 : decode cX9_book 78 = .ok (.aload_n 0, 1) := by decide +kernel
theorem dX9_book_79 : decode cX9_book 79 = .ok (.getfield 19, 3) := by decide +kernel
theorem dX9_book_82 : decode cX9_book 82 = .ok (.invokevirtual 247, 3) := by decide +kernel
theorem dX9_book_85 : decode cX9_book 85 = .ok (.aload_n 0, 1) := by decide +kernel
theorem dX9_book_86 : decode cX9_book 86 = .ok (.bipush (-6), 2) := by decide +kernel
theorem dX9_book_88 : decode cX9_book 88 = .ok (.invokevirtual 59, 3) := by decide +kernel
theorem dX9_book_91 : decode cX9_book 91 = .ok (.ireturn, 1) := by decide +kernel
theorem dX9_book_92 : decode cX9_book 92 = .ok (.iload 5, 2) := by decide +kernel
theorem dX9_book_94 : decode cX9_book 94 = .ok (.ireturn, 1) := by decide +kernel
theorem dX9_fault_0 : decode cX9_fault 0 = .ok (.aload_n 0, 1) := by decide +kernel
theorem dX9_fault_1 : decode cX9_fault 1 = .ok (.getfield 50, 3) := by decide +kernel
theorem dX9_fault_4 : decode cX9_fault 4 = .ok (.ireturn, 1) := by decide +kernel
theorem dX9_hum_0 : decode cX9_hum 0 = .ok (.aload_n 0, 1) := by decide +kernel
theorem dX9_hum_1 : decode cX9_hum 1 = .ok (.getfield 10, 3) := by decide +kernel
theorem dX9_hum_4 : decode cX9_hum 4 = .ok (.getfield 106, 3) := by decide +kernel
theorem dX9_hum_7 : decode cX9_hum 7 = .ok (.iload_n 1, 1) := by decide +kernel
theorem dX9_hum_8 : decode cX9_hum 8 = .ok (.invokevirtual 110, 3) := by decide +kernel
theorem dX9_hum_11 : decode cX9_hum 11 = .ok (.ifCond .ne 9, 3) := by decide +kernel
theorem dX9_hum_14 : decode cX9_hum 14 = .ok (.aload_n 0, 1) := by decide +kernel
theorem dX9_hum_15 : decode cX9_hum 15 = .ok (.iconst (-1), 1) := by decide +kernel
theorem dX9_hum_16 : decode cX9_hum 16 = .ok (.invokevirtual 59, 3) := by decide +kernel
theorem dX9_hum_19 : decode cX9_hum 19 = .ok (.ireturn, 1) := by decide +kernel
theorem dX9_hum_20 : decode cX9_hum 20 = .ok (.iload_n 2, 1) := by decide +kernel
theorem dX9_hum_21 : decode cX9_hum 21 = .ok (.invokestatic 177, 3) := by decide +kernel
theorem dX9_hum_24 : decode cX9_hum 24 = .ok (.ifCond .eq 18, 3) := by decide +kernel
theorem dX9_hum_27 : decode cX9_hum 27 = .ok (.aload_n 0, 1) := by decide +kernel
theorem dX9_hum_28 : decode cX9_hum 28 = .ok (.getfield 10, 3) := by decide +kernel
theorem dX9_hum_31 : decode cX9_hum 31 = .ok (.getfield 106, 3) := by decide +kernel
theorem dX9_hum_34 : decode cX9_hum 34 = .ok (.iload_n 1, 1) := by decide +kernel
theorem dX9_hum_35 : decode cX9_hum 35 = .ok (.iload_n 2, 1) := by decide +kernel
theorem dX9_hum_36 : decode cX9_hum 36 = .ok (.invokevirtual 262, 3) := by decide +kernel
theorem dX9_hum_39 : decode cX9_hum 39 = .ok (.goto 9, 3) := by decide +kernel
theorem dX9_hum_42 : decode cX9_hum 42 = .ok (.aload_n 0, 1) := by decide +kernel
theorem dX9_hum_43 : decode cX9_hum 43 = .ok (.bipush (-6), 2) := by decide +kernel
theorem dX9_hum_45 : decode cX9_hum 45 = .ok (.invokevirtual 59, 3) := by decide +kernel
theorem dX9_hum_48 : decode cX9_hum 48 = .ok (.ireturn, 1) := by decide +kernel
theorem dX9_lasts_0 : decode cX9_lasts 0 = .ok (.aload_n 0, 1) := by decide +kernel
theorem dX9_lasts_1 : decode cX9_lasts 1 = .ok (.getfield 10, 3) := by decide +kernel
theorem dX9_lasts_4 : decode cX9_lasts 4 = .ok (.getfield 106, 3) := by decide +kernel
theorem dX9_lasts_7 : decode cX9_lasts 7 = .ok (.iload_n 1, 1) := by decide +kernel
theorem dX9_lasts_8 : decode cX9_lasts 8 = .ok (.invokevirtual 110, 3) := by decide +kernel
theorem dX9_lasts_11 : decode cX9_lasts 11 = .ok (.ifCond .ne 9, 3) := by decide +kernel
theorem dX9_lasts_14 : decode cX9_lasts 14 = .ok (.aload_n 0, 1) := by decide +kernel
theorem dX9_lasts_15 : decode cX9_lasts 15 = .ok (.iconst (-1), 1) := by decide +kernel
theorem dX9_lasts_16 : decode cX9_lasts 16 = .ok (.invokevirtual 59, 3) := by decide +kernel
theorem dX9_lasts_19 : decode cX9_lasts 19 = .ok (.ireturn, 1) := by decide +kernel
theorem dX9_lasts_20 : decode cX9_lasts 20 = .ok (.iload_n 2, 1) := by decide +kernel
theorem dX9_lasts_21 : decode cX9_lasts 21 = .ok (.invokestatic 177, 3) := by decide +kernel
theorem dX9_lasts_24 : decode cX9_lasts 24 = .ok (.ifCond .eq 18, 3) := by decide +kernel
theorem dX9_lasts_27 : decode cX9_lasts 27 = .ok (.aload_n 0, 1) := by decide +kernel
theorem dX9_lasts_28 : decode cX9_lasts 28 = .ok (.getfield 10, 3) := by decide +kernel
theorem dX9_lasts_31 : decode cX9_lasts 31 = .ok (.getfield 106, 3) := by decide +kernel
theorem dX9_lasts_34 : decode cX9_lasts 34 = .ok (.iload_n 1, 1) := by decide +kernel
theorem dX9_lasts_35 : decode cX9_lasts 35 = .ok (.iload_n 2, 1) := by decide +kernel
theorem dX9_lasts_36 : decode cX9_lasts 36 = .ok (.invokevirtual 265, 3) := by decide +kernel
theorem dX9_lasts_39 : decode cX9_lasts 39 = .ok (.goto 9, 3) := by decide +kernel
theorem dX9_lasts_42 : decode cX9_lasts 42 = .ok (.aload_n 0, 1) := by decide +kernel
theorem dX9_lasts_43 : decode cX9_lasts 43 = .ok (.bipush (-6), 2) := by decide +kernel
theorem dX9_lasts_45 : decode cX9_lasts 45 = .ok (.invokevirtual 59, 3) := by decide +kernel
theorem dX9_lasts_48 : decode cX9_lasts 48 = .ok (.ireturn, 1) := by decide +kernel
theorem dX9_loud_0 : decode cX9_loud 0 = .ok (.aload_n 0, 1) := by decide +kernel
theorem dX9_loud_1 : decode cX9_loud 1 = .ok (.getfield 10, 3) := by decide +kernel
theorem dX9_loud_4 : decode cX9_loud 4 = .ok (.getfield 106, 3) := by decide +kernel
theorem dX9_loud_7 : decode cX9_loud 7 = .ok (.iload_n 1, 1) := by decide +kernel
theorem dX9_loud_8 : decode cX9_loud 8 = .ok (.invokevirtual 110, 3) := by decide +kernel
theorem dX9_loud_11 : decode cX9_loud 11 = .ok (.ifCond .ne 9, 3) := by decide +kernel
theorem dX9_loud_14 : decode cX9_loud 14 = .ok (.aload_n 0, 1) := by decide +kernel
theorem dX9_loud_15 : decode cX9_loud 15 = .ok (.iconst (-1), 1) := by decide +kernel
theorem dX9_loud_16 : decode cX9_loud 16 = .ok (.invokevirtual 59, 3) := by decide +kernel
theorem dX9_loud_19 : decode cX9_loud 19 = .ok (.ireturn, 1) := by decide +kernel
theorem dX9_loud_20 : decode cX9_loud 20 = .ok (.iload_n 2, 1) := by decide +kernel
theorem dX9_loud_21 : decode cX9_loud 21 = .ok (.iconst 0, 1) := by decide +kernel
theorem dX9_loud_22 : decode cX9_loud 22 = .ok (.bipush 50, 2) := by decide +kernel
theorem dX9_loud_24 : decode cX9_loud 24 = .ok (.invokestatic 63, 3) := by decide +kernel
theorem dX9_loud_27 : decode cX9_loud 27 = .ok (.ifCond .eq 18, 3) := by decide +kernel
theorem dX9_loud_30 : decode cX9_loud 30 = .ok (.aload_n 0, 1) := by decide +kernel
theorem dX9_loud_31 : decode cX9_loud 31 = .ok (.getfield 10, 3) := by decide +kernel
theorem dX9_loud_34 : decode cX9_loud 34 = .ok (.getfield 106, 3) := by decide +kernel
theorem dX9_loud_37 : decode cX9_loud 37 = .ok (.iload_n 1, 1) := by decide +kernel
theorem dX9_loud_38 : decode cX9_loud 38 = .ok (.iload_n 2, 1) := by decide +kernel
theorem dX9_loud_39 : decode cX9_loud 39 = .ok (.invokevirtual 268, 3) := by decide +kernel
theorem dX9_loud_42 : decode cX9_loud 42 = .ok (.goto 9, 3) := by decide +kernel
theorem dX9_loud_45 : decode cX9_loud 45 = .ok (.aload_n 0, 1) := by decide +kernel
theorem dX9_loud_46 : decode cX9_loud 46 = .ok (.bipush (-6), 2) := by decide +kernel
theorem dX9_loud_48 : decode cX9_loud 48 = .ok (.invokevirtual 59, 3) := by decide +kernel
theorem dX9_loud_51 : decode cX9_loud 51 = .ok (.ireturn, 1) := by decide +kernel
theorem dX9_off_0 : decode cX9_off 0 = .ok (.iload_n 1, 1) := by decide +kernel
theorem dX9_off_1 : decode cX9_off 1 = .ok (.iconst 0, 1) := by decide +kernel
theorem dX9_off_2 : decode cX9_off 2 = .ok (.ldc_w 271, 3) := by decide +kernel
theorem dX9_off_5 : decode cX9_off 5 = .ok (.invokestatic 63, 3) := by decide +kernel
theorem dX9_off_8 : decode cX9_off 8 = .ok (.ifCond .eq 14, 3) := by decide +kernel
theorem dX9_off_11 : decode cX9_off 11 = .ok (.iload_n 2, 1) := by decide +kernel
theorem dX9_off_12 : decode cX9_off 12 = .ok (.iconst 0, 1) := by decide +kernel
theorem dX9_off_13 : decode cX9_off 13 = .ok (.ldc_w 271, 3) := by decide +kernel
theorem dX9_off_16 : decode cX9_off 16 = .ok (.invokestatic 63, 3) := by decide +kernel
theorem dX9_off_19 : decode cX9_off 19 = .ok (.ifCond .ne 10, 3) := by decide +kernel
theorem dX9_off_22 : decode cX9_off 22 = .ok (.aload_n 0, 1) := by decide +kernel
theorem dX9_off_23 : decode cX9_off 23 = .ok (.bipush (-6), 2) := by decide +kernel
theorem dX9_off_25 : decode cX9_off 25 = .ok (.invokevirtual 59, 3) := by decide +kernel
theorem dX9_off_28 : decode cX9_off 28 = .ok (.ireturn, 1) := by decide +kernel
theorem dX9_off_29 : decode cX9_off 29 = .ok (.iload_n 1, 1) := by decide +kernel
theorem dX9_off_30 : decode cX9_off 30 = .ok (.iload_n 2, 1) := by decide +kernel
theorem dX9_off_31 : decode cX9_off 31 = .ok (.invokestatic 272, 3) := by decide +kernel
theorem dX9_off_34 : decode cX9_off 34 = .ok (.ireturn, 1) := by decide +kernel
theorem dX9_note_0 : decode cX9_note 0 = .ok (.aload_n 0, 1) := by decide +kernel
theorem dX9_note_1 : decode cX9_note 1 = .ok (.getfield 10, 3) := by decide +kernel
theorem dX9_note_4 : decode cX9_note 4 = .ok (.getfield 180, 3) := by decide +kernel
theorem dX9_note_7 : decode cX9_note 7 = .ok (.iload_n 1, 1) := by decide +kernel
theorem dX9_note_8 : decode cX9_note 8 = .ok (.invokevirtual 193, 3) := by decide +kernel
theorem dX9_note_11 : decode cX9_note 11 = .ok (.ifCond .eq 18, 3) := by decide +kernel
theorem dX9_note_14 : decode cX9_note 14 = .ok (.aload_n 0, 1) := by decide +kernel
theorem dX9_note_15 : decode cX9_note 15 = .ok (.getfield 10, 3) := by decide +kernel
theorem dX9_note_18 : decode cX9_note 18 = .ok (.getfield 209, 3) := by decide +kernel
theorem dX9_note_21 : decode cX9_note 21 = .ok (.iload_n 2, 1) := by decide +kernel
theorem dX9_note_22 : decode cX9_note 22 = .ok (.iload_n 3, 1) := by decide +kernel
theorem dX9_note_23 : decode cX9_note 23 = .ok (.invokevirtual 223, 3) := by decide +kernel
theorem dX9_note_26 : decode cX9_note 26 = .ok (.ifCond .ne 9, 3) := by decide +kernel
theorem dX9_note_29 : decode cX9_note 29 = .ok (.aload_n 0, 1) := by decide +kernel
theorem dX9_note_30 : decode cX9_note 30 = .ok (.iconst (-1), 1) := by decide +kernel
theorem dX9_note_31 : decode cX9_note 31 = .ok (.invokevirtual 59, 3) := by decide +kernel
theorem dX9_note_34 : decode cX9_note 34 = .ok (.ireturn, 1) := by decide +kernel
theorem dX9_note_35 : decode cX9_note 35 = .ok (.aload_n 0, 1) := by decide +kernel
theorem dX9_note_36 : decode cX9_note 36 = .ok (.getfield 10, 3) := by decide +kernel
theorem dX9_note_39 : decode cX9_note 39 = .ok (.iload_n 1, 1) := by decide +kernel
theorem dX9_note_40 : decode cX9_note 40 = .ok (.iload_n 2, 1) := by decide +kernel
theorem dX9_note_41 : decode cX9_note 41 = .ok (.iload_n 3, 1) := by decide +kernel
theorem dX9_note_42 : decode cX9_note 42 = .ok (.invokevirtual 275, 3) := by decide +kernel
theorem dX9_note_45 : decode cX9_note 45 = .ok (.ireturn, 1) := by decide +kernel
theorem dX9_hears_0 : decode cX9_hears 0 = .ok (.aload_n 0, 1) := by decide +kernel
theorem dX9_hears_1 : decode cX9_hears 1 = .ok (.getfield 10, 3) := by decide +kernel
theorem dX9_hears_4 : decode cX9_hears 4 = .ok (.getfield 180, 3) := by decide +kernel
theorem dX9_hears_7 : decode cX9_hears 7 = .ok (.iload_n 1, 1) := by decide +kernel
theorem dX9_hears_8 : decode cX9_hears 8 = .ok (.invokevirtual 193, 3) := by decide +kernel
theorem dX9_hears_11 : decode cX9_hears 11 = .ok (.ifCond .eq 17, 3) := by decide +kernel
theorem dX9_hears_14 : decode cX9_hears 14 = .ok (.aload_n 0, 1) := by decide +kernel
theorem dX9_hears_15 : decode cX9_hears 15 = .ok (.getfield 10, 3) := by decide +kernel
theorem dX9_hears_18 : decode cX9_hears 18 = .ok (.getfield 209, 3) := by decide +kernel
theorem dX9_hears_21 : decode cX9_hears 21 = .ok (.iload_n 2, 1) := by decide +kernel
theorem dX9_hears_22 : decode cX9_hears 22 = .ok (.invokevirtual 222, 3) := by decide +kernel
theorem dX9_hears_25 : decode cX9_hears 25 = .ok (.ifCond .ne 9, 3) := by decide +kernel
theorem dX9_hears_28 : decode cX9_hears 28 = .ok (.aload_n 0, 1) := by decide +kernel
theorem dX9_hears_29 : decode cX9_hears 29 = .ok (.iconst (-1), 1) := by decide +kernel
theorem dX9_hears_30 : decode cX9_hears 30 = .ok (.invokevirtual 59, 3) := by decide +kernel
theorem dX9_hears_33 : decode cX9_hears 33 = .ok (.ireturn, 1) := by decide +kernel
theorem dX9_hears_34 : decode cX9_hears 34 = .ok (.iload_n 3, 1) := by decide +kernel
theorem dX9_hears_35 : decode cX9_hears 35 = .ok (.tableswitch 63 0 2 #[25, 35, 45], 25) := by decide +kernel
theorem dX9_hears_60 : decode cX9_hears 60 = .ok (.aload_n 0, 1) := by decide +kernel
theorem dX9_hears_61 : decode cX9_hears 61 = .ok (.getfield 10, 3) := by decide +kernel
theorem dX9_hears_64 : decode cX9_hears 64 = .ok (.iload_n 1, 1) := by decide +kernel
theorem dX9_hears_65 : decode cX9_hears 65 = .ok (.iload_n 2, 1) := by decide +kernel
theorem dX9_hears_66 : decode cX9_hears 66 = .ok (.invokevirtual 278, 3) := by decide +kernel
theorem dX9_hears_69 : decode cX9_hears 69 = .ok (.ireturn, 1) := by decide +kernel
theorem dX9_hears_70 : decode cX9_hears 70 = .ok (.aload_n 0, 1) := by decide +kernel
theorem dX9_hears_71 : decode cX9_hears 71 = .ok (.getfield 10, 3) := by decide +kernel
theorem dX9_hears_74 : decode cX9_hears 74 = .ok (.iload_n 1, 1) := by decide +kernel
theorem dX9_hears_75 : decode cX9_hears 75 = .ok (.iload_n 2, 1) := by decide +kernel
theorem dX9_hears_76 : decode cX9_hears 76 = .ok (.invokevirtual 281, 3) := by decide +kernel
theorem dX9_hears_79 : decode cX9_hears 79 = .ok (.ireturn, 1) := by decide +kernel
theorem dX9_hears_80 : decode cX9_hears 80 = .ok (.aload_n 0, 1) := by decide +kernel
theorem dX9_hears_81 : decode cX9_hears 81 = .ok (.getfield 10, 3) := by decide +kernel
theorem dX9_hears_84 : decode cX9_hears 84 = .ok (.iload_n 1, 1) := by decide +kernel
theorem dX9_hears_85 : decode cX9_hears 85 = .ok (.iload_n 2, 1) := by decide +kernel
theorem dX9_hears_86 : decode cX9_hears 86 = .ok (.invokevirtual 284, 3) := by decide +kernel
theorem dX9_hears_89 : decode cX9_hears 89 = .ok (.ifCond .eq 7, 3) := by decide +kernel
theorem dX9_hears_92 : decode cX9_hears 92 = .ok (.iconst 1, 1) := by decide +kernel
theorem dX9_hears_93 : decode cX9_hears 93 = .ok (.goto 4, 3) := by decide +kernel
theorem dX9_hears_96 : decode cX9_hears 96 = .ok (.iconst 0, 1) := by decide +kernel
theorem dX9_hears_97 : decode cX9_hears 97 = .ok (.ireturn, 1) := by decide +kernel
theorem dX9_hears_98 : decode cX9_hears 98 = .ok (.aload_n 0, 1) := by decide +kernel
theorem dX9_hears_99 : decode cX9_hears 99 = .ok (.bipush (-5), 2) := by decide +kernel
theorem dX9_hears_101 : decode cX9_hears 101 = .ok (.invokevirtual 59, 3) := by decide +kernel
theorem dX9_hears_104 : decode cX9_hears 104 = .ok (.ireturn, 1) := by decide +kernel
theorem dX9_wrong_0 : decode cX9_wrong 0 = .ok (.aload_n 0, 1) := by decide +kernel
theorem dX9_wrong_1 : decode cX9_wrong 1 = .ok (.getfield 10, 3) := by decide +kernel
theorem dX9_wrong_4 : decode cX9_wrong 4 = .ok (.invokevirtual 287, 3) := by decide +kernel
theorem dX9_wrong_7 : decode cX9_wrong 7 = .ok (.iconst (-1), 1) := by decide +kernel
theorem dX9_wrong_8 : decode cX9_wrong 8 = .ok (.if_icmp .eq 5, 3) := by decide +kernel
theorem dX9_wrong_11 : decode cX9_wrong 11 = .ok (.iconst 1, 1) := by decide +kernel
theorem dX9_wrong_12 : decode cX9_wrong 12 = .ok (.ireturn, 1) := by decide +kernel
theorem dX9_wrong_13 : decode cX9_wrong 13 = .ok (.aload_n 0, 1) := by decide +kernel
theorem dX9_wrong_14 : decode cX9_wrong 14 = .ok (.getfield 10, 3) := by decide +kernel
theorem dX9_wrong_17 : decode cX9_wrong 17 = .ok (.invokevirtual 290, 3) := by decide +kernel
theorem dX9_wrong_20 : decode cX9_wrong 20 = .ok (.iconst (-1), 1) := by decide +kernel
theorem dX9_wrong_21 : decode cX9_wrong 21 = .ok (.if_icmp .eq 7, 3) := by decide +kernel
theorem dX9_wrong_24 : decode cX9_wrong 24 = .ok (.iconst 2, 1) := by decide +kernel
theorem dX9_wrong_25 : decode cX9_wrong 25 = .ok (.goto 4, 3) := by decide +kernel
theorem dX9_wrong_28 : decode cX9_wrong 28 = .ok (.iconst 0, 1) := by decide +kernel
theorem dX9_wrong_29 : decode cX9_wrong 29 = .ok (.ireturn, 1) := by decide +kernel
theorem dX9_judge_0 : decode cX9_judge 0 = .ok (.aload_n 0, 1) := by decide +kernel
theorem dX9_judge_1 : decode cX9_judge 1 = .ok (.getfield 10, 3) := by decide +kernel
theorem dX9_judge_4 : decode cX9_judge 4 = .ok (.invokevirtual 287, 3) := by decide +kernel
theorem dX9_judge_7 : decode cX9_judge 7 = .ok (.istore_n 1, 1) := by decide +kernel
theorem dX9_judge_8 : decode cX9_judge 8 = .ok (.iload_n 1, 1) := by decide +kernel
theorem dX9_judge_9 : decode cX9_judge 9 = .ok (.iconst (-1), 1) := by decide +kernel
theorem dX9_judge_10 : decode cX9_judge 10 = .ok (.if_icmp .eq 7, 3) := by decide +kernel
theorem dX9_judge_13 : decode cX9_judge 13 = .ok (.iload_n 1, 1) := by decide +kernel
theorem dX9_judge_14 : decode cX9_judge 14 = .ok (.goto 10, 3) := by decide +kernel
theorem dX9_judge_17 : decode cX9_judge 17 = .ok (.aload_n 0, 1) := by decide +kernel
theorem dX9_judge_18 : decode cX9_judge 18 = .ok (.getfield 10, 3) := by decide +kernel
theorem dX9_judge_21 : decode cX9_judge 21 = .ok (.invokevirtual 290, 3) := by decide +kernel
theorem dX9_judge_24 : decode cX9_judge 24 = .ok (.ireturn, 1) := by decide +kernel
theorem dX9_meet_0 : decode cX9_meet 0 = .ok (.iload_n 1, 1) := by decide +kernel
theorem dX9_meet_1 : decode cX9_meet 1 = .ok (.iconst 0, 1) := by decide +kernel
theorem dX9_meet_2 : decode cX9_meet 2 = .ok (.sipush 999, 3) := by decide +kernel
theorem dX9_meet_5 : decode cX9_meet 5 = .ok (.invokestatic 63, 3) := by decide +kernel
theorem dX9_meet_8 : decode cX9_meet 8 = .ok (.ifCond .ne 10, 3) := by decide +kernel
theorem dX9_meet_11 : decode cX9_meet 11 = .ok (.aload_n 0, 1) := by decide +kernel
theorem dX9_meet_12 : decode cX9_meet 12 = .ok (.bipush (-6), 2) := by decide +kernel
theorem dX9_meet_14 : decode cX9_meet 14 = .ok (.invokevirtual 59, 3) := by decide +kernel
theorem dX9_meet_17 : decode cX9_meet 17 = .ok (.ireturn, 1) := by decide +kernel
theorem dX9_meet_18 : decode cX9_meet 18 = .ok (.iconst 0, 1) := by decide +kernel
theorem dX9_meet_19 : decode cX9_meet 19 = .ok (.istore_n 2, 1) := by decide +kernel
theorem dX9_meet_20 : decode cX9_meet 20 = .ok (.iconst 0, 1) := by decide +kernel
theorem dX9_meet_21 : decode cX9_meet 21 = .ok (.istore_n 3, 1) := by decide +kernel
theorem dX9_meet_22 : decode cX9_meet 22 = .ok (.iload_n 3, 1) := by decide +kernel
theorem dX9_meet_23 : decode cX9_meet 23 = .ok (.aload_n 0, 1) := by decide +kernel
theorem dX9_meet_24 : decode cX9_meet 24 = .ok (.getfield 10, 3) := by decide +kernel
theorem dX9_meet_27 : decode cX9_meet 27 = .ok (.getfield 106, 3) := by decide +kernel
theorem dX9_meet_30 : decode cX9_meet 30 = .ok (.invokevirtual 156, 3) := by decide +kernel
theorem dX9_meet_33 : decode cX9_meet 33 = .ok (.if_icmp .ge 30, 3) := by decide +kernel
theorem dX9_meet_36 : decode cX9_meet 36 = .ok (.aload_n 0, 1) := by decide +kernel
theorem dX9_meet_37 : decode cX9_meet 37 = .ok (.getfield 10, 3) := by decide +kernel
theorem dX9_meet_40 : decode cX9_meet 40 = .ok (.getfield 106, 3) := by decide +kernel
theorem dX9_meet_43 : decode cX9_meet 43 = .ok (.iload_n 3, 1) := by decide +kernel
theorem dX9_meet_44 : decode cX9_meet 44 = .ok (.iload_n 1, 1) := by decide +kernel
theorem dX9_meet_45 : decode cX9_meet 45 = .ok (.invokevirtual 293, 3) := by decide +kernel
theorem dX9_meet_48 : decode cX9_meet 48 = .ok (.ifCond .eq 9, 3) := by decide +kernel
theorem dX9_meet_51 : decode cX9_meet 51 = .ok (.iload_n 2, 1) := by decide +kernel
theorem dX9_meet_52 : decode cX9_meet 52 = .ok (.iconst 1, 1) := by decide +kernel
theorem dX9_meet_53 : decode cX9_meet 53 = .ok (.iload_n 3, 1) := by decide +kernel
theorem dX9_meet_54 : decode cX9_meet 54 = .ok (.ishl, 1) := by decide +kernel
theorem dX9_meet_55 : decode cX9_meet 55 = .ok (.ior, 1) := by decide +kernel
theorem dX9_meet_56 : decode cX9_meet 56 = .ok (.istore_n 2, 1) := by decide +kernel
theorem dX9_meet_57 : decode cX9_meet 57 = .ok (.iinc 3 1, 3) := by decide +kernel
theorem dX9_meet_60 : decode cX9_meet 60 = .ok (.goto (-38), 3) := by decide +kernel
theorem dX9_meet_63 : decode cX9_meet 63 = .ok (.iload_n 2, 1) := by decide +kernel
theorem dX9_meet_64 : decode cX9_meet 64 = .ok (.ireturn, 1) := by decide +kernel
theorem dX9_cut_0 : decode cX9_cut 0 = .ok (.aload_n 0, 1) := by decide +kernel
theorem dX9_cut_1 : decode cX9_cut 1 = .ok (.getfield 10, 3) := by decide +kernel
theorem dX9_cut_4 : decode cX9_cut 4 = .ok (.getfield 209, 3) := by decide +kernel
theorem dX9_cut_7 : decode cX9_cut 7 = .ok (.iload_n 1, 1) := by decide +kernel
theorem dX9_cut_8 : decode cX9_cut 8 = .ok (.iload_n 2, 1) := by decide +kernel
theorem dX9_cut_9 : decode cX9_cut 9 = .ok (.invokevirtual 223, 3) := by decide +kernel
theorem dX9_cut_12 : decode cX9_cut 12 = .ok (.ifCond .ne 9, 3) := by decide +kernel
theorem dX9_cut_15 : decode cX9_cut 15 = .ok (.aload_n 0, 1) := by decide +kernel
theorem dX9_cut_16 : decode cX9_cut 16 = .ok (.iconst (-1), 1) := by decide +kernel
theorem dX9_cut_17 : decode cX9_cut 17 = .ok (.invokevirtual 59, 3) := by decide +kernel
theorem dX9_cut_20 : decode cX9_cut 20 = .ok (.ireturn, 1) := by decide +kernel
theorem dX9_cut_21 : decode cX9_cut 21 = .ok (.iload 4, 2) := by decide +kernel
theorem dX9_cut_23 : decode cX9_cut 23 = .ok (.iconst 0, 1) := by decide +kernel
theorem dX9_cut_24 : decode cX9_cut 24 = .ok (.iconst 2, 1) := by decide +kernel
theorem dX9_cut_25 : decode cX9_cut 25 = .ok (.invokestatic 63, 3) := by decide +kernel
theorem dX9_cut_28 : decode cX9_cut 28 = .ok (.ifCond .ne 10, 3) := by decide +kernel
theorem dX9_cut_31 : decode cX9_cut 31 = .ok (.aload_n 0, 1) := by decide +kernel
theorem dX9_cut_32 : decode cX9_cut 32 = .ok (.bipush (-5), 2) := by decide +kernel
theorem dX9_cut_34 : decode cX9_cut 34 = .ok (.invokevirtual 59, 3) := by decide +kernel
theorem dX9_cut_37 : decode cX9_cut 37 = .ok (.ireturn, 1) := by decide +kernel
theorem dX9_cut_38 : decode cX9_cut 38 = .ok (.iload_n 3, 1) := by decide +kernel
theorem dX9_cut_39 : decode cX9_cut 39 = .ok (.invokestatic 177, 3) := by decide +kernel
theorem dX9_cut_42 : decode cX9_cut 42 = .ok (.ifCond .ne 10, 3) := by decide +kernel
theorem dX9_cut_45 : decode cX9_cut 45 = .ok (.aload_n 0, 1) := by decide +kernel
theorem dX9_cut_46 : decode cX9_cut 46 = .ok (.bipush (-6), 2) := by decide +kernel
theorem dX9_cut_48 : decode cX9_cut 48 = .ok (.invokevirtual 59, 3) := by decide +kernel
theorem dX9_cut_51 : decode cX9_cut 51 = .ok (.ireturn, 1) := by decide +kernel
theorem dX9_cut_52 : decode cX9_cut 52 = .ok (.aload_n 0, 1) := by decide +kernel
theorem dX9_cut_53 : decode cX9_cut 53 = .ok (.getfield 31, 3) := by decide +kernel
theorem dX9_cut_56 : decode cX9_cut 56 = .ok (.aload_n 0, 1) := by decide +kernel
theorem dX9_cut_57 : decode cX9_cut 57 = .ok (.getfield 10, 3) := by decide +kernel
theorem dX9_cut_60 : decode cX9_cut 60 = .ok (.iload_n 1, 1) := by decide +kernel
theorem dX9_cut_61 : decode cX9_cut 61 = .ok (.iload_n 3, 1) := by decide +kernel
theorem dX9_cut_62 : decode cX9_cut 62 = .ok (.invokevirtual 296, 3) := by decide +kernel
theorem dX9_cut_65 : decode cX9_cut 65 = .ok (.iload 4, 2) := by decide +kernel
theorem dX9_cut_67 : decode cX9_cut 67 = .ok (.ifCond .ne 12, 3) := by decide +kernel
theorem dX9_cut_70 : decode cX9_cut 70 = .ok (.aload_n 0, 1) := by decide +kernel
theorem dX9_cut_71 : decode cX9_cut 71 = .ok (.getfield 31, 3) := by decide +kernel
theorem dX9_cut_74 : decode cX9_cut 74 = .ok (.iload_n 2, 1) := by decide +kernel
theorem dX9_cut_75 : decode cX9_cut 75 = .ok (.invokevirtual 300, 3) := by decide +kernel
theorem dX9_cut_78 : decode cX9_cut 78 = .ok (.ireturn, 1) := by decide +kernel
theorem dX9_cut_79 : decode cX9_cut 79 = .ok (.iload 4, 2) := by decide +kernel
theorem dX9_cut_81 : decode cX9_cut 81 = .ok (.iconst 1, 1) := by decide +kernel
theorem dX9_cut_82 : decode cX9_cut 82 = .ok (.if_icmp .ne 14, 3) := by decide +kernel
theorem dX9_cut_85 : decode cX9_cut 85 = .ok (.aload_n 0, 1) := by decide +kernel
theorem dX9_cut_86 : decode cX9_cut 86 = .ok (.getfield 31, 3) := by decide +kernel
theorem dX9_cut_89 : decode cX9_cut 89 = .ok (.iload_n 2, 1) := by decide +kernel
theorem dX9_cut_90 : decode cX9_cut 90 = .ok (.invokevirtual 301, 3) := by decide +kernel
theorem dX9_cut_93 : decode cX9_cut 93 = .ok (.goto 11, 3) := by decide +kernel
theorem dX9_cut_96 : decode cX9_cut 96 = .ok (.aload_n 0, 1) := by decide +kernel
theorem dX9_cut_97 : decode cX9_cut 97 = .ok (.getfield 31, 3) := by decide +kernel
theorem dX9_cut_100 : decode cX9_cut 100 = .ok (.iload_n 2, 1) := by decide +kernel
theorem dX9_cut_101 : decode cX9_cut 101 = .ok (.invokevirtual 302, 3) := by decide +kernel
theorem dX9_cut_104 : decode cX9_cut 104 = .ok (.ireturn, 1) := by decide +kernel
theorem dX9_lay_0 : decode cX9_lay 0 = .ok (.aload_n 0, 1) := by decide +kernel
theorem dX9_lay_1 : decode cX9_lay 1 = .ok (.iload_n 1, 1) := by decide +kernel
theorem dX9_lay_2 : decode cX9_lay 2 = .ok (.iload_n 2, 1) := by decide +kernel
theorem dX9_lay_3 : decode cX9_lay 3 = .ok (.invokevirtual 305, 3) := by decide +kernel
theorem dX9_lay_6 : decode cX9_lay 6 = .ok (.istore_n 3, 1) := by decide +kernel
theorem dX9_lay_7 : decode cX9_lay 7 = .ok (.iload_n 3, 1) := by decide +kernel
theorem dX9_lay_8 : decode cX9_lay 8 = .ok (.ifCond .eq 9, 3) := by decide +kernel
theorem dX9_lay_11 : decode cX9_lay 11 = .ok (.aload_n 0, 1) := by decide +kernel
theorem dX9_lay_12 : decode cX9_lay 12 = .ok (.iload_n 3, 1) := by decide +kernel
theorem dX9_lay_13 : decode cX9_lay 13 = .ok (.invokevirtual 59, 3) := by decide +kernel
theorem dX9_lay_16 : decode cX9_lay 16 = .ok (.ireturn, 1) := by decide +kernel
theorem dX9_lay_17 : decode cX9_lay 17 = .ok (.aload_n 0, 1) := by decide +kernel
theorem dX9_lay_18 : decode cX9_lay 18 = .ok (.getfield 31, 3) := by decide +kernel
theorem dX9_lay_21 : decode cX9_lay 21 = .ok (.aload_n 0, 1) := by decide +kernel
theorem dX9_lay_22 : decode cX9_lay 22 = .ok (.getfield 10, 3) := by decide +kernel
theorem dX9_lay_25 : decode cX9_lay 25 = .ok (.iload_n 1, 1) := by decide +kernel
theorem dX9_lay_26 : decode cX9_lay 26 = .ok (.iload_n 2, 1) := by decide +kernel
theorem dX9_lay_27 : decode cX9_lay 27 = .ok (.invokevirtual 296, 3) := by decide +kernel
theorem dX9_lay_30 : decode cX9_lay 30 = .ok (.aload_n 0, 1) := by decide +kernel
theorem dX9_lay_31 : decode cX9_lay 31 = .ok (.getfield 10, 3) := by decide +kernel
theorem dX9_lay_34 : decode cX9_lay 34 = .ok (.getfield 106, 3) := by decide +kernel
theorem dX9_lay_37 : decode cX9_lay 37 = .ok (.iconst 0, 1) := by decide +kernel
theorem dX9_lay_38 : decode cX9_lay 38 = .ok (.invokevirtual 159, 3) := by decide +kernel
theorem dX9_lay_41 : decode cX9_lay 41 = .ok (.iconst 0, 1) := by decide +kernel
theorem dX9_lay_42 : decode cX9_lay 42 = .ok (.istore 4, 2) := by decide +kernel
theorem dX9_lay_44 : decode cX9_lay 44 = .ok (.iload 4, 2) := by decide +kernel
theorem dX9_lay_46 : decode cX9_lay 46 = .ok (.aload_n 0, 1) := by decide +kernel
theorem dX9_lay_47 : decode cX9_lay 47 = .ok (.getfield 31, 3) := by decide +kernel
theorem dX9_lay_50 : decode cX9_lay 50 = .ok (.invokevirtual 308, 3) := by decide +kernel
theorem dX9_lay_53 : decode cX9_lay 53 = .ok (.if_icmp .ge 64, 3) := by decide +kernel
theorem dX9_lay_56 : decode cX9_lay 56 = .ok (.aload_n 0, 1) := by decide +kernel
theorem dX9_lay_57 : decode cX9_lay 57 = .ok (.getfield 10, 3) := by decide +kernel
theorem dX9_lay_60 : decode cX9_lay 60 = .ok (.getfield 209, 3) := by decide +kernel
theorem dX9_lay_63 : decode cX9_lay 63 = .ok (.iload_n 1, 1) := by decide +kernel
theorem dX9_lay_64 : decode cX9_lay 64 = .ok (.iload 4, 2) := by decide +kernel
theorem dX9_lay_66 : decode cX9_lay 66 = .ok (.invokevirtual 232, 3) := by decide +kernel
theorem dX9_lay_69 : decode cX9_lay 69 = .ok (.ifCond .ne 7, 3) := by decide +kernel
theorem dX9_lay_72 : decode cX9_lay 72 = .ok (.iconst 3, 1) := by decide +kernel
theorem dX9_lay_73 : decode cX9_lay 73 = .ok (.goto 4, 3) := by decide +kernel
theorem dX9_lay_76 : decode cX9_lay 76 = .ok (.iconst 1, 1) := by decide +kernel
theorem dX9_lay_77 : decode cX9_lay 77 = .ok (.istore 5, 2) := by decide +kernel
theorem dX9_lay_79 : decode cX9_lay 79 = .ok (.aload_n 0, 1) := by decide +kernel
theorem dX9_lay_80 : decode cX9_lay 80 = .ok (.getfield 10, 3) := by decide +kernel
theorem dX9_lay_83 : decode cX9_lay 83 = .ok (.getfield 106, 3) := by decide +kernel
theorem dX9_lay_86 : decode cX9_lay 86 = .ok (.iload 5, 2) := by decide +kernel
theorem dX9_lay_88 : decode cX9_lay 88 = .ok (.aload_n 0, 1) := by decide +kernel
theorem dX9_lay_89 : decode cX9_lay 89 = .ok (.getfield 31, 3) := by decide +kernel
theorem dX9_lay_92 : decode cX9_lay 92 = .ok (.iload 4, 2) := by decide +kernel
theorem dX9_lay_94 : decode cX9_lay 94 = .ok (.invokevirtual 300, 3) := by decide +kernel
theorem dX9_lay_97 : decode cX9_lay 97 = .ok (.iconst 0, 1) := by decide +kernel
theorem dX9_lay_98 : decode cX9_lay 98 = .ok (.aload_n 0, 1) := by decide +kernel
theorem dX9_lay_99 : decode cX9_lay 99 = .ok (.getfield 31, 3) := by decide +kernel
theorem dX9_lay_102 : decode cX9_lay 102 = .ok (.iload 4, 2) := by decide +kernel
theorem dX9_lay_104 : decode cX9_lay 104 = .ok (.invokevirtual 301, 3) := by decide +kernel
theorem dX9_lay_107 : decode cX9_lay 107 = .ok (.invokevirtual 145, 3) := by decide +kernel
theorem dX9_lay_110 : decode cX9_lay 110 = .ok (.pop, 1) := by decide +kernel
theorem dX9_lay_111 : decode cX9_lay 111 = .ok (.iinc 4 1, 3) := by decide +kernel
theorem dX9_lay_114 : decode cX9_lay 114 = .ok (.goto (-70), 3) := by decide +kernel
theorem dX9_lay_117 : decode cX9_lay 117 = .ok (.aload_n 0, 1) := by decide +kernel
theorem dX9_lay_118 : decode cX9_lay 118 = .ok (.invokevirtual 162, 3) := by decide +kernel
theorem dX9_lay_121 : decode cX9_lay 121 = .ok (.aload_n 0, 1) := by decide +kernel
theorem dX9_lay_122 : decode cX9_lay 122 = .ok (.getfield 10, 3) := by decide +kernel
theorem dX9_lay_125 : decode cX9_lay 125 = .ok (.getfield 106, 3) := by decide +kernel
theorem dX9_lay_128 : decode cX9_lay 128 = .ok (.invokevirtual 311, 3) := by decide +kernel
theorem dX9_lay_131 : decode cX9_lay 131 = .ok (.ireturn, 1) := by decide +kernel
theorem dX9_fits_0 : decode cX9_fits 0 = .ok (.aload_n 0, 1) := by decide +kernel
theorem dX9_fits_1 : decode cX9_fits 1 = .ok (.iload_n 1, 1) := by decide +kernel
theorem dX9_fits_2 : decode cX9_fits 2 = .ok (.iload_n 2, 1) := by decide +kernel
theorem dX9_fits_3 : decode cX9_fits 3 = .ok (.invokevirtual 305, 3) := by decide +kernel
theorem dX9_fits_6 : decode cX9_fits 6 = .ok (.istore_n 3, 1) := by decide +kernel
theorem dX9_fits_7 : decode cX9_fits 7 = .ok (.iload_n 3, 1) := by decide +kernel
theorem dX9_fits_8 : decode cX9_fits 8 = .ok (.ifCond .eq 9, 3) := by decide +kernel
theorem dX9_fits_11 : decode cX9_fits 11 = .ok (.aload_n 0, 1) := by decide +kernel
theorem dX9_fits_12 : decode cX9_fits 12 = .ok (.iload_n 3, 1) := by decide +kernel
theorem dX9_fits_13 : decode cX9_fits 13 = .ok (.invokevirtual 59, 3) := by decide +kernel
theorem dX9_fits_16 : decode cX9_fits 16 = .ok (.ireturn, 1) := by decide +kernel
theorem dX9_fits_17 : decode cX9_fits 17 = .ok (.aload_n 0, 1) := by decide +kernel
theorem dX9_fits_18 : decode cX9_fits 18 = .ok (.iload_n 1, 1) := by decide +kernel
theorem dX9_fits_19 : decode cX9_fits 19 = .ok (.iload_n 2, 1) := by decide +kernel
theorem dX9_fits_20 : decode cX9_fits 20 = .ok (.invokevirtual 314, 3) := by decide +kernel
theorem dX9_fits_23 : decode cX9_fits 23 = .ok (.ifCond .eq 7, 3) := by decide +kernel
theorem dX9_fits_26 : decode cX9_fits 26 = .ok (.iconst 1, 1) := by decide +kernel
theorem dX9_fits_27 : decode cX9_fits 27 = .ok (.goto 4, 3) := by decide +kernel
theorem dX9_fits_30 : decode cX9_fits 30 = .ok (.iconst 0, 1) := by decide +kernel
theorem dX9_fits_31 : decode cX9_fits 31 = .ok (.ireturn, 1) := by decide +kernel
theorem dX9_can_0 : decode cX9_can 0 = .ok (.iload_n 1, 1) := by decide +kernel
theorem dX9_can_1 : decode cX9_can 1 = .ok (.invokestatic 177, 3) := by decide +kernel
theorem dX9_can_4 : decode cX9_can 4 = .ok (.ifCond .ne 10, 3) := by decide +kernel
theorem dX9_can_7 : decode cX9_can 7 = .ok (.aload_n 0, 1) := by decide +kernel
theorem dX9_can_8 : decode cX9_can 8 = .ok (.bipush (-6), 2) := by decide +kernel
theorem dX9_can_10 : decode cX9_can 10 = .ok (.invokevirtual 59, 3) := by decide +kernel
theorem dX9_can_13 : decode cX9_can 13 = .ok (.ireturn, 1) := by decide +kernel
theorem dX9_can_14 : decode cX9_can 14 = .ok (.iconst 0, 1) := by decide +kernel
theorem dX9_can_15 : decode cX9_can 15 = .ok (.istore_n 2, 1) := by decide +kernel
theorem dX9_can_16 : decode cX9_can 16 = .ok (.iconst 0, 1) := by decide +kernel
theorem dX9_can_17 : decode cX9_can 17 = .ok (.istore_n 3, 1) := by decide +kernel
theorem dX9_can_18 : decode cX9_can 18 = .ok (.iload_n 3, 1) := by decide +kernel
theorem dX9_can_19 : decode cX9_can 19 = .ok (.aload_n 0, 1) := by decide +kernel
theorem dX9_can_20 : decode cX9_can 20 = .ok (.getfield 10, 3) := by decide +kernel
theorem dX9_can_23 : decode cX9_can 23 = .ok (.getfield 209, 3) := by decide +kernel
theorem dX9_can_26 : decode cX9_can 26 = .ok (.invokevirtual 317, 3) := by decide +kernel
theorem dX9_can_29 : decode cX9_can 29 = .ok (.if_icmp .ge 24, 3) := by decide +kernel
theorem dX9_can_32 : decode cX9_can 32 = .ok (.aload_n 0, 1) := by decide +kernel
theorem dX9_can_33 : decode cX9_can 33 = .ok (.iload_n 3, 1) := by decide +kernel
theorem dX9_can_34 : decode cX9_can 34 = .ok (.iload_n 1, 1) := by decide +kernel
theorem dX9_can_35 : decode cX9_can 35 = .ok (.invokevirtual 314, 3) := by decide +kernel
theorem dX9_can_38 : decode cX9_can 38 = .ok (.ifCond .eq 9, 3) := by decide +kernel
theorem dX9_can_41 : decode cX9_can 41 = .ok (.iload_n 2, 1) := by decide +kernel
theorem dX9_can_42 : decode cX9_can 42 = .ok (.iconst 1, 1) := by decide +kernel
theorem dX9_can_43 : decode cX9_can 43 = .ok (.iload_n 3, 1) := by decide +kernel
theorem dX9_can_44 : decode cX9_can 44 = .ok (.ishl, 1) := by decide +kernel
theorem dX9_can_45 : decode cX9_can 45 = .ok (.ior, 1) := by decide +kernel
theorem dX9_can_46 : decode cX9_can 46 = .ok (.istore_n 2, 1) := by decide +kernel
theorem dX9_can_47 : decode cX9_can 47 = .ok (.iinc 3 1, 3) := by decide +kernel
theorem dX9_can_50 : decode cX9_can 50 = .ok (.goto (-32), 3) := by decide +kernel
theorem dX9_can_53 : decode cX9_can 53 = .ok (.iload_n 2, 1) := by decide +kernel
theorem dX9_can_54 : decode cX9_can 54 = .ok (.ireturn, 1) := by decide +kernel
theorem dX9_cutFits_0 : decode cX9_cutFits 0 = .ok (.aload_n 0, 1) := by decide +kernel
theorem dX9_cutFits_1 : decode cX9_cutFits 1 = .ok (.getfield 31, 3) := by decide +kernel
theorem dX9_cutFits_4 : decode cX9_cutFits 4 = .ok (.aload_n 0, 1) := by decide +kernel
theorem dX9_cutFits_5 : decode cX9_cutFits 5 = .ok (.getfield 10, 3) := by decide +kernel
theorem dX9_cutFits_8 : decode cX9_cutFits 8 = .ok (.iload_n 1, 1) := by decide +kernel
theorem dX9_cutFits_9 : decode cX9_cutFits 9 = .ok (.iload_n 2, 1) := by decide +kernel
theorem dX9_cutFits_10 : decode cX9_cutFits 10 = .ok (.invokevirtual 296, 3) := by decide +kernel
theorem dX9_cutFits_13 : decode cX9_cutFits 13 = .ok (.aload_n 0, 1) := by decide +kernel
theorem dX9_cutFits_14 : decode cX9_cutFits 14 = .ok (.getfield 31, 3) := by decide +kernel
theorem dX9_cutFits_17 : decode cX9_cutFits 17 = .ok (.invokevirtual 318, 3) := by decide +kernel
theorem dX9_cutFits_20 : decode cX9_cutFits 20 = .ok (.aload_n 0, 1) := by decide +kernel
theorem dX9_cutFits_21 : decode cX9_cutFits 21 = .ok (.getfield 10, 3) := by decide +kernel
theorem dX9_cutFits_24 : decode cX9_cutFits 24 = .ok (.iconst 0, 1) := by decide +kernel
theorem dX9_cutFits_25 : decode cX9_cutFits 25 = .ok (.invokevirtual 241, 3) := by decide +kernel
theorem dX9_cutFits_28 : decode cX9_cutFits 28 = .ok (.if_icmp .gt 25, 3) := by decide +kernel
theorem dX9_cutFits_31 : decode cX9_cutFits 31 = .ok (.aload_n 0, 1) := by decide +kernel
theorem dX9_cutFits_32 : decode cX9_cutFits 32 = .ok (.getfield 31, 3) := by decide +kernel
theorem dX9_cutFits_35 : decode cX9_cutFits 35 = .ok (.invokevirtual 319, 3) := by decide +kernel
theorem dX9_cutFits_38 : decode cX9_cutFits 38 = .ok (.aload_n 0, 1) := by decide +kernel
theorem dX9_cutFits_39 : decode cX9_cutFits 39 = .ok (.getfield 10, 3) := by decide +kernel
theorem dX9_cutFits_42 : decode cX9_cutFits 42 = .ok (.iconst 2, 1) := by decide +kernel
theorem dX9_cutFits_43 : decode cX9_cutFits 43 = .ok (.invokevirtual 241, 3) := by decide +kernel
theorem dX9_cutFits_46 : decode cX9_cutFits 46 = .ok (.if_icmp .gt 7, 3) := by decide +kernel
theorem dX9_cutFits_49 : decode cX9_cutFits 49 = .ok (.iconst 1, 1) := by decide +kernel
theorem dX9_cutFits_50 : decode cX9_cutFits 50 = .ok (.goto 4, 3) := by decide +kernel
theorem dX9_cutFits_53 : decode cX9_cutFits 53 = .ok (.iconst 0, 1) := by decide +kernel
theorem dX9_cutFits_54 : decode cX9_cutFits 54 = .ok (.ireturn, 1) := by decide +kernel
theorem dX9_served_0 : decode cX9_served 0 = .ok (.aload_n 0, 1) := by decide +kernel
theorem dX9_served_1 : decode cX9_served 1 = .ok (.iload_n 1, 1) := by decide +kernel
theorem dX9_served_2 : decode cX9_served 2 = .ok (.iload_n 2, 1) := by decide +kernel
theorem dX9_served_3 : decode cX9_served 3 = .ok (.invokevirtual 305, 3) := by decide +kernel
theorem dX9_served_6 : decode cX9_served 6 = .ok (.istore_n 3, 1) := by decide +kernel
theorem dX9_served_7 : decode cX9_served 7 = .ok (.iload_n 3, 1) := by decide +kernel
theorem dX9_served_8 : decode cX9_served 8 = .ok (.ifCond .eq 11, 3) := by decide +kernel
theorem dX9_served_11 : decode cX9_served 11 = .ok (.aload_n 0, 1) := by decide +kernel
theorem dX9_served_12 : decode cX9_served 12 = .ok (.iload_n 3, 1) := by decide +kernel
theorem dX9_served_13 : decode cX9_served 13 = .ok (.invokevirtual 59, 3) := by decide +kernel
theorem dX9_served_16 : decode cX9_served 16 = .ok (.goto 9, 3) := by decide +kernel
theorem dX9_served_19 : decode cX9_served 19 = .ok (.aload_n 0, 1) := by decide +kernel
theorem dX9_served_20 : decode cX9_served 20 = .ok (.iload_n 1, 1) := by decide +kernel
theorem dX9_served_21 : decode cX9_served 21 = .ok (.iload_n 2, 1) := by decide +kernel
theorem dX9_served_22 : decode cX9_served 22 = .ok (.invokevirtual 322, 3) := by decide +kernel
theorem dX9_served_25 : decode cX9_served 25 = .ok (.ireturn, 1) := by decide +kernel
theorem dX9_best_0 : decode cX9_best 0 = .ok (.aload_n 0, 1) := by decide +kernel
theorem dX9_best_1 : decode cX9_best 1 = .ok (.getfield 10, 3) := by decide +kernel
theorem dX9_best_4 : decode cX9_best 4 = .ok (.getfield 209, 3) := by decide +kernel
theorem dX9_best_7 : decode cX9_best 7 = .ok (.iload_n 1, 1) := by decide +kernel
theorem dX9_best_8 : decode cX9_best 8 = .ok (.invokevirtual 222, 3) := by decide +kernel
theorem dX9_best_11 : decode cX9_best 11 = .ok (.ifCond .ne 9, 3) := by decide +kernel
theorem dX9_best_14 : decode cX9_best 14 = .ok (.aload_n 0, 1) := by decide +kernel
theorem dX9_best_15 : decode cX9_best 15 = .ok (.iconst (-1), 1) := by decide +kernel
theorem dX9_best_16 : decode cX9_best 16 = .ok (.invokevirtual 59, 3) := by decide +kernel
theorem dX9_best_19 : decode cX9_best 19 = .ok (.ireturn, 1) := by decide +kernel
theorem dX9_best_20 : decode cX9_best 20 = .ok (.iconst 1, 1) := by decide +kernel
theorem dX9_best_21 : decode cX9_best 21 = .ok (.istore_n 2, 1) := by decide +kernel
theorem dX9_best_22 : decode cX9_best 22 = .ok (.iconst (-1), 1) := by decide +kernel
theorem dX9_best_23 : decode cX9_best 23 = .ok (.istore_n 3, 1) := by decide +kernel
theorem dX9_best_24 : decode cX9_best 24 = .ok (.iconst 1, 1) := by decide +kernel
theorem dX9_best_25 : decode cX9_best 25 = .ok (.istore 4, 2) := by decide +kernel
theorem dX9_best_27 : decode cX9_best 27 = .ok (.iload 4, 2) := by decide +kernel
theorem dX9_best_29 : decode cX9_best 29 = .ok (.bipush 99, 2) := by decide +kernel
theorem dX9_best_31 : decode cX9_best 31 = .ok (.if_icmp .gt 30, 3) := by decide +kernel
theorem dX9_best_34 : decode cX9_best 34 = .ok (.aload_n 0, 1) := by decide +kernel
theorem dX9_best_35 : decode cX9_best 35 = .ok (.iload_n 1, 1) := by decide +kernel
theorem dX9_best_36 : decode cX9_best 36 = .ok (.iload 4, 2) := by decide +kernel
theorem dX9_best_38 : decode cX9_best 38 = .ok (.invokevirtual 322, 3) := by decide +kernel
theorem dX9_best_41 : decode cX9_best 41 = .ok (.istore 5, 2) := by decide +kernel
theorem dX9_best_43 : decode cX9_best 43 = .ok (.iload 5, 2) := by decide +kernel
theorem dX9_best_45 : decode cX9_best 45 = .ok (.iload_n 3, 1) := by decide +kernel
theorem dX9_best_46 : decode cX9_best 46 = .ok (.if_icmp .le 9, 3) := by decide +kernel
theorem dX9_best_49 : decode cX9_best 49 = .ok (.iload 5, 2) := by decide +kernel
theorem dX9_best_51 : decode cX9_best 51 = .ok (.istore_n 3, 1) := by decide +kernel
theorem dX9_best_52 : decode cX9_best 52 = .ok (.iload 4, 2) := by decide +kernel
theorem dX9_best_54 : decode cX9_best 54 = .ok (.istore_n 2, 1) := by decide +kernel
theorem dX9_best_55 : decode cX9_best 55 = .ok (.iinc 4 1, 3) := by decide +kernel
theorem dX9_best_58 : decode cX9_best 58 = .ok (.goto (-31), 3) := by decide +kernel
theorem dX9_best_61 : decode cX9_best 61 = .ok (.iload_n 2, 1) := by decide +kernel
theorem dX9_best_62 : decode cX9_best 62 = .ok (.ireturn, 1) := by decide +kernel
theorem dX9_shareServed_0 : decode cX9_shareServed 0 = .ok (.aload_n 0, 1) := by decide +kernel
theorem dX9_shareServed_1 : decode cX9_shareServed 1 = .ok (.getfield 31, 3) := by decide +kernel
theorem dX9_shareServed_4 : decode cX9_shareServed 4 = .ok (.aload_n 0, 1) := by decide +kernel
theorem dX9_shareServed_5 : decode cX9_shareServed 5 = .ok (.getfield 10, 3) := by decide +kernel
theorem dX9_shareServed_8 : decode cX9_shareServed 8 = .ok (.iload_n 1, 1) := by decide +kernel
theorem dX9_shareServed_9 : decode cX9_shareServed 9 = .ok (.iload_n 2, 1) := by decide +kernel
theorem dX9_shareServed_10 : decode cX9_shareServed 10 = .ok (.invokevirtual 325, 3) := by decide +kernel
theorem dX9_shareServed_13 : decode cX9_shareServed 13 = .ok (.iconst 0, 1) := by decide +kernel
theorem dX9_shareServed_14 : decode cX9_shareServed 14 = .ok (.istore_n 3, 1) := by decide +kernel
theorem dX9_shareServed_15 : decode cX9_shareServed 15 = .ok (.iconst 0, 1) := by decide +kernel
theorem dX9_shareServed_16 : decode cX9_shareServed 16 = .ok (.istore 4, 2) := by decide +kernel
theorem dX9_shareServed_18 : decode cX9_shareServed 18 = .ok (.iload 4, 2) := by decide +kernel
theorem dX9_shareServed_20 : decode cX9_shareServed 20 = .ok (.aload_n 0, 1) := by decide +kernel
theorem dX9_shareServed_21 : decode cX9_shareServed 21 = .ok (.getfield 10, 3) := by decide +kernel
theorem dX9_shareServed_24 : decode cX9_shareServed 24 = .ok (.getfield 180, 3) := by decide +kernel
theorem dX9_shareServed_27 : decode cX9_shareServed 27 = .ok (.invokevirtual 328, 3) := by decide +kernel
theorem dX9_shareServed_30 : decode cX9_shareServed 30 = .ok (.if_icmp .ge 51, 3) := by decide +kernel
theorem dX9_shareServed_33 : decode cX9_shareServed 33 = .ok (.aload_n 0, 1) := by decide +kernel
theorem dX9_shareServed_34 : decode cX9_shareServed 34 = .ok (.getfield 31, 3) := by decide +kernel
theorem dX9_shareServed_37 : decode cX9_shareServed 37 = .ok (.aload_n 0, 1) := by decide +kernel
theorem dX9_shareServed_38 : decode cX9_shareServed 38 = .ok (.getfield 10, 3) := by decide +kernel
theorem dX9_shareServed_41 : decode cX9_shareServed 41 = .ok (.iload_n 1, 1) := by decide +kernel
theorem dX9_shareServed_42 : decode cX9_shareServed 42 = .ok (.aload_n 0, 1) := by decide +kernel
theorem dX9_shareServed_43 : decode cX9_shareServed 43 = .ok (.getfield 10, 3) := by decide +kernel
theorem dX9_shareServed_46 : decode cX9_shareServed 46 = .ok (.getfield 180, 3) := by decide +kernel
theorem dX9_shareServed_49 : decode cX9_shareServed 49 = .ok (.iload 4, 2) := by decide +kernel
theorem dX9_shareServed_51 : decode cX9_shareServed 51 = .ok (.invokevirtual 194, 3) := by decide +kernel
theorem dX9_shareServed_54 : decode cX9_shareServed 54 = .ok (.invokevirtual 329, 3) := by decide +kernel
theorem dX9_shareServed_57 : decode cX9_shareServed 57 = .ok (.ifCond .eq 18, 3) := by decide +kernel
theorem dX9_shareServed_60 : decode cX9_shareServed 60 = .ok (.iload_n 3, 1) := by decide +kernel
theorem dX9_shareServed_61 : decode cX9_shareServed 61 = .ok (.aload_n 0, 1) := by decide +kernel
theorem dX9_shareServed_62 : decode cX9_shareServed 62 = .ok (.getfield 10, 3) := by decide +kernel
theorem dX9_shareServed_65 : decode cX9_shareServed 65 = .ok (.getfield 180, 3) := by decide +kernel
theorem dX9_shareServed_68 : decode cX9_shareServed 68 = .ok (.iload 4, 2) := by decide +kernel
theorem dX9_shareServed_70 : decode cX9_shareServed 70 = .ok (.invokevirtual 200, 3) := by decide +kernel
theorem dX9_shareServed_73 : decode cX9_shareServed 73 = .ok (.iadd, 1) := by decide +kernel
theorem dX9_shareServed_74 : decode cX9_shareServed 74 = .ok (.istore_n 3, 1) := by decide +kernel
theorem dX9_shareServed_75 : decode cX9_shareServed 75 = .ok (.iinc 4 1, 3) := by decide +kernel
theorem dX9_shareServed_78 : decode cX9_shareServed 78 = .ok (.goto (-60), 3) := by decide +kernel
theorem dX9_shareServed_81 : decode cX9_shareServed 81 = .ok (.iload_n 3, 1) := by decide +kernel
theorem dX9_shareServed_82 : decode cX9_shareServed 82 = .ok (.ireturn, 1) := by decide +kernel
theorem dX9_two_0 : decode cX9_two 0 = .ok (.aload_n 0, 1) := by decide +kernel
theorem dX9_two_1 : decode cX9_two 1 = .ok (.getfield 10, 3) := by decide +kernel
theorem dX9_two_4 : decode cX9_two 4 = .ok (.getfield 209, 3) := by decide +kernel
theorem dX9_two_7 : decode cX9_two 7 = .ok (.astore 5, 2) := by decide +kernel
theorem dX9_two_9 : decode cX9_two 9 = .ok (.aload 5, 2) := by decide +kernel
theorem dX9_two_11 : decode cX9_two 11 = .ok (.iload_n 1, 1) := by decide +kernel
theorem dX9_two_12 : decode cX9_two 12 = .ok (.invokevirtual 222, 3) := by decide +kernel
theorem dX9_two_15 : decode cX9_two 15 = .ok (.ifCond .eq 12, 3) := by decide +kernel
theorem dX9_two_18 : decode cX9_two 18 = .ok (.aload 5, 2) := by decide +kernel
theorem dX9_two_20 : decode cX9_two 20 = .ok (.iload_n 3, 1) := by decide +kernel
theorem dX9_two_21 : decode cX9_two 21 = .ok (.invokevirtual 222, 3) := by decide +kernel
theorem dX9_two_24 : decode cX9_two 24 = .ok (.ifCond .ne 9, 3) := by decide +kernel
theorem dX9_two_27 : decode cX9_two 27 = .ok (.aload_n 0, 1) := by decide +kernel
theorem dX9_two_28 : decode cX9_two 28 = .ok (.iconst (-1), 1) := by decide +kernel
theorem dX9_two_29 : decode cX9_two 29 = .ok (.invokevirtual 59, 3) := by decide +kernel
theorem dX9_two_32 : decode cX9_two 32 = .ok (.ireturn, 1) := by decide +kernel
theorem dX9_two_33 : decode cX9_two 33 = .ok (.iload_n 2, 1) := by decide +kernel
theorem dX9_two_34 : decode cX9_two 34 = .ok (.invokestatic 177, 3) := by decide +kernel
theorem dX9_two_37 : decode cX9_two 37 = .ok (.ifCond .eq 26, 3) := by decide +kernel
theorem dX9_two_40 : decode cX9_two 40 = .ok (.iload 4, 2) := by decide +kernel
theorem dX9_two_42 : decode cX9_two 42 = .ok (.invokestatic 177, 3) := by decide +kernel
theorem dX9_two_45 : decode cX9_two 45 = .ok (.ifCond .eq 18, 3) := by decide +kernel
theorem dX9_two_48 : decode cX9_two 48 = .ok (.aload 5, 2) := by decide +kernel
theorem dX9_two_50 : decode cX9_two 50 = .ok (.iload_n 1, 1) := by decide +kernel
theorem dX9_two_51 : decode cX9_two 51 = .ok (.invokevirtual 226, 3) := by decide +kernel
theorem dX9_two_54 : decode cX9_two 54 = .ok (.aload 5, 2) := by decide +kernel
theorem dX9_two_56 : decode cX9_two 56 = .ok (.iload_n 3, 1) := by decide +kernel
theorem dX9_two_57 : decode cX9_two 57 = .ok (.invokevirtual 226, 3) := by decide +kernel
theorem dX9_two_60 : decode cX9_two 60 = .ok (.if_icmp .eq 10, 3) := by decide +kernel
theorem dX9_two_63 : decode cX9_two 63 = .ok (.aload_n 0, 1) := by decide +kernel
theorem dX9_two_64 : decode cX9_two 64 = .ok (.bipush (-6), 2) := by decide +kernel
theorem dX9_two_66 : decode cX9_two 66 = .ok (.invokevirtual 59, 3) := by decide +kernel
theorem dX9_two_69 : decode cX9_two 69 = .ok (.ireturn, 1) := by decide +kernel
theorem dX9_two_70 : decode cX9_two 70 = .ok (.iconst 0, 1) := by decide +kernel
theorem dX9_two_71 : decode cX9_two 71 = .ok (.istore 6, 2) := by decide +kernel
theorem dX9_two_73 : decode cX9_two 73 = .ok (.iconst 0, 1) := by decide +kernel
theorem dX9_two_74 : decode cX9_two 74 = .ok (.istore 7, 2) := by decide +kernel
theorem dX9_two_76 : decode cX9_two 76 = .ok (.iload 7, 2) := by decide +kernel
theorem dX9_two_78 : decode cX9_two 78 = .ok (.aload 5, 2) := by decide +kernel
theorem dX9_two_80 : decode cX9_two 80 = .ok (.iload_n 1, 1) := by decide +kernel
theorem dX9_two_81 : decode cX9_two 81 = .ok (.invokevirtual 226, 3) := by decide +kernel
theorem dX9_two_84 : decode cX9_two 84 = .ok (.if_icmp .ge 38, 3) := by decide +kernel
theorem dX9_two_87 : decode cX9_two 87 = .ok (.aload_n 0, 1) := by decide +kernel
theorem dX9_two_88 : decode cX9_two 88 = .ok (.aload 5, 2) := by decide +kernel
theorem dX9_two_90 : decode cX9_two 90 = .ok (.iload_n 1, 1) := by decide +kernel
theorem dX9_two_91 : decode cX9_two 91 = .ok (.iload 7, 2) := by decide +kernel
theorem dX9_two_93 : decode cX9_two 93 = .ok (.invokevirtual 232, 3) := by decide +kernel
theorem dX9_two_96 : decode cX9_two 96 = .ok (.iload_n 2, 1) := by decide +kernel
theorem dX9_two_97 : decode cX9_two 97 = .ok (.aload 5, 2) := by decide +kernel
theorem dX9_two_99 : decode cX9_two 99 = .ok (.iload_n 3, 1) := by decide +kernel
theorem dX9_two_100 : decode cX9_two 100 = .ok (.iload 7, 2) := by decide +kernel
theorem dX9_two_102 : decode cX9_two 102 = .ok (.invokevirtual 232, 3) := by decide +kernel
theorem dX9_two_105 : decode cX9_two 105 = .ok (.iload 4, 2) := by decide +kernel
theorem dX9_two_107 : decode cX9_two 107 = .ok (.invokevirtual 333, 3) := by decide +kernel
theorem dX9_two_110 : decode cX9_two 110 = .ok (.ifCond .eq 6, 3) := by decide +kernel
theorem dX9_two_113 : decode cX9_two 113 = .ok (.iinc 6 1, 3) := by decide +kernel
theorem dX9_two_116 : decode cX9_two 116 = .ok (.iinc 7 1, 3) := by decide +kernel
theorem dX9_two_119 : decode cX9_two 119 = .ok (.goto (-43), 3) := by decide +kernel
theorem dX9_two_122 : decode cX9_two 122 = .ok (.iload 6, 2) := by decide +kernel
theorem dX9_two_124 : decode cX9_two 124 = .ok (.ireturn, 1) := by decide +kernel
theorem dX9_haveOneSpace_0 : decode cX9_haveOneSpace 0 = .ok (.iload_n 1, 1) := by decide +kernel
theorem dX9_haveOneSpace_1 : decode cX9_haveOneSpace 1 = .ok (.ifCond .ne 9, 3) := by decide +kernel
theorem dX9_haveOneSpace_4 : decode cX9_haveOneSpace 4 = .ok (.iload_n 3, 1) := by decide +kernel
theorem dX9_haveOneSpace_5 : decode cX9_haveOneSpace 5 = .ok (.ifCond .ne 5, 3) := by decide +kernel
theorem dX9_haveOneSpace_8 : decode cX9_haveOneSpace 8 = .ok (.iconst 1, 1) := by decide +kernel
theorem dX9_haveOneSpace_9 : decode cX9_haveOneSpace 9 = .ok (.ireturn, 1) := by decide +kernel
theorem dX9_haveOneSpace_10 : decode cX9_haveOneSpace 10 = .ok (.aload_n 0, 1) := by decide +kernel
theorem dX9_haveOneSpace_11 : decode cX9_haveOneSpace 11 = .ok (.getfield 10, 3) := by decide +kernel
theorem dX9_haveOneSpace_14 : decode cX9_haveOneSpace 14 = .ok (.iconst 2, 1) := by decide +kernel
theorem dX9_haveOneSpace_15 : decode cX9_haveOneSpace 15 = .ok (.invokevirtual 241, 3) := by decide +kernel
theorem dX9_haveOneSpace_18 : decode cX9_haveOneSpace 18 = .ok (.istore 5, 2) := by decide +kernel
theorem dX9_haveOneSpace_20 : decode cX9_haveOneSpace 20 = .ok (.aload_n 0, 1) := by decide +kernel
theorem dX9_haveOneSpace_21 : decode cX9_haveOneSpace 21 = .ok (.getfield 10, 3) := by decide +kernel
theorem dX9_haveOneSpace_24 : decode cX9_haveOneSpace 24 = .ok (.iconst 1, 1) := by decide +kernel
theorem dX9_haveOneSpace_25 : decode cX9_haveOneSpace 25 = .ok (.invokevirtual 241, 3) := by decide +kernel
theorem dX9_haveOneSpace_28 : decode cX9_haveOneSpace 28 = .ok (.istore 6, 2) := by decide +kernel
theorem dX9_haveOneSpace_30 : decode cX9_haveOneSpace 30 = .ok (.iload 6, 2) := by decide +kernel
theorem dX9_haveOneSpace_32 : decode cX9_haveOneSpace 32 = .ok (.bipush 60, 2) := by decide +kernel
theorem dX9_haveOneSpace_34 : decode cX9_haveOneSpace 34 = .ok (.if_icmp .gt 42, 3) := by decide +kernel
theorem dX9_haveOneSpace_37 : decode cX9_haveOneSpace 37 = .ok (.iload 6, 2) := by decide +kernel
theorem dX9_haveOneSpace_39 : decode cX9_haveOneSpace 39 = .ok (.iload_n 2, 1) := by decide +kernel
theorem dX9_haveOneSpace_40 : decode cX9_haveOneSpace 40 = .ok (.invokestatic 337, 3) := by decide +kernel
theorem dX9_haveOneSpace_43 : decode cX9_haveOneSpace 43 = .ok (.iload_n 1, 1) := by decide +kernel
theorem dX9_haveOneSpace_44 : decode cX9_haveOneSpace 44 = .ok (.invokestatic 272, 3) := by decide +kernel
theorem dX9_haveOneSpace_47 : decode cX9_haveOneSpace 47 = .ok (.iload 5, 2) := by decide +kernel
theorem dX9_haveOneSpace_49 : decode cX9_haveOneSpace 49 = .ok (.if_icmp .gt 21, 3) := by decide +kernel
theorem dX9_haveOneSpace_52 : decode cX9_haveOneSpace 52 = .ok (.iload 6, 2) := by decide +kernel
theorem dX9_haveOneSpace_54 : decode cX9_haveOneSpace 54 = .ok (.iload 4, 2) := by decide +kernel
theorem dX9_haveOneSpace_56 : decode cX9_haveOneSpace 56 = .ok (.invokestatic 337, 3) := by decide +kernel
theorem dX9_haveOneSpace_59 : decode cX9_haveOneSpace 59 = .ok (.iload_n 3, 1) := by decide +kernel
theorem dX9_haveOneSpace_60 : decode cX9_haveOneSpace 60 = .ok (.invokestatic 272, 3) := by decide +kernel
theorem dX9_haveOneSpace_63 : decode cX9_haveOneSpace 63 = .ok (.iload 5, 2) := by decide +kernel
theorem dX9_haveOneSpace_65 : decode cX9_haveOneSpace 65 = .ok (.if_icmp .gt 5, 3) := by decide +kernel
theorem dX9_haveOneSpace_68 : decode cX9_haveOneSpace 68 = .ok (.iconst 1, 1) := by decide +kernel
theorem dX9_haveOneSpace_69 : decode cX9_haveOneSpace 69 = .ok (.ireturn, 1) := by decide +kernel
theorem dX9_haveOneSpace_70 : decode cX9_haveOneSpace 70 = .ok (.iinc 6 1, 3) := by decide +kernel
theorem dX9_haveOneSpace_73 : decode cX9_haveOneSpace 73 = .ok (.goto (-43), 3) := by decide +kernel
theorem dX9_haveOneSpace_76 : decode cX9_haveOneSpace 76 = .ok (.iconst 0, 1) := by decide +kernel
theorem dX9_haveOneSpace_77 : decode cX9_haveOneSpace 77 = .ok (.ireturn, 1) := by decide +kernel
theorem dX9_brief_0 : decode cX9_brief 0 = .ok (.aload_n 0, 1) := by decide +kernel
theorem dX9_brief_1 : decode cX9_brief 1 = .ok (.iload_n 1, 1) := by decide +kernel
theorem dX9_brief_2 : decode cX9_brief 2 = .ok (.iload_n 2, 1) := by decide +kernel
theorem dX9_brief_3 : decode cX9_brief 3 = .ok (.invokevirtual 305, 3) := by decide +kernel
theorem dX9_brief_6 : decode cX9_brief 6 = .ok (.istore_n 3, 1) := by decide +kernel
theorem dX9_brief_7 : decode cX9_brief 7 = .ok (.iload_n 3, 1) := by decide +kernel
theorem dX9_brief_8 : decode cX9_brief 8 = .ok (.ifCond .eq 9, 3) := by decide +kernel
theorem dX9_brief_11 : decode cX9_brief 11 = .ok (.aload_n 0, 1) := by decide +kernel
theorem dX9_brief_12 : decode cX9_brief 12 = .ok (.iload_n 3, 1) := by decide +kernel
theorem dX9_brief_13 : decode cX9_brief 13 = .ok (.invokevirtual 59, 3) := by decide +kernel
theorem dX9_brief_16 : decode cX9_brief 16 = .ok (.ireturn, 1) := by decide +kernel
theorem dX9_brief_17 : decode cX9_brief 17 = .ok (.aload_n 0, 1) := by decide +kernel
theorem dX9_brief_18 : decode cX9_brief 18 = .ok (.getfield 31, 3) := by decide +kernel
theorem dX9_brief_21 : decode cX9_brief 21 = .ok (.aload_n 0, 1) := by decide +kernel
theorem dX9_brief_22 : decode cX9_brief 22 = .ok (.getfield 10, 3) := by decide +kernel
theorem dX9_brief_25 : decode cX9_brief 25 = .ok (.iload_n 1, 1) := by decide +kernel
theorem dX9_brief_26 : decode cX9_brief 26 = .ok (.iload_n 2, 1) := by decide +kernel
theorem dX9_brief_27 : decode cX9_brief 27 = .ok (.invokevirtual 325, 3) := by decide +kernel
theorem dX9_brief_30 : decode cX9_brief 30 = .ok (.iconst 0, 1) := by decide +kernel
theorem dX9_brief_31 : decode cX9_brief 31 = .ok (.istore 4, 2) := by decide +kernel
theorem dX9_brief_33 : decode cX9_brief 33 = .ok (.iconst 0, 1) := by decide +kernel
theorem dX9_brief_34 : decode cX9_brief 34 = .ok (.istore 5, 2) := by decide +kernel
theorem dX9_brief_36 : decode cX9_brief 36 = .ok (.iload 5, 2) := by decide +kernel
theorem dX9_brief_38 : decode cX9_brief 38 = .ok (.aload_n 0, 1) := by decide +kernel
theorem dX9_brief_39 : decode cX9_brief 39 = .ok (.getfield 31, 3) := by decide +kernel
theorem dX9_brief_42 : decode cX9_brief 42 = .ok (.invokevirtual 308, 3) := by decide +kernel
theorem dX9_brief_45 : decode cX9_brief 45 = .ok (.if_icmp .ge 53, 3) := by decide +kernel
theorem dX9_brief_48 : decode cX9_brief 48 = .ok (.aload_n 0, 1) := by decide +kernel
theorem dX9_brief_49 : decode cX9_brief 49 = .ok (.getfield 10, 3) := by decide +kernel
theorem dX9_brief_52 : decode cX9_brief 52 = .ok (.getfield 209, 3) := by decide +kernel
theorem dX9_brief_55 : decode cX9_brief 55 = .ok (.iload_n 1, 1) := by decide +kernel
theorem dX9_brief_56 : decode cX9_brief 56 = .ok (.iload 5, 2) := by decide +kernel
theorem dX9_brief_58 : decode cX9_brief 58 = .ok (.invokevirtual 235, 3) := by decide +kernel
theorem dX9_brief_61 : decode cX9_brief 61 = .ok (.aload_n 0, 1) := by decide +kernel
theorem dX9_brief_62 : decode cX9_brief 62 = .ok (.getfield 10, 3) := by decide +kernel
theorem dX9_brief_65 : decode cX9_brief 65 = .ok (.iconst 3, 1) := by decide +kernel
theorem dX9_brief_66 : decode cX9_brief 66 = .ok (.invokevirtual 241, 3) := by decide +kernel
theorem dX9_brief_69 : decode cX9_brief 69 = .ok (.imul, 1) := by decide +kernel
theorem dX9_brief_70 : decode cX9_brief 70 = .ok (.istore 6, 2) := by decide +kernel
theorem dX9_brief_72 : decode cX9_brief 72 = .ok (.iload 4, 2) := by decide +kernel
theorem dX9_brief_74 : decode cX9_brief 74 = .ok (.aload_n 0, 1) := by decide +kernel
theorem dX9_brief_75 : decode cX9_brief 75 = .ok (.getfield 31, 3) := by decide +kernel
theorem dX9_brief_78 : decode cX9_brief 78 = .ok (.iload 5, 2) := by decide +kernel
theorem dX9_brief_80 : decode cX9_brief 80 = .ok (.invokevirtual 300, 3) := by decide +kernel
theorem dX9_brief_83 : decode cX9_brief 83 = .ok (.iload 6, 2) := by decide +kernel
theorem dX9_brief_85 : decode cX9_brief 85 = .ok (.iload_n 2, 1) := by decide +kernel
theorem dX9_brief_86 : decode cX9_brief 86 = .ok (.invokestatic 340, 3) := by decide +kernel
theorem dX9_brief_89 : decode cX9_brief 89 = .ok (.iadd, 1) := by decide +kernel
theorem dX9_brief_90 : decode cX9_brief 90 = .ok (.istore 4, 2) := by decide +kernel
theorem dX9_brief_92 : decode cX9_brief 92 = .ok (.iinc 5 1, 3) := by decide +kernel
theorem dX9_brief_95 : decode cX9_brief 95 = .ok (.goto (-59), 3) := by decide +kernel
theorem dX9_brief_98 : decode cX9_brief 98 = .ok (.iload 4, 2) := by decide +kernel
theorem dX9_brief_100 : decode cX9_brief 100 = .ok (.ireturn, 1) := by decide +kernel
theorem dX9_briefLength_0 : decode cX9_briefLength 0 = .ok (.iload_n 1, 1) := by decide +kernel
theorem dX9_briefLength_1 : decode cX9_briefLength 1 = .ok (.iconst 1, 1) := by decide +kernel
theorem dX9_briefLength_2 : decode cX9_briefLength 2 = .ok (.iadd, 1) := by decide +kernel
theorem dX9_briefLength_3 : decode cX9_briefLength 3 = .ok (.iconst 2, 1) := by decide +kernel
theorem dX9_briefLength_4 : decode cX9_briefLength 4 = .ok (.idiv, 1) := by decide +kernel
theorem dX9_briefLength_5 : decode cX9_briefLength 5 = .ok (.i2l, 1) := by decide +kernel
theorem dX9_briefLength_6 : decode cX9_briefLength 6 = .ok (.ldc2_w 343, 3) := by decide +kernel
theorem dX9_briefLength_9 : decode cX9_briefLength 9 = .ok (.lmul, 1) := by decide +kernel
theorem dX9_briefLength_10 : decode cX9_briefLength 10 = .ok (.iload_n 2, 1) := by decide +kernel
theorem dX9_briefLength_11 : decode cX9_briefLength 11 = .ok (.i2l, 1) := by decide +kernel
theorem dX9_briefLength_12 : decode cX9_briefLength 12 = .ok (.lmul, 1) := by decide +kernel
theorem dX9_briefLength_13 : decode cX9_briefLength 13 = .ok (.lstore_n 3, 1) := by decide +kernel
theorem dX9_briefLength_14 : decode cX9_briefLength 14 = .ok (.iload_n 0, 1) := by decide +kernel
theorem dX9_briefLength_15 : decode cX9_briefLength 15 = .ok (.i2l, 1) := by decide +kernel
theorem dX9_briefLength_16 : decode cX9_briefLength 16 = .ok (.ldc2_w 345, 3) := by decide +kernel
theorem dX9_briefLength_19 : decode cX9_briefLength 19 = .ok (.lmul, 1) := by decide +kernel
theorem dX9_briefLength_20 : decode cX9_briefLength 20 = .ok (.lstore 5, 2) := by decide +kernel
theorem dX9_briefLength_22 : decode cX9_briefLength 22 = .ok (.lload_n 3, 1) := by decide +kernel
theorem dX9_briefLength_23 : decode cX9_briefLength 23 = .ok (.lload 5, 2) := by decide +kernel
theorem dX9_briefLength_25 : decode cX9_briefLength 25 = .ok (.ladd, 1) := by decide +kernel
theorem dX9_briefLength_26 : decode cX9_briefLength 26 = .ok (.lconst 1, 1) := by decide +kernel
theorem dX9_briefLength_27 : decode cX9_briefLength 27 = .ok (.lsub, 1) := by decide +kernel
theorem dX9_briefLength_28 : decode cX9_briefLength 28 = .ok (.lload 5, 2) := by decide +kernel
theorem dX9_briefLength_30 : decode cX9_briefLength 30 = .ok (.invokestatic 347, 3) := by decide +kernel
theorem dX9_briefLength_33 : decode cX9_briefLength 33 = .ok (.lstore 7, 2) := by decide +kernel
theorem dX9_briefLength_35 : decode cX9_briefLength 35 = .ok (.lload 7, 2) := by decide +kernel
theorem dX9_briefLength_37 : decode cX9_briefLength 37 = .ok (.lconst 1, 1) := by decide +kernel
theorem dX9_briefLength_38 : decode cX9_briefLength 38 = .ok (.lcmp, 1) := by decide +kernel
theorem dX9_briefLength_39 : decode cX9_briefLength 39 = .ok (.ifCond .ge 8, 3) := by decide +kernel
theorem dX9_briefLength_42 : decode cX9_briefLength 42 = .ok (.iload_n 0, 1) := by decide +kernel
theorem dX9_briefLength_43 : decode cX9_briefLength 43 = .ok (.i2l, 1) := by decide +kernel
theorem dX9_briefLength_44 : decode cX9_briefLength 44 = .ok (.goto 8, 3) := by decide +kernel
theorem dX9_briefLength_47 : decode cX9_briefLength 47 = .ok (.lload 7, 2) := by decide +kernel
theorem dX9_briefLength_49 : decode cX9_briefLength 49 = .ok (.iload_n 0, 1) := by decide +kernel
theorem dX9_briefLength_50 : decode cX9_briefLength 50 = .ok (.i2l, 1) := by decide +kernel
theorem dX9_briefLength_51 : decode cX9_briefLength 51 = .ok (.lmul, 1) := by decide +kernel
theorem dX9_briefLength_52 : decode cX9_briefLength 52 = .ok (.l2i, 1) := by decide +kernel
theorem dX9_briefLength_53 : decode cX9_briefLength 53 = .ok (.ireturn, 1) := by decide +kernel
theorem dX9_scale_0 : decode cX9_scale 0 = .ok (.aload_n 0, 1) := by decide +kernel
theorem dX9_scale_1 : decode cX9_scale 1 = .ok (.getfield 10, 3) := by decide +kernel
theorem dX9_scale_4 : decode cX9_scale 4 = .ok (.getfield 106, 3) := by decide +kernel
theorem dX9_scale_7 : decode cX9_scale 7 = .ok (.iload_n 1, 1) := by decide +kernel
theorem dX9_scale_8 : decode cX9_scale 8 = .ok (.invokevirtual 110, 3) := by decide +kernel
theorem dX9_scale_11 : decode cX9_scale 11 = .ok (.ifCond .ne 11, 3) := by decide +kernel
theorem dX9_scale_14 : decode cX9_scale 14 = .ok (.aload_n 0, 1) := by decide +kernel
theorem dX9_scale_15 : decode cX9_scale 15 = .ok (.iconst (-1), 1) := by decide +kernel
theorem dX9_scale_16 : decode cX9_scale 16 = .ok (.bipush (-11), 2) := by decide +kernel
theorem dX9_scale_18 : decode cX9_scale 18 = .ok (.invokevirtual 351, 3) := by decide +kernel
theorem dX9_scale_21 : decode cX9_scale 21 = .ok (.ireturn, 1) := by decide +kernel
theorem dX9_scale_22 : decode cX9_scale 22 = .ok (.iload_n 2, 1) := by decide +kernel
theorem dX9_scale_23 : decode cX9_scale 23 = .ok (.invokestatic 177, 3) := by decide +kernel
theorem dX9_scale_26 : decode cX9_scale 26 = .ok (.ifCond .eq 14, 3) := by decide +kernel
theorem dX9_scale_29 : decode cX9_scale 29 = .ok (.iload_n 3, 1) := by decide +kernel
theorem dX9_scale_30 : decode cX9_scale 30 = .ok (.iconst 1, 1) := by decide +kernel
theorem dX9_scale_31 : decode cX9_scale 31 = .ok (.sipush 9999, 3) := by decide +kernel
theorem dX9_scale_34 : decode cX9_scale 34 = .ok (.invokestatic 63, 3) := by decide +kernel
theorem dX9_scale_37 : decode cX9_scale 37 = .ok (.ifCond .ne 12, 3) := by decide +kernel
theorem dX9_scale_40 : decode cX9_scale 40 = .ok (.aload_n 0, 1) := by decide +kernel
theorem dX9_scale_41 : decode cX9_scale 41 = .ok (.bipush (-6), 2) := by decide +kernel
theorem dX9_scale_43 : decode cX9_scale 43 = .ok (.bipush (-16), 2) := by decide +kernel
theorem dX9_scale_45 : decode cX9_scale 45 = .ok (.invokevirtual 351, 3) := by decide +kernel
theorem dX9_scale_48 : decode cX9_scale 48 = .ok (.ireturn, 1) := by decide +kernel
theorem dX9_scale_49 : decode cX9_scale 49 = .ok (.aload_n 0, 1) := by decide +kernel
theorem dX9_scale_50 : decode cX9_scale 50 = .ok (.getfield 10, 3) := by decide +kernel
theorem dX9_scale_53 : decode cX9_scale 53 = .ok (.getfield 106, 3) := by decide +kernel
theorem dX9_scale_56 : decode cX9_scale 56 = .ok (.iload_n 1, 1) := by decide +kernel
theorem dX9_scale_57 : decode cX9_scale 57 = .ok (.iload_n 2, 1) := by decide +kernel
theorem dX9_scale_58 : decode cX9_scale 58 = .ok (.invokevirtual 262, 3) := by decide +kernel
theorem dX9_scale_61 : decode cX9_scale 61 = .ok (.sipush 1000, 3) := by decide +kernel
theorem dX9_scale_64 : decode cX9_scale 64 = .ok (.imul, 1) := by decide +kernel
theorem dX9_scale_65 : decode cX9_scale 65 = .ok (.iload_n 3, 1) := by decide +kernel
theorem dX9_scale_66 : decode cX9_scale 66 = .ok (.invokestatic 354, 3) := by decide +kernel
theorem dX9_scale_69 : decode cX9_scale 69 = .ok (.istore 4, 2) := by decide +kernel
theorem dX9_scale_71 : decode cX9_scale 71 = .ok (.iload 4, 2) := by decide +kernel
theorem dX9_scale_73 : decode cX9_scale 73 = .ok (.ifCond .ne 7, 3) := by decide +kernel
theorem dX9_scale_76 : decode cX9_scale 76 = .ok (.iconst (-1), 1) := by decide +kernel
theorem dX9_scale_77 : decode cX9_scale 77 = .ok (.goto 11, 3) := by decide +kernel
theorem dX9_scale_80 : decode cX9_scale 80 = .ok (.iload 4, 2) := by decide +kernel
theorem dX9_scale_82 : decode cX9_scale 82 = .ok (.invokestatic 356, 3) := by decide +kernel
theorem dX9_scale_85 : decode cX9_scale 85 = .ok (.invokestatic 359, 3) := by decide +kernel
theorem dX9_scale_88 : decode cX9_scale 88 = .ok (.ireturn, 1) := by decide +kernel
theorem dX9_withinOctave_0 : decode cX9_withinOctave 0 = .ok (.iload_n 0, 1) := by decide +kernel
theorem dX9_withinOctave_1 : decode cX9_withinOctave 1 = .ok (.istore_n 1, 1) := by decide +kernel
theorem dX9_withinOctave_2 : decode cX9_withinOctave 2 = .ok (.iconst 0, 1) := by decide +kernel
theorem dX9_withinOctave_3 : decode cX9_withinOctave 3 = .ok (.istore_n 2, 1) := by decide +kernel
theorem dX9_withinOctave_4 : decode cX9_withinOctave 4 = .ok (.iload_n 2, 1) := by decide +kernel
theorem dX9_withinOctave_5 : decode cX9_withinOctave 5 = .ok (.bipush 32, 2) := by decide +kernel
theorem dX9_withinOctave_7 : decode cX9_withinOctave 7 = .ok (.if_icmp .ge 20, 3) := by decide +kernel
theorem dX9_withinOctave_10 : decode cX9_withinOctave 10 = .ok (.iload_n 1, 1) := by decide +kernel
theorem dX9_withinOctave_11 : decode cX9_withinOctave 11 = .ok (.sipush 1999, 3) := by decide +kernel
theorem dX9_withinOctave_14 : decode cX9_withinOctave 14 = .ok (.if_icmp .le 13, 3) := by decide +kernel
theorem dX9_withinOctave_17 : decode cX9_withinOctave 17 = .ok (.iload_n 1, 1) := by decide +kernel
theorem dX9_withinOctave_18 : decode cX9_withinOctave 18 = .ok (.iconst 2, 1) := by decide +kernel
theorem dX9_withinOctave_19 : decode cX9_withinOctave 19 = .ok (.idiv, 1) := by decide +kernel
theorem dX9_withinOctave_20 : decode cX9_withinOctave 20 = .ok (.istore_n 1, 1) := by decide +kernel
theorem dX9_withinOctave_21 : decode cX9_withinOctave 21 = .ok (.iinc 2 1, 3) := by decide +kernel
theorem dX9_withinOctave_24 : decode cX9_withinOctave 24 = .ok (.goto (-20), 3) := by decide +kernel
theorem dX9_withinOctave_27 : decode cX9_withinOctave 27 = .ok (.iconst 0, 1) := by decide +kernel
theorem dX9_withinOctave_28 : decode cX9_withinOctave 28 = .ok (.istore_n 2, 1) := by decide +kernel
theorem dX9_withinOctave_29 : decode cX9_withinOctave 29 = .ok (.iload_n 2, 1) := by decide +kernel
theorem dX9_withinOctave_30 : decode cX9_withinOctave 30 = .ok (.bipush 32, 2) := by decide +kernel
theorem dX9_withinOctave_32 : decode cX9_withinOctave 32 = .ok (.if_icmp .ge 20, 3) := by decide +kernel
theorem dX9_withinOctave_35 : decode cX9_withinOctave 35 = .ok (.iload_n 1, 1) := by decide +kernel
theorem dX9_withinOctave_36 : decode cX9_withinOctave 36 = .ok (.sipush 1000, 3) := by decide +kernel
theorem dX9_withinOctave_39 : decode cX9_withinOctave 39 = .ok (.if_icmp .ge 13, 3) := by decide +kernel
theorem dX9_withinOctave_42 : decode cX9_withinOctave 42 = .ok (.iload_n 1, 1) := by decide +kernel
theorem dX9_withinOctave_43 : decode cX9_withinOctave 43 = .ok (.iconst 2, 1) := by decide +kernel
theorem dX9_withinOctave_44 : decode cX9_withinOctave 44 = .ok (.imul, 1) := by decide +kernel
theorem dX9_withinOctave_45 : decode cX9_withinOctave 45 = .ok (.istore_n 1, 1) := by decide +kernel
theorem dX9_withinOctave_46 : decode cX9_withinOctave 46 = .ok (.iinc 2 1, 3) := by decide +kernel
theorem dX9_withinOctave_49 : decode cX9_withinOctave 49 = .ok (.goto (-20), 3) := by decide +kernel
theorem dX9_withinOctave_52 : decode cX9_withinOctave 52 = .ok (.iload_n 1, 1) := by decide +kernel
theorem dX9_withinOctave_53 : decode cX9_withinOctave 53 = .ok (.ireturn, 1) := by decide +kernel
theorem dX9_nearestStep_0 : decode cX9_nearestStep 0 = .ok (.iconst 0, 1) := by decide +kernel
theorem dX9_nearestStep_1 : decode cX9_nearestStep 1 = .ok (.istore_n 1, 1) := by decide +kernel
theorem dX9_nearestStep_2 : decode cX9_nearestStep 2 = .ok (.iconst 1, 1) := by decide +kernel
theorem dX9_nearestStep_3 : decode cX9_nearestStep 3 = .ok (.istore_n 2, 1) := by decide +kernel
theorem dX9_nearestStep_4 : decode cX9_nearestStep 4 = .ok (.iload_n 2, 1) := by decide +kernel
theorem dX9_nearestStep_5 : decode cX9_nearestStep 5 = .ok (.getstatic 362, 3) := by decide +kernel
theorem dX9_nearestStep_8 : decode cX9_nearestStep 8 = .ok (.arraylength, 1) := by decide +kernel
theorem dX9_nearestStep_9 : decode cX9_nearestStep 9 = .ok (.if_icmp .ge 34, 3) := by decide +kernel
theorem dX9_nearestStep_12 : decode cX9_nearestStep 12 = .ok (.iload_n 0, 1) := by decide +kernel
theorem dX9_nearestStep_13 : decode cX9_nearestStep 13 = .ok (.getstatic 362, 3) := by decide +kernel
theorem dX9_nearestStep_16 : decode cX9_nearestStep 16 = .ok (.iload_n 2, 1) := by decide +kernel
theorem dX9_nearestStep_17 : decode cX9_nearestStep 17 = .ok (.iaload, 1) := by decide +kernel
theorem dX9_nearestStep_18 : decode cX9_nearestStep 18 = .ok (.isub, 1) := by decide +kernel
theorem dX9_nearestStep_19 : decode cX9_nearestStep 19 = .ok (.invokestatic 365, 3) := by decide +kernel
theorem dX9_nearestStep_22 : decode cX9_nearestStep 22 = .ok (.iload_n 0, 1) := by decide +kernel
theorem dX9_nearestStep_23 : decode cX9_nearestStep 23 = .ok (.getstatic 362, 3) := by decide +kernel
theorem dX9_nearestStep_26 : decode cX9_nearestStep 26 = .ok (.iload_n 1, 1) := by decide +kernel
theorem dX9_nearestStep_27 : decode cX9_nearestStep 27 = .ok (.iaload, 1) := by decide +kernel
theorem dX9_nearestStep_28 : decode cX9_nearestStep 28 = .ok (.isub, 1) := by decide +kernel
theorem dX9_nearestStep_29 : decode cX9_nearestStep 29 = .ok (.invokestatic 365, 3) := by decide +kernel
theorem dX9_nearestStep_32 : decode cX9_nearestStep 32 = .ok (.if_icmp .ge 5, 3) := by decide +kernel
theorem dX9_nearestStep_35 : decode cX9_nearestStep 35 = .ok (.iload_n 2, 1) := by decide +kernel
theorem dX9_nearestStep_36 : decode cX9_nearestStep 36 = .ok (.istore_n 1, 1) := by decide +kernel
theorem dX9_nearestStep_37 : decode cX9_nearestStep 37 = .ok (.iinc 2 1, 3) := by decide +kernel
theorem dX9_nearestStep_40 : decode cX9_nearestStep 40 = .ok (.goto (-36), 3) := by decide +kernel
theorem dX9_nearestStep_43 : decode cX9_nearestStep 43 = .ok (.iload_n 1, 1) := by decide +kernel
theorem dX9_nearestStep_44 : decode cX9_nearestStep 44 = .ok (.ireturn, 1) := by decide +kernel
theorem dX9_read_0 : decode cX9_read 0 = .ok (.aload_n 0, 1) := by decide +kernel
theorem dX9_read_1 : decode cX9_read 1 = .ok (.getfield 10, 3) := by decide +kernel
theorem dX9_read_4 : decode cX9_read 4 = .ok (.getfield 180, 3) := by decide +kernel
theorem dX9_read_7 : decode cX9_read 7 = .ok (.iload_n 1, 1) := by decide +kernel
theorem dX9_read_8 : decode cX9_read 8 = .ok (.invokevirtual 193, 3) := by decide +kernel
theorem dX9_read_11 : decode cX9_read 11 = .ok (.ifCond .ne 9, 3) := by decide +kernel
theorem dX9_read_14 : decode cX9_read 14 = .ok (.aload_n 0, 1) := by decide +kernel
theorem dX9_read_15 : decode cX9_read 15 = .ok (.iconst (-1), 1) := by decide +kernel
theorem dX9_read_16 : decode cX9_read 16 = .ok (.invokevirtual 59, 3) := by decide +kernel
theorem dX9_read_19 : decode cX9_read 19 = .ok (.ireturn, 1) := by decide +kernel
theorem dX9_read_20 : decode cX9_read 20 = .ok (.aload_n 0, 1) := by decide +kernel
theorem dX9_read_21 : decode cX9_read 21 = .ok (.getfield 10, 3) := by decide +kernel
theorem dX9_read_24 : decode cX9_read 24 = .ok (.getfield 209, 3) := by decide +kernel
theorem dX9_read_27 : decode cX9_read 27 = .ok (.invokevirtual 317, 3) := by decide +kernel
theorem dX9_read_30 : decode cX9_read 30 = .ok (.ifCond .ne 10, 3) := by decide +kernel
theorem dX9_read_33 : decode cX9_read 33 = .ok (.aload_n 0, 1) := by decide +kernel
theorem dX9_read_34 : decode cX9_read 34 = .ok (.bipush (-5), 2) := by decide +kernel
theorem dX9_read_36 : decode cX9_read 36 = .ok (.invokevirtual 59, 3) := by decide +kernel
theorem dX9_read_39 : decode cX9_read 39 = .ok (.ireturn, 1) := by decide +kernel
theorem dX9_read_40 : decode cX9_read 40 = .ok (.iconst 0, 1) := by decide +kernel
theorem dX9_read_41 : decode cX9_read 41 = .ok (.istore_n 2, 1) := by decide +kernel
theorem dX9_read_42 : decode cX9_read 42 = .ok (.aload_n 0, 1) := by decide +kernel
theorem dX9_read_43 : decode cX9_read 43 = .ok (.getfield 10, 3) := by decide +kernel
theorem dX9_read_46 : decode cX9_read 46 = .ok (.iload_n 1, 1) := by decide +kernel
theorem dX9_read_47 : decode cX9_read 47 = .ok (.iconst 0, 1) := by decide +kernel
theorem dX9_read_48 : decode cX9_read 48 = .ok (.invokevirtual 278, 3) := by decide +kernel
theorem dX9_read_51 : decode cX9_read 51 = .ok (.istore_n 3, 1) := by decide +kernel
theorem dX9_read_52 : decode cX9_read 52 = .ok (.iconst 1, 1) := by decide +kernel
theorem dX9_read_53 : decode cX9_read 53 = .ok (.istore 4, 2) := by decide +kernel
theorem dX9_read_55 : decode cX9_read 55 = .ok (.iload 4, 2) := by decide +kernel
theorem dX9_read_57 : decode cX9_read 57 = .ok (.aload_n 0, 1) := by decide +kernel
theorem dX9_read_58 : decode cX9_read 58 = .ok (.getfield 10, 3) := by decide +kernel
theorem dX9_read_61 : decode cX9_read 61 = .ok (.getfield 209, 3) := by decide +kernel
theorem dX9_read_64 : decode cX9_read 64 = .ok (.invokevirtual 317, 3) := by decide +kernel
theorem dX9_read_67 : decode cX9_read 67 = .ok (.if_icmp .ge 33, 3) := by decide +kernel
theorem dX9_read_70 : decode cX9_read 70 = .ok (.aload_n 0, 1) := by decide +kernel
theorem dX9_read_71 : decode cX9_read 71 = .ok (.getfield 10, 3) := by decide +kernel
theorem dX9_read_74 : decode cX9_read 74 = .ok (.iload_n 1, 1) := by decide +kernel
theorem dX9_read_75 : decode cX9_read 75 = .ok (.iload 4, 2) := by decide +kernel
theorem dX9_read_77 : decode cX9_read 77 = .ok (.invokevirtual 278, 3) := by decide +kernel
theorem dX9_read_80 : decode cX9_read 80 = .ok (.istore 5, 2) := by decide +kernel
theorem dX9_read_82 : decode cX9_read 82 = .ok (.iload 5, 2) := by decide +kernel
theorem dX9_read_84 : decode cX9_read 84 = .ok (.iload_n 3, 1) := by decide +kernel
theorem dX9_read_85 : decode cX9_read 85 = .ok (.if_icmp .ge 9, 3) := by decide +kernel
theorem dX9_read_88 : decode cX9_read 88 = .ok (.iload 5, 2) := by decide +kernel
theorem dX9_read_90 : decode cX9_read 90 = .ok (.istore_n 3, 1) := by decide +kernel
theorem dX9_read_91 : decode cX9_read 91 = .ok (.iload 4, 2) := by decide +kernel
theorem dX9_read_93 : decode cX9_read 93 = .ok (.istore_n 2, 1) := by decide +kernel
theorem dX9_read_94 : decode cX9_read 94 = .ok (.iinc 4 1, 3) := by decide +kernel
theorem dX9_read_97 : decode cX9_read 97 = .ok (.goto (-42), 3) := by decide +kernel
theorem dX9_read_100 : decode cX9_read 100 = .ok (.iload_n 2, 1) := by decide +kernel
theorem dX9_read_101 : decode cX9_read 101 = .ok (.ireturn, 1) := by decide +kernel
theorem dX9_mirror_0 : decode cX9_mirror 0 = .ok (.aload_n 0, 1) := by decide +kernel
theorem dX9_mirror_1 : decode cX9_mirror 1 = .ok (.getfield 10, 3) := by decide +kernel
theorem dX9_mirror_4 : decode cX9_mirror 4 = .ok (.getfield 106, 3) := by decide +kernel
theorem dX9_mirror_7 : decode cX9_mirror 7 = .ok (.astore_n 1, 1) := by decide +kernel
theorem dX9_mirror_8 : decode cX9_mirror 8 = .ok (.iconst 0, 1) := by decide +kernel
theorem dX9_mirror_9 : decode cX9_mirror 9 = .ok (.istore_n 2, 1) := by decide +kernel
theorem dX9_mirror_10 : decode cX9_mirror 10 = .ok (.iconst 0, 1) := by decide +kernel
theorem dX9_mirror_11 : decode cX9_mirror 11 = .ok (.istore_n 3, 1) := by decide +kernel
theorem dX9_mirror_12 : decode cX9_mirror 12 = .ok (.iload_n 3, 1) := by decide +kernel
theorem dX9_mirror_13 : decode cX9_mirror 13 = .ok (.aload_n 1, 1) := by decide +kernel
theorem dX9_mirror_14 : decode cX9_mirror 14 = .ok (.invokevirtual 156, 3) := by decide +kernel
theorem dX9_mirror_17 : decode cX9_mirror 17 = .ok (.iconst 2, 1) := by decide +kernel
theorem dX9_mirror_18 : decode cX9_mirror 18 = .ok (.idiv, 1) := by decide +kernel
theorem dX9_mirror_19 : decode cX9_mirror 19 = .ok (.if_icmp .ge 40, 3) := by decide +kernel
theorem dX9_mirror_22 : decode cX9_mirror 22 = .ok (.aload_n 1, 1) := by decide +kernel
theorem dX9_mirror_23 : decode cX9_mirror 23 = .ok (.invokevirtual 156, 3) := by decide +kernel
theorem dX9_mirror_26 : decode cX9_mirror 26 = .ok (.iconst 1, 1) := by decide +kernel
theorem dX9_mirror_27 : decode cX9_mirror 27 = .ok (.isub, 1) := by decide +kernel
theorem dX9_mirror_28 : decode cX9_mirror 28 = .ok (.iload_n 3, 1) := by decide +kernel
theorem dX9_mirror_29 : decode cX9_mirror 29 = .ok (.isub, 1) := by decide +kernel
theorem dX9_mirror_30 : decode cX9_mirror 30 = .ok (.istore 4, 2) := by decide +kernel
theorem dX9_mirror_32 : decode cX9_mirror 32 = .ok (.aload_n 1, 1) := by decide +kernel
theorem dX9_mirror_33 : decode cX9_mirror 33 = .ok (.iload_n 3, 1) := by decide +kernel
theorem dX9_mirror_34 : decode cX9_mirror 34 = .ok (.bipush 10, 2) := by decide +kernel
theorem dX9_mirror_36 : decode cX9_mirror 36 = .ok (.invokevirtual 262, 3) := by decide +kernel
theorem dX9_mirror_39 : decode cX9_mirror 39 = .ok (.aload_n 1, 1) := by decide +kernel
theorem dX9_mirror_40 : decode cX9_mirror 40 = .ok (.iload 4, 2) := by decide +kernel
theorem dX9_mirror_42 : decode cX9_mirror 42 = .ok (.bipush 10, 2) := by decide +kernel
theorem dX9_mirror_44 : decode cX9_mirror 44 = .ok (.invokevirtual 262, 3) := by decide +kernel
theorem dX9_mirror_47 : decode cX9_mirror 47 = .ok (.if_icmp .eq 6, 3) := by decide +kernel
theorem dX9_mirror_50 : decode cX9_mirror 50 = .ok (.iinc 2 1, 3) := by decide +kernel
theorem dX9_mirror_53 : decode cX9_mirror 53 = .ok (.iinc 3 1, 3) := by decide +kernel
theorem dX9_mirror_56 : decode cX9_mirror 56 = .ok (.goto (-44), 3) := by decide +kernel
theorem dX9_mirror_59 : decode cX9_mirror 59 = .ok (.iload_n 2, 1) := by decide +kernel
theorem dX9_mirror_60 : decode cX9_mirror 60 = .ok (.ireturn, 1) := by decide +kernel
theorem dX9_warns_0 : decode cX9_warns 0 = .ok (.iload_n 1, 1) := by decide +kernel
theorem dX9_warns_1 : decode cX9_warns 1 = .ok (.iconst 0, 1) := by decide +kernel
theorem dX9_warns_2 : decode cX9_warns 2 = .ok (.ldc_w 271, 3) := by decide +kernel
theorem dX9_warns_5 : decode cX9_warns 5 = .ok (.invokestatic 63, 3) := by decide +kernel
theorem dX9_warns_8 : decode cX9_warns 8 = .ok (.ifCond .ne 12, 3) := by decide +kernel
theorem dX9_warns_11 : decode cX9_warns 11 = .ok (.aload_n 0, 1) := by decide +kernel
theorem dX9_warns_12 : decode cX9_warns 12 = .ok (.bipush (-6), 2) := by decide +kernel
theorem dX9_warns_14 : decode cX9_warns 14 = .ok (.bipush (-16), 2) := by decide +kernel
theorem dX9_warns_16 : decode cX9_warns 16 = .ok (.invokevirtual 351, 3) := by decide +kernel
theorem dX9_warns_19 : decode cX9_warns 19 = .ok (.ireturn, 1) := by decide +kernel
theorem dX9_warns_20 : decode cX9_warns 20 = .ok (.iconst 1, 1) := by decide +kernel
theorem dX9_warns_21 : decode cX9_warns 21 = .ok (.istore_n 2, 1) := by decide +kernel
theorem dX9_warns_22 : decode cX9_warns 22 = .ok (.iload_n 2, 1) := by decide +kernel
theorem dX9_warns_23 : decode cX9_warns 23 = .ok (.bipush 99, 2) := by decide +kernel
theorem dX9_warns_25 : decode cX9_warns 25 = .ok (.if_icmp .gt 49, 3) := by decide +kernel
theorem dX9_warns_28 : decode cX9_warns 28 = .ok (.iconst 0, 1) := by decide +kernel
theorem dX9_warns_29 : decode cX9_warns 29 = .ok (.istore_n 3, 1) := by decide +kernel
theorem dX9_warns_30 : decode cX9_warns 30 = .ok (.iload_n 3, 1) := by decide +kernel
theorem dX9_warns_31 : decode cX9_warns 31 = .ok (.aload_n 0, 1) := by decide +kernel
theorem dX9_warns_32 : decode cX9_warns 32 = .ok (.getfield 10, 3) := by decide +kernel
theorem dX9_warns_35 : decode cX9_warns 35 = .ok (.getfield 106, 3) := by decide +kernel
theorem dX9_warns_38 : decode cX9_warns 38 = .ok (.invokevirtual 156, 3) := by decide +kernel
theorem dX9_warns_41 : decode cX9_warns 41 = .ok (.if_icmp .ge 27, 3) := by decide +kernel
theorem dX9_warns_44 : decode cX9_warns 44 = .ok (.aload_n 0, 1) := by decide +kernel
theorem dX9_warns_45 : decode cX9_warns 45 = .ok (.getfield 10, 3) := by decide +kernel
theorem dX9_warns_48 : decode cX9_warns 48 = .ok (.getfield 106, 3) := by decide +kernel
theorem dX9_warns_51 : decode cX9_warns 51 = .ok (.iload_n 3, 1) := by decide +kernel
theorem dX9_warns_52 : decode cX9_warns 52 = .ok (.iload_n 2, 1) := by decide +kernel
theorem dX9_warns_53 : decode cX9_warns 53 = .ok (.invokevirtual 262, 3) := by decide +kernel
theorem dX9_warns_56 : decode cX9_warns 56 = .ok (.iload_n 1, 1) := by decide +kernel
theorem dX9_warns_57 : decode cX9_warns 57 = .ok (.if_icmp .lt 5, 3) := by decide +kernel
theorem dX9_warns_60 : decode cX9_warns 60 = .ok (.iload_n 2, 1) := by decide +kernel
theorem dX9_warns_61 : decode cX9_warns 61 = .ok (.ireturn, 1) := by decide +kernel
theorem dX9_warns_62 : decode cX9_warns 62 = .ok (.iinc 3 1, 3) := by decide +kernel
theorem dX9_warns_65 : decode cX9_warns 65 = .ok (.goto (-35), 3) := by decide +kernel
theorem dX9_warns_68 : decode cX9_warns 68 = .ok (.iinc 2 1, 3) := by decide +kernel
theorem dX9_warns_71 : decode cX9_warns 71 = .ok (.goto (-49), 3) := by decide +kernel
theorem dX9_warns_74 : decode cX9_warns 74 = .ok (.iconst (-1), 1) := by decide +kernel
theorem dX9_warns_75 : decode cX9_warns 75 = .ok (.ireturn, 1) := by decide +kernel
theorem dX9_worn_0 : decode cX9_worn 0 = .ok (.iconst 0, 1) := by decide +kernel
theorem dX9_worn_1 : decode cX9_worn 1 = .ok (.istore_n 1, 1) := by decide +kernel
theorem dX9_worn_2 : decode cX9_worn 2 = .ok (.iload_n 1, 1) := by decide +kernel
theorem dX9_worn_3 : decode cX9_worn 3 = .ok (.bipush 50, 2) := by decide +kernel
theorem dX9_worn_5 : decode cX9_worn 5 = .ok (.if_icmp .gt 25, 3) := by decide +kernel
theorem dX9_worn_8 : decode cX9_worn 8 = .ok (.aload_n 0, 1) := by decide +kernel
theorem dX9_worn_9 : decode cX9_worn 9 = .ok (.getfield 10, 3) := by decide +kernel
theorem dX9_worn_12 : decode cX9_worn 12 = .ok (.getfield 106, 3) := by decide +kernel
theorem dX9_worn_15 : decode cX9_worn 15 = .ok (.iload_n 1, 1) := by decide +kernel
theorem dX9_worn_16 : decode cX9_worn 16 = .ok (.invokevirtual 370, 3) := by decide +kernel
theorem dX9_worn_19 : decode cX9_worn 19 = .ok (.ifCond .ne 5, 3) := by decide +kernel
theorem dX9_worn_22 : decode cX9_worn 22 = .ok (.iload_n 1, 1) := by decide +kernel
theorem dX9_worn_23 : decode cX9_worn 23 = .ok (.ireturn, 1) := by decide +kernel
theorem dX9_worn_24 : decode cX9_worn 24 = .ok (.iinc 1 1, 3) := by decide +kernel
theorem dX9_worn_27 : decode cX9_worn 27 = .ok (.goto (-25), 3) := by decide +kernel
theorem dX9_worn_30 : decode cX9_worn 30 = .ok (.iconst (-1), 1) := by decide +kernel
theorem dX9_worn_31 : decode cX9_worn 31 = .ok (.ireturn, 1) := by decide +kernel
theorem dX9_day_0 : decode cX9_day 0 = .ok (.aload_n 0, 1) := by decide +kernel
theorem dX9_day_1 : decode cX9_day 1 = .ok (.getfield 10, 3) := by decide +kernel
theorem dX9_day_4 : decode cX9_day 4 = .ok (.getfield 209, 3) := by decide +kernel
theorem dX9_day_7 : decode cX9_day 7 = .ok (.iload_n 1, 1) := by decide +kernel
theorem dX9_day_8 : decode cX9_day 8 = .ok (.invokevirtual 222, 3) := by decide +kernel
theorem dX9_day_11 : decode cX9_day 11 = .ok (.ifCond .ne 9, 3) := by decide +kernel
theorem dX9_day_14 : decode cX9_day 14 = .ok (.aload_n 0, 1) := by decide +kernel
theorem dX9_day_15 : decode cX9_day 15 = .ok (.iconst (-1), 1) := by decide +kernel
theorem dX9_day_16 : decode cX9_day 16 = .ok (.invokevirtual 59, 3) := by decide +kernel
theorem dX9_day_19 : decode cX9_day 19 = .ok (.ireturn, 1) := by decide +kernel
theorem dX9_day_20 : decode cX9_day 20 = .ok (.iload_n 2, 1) := by decide +kernel
theorem dX9_day_21 : decode cX9_day 21 = .ok (.iconst 1, 1) := by decide +kernel
theorem dX9_day_22 : decode cX9_day 22 = .ok (.sipush 200, 3) := by decide +kernel
theorem dX9_day_25 : decode cX9_day 25 = .ok (.invokestatic 63, 3) := by decide +kernel
theorem dX9_day_28 : decode cX9_day 28 = .ok (.ifCond .ne 10, 3) := by decide +kernel
theorem dX9_day_31 : decode cX9_day 31 = .ok (.aload_n 0, 1) := by decide +kernel
theorem dX9_day_32 : decode cX9_day 32 = .ok (.bipush (-6), 2) := by decide +kernel
theorem dX9_day_34 : decode cX9_day 34 = .ok (.invokevirtual 59, 3) := by decide +kernel
theorem dX9_day_37 : decode cX9_day 37 = .ok (.ireturn, 1) := by decide +kernel
theorem dX9_day_38 : decode cX9_day 38 = .ok (.aload_n 0, 1) := by decide +kernel
theorem dX9_day_39 : decode cX9_day 39 = .ok (.getfield 10, 3) := by decide +kernel
theorem dX9_day_42 : decode cX9_day 42 = .ok (.iload_n 1, 1) := by decide +kernel
theorem dX9_day_43 : decode cX9_day 43 = .ok (.invokevirtual 373, 3) := by decide +kernel
theorem dX9_day_46 : decode cX9_day 46 = .ok (.istore_n 3, 1) := by decide +kernel
theorem dX9_day_47 : decode cX9_day 47 = .ok (.iconst 0, 1) := by decide +kernel
theorem dX9_day_48 : decode cX9_day 48 = .ok (.istore 4, 2) := by decide +kernel
theorem dX9_day_50 : decode cX9_day 50 = .ok (.iconst 0, 1) := by decide +kernel
theorem dX9_day_51 : decode cX9_day 51 = .ok (.istore 5, 2) := by decide +kernel
theorem dX9_day_53 : decode cX9_day 53 = .ok (.iload 5, 2) := by decide +kernel
theorem dX9_day_55 : decode cX9_day 55 = .ok (.iload_n 2, 1) := by decide +kernel
theorem dX9_day_56 : decode cX9_day 56 = .ok (.if_icmp .ge 49, 3) := by decide +kernel
theorem dX9_day_59 : decode cX9_day 59 = .ok (.aload_n 0, 1) := by decide +kernel
theorem dX9_day_60 : decode cX9_day 60 = .ok (.getfield 10, 3) := by decide +kernel
theorem dX9_day_63 : decode cX9_day 63 = .ok (.getfield 180, 3) := by decide +kernel
theorem dX9_day_66 : decode cX9_day 66 = .ok (.aload_n 0, 1) := by decide +kernel
theorem dX9_day_67 : decode cX9_day 67 = .ok (.getfield 10, 3) := by decide +kernel
theorem dX9_day_70 : decode cX9_day 70 = .ok (.bipush 100, 2) := by decide +kernel
theorem dX9_day_72 : decode cX9_day 72 = .ok (.invokevirtual 376, 3) := by decide +kernel
theorem dX9_day_75 : decode cX9_day 75 = .ok (.invokevirtual 379, 3) := by decide +kernel
theorem dX9_day_78 : decode cX9_day 78 = .ok (.istore 6, 2) := by decide +kernel
theorem dX9_day_80 : decode cX9_day 80 = .ok (.iload 6, 2) := by decide +kernel
theorem dX9_day_82 : decode cX9_day 82 = .ok (.iconst (-1), 1) := by decide +kernel
theorem dX9_day_83 : decode cX9_day 83 = .ok (.if_icmp .eq 16, 3) := by decide +kernel
theorem dX9_day_86 : decode cX9_day 86 = .ok (.iload_n 3, 1) := by decide +kernel
theorem dX9_day_87 : decode cX9_day 87 = .ok (.iload 6, 2) := by decide +kernel
theorem dX9_day_89 : decode cX9_day 89 = .ok (.ishr, 1) := by decide +kernel
theorem dX9_day_90 : decode cX9_day 90 = .ok (.iconst 1, 1) := by decide +kernel
theorem dX9_day_91 : decode cX9_day 91 = .ok (.iand, 1) := by decide +kernel
theorem dX9_day_92 : decode cX9_day 92 = .ok (.iconst 1, 1) := by decide +kernel
theorem dX9_day_93 : decode cX9_day 93 = .ok (.if_icmp .ne 6, 3) := by decide +kernel
theorem dX9_day_96 : decode cX9_day 96 = .ok (.iinc 4 1, 3) := by decide +kernel
theorem dX9_day_99 : decode cX9_day 99 = .ok (.iinc 5 1, 3) := by decide +kernel
theorem dX9_day_102 : decode cX9_day 102 = .ok (.goto (-49), 3) := by decide +kernel
theorem dX9_day_105 : decode cX9_day 105 = .ok (.iload 4, 2) := by decide +kernel
theorem dX9_day_107 : decode cX9_day 107 = .ok (.ireturn, 1) := by decide +kernel
theorem dX9_seed_0 : decode cX9_seed 0 = .ok (.aload_n 0, 1) := by decide +kernel
theorem dX9_seed_1 : decode cX9_seed 1 = .ok (.getfield 10, 3) := by decide +kernel
theorem dX9_seed_4 : decode cX9_seed 4 = .ok (.invokevirtual 382, 3) := by decide +kernel
theorem dX9_seed_7 : decode cX9_seed 7 = .ok (.istore_n 2, 1) := by decide +kernel
theorem dX9_seed_8 : decode cX9_seed 8 = .ok (.aload_n 0, 1) := by decide +kernel
theorem dX9_seed_9 : decode cX9_seed 9 = .ok (.getfield 10, 3) := by decide +kernel
theorem dX9_seed_12 : decode cX9_seed 12 = .ok (.iload_n 1, 1) := by decide +kernel
theorem dX9_seed_13 : decode cX9_seed 13 = .ok (.invokevirtual 385, 3) := by decide +kernel
theorem dX9_seed_16 : decode cX9_seed 16 = .ok (.iload_n 2, 1) := by decide +kernel
theorem dX9_seed_17 : decode cX9_seed 17 = .ok (.ireturn, 1) := by decide +kernel
theorem dX9_act_0 : decode cX9_act 0 = .ok (.aload_n 0, 1) := by decide +kernel
theorem dX9_act_1 : decode cX9_act 1 = .ok (.getfield 38, 3) := by decide +kernel
theorem dX9_act_4 : decode cX9_act 4 = .ok (.invokevirtual 388, 3) := by decide +kernel
theorem dX9_act_7 : decode cX9_act 7 = .ok (.aload_n 0, 1) := by decide +kernel
theorem dX9_act_8 : decode cX9_act 8 = .ok (.getfield 10, 3) := by decide +kernel
theorem dX9_act_11 : decode cX9_act 11 = .ok (.getfield 106, 3) := by decide +kernel
theorem dX9_act_14 : decode cX9_act 14 = .ok (.iload_n 1, 1) := by decide +kernel
theorem dX9_act_15 : decode cX9_act 15 = .ok (.invokevirtual 110, 3) := by decide +kernel
theorem dX9_act_18 : decode cX9_act 18 = .ok (.ifCond .eq 12, 3) := by decide +kernel
theorem dX9_act_21 : decode cX9_act 21 = .ok (.iload_n 2, 1) := by decide +kernel
theorem dX9_act_22 : decode cX9_act 22 = .ok (.iconst 0, 1) := by decide +kernel
theorem dX9_act_23 : decode cX9_act 23 = .ok (.iconst 2, 1) := by decide +kernel
theorem dX9_act_24 : decode cX9_act 24 = .ok (.invokestatic 63, 3) := by decide +kernel
theorem dX9_act_27 : decode cX9_act 27 = .ok (.ifCond .ne 5, 3) := by decide +kernel
theorem dX9_act_30 : decode cX9_act 30 = .ok (.iconst 0, 1) := by decide +kernel
theorem dX9_act_31 : decode cX9_act 31 = .ok (.ireturn, 1) := by decide +kernel
theorem dX9_act_32 : decode cX9_act 32 = .ok (.aload_n 0, 1) := by decide +kernel
theorem dX9_act_33 : decode cX9_act 33 = .ok (.getfield 38, 3) := by decide +kernel
theorem dX9_act_36 : decode cX9_act 36 = .ok (.aload_n 0, 1) := by decide +kernel
theorem dX9_act_37 : decode cX9_act 37 = .ok (.getfield 10, 3) := by decide +kernel
theorem dX9_act_40 : decode cX9_act 40 = .ok (.getfield 106, 3) := by decide +kernel
theorem dX9_act_43 : decode cX9_act 43 = .ok (.iload_n 1, 1) := by decide +kernel
theorem dX9_act_44 : decode cX9_act 44 = .ok (.invokevirtual 129, 3) := by decide +kernel
theorem dX9_act_47 : decode cX9_act 47 = .ok (.iload_n 1, 1) := by decide +kernel
theorem dX9_act_48 : decode cX9_act 48 = .ok (.aload_n 0, 1) := by decide +kernel
theorem dX9_act_49 : decode cX9_act 49 = .ok (.getfield 10, 3) := by decide +kernel
theorem dX9_act_52 : decode cX9_act 52 = .ok (.getfield 106, 3) := by decide +kernel
theorem dX9_act_55 : decode cX9_act 55 = .ok (.iload_n 1, 1) := by decide +kernel
theorem dX9_act_56 : decode cX9_act 56 = .ok (.invokevirtual 165, 3) := by decide +kernel
theorem dX9_act_59 : decode cX9_act 59 = .ok (.invokevirtual 391, 3) := by decide +kernel
theorem dX9_act_62 : decode cX9_act 62 = .ok (.aload_n 0, 1) := by decide +kernel
theorem dX9_act_63 : decode cX9_act 63 = .ok (.getfield 38, 3) := by decide +kernel
theorem dX9_act_66 : decode cX9_act 66 = .ok (.iload_n 2, 1) := by decide +kernel
theorem dX9_act_67 : decode cX9_act 67 = .ok (.aload_n 0, 1) := by decide +kernel
theorem dX9_act_68 : decode cX9_act 68 = .ok (.getfield 38, 3) := by decide +kernel
theorem dX9_act_71 : decode cX9_act 71 = .ok (.invokevirtual 394, 3) := by decide +kernel
theorem dX9_act_74 : decode cX9_act 74 = .ok (.iload_n 3, 1) := by decide +kernel
theorem dX9_act_75 : decode cX9_act 75 = .ok (.iconst 0, 1) := by decide +kernel
theorem dX9_act_76 : decode cX9_act 76 = .ok (.invokestatic 397, 3) := by decide +kernel
theorem dX9_act_79 : decode cX9_act 79 = .ok (.ireturn, 1) := by decide +kernel
theorem dX9_trace_0 : decode cX9_trace 0 = .ok (.aload_n 0, 1) := by decide +kernel
theorem dX9_trace_1 : decode cX9_trace 1 = .ok (.getfield 38, 3) := by decide +kernel
theorem dX9_trace_4 : decode cX9_trace 4 = .ok (.iload_n 1, 1) := by decide +kernel
theorem dX9_trace_5 : decode cX9_trace 5 = .ok (.invokevirtual 401, 3) := by decide +kernel
theorem dX9_trace_8 : decode cX9_trace 8 = .ok (.ireturn, 1) := by decide +kernel
theorem dX9_image_0 : decode cX9_image 0 = .ok (.aload_n 0, 1) := by decide +kernel
theorem dX9_image_1 : decode cX9_image 1 = .ok (.getfield 16, 3) := by decide +kernel
theorem dX9_image_4 : decode cX9_image 4 = .ok (.aload_n 0, 1) := by decide +kernel
theorem dX9_image_5 : decode cX9_image 5 = .ok (.getfield 10, 3) := by decide +kernel
theorem dX9_image_8 : decode cX9_image 8 = .ok (.invokevirtual 247, 3) := by decide +kernel
theorem dX9_image_11 : decode cX9_image 11 = .ok (.aload_n 0, 1) := by decide +kernel
theorem dX9_image_12 : decode cX9_image 12 = .ok (.iconst 1, 1) := by decide +kernel
theorem dX9_image_13 : decode cX9_image 13 = .ok (.putfield 46, 3) := by decide +kernel
theorem dX9_image_16 : decode cX9_image 16 = .ok (.aload_n 0, 1) := by decide +kernel
theorem dX9_image_17 : decode cX9_image 17 = .ok (.getfield 10, 3) := by decide +kernel
theorem dX9_image_20 : decode cX9_image 20 = .ok (.getfield 106, 3) := by decide +kernel
theorem dX9_image_23 : decode cX9_image 23 = .ok (.invokevirtual 156, 3) := by decide +kernel
theorem dX9_image_26 : decode cX9_image 26 = .ok (.ireturn, 1) := by decide +kernel
theorem dX9_restore_0 : decode cX9_restore 0 = .ok (.aload_n 0, 1) := by decide +kernel
theorem dX9_restore_1 : decode cX9_restore 1 = .ok (.getfield 46, 3) := by decide +kernel
theorem dX9_restore_4 : decode cX9_restore 4 = .ok (.ifCond .ne 10, 3) := by decide +kernel
theorem dX9_restore_7 : decode cX9_restore 7 = .ok (.aload_n 0, 1) := by decide +kernel
theorem dX9_restore_8 : decode cX9_restore 8 = .ok (.bipush (-6), 2) := by decide +kernel
theorem dX9_restore_10 : decode cX9_restore 10 = .ok (.invokevirtual 59, 3) := by decide +kernel
theorem dX9_restore_13 : decode cX9_restore 13 = .ok (.ireturn, 1) := by decide +kernel
theorem dX9_restore_14 : decode cX9_restore 14 = .ok (.aload_n 0, 1) := by decide +kernel
theorem dX9_restore_15 : decode cX9_restore 15 = .ok (.getfield 10, 3) := by decide +kernel
theorem dX9_restore_18 : decode cX9_restore 18 = .ok (.aload_n 0, 1) := by decide +kernel
theorem dX9_restore_19 : decode cX9_restore 19 = .ok (.getfield 16, 3) := by decide +kernel
theorem dX9_restore_22 : decode cX9_restore 22 = .ok (.invokevirtual 247, 3) := by decide +kernel
theorem dX9_restore_25 : decode cX9_restore 25 = .ok (.aload_n 0, 1) := by decide +kernel
theorem dX9_restore_26 : decode cX9_restore 26 = .ok (.invokevirtual 162, 3) := by decide +kernel
theorem dX9_restore_29 : decode cX9_restore 29 = .ok (.aload_n 0, 1) := by decide +kernel
theorem dX9_restore_30 : decode cX9_restore 30 = .ok (.getfield 10, 3) := by decide +kernel
theorem dX9_restore_33 : decode cX9_restore 33 = .ok (.getfield 106, 3) := by decide +kernel
theorem dX9_restore_36 : decode cX9_restore 36 = .ok (.invokevirtual 156, 3) := by decide +kernel
theorem dX9_restore_39 : decode cX9_restore 39 = .ok (.ireturn, 1) := by decide +kernel
theorem dX9_status_0 : decode cX9_status 0 = .ok (.iload_n 1, 1) := by decide +kernel
theorem dX9_status_1 : decode cX9_status 1 = .ok (.tableswitch 114 0 6 #[43, 54, 65, 76, 87, 98, 106], 43) := by decide +kernel
theorem dX9_status_44 : decode cX9_status 44 = .ok (.aload_n 0, 1) := by decide +kernel
theorem dX9_status_45 : decode cX9_status 45 = .ok (.getfield 10, 3) := by decide +kernel
theorem dX9_status_48 : decode cX9_status 48 = .ok (.getfield 106, 3) := by decide +kernel
theorem dX9_status_51 : decode cX9_status 51 = .ok (.invokevirtual 156, 3) := by decide +kernel
theorem dX9_status_54 : decode cX9_status 54 = .ok (.ireturn, 1) := by decide +kernel
theorem dX9_status_55 : decode cX9_status 55 = .ok (.aload_n 0, 1) := by decide +kernel
theorem dX9_status_56 : decode cX9_status 56 = .ok (.getfield 10, 3) := by decide +kernel
theorem dX9_status_59 : decode cX9_status 59 = .ok (.getfield 180, 3) := by decide +kernel
theorem dX9_status_62 : decode cX9_status 62 = .ok (.invokevirtual 328, 3) := by decide +kernel
theorem dX9_status_65 : decode cX9_status 65 = .ok (.ireturn, 1) := by decide +kernel
theorem dX9_status_66 : decode cX9_status 66 = .ok (.aload_n 0, 1) := by decide +kernel
theorem dX9_status_67 : decode cX9_status 67 = .ok (.getfield 10, 3) := by decide +kernel
theorem dX9_status_70 : decode cX9_status 70 = .ok (.getfield 209, 3) := by decide +kernel
theorem dX9_status_73 : decode cX9_status 73 = .ok (.invokevirtual 317, 3) := by decide +kernel
theorem dX9_status_76 : decode cX9_status 76 = .ok (.ireturn, 1) := by decide +kernel
theorem dX9_status_77 : decode cX9_status 77 = .ok (.aload_n 0, 1) := by decide +kernel
theorem dX9_status_78 : decode cX9_status 78 = .ok (.getfield 10, 3) := by decide +kernel
theorem dX9_status_81 : decode cX9_status 81 = .ok (.getfield 106, 3) := by decide +kernel
theorem dX9_status_84 : decode cX9_status 84 = .ok (.invokevirtual 311, 3) := by decide +kernel
theorem dX9_status_87 : decode cX9_status 87 = .ok (.ireturn, 1) := by decide +kernel
theorem dX9_status_88 : decode cX9_status 88 = .ok (.aload_n 0, 1) := by decide +kernel
theorem dX9_status_89 : decode cX9_status 89 = .ok (.getfield 10, 3) := by decide +kernel
theorem dX9_status_92 : decode cX9_status 92 = .ok (.getfield 180, 3) := by decide +kernel
theorem dX9_status_95 : decode cX9_status 95 = .ok (.invokevirtual 184, 3) := by decide +kernel
theorem dX9_status_98 : decode cX9_status 98 = .ok (.ireturn, 1) := by decide +kernel
theorem dX9_status_99 : decode cX9_status 99 = .ok (.aload_n 0, 1) := by decide +kernel
theorem dX9_status_100 : decode cX9_status 100 = .ok (.getfield 10, 3) := by decide +kernel
theorem dX9_status_103 : decode cX9_status 103 = .ok (.invokevirtual 382, 3) := by decide +kernel
theorem dX9_status_106 : decode cX9_status 106 = .ok (.ireturn, 1) := by decide +kernel
theorem dX9_status_107 : decode cX9_status 107 = .ok (.aload_n 0, 1) := by decide +kernel
theorem dX9_status_108 : decode cX9_status 108 = .ok (.getfield 38, 3) := by decide +kernel
theorem dX9_status_111 : decode cX9_status 111 = .ok (.invokevirtual 404, 3) := by decide +kernel
theorem dX9_status_114 : decode cX9_status 114 = .ok (.ireturn, 1) := by decide +kernel
theorem dX9_status_115 : decode cX9_status 115 = .ok (.iload_n 1, 1) := by decide +kernel
theorem dX9_status_116 : decode cX9_status 116 = .ok (.bipush 11, 2) := by decide +kernel
theorem dX9_status_118 : decode cX9_status 118 = .ok (.bipush 17, 2) := by decide +kernel
theorem dX9_status_120 : decode cX9_status 120 = .ok (.invokestatic 63, 3) := by decide +kernel
theorem dX9_status_123 : decode cX9_status 123 = .ok (.ifCond .eq 15, 3) := by decide +kernel
theorem dX9_status_126 : decode cX9_status 126 = .ok (.aload_n 0, 1) := by decide +kernel
theorem dX9_status_127 : decode cX9_status 127 = .ok (.getfield 42, 3) := by decide +kernel
theorem dX9_status_130 : decode cX9_status 130 = .ok (.iload_n 1, 1) := by decide +kernel
theorem dX9_status_131 : decode cX9_status 131 = .ok (.bipush 10, 2) := by decide +kernel
theorem dX9_status_133 : decode cX9_status 133 = .ok (.isub, 1) := by decide +kernel
theorem dX9_status_134 : decode cX9_status 134 = .ok (.iaload, 1) := by decide +kernel
theorem dX9_status_135 : decode cX9_status 135 = .ok (.goto 4, 3) := by decide +kernel
theorem dX9_status_138 : decode cX9_status 138 = .ok (.iconst (-1), 1) := by decide +kernel
theorem dX9_status_139 : decode cX9_status 139 = .ok (.ireturn, 1) := by decide +kernel
theorem dX9_refuse_0 : decode cX9_refuse 0 = .ok (.aload_n 0, 1) := by decide +kernel
theorem dX9_refuse_1 : decode cX9_refuse 1 = .ok (.iload_n 1, 1) := by decide +kernel
theorem dX9_refuse_2 : decode cX9_refuse 2 = .ok (.iload_n 1, 1) := by decide +kernel
theorem dX9_refuse_3 : decode cX9_refuse 3 = .ok (.invokevirtual 351, 3) := by decide +kernel
theorem dX9_refuse_6 : decode cX9_refuse 6 = .ok (.ireturn, 1) := by decide +kernel
theorem dX9_refuseAs_0 : decode cX9_refuseAs 0 = .ok (.iload_n 1, 1) := by decide +kernel
theorem dX9_refuseAs_1 : decode cX9_refuseAs 1 = .ok (.bipush (-7), 2) := by decide +kernel
theorem dX9_refuseAs_3 : decode cX9_refuseAs 3 = .ok (.iconst (-1), 1) := by decide +kernel
theorem dX9_refuseAs_4 : decode cX9_refuseAs 4 = .ok (.invokestatic 63, 3) := by decide +kernel
theorem dX9_refuseAs_7 : decode cX9_refuseAs 7 = .ok (.ifCond .eq 14, 3) := by decide +kernel
theorem dX9_refuseAs_10 : decode cX9_refuseAs 10 = .ok (.aload_n 0, 1) := by decide +kernel
theorem dX9_refuseAs_11 : decode cX9_refuseAs 11 = .ok (.getfield 42, 3) := by decide +kernel
theorem dX9_refuseAs_14 : decode cX9_refuseAs 14 = .ok (.iload_n 1, 1) := by decide +kernel
theorem dX9_refuseAs_15 : decode cX9_refuseAs 15 = .ok (.ineg, 1) := by decide +kernel
theorem dX9_refuseAs_16 : decode cX9_refuseAs 16 = .ok (.dup2, 1) := by decide +kernel
theorem dX9_refuseAs_17 : decode cX9_refuseAs 17 = .ok (.iaload, 1) := by decide +kernel
theorem dX9_refuseAs_18 : decode cX9_refuseAs 18 = .ok (.iconst 1, 1) := by decide +kernel
theorem dX9_refuseAs_19 : decode cX9_refuseAs 19 = .ok (.iadd, 1) := by decide +kernel
theorem dX9_refuseAs_20 : decode cX9_refuseAs 20 = .ok (.iastore, 1) := by decide +kernel
theorem dX9_refuseAs_21 : decode cX9_refuseAs 21 = .ok (.iload_n 2, 1) := by decide +kernel
theorem dX9_refuseAs_22 : decode cX9_refuseAs 22 = .ok (.ireturn, 1) := by decide +kernel
theorem dX9_shelfAt_0 : decode cX9_shelfAt 0 = .ok (.iload_n 1, 1) := by decide +kernel
theorem dX9_shelfAt_1 : decode cX9_shelfAt 1 = .ok (.iconst 0, 1) := by decide +kernel
theorem dX9_shelfAt_2 : decode cX9_shelfAt 2 = .ok (.bipush 7, 2) := by decide +kernel
theorem dX9_shelfAt_4 : decode cX9_shelfAt 4 = .ok (.invokestatic 63, 3) := by decide +kernel
theorem dX9_shelfAt_7 : decode cX9_shelfAt 7 = .ok (.ifCond .eq 12, 3) := by decide +kernel
theorem dX9_shelfAt_10 : decode cX9_shelfAt 10 = .ok (.aload_n 0, 1) := by decide +kernel
theorem dX9_shelfAt_11 : decode cX9_shelfAt 11 = .ok (.getfield 24, 3) := by decide +kernel
theorem dX9_shelfAt_14 : decode cX9_shelfAt 14 = .ok (.iload_n 1, 1) := by decide +kernel
theorem dX9_shelfAt_15 : decode cX9_shelfAt 15 = .ok (.aaload, 1) := by decide +kernel
theorem dX9_shelfAt_16 : decode cX9_shelfAt 16 = .ok (.goto 4, 3) := by decide +kernel
theorem dX9_shelfAt_19 : decode cX9_shelfAt 19 = .ok (.aconst_null, 1) := by decide +kernel
theorem dX9_shelfAt_20 : decode cX9_shelfAt 20 = .ok (.areturn, 1) := by decide +kernel
theorem dX9_refusalOfRow_0 : decode cX9_refusalOfRow 0 = .ok (.aload_n 0, 1) := by decide +kernel
theorem dX9_refusalOfRow_1 : decode cX9_refusalOfRow 1 = .ok (.ifnonnull 5, 3) := by decide +kernel
theorem dX9_refusalOfRow_4 : decode cX9_refusalOfRow 4 = .ok (.iconst (-1), 1) := by decide +kernel
theorem dX9_refusalOfRow_5 : decode cX9_refusalOfRow 5 = .ok (.ireturn, 1) := by decide +kernel
theorem dX9_refusalOfRow_6 : decode cX9_refusalOfRow 6 = .ok (.aload_n 0, 1) := by decide +kernel
theorem dX9_refusalOfRow_7 : decode cX9_refusalOfRow 7 = .ok (.invokevirtual 83, 3) := by decide +kernel
theorem dX9_refusalOfRow_10 : decode cX9_refusalOfRow 10 = .ok (.ifCond .eq 6, 3) := by decide +kernel
theorem dX9_refusalOfRow_13 : decode cX9_refusalOfRow 13 = .ok (.bipush (-2), 2) := by decide +kernel
theorem dX9_refusalOfRow_15 : decode cX9_refusalOfRow 15 = .ok (.ireturn, 1) := by decide +kernel
theorem dX9_refusalOfRow_16 : decode cX9_refusalOfRow 16 = .ok (.aload_n 0, 1) := by decide +kernel
theorem dX9_refusalOfRow_17 : decode cX9_refusalOfRow 17 = .ok (.invokevirtual 91, 3) := by decide +kernel
theorem dX9_refusalOfRow_20 : decode cX9_refusalOfRow 20 = .ok (.ifCond .eq 7, 3) := by decide +kernel
theorem dX9_refusalOfRow_23 : decode cX9_refusalOfRow 23 = .ok (.iconst 0, 1) := by decide +kernel
theorem dX9_refusalOfRow_24 : decode cX9_refusalOfRow 24 = .ok (.goto 5, 3) := by decide +kernel
theorem dX9_refusalOfRow_27 : decode cX9_refusalOfRow 27 = .ok (.bipush (-3), 2) := by decide +kernel
theorem dX9_refusalOfRow_29 : decode cX9_refusalOfRow 29 = .ok (.ireturn, 1) := by decide +kernel
theorem dX9_refusalOfTuneAt_0 : decode cX9_refusalOfTuneAt 0 = .ok (.aload_n 0, 1) := by decide +kernel
theorem dX9_refusalOfTuneAt_1 : decode cX9_refusalOfTuneAt 1 = .ok (.getfield 10, 3) := by decide +kernel
theorem dX9_refusalOfTuneAt_4 : decode cX9_refusalOfTuneAt 4 = .ok (.getfield 209, 3) := by decide +kernel
theorem dX9_refusalOfTuneAt_7 : decode cX9_refusalOfTuneAt 7 = .ok (.iload_n 1, 1) := by decide +kernel
theorem dX9_refusalOfTuneAt_8 : decode cX9_refusalOfTuneAt 8 = .ok (.invokevirtual 222, 3) := by decide +kernel
theorem dX9_refusalOfTuneAt_11 : decode cX9_refusalOfTuneAt 11 = .ok (.ifCond .ne 5, 3) := by decide +kernel
theorem dX9_refusalOfTuneAt_14 : decode cX9_refusalOfTuneAt 14 = .ok (.iconst (-1), 1) := by decide +kernel
theorem dX9_refusalOfTuneAt_15 : decode cX9_refusalOfTuneAt 15 = .ok (.ireturn, 1) := by decide +kernel
theorem dX9_refusalOfTuneAt_16 : decode cX9_refusalOfTuneAt 16 = .ok (.iload_n 2, 1) := by decide +kernel
theorem dX9_refusalOfTuneAt_17 : decode cX9_refusalOfTuneAt 17 = .ok (.invokestatic 177, 3) := by decide +kernel
theorem dX9_refusalOfTuneAt_20 : decode cX9_refusalOfTuneAt 20 = .ok (.ifCond .eq 7, 3) := by decide +kernel
theorem dX9_refusalOfTuneAt_23 : decode cX9_refusalOfTuneAt 23 = .ok (.iconst 0, 1) := by decide +kernel
theorem dX9_refusalOfTuneAt_24 : decode cX9_refusalOfTuneAt 24 = .ok (.goto 5, 3) := by decide +kernel
theorem dX9_refusalOfTuneAt_27 : decode cX9_refusalOfTuneAt 27 = .ok (.bipush (-6), 2) := by decide +kernel
theorem dX9_refusalOfTuneAt_29 : decode cX9_refusalOfTuneAt 29 = .ok (.ireturn, 1) := by decide +kernel
theorem dX9_clearShelvesOfGoneStretches_0 : decode cX9_clearShelvesOfGoneStretches 0 = .ok (.iconst 0, 1) := by decide +kernel
theorem dX9_clearShelvesOfGoneStretches_1 : decode cX9_clearShelvesOfGoneStretches 1 = .ok (.istore_n 1, 1) := by decide +kernel
theorem dX9_clearShelvesOfGoneStretches_2 : decode cX9_clearShelvesOfGoneStretches 2 = .ok (.iload_n 1, 1) := by decide +kernel
theorem dX9_clearShelvesOfGoneStretches_3 : decode cX9_clearShelvesOfGoneStretches 3 = .ok (.bipush 8, 2) := by decide +kernel
theorem dX9_clearShelvesOfGoneStretches_5 : decode cX9_clearShelvesOfGoneStretches 5 = .ok (.if_icmp .ge 47, 3) := by decide +kernel
theorem dX9_clearShelvesOfGoneStretches_8 : decode cX9_clearShelvesOfGoneStretches 8 = .ok (.aload_n 0, 1) := by decide +kernel
theorem dX9_clearShelvesOfGoneStretches_9 : decode cX9_clearShelvesOfGoneStretches 9 = .ok (.iload_n 1, 1) := by decide +kernel
theorem dX9_clearShelvesOfGoneStretches_10 : decode cX9_clearShelvesOfGoneStretches 10 = .ok (.invokevirtual 55, 3) := by decide +kernel
theorem dX9_clearShelvesOfGoneStretches_13 : decode cX9_clearShelvesOfGoneStretches 13 = .ok (.astore_n 2, 1) := by decide +kernel
theorem dX9_clearShelvesOfGoneStretches_14 : decode cX9_clearShelvesOfGoneStretches 14 = .ok (.aload_n 2, 1) := by decide +kernel
theorem dX9_clearShelvesOfGoneStretches_15 : decode cX9_clearShelvesOfGoneStretches 15 = .ok (.ifnull 31, 3) := by decide +kernel
theorem dX9_clearShelvesOfGoneStretches_18 : decode cX9_clearShelvesOfGoneStretches 18 = .ok (.aload_n 2, 1) := by decide +kernel
theorem dX9_clearShelvesOfGoneStretches_19 : decode cX9_clearShelvesOfGoneStretches 19 = .ok (.invokevirtual 83, 3) := by decide +kernel
theorem dX9_clearShelvesOfGoneStretches_22 : decode cX9_clearShelvesOfGoneStretches 22 = .ok (.ifCond .eq 24, 3) := by decide +kernel
theorem dX9_clearShelvesOfGoneStretches_25 : decode cX9_clearShelvesOfGoneStretches 25 = .ok (.aload_n 0, 1) := by decide +kernel
theorem dX9_clearShelvesOfGoneStretches_26 : decode cX9_clearShelvesOfGoneStretches 26 = .ok (.getfield 10, 3) := by decide +kernel
theorem dX9_clearShelvesOfGoneStretches_29 : decode cX9_clearShelvesOfGoneStretches 29 = .ok (.getfield 106, 3) := by decide +kernel
theorem dX9_clearShelvesOfGoneStretches_32 : decode cX9_clearShelvesOfGoneStretches 32 = .ok (.aload_n 2, 1) := by decide +kernel
theorem dX9_clearShelvesOfGoneStretches_33 : decode cX9_clearShelvesOfGoneStretches 33 = .ok (.invokevirtual 126, 3) := by decide +kernel
theorem dX9_clearShelvesOfGoneStretches_36 : decode cX9_clearShelvesOfGoneStretches 36 = .ok (.invokevirtual 110, 3) := by decide +kernel
theorem dX9_clearShelvesOfGoneStretches_39 : decode cX9_clearShelvesOfGoneStretches 39 = .ok (.ifCond .ne 7, 3) := by decide +kernel
theorem dX9_clearShelvesOfGoneStretches_42 : decode cX9_clearShelvesOfGoneStretches 42 = .ok (.aload_n 2, 1) := by decide +kernel
theorem dX9_clearShelvesOfGoneStretches_43 : decode cX9_clearShelvesOfGoneStretches 43 = .ok (.invokevirtual 115, 3) := by decide +kernel
theorem dX9_clearShelvesOfGoneStretches_46 : decode cX9_clearShelvesOfGoneStretches 46 = .ok (.iinc 1 1, 3) := by decide +kernel
theorem dX9_clearShelvesOfGoneStretches_49 : decode cX9_clearShelvesOfGoneStretches 49 = .ok (.goto (-47), 3) := by decide +kernel
theorem dX9_clearShelvesOfGoneStretches_52 : decode cX9_clearShelvesOfGoneStretches 52 = .ok (.return_, 1) := by decide +kernel
theorem dX9_within_0 : decode cX9_within 0 = .ok (.iload_n 0, 1) := by decide +kernel
theorem dX9_within_1 : decode cX9_within 1 = .ok (.iload_n 1, 1) := by decide +kernel
theorem dX9_within_2 : decode cX9_within 2 = .ok (.if_icmp .lt 12, 3) := by decide +kernel
theorem dX9_within_5 : decode cX9_within 5 = .ok (.iload_n 0, 1) := by decide +kernel
theorem dX9_within_6 : decode cX9_within 6 = .ok (.iload_n 2, 1) := by decide +kernel
theorem dX9_within_7 : decode cX9_within 7 = .ok (.if_icmp .gt 7, 3) := by decide +kernel
theorem dX9_within_10 : decode cX9_within 10 = .ok (.iconst 1, 1) := by decide +kernel
theorem dX9_within_11 : decode cX9_within 11 = .ok (.goto 4, 3) := by decide +kernel
theorem dX9_within_14 : decode cX9_within 14 = .ok (.iconst 0, 1) := by decide +kernel
theorem dX9_within_15 : decode cX9_within 15 = .ok (.ireturn, 1) := by decide +kernel
theorem dX9_isSpeed_0 : decode cX9_isSpeed 0 = .ok (.iload_n 0, 1) := by decide +kernel
theorem dX9_isSpeed_1 : decode cX9_isSpeed 1 = .ok (.iconst 1, 1) := by decide +kernel
theorem dX9_isSpeed_2 : decode cX9_isSpeed 2 = .ok (.bipush 99, 2) := by decide +kernel
theorem dX9_isSpeed_4 : decode cX9_isSpeed 4 = .ok (.invokestatic 63, 3) := by decide +kernel
theorem dX9_isSpeed_7 : decode cX9_isSpeed 7 = .ok (.ireturn, 1) := by decide +kernel
theorem dX9_areMeasures_0 : decode cX9_areMeasures 0 = .ok (.iload_n 0, 1) := by decide +kernel
theorem dX9_areMeasures_1 : decode cX9_areMeasures 1 = .ok (.iconst 1, 1) := by decide +kernel
theorem dX9_areMeasures_2 : decode cX9_areMeasures 2 = .ok (.bipush 60, 2) := by decide +kernel
theorem dX9_areMeasures_4 : decode cX9_areMeasures 4 = .ok (.invokestatic 63, 3) := by decide +kernel
theorem dX9_areMeasures_7 : decode cX9_areMeasures 7 = .ok (.ifCond .eq 27, 3) := by decide +kernel
theorem dX9_areMeasures_10 : decode cX9_areMeasures 10 = .ok (.iload_n 1, 1) := by decide +kernel
theorem dX9_areMeasures_11 : decode cX9_areMeasures 11 = .ok (.iconst 0, 1) := by decide +kernel
theorem dX9_areMeasures_12 : decode cX9_areMeasures 12 = .ok (.bipush 60, 2) := by decide +kernel
theorem dX9_areMeasures_14 : decode cX9_areMeasures 14 = .ok (.invokestatic 63, 3) := by decide +kernel
theorem dX9_areMeasures_17 : decode cX9_areMeasures 17 = .ok (.ifCond .eq 17, 3) := by decide +kernel
theorem dX9_areMeasures_20 : decode cX9_areMeasures 20 = .ok (.iload_n 2, 1) := by decide +kernel
theorem dX9_areMeasures_21 : decode cX9_areMeasures 21 = .ok (.iconst 1, 1) := by decide +kernel
theorem dX9_areMeasures_22 : decode cX9_areMeasures 22 = .ok (.bipush 60, 2) := by decide +kernel
theorem dX9_areMeasures_24 : decode cX9_areMeasures 24 = .ok (.invokestatic 63, 3) := by decide +kernel
theorem dX9_areMeasures_27 : decode cX9_areMeasures 27 = .ok (.ifCond .eq 7, 3) := by decide +kernel
theorem dX9_areMeasures_30 : decode cX9_areMeasures 30 = .ok (.iconst 1, 1) := by decide +kernel
theorem dX9_areMeasures_31 : decode cX9_areMeasures 31 = .ok (.goto 4, 3) := by decide +kernel
theorem dX9_areMeasures_34 : decode cX9_areMeasures 34 = .ok (.iconst 0, 1) := by decide +kernel
theorem dX9_areMeasures_35 : decode cX9_areMeasures 35 = .ok (.ireturn, 1) := by decide +kernel
theorem dX9_mayBeAsked_0 : decode cX9_mayBeAsked 0 = .ok (.iload_n 0, 1) := by decide +kernel
theorem dX9_mayBeAsked_1 : decode cX9_mayBeAsked 1 = .ok (.iconst 0, 1) := by decide +kernel
theorem dX9_mayBeAsked_2 : decode cX9_mayBeAsked 2 = .ok (.iconst 3, 1) := by decide +kernel
theorem dX9_mayBeAsked_3 : decode cX9_mayBeAsked 3 = .ok (.invokestatic 63, 3) := by decide +kernel
theorem dX9_mayBeAsked_6 : decode cX9_mayBeAsked 6 = .ok (.ifCond .eq 24, 3) := by decide +kernel
theorem dX9_mayBeAsked_9 : decode cX9_mayBeAsked 9 = .ok (.iload_n 1, 1) := by decide +kernel
theorem dX9_mayBeAsked_10 : decode cX9_mayBeAsked 10 = .ok (.getstatic 407, 3) := by decide +kernel
theorem dX9_mayBeAsked_13 : decode cX9_mayBeAsked 13 = .ok (.iload_n 0, 1) := by decide +kernel
theorem dX9_mayBeAsked_14 : decode cX9_mayBeAsked 14 = .ok (.iaload, 1) := by decide +kernel
theorem dX9_mayBeAsked_15 : decode cX9_mayBeAsked 15 = .ok (.getstatic 410, 3) := by decide +kernel
theorem dX9_mayBeAsked_18 : decode cX9_mayBeAsked 18 = .ok (.iload_n 0, 1) := by decide +kernel
theorem dX9_mayBeAsked_19 : decode cX9_mayBeAsked 19 = .ok (.iaload, 1) := by decide +kernel
theorem dX9_mayBeAsked_20 : decode cX9_mayBeAsked 20 = .ok (.invokestatic 63, 3) := by decide +kernel
theorem dX9_mayBeAsked_23 : decode cX9_mayBeAsked 23 = .ok (.ifCond .eq 7, 3) := by decide +kernel
theorem dX9_mayBeAsked_26 : decode cX9_mayBeAsked 26 = .ok (.iconst 1, 1) := by decide +kernel
theorem dX9_mayBeAsked_27 : decode cX9_mayBeAsked 27 = .ok (.goto 4, 3) := by decide +kernel
theorem dX9_mayBeAsked_30 : decode cX9_mayBeAsked 30 = .ok (.iconst 0, 1) := by decide +kernel
theorem dX9_mayBeAsked_31 : decode cX9_mayBeAsked 31 = .ok (.ireturn, 1) := by decide +kernel
theorem dX9_kindAbove_0 : decode cX9_kindAbove 0 = .ok (.iload_n 0, 1) := by decide +kernel
theorem dX9_kindAbove_1 : decode cX9_kindAbove 1 = .ok (.iconst 0, 1) := by decide +kernel
theorem dX9_kindAbove_2 : decode cX9_kindAbove 2 = .ok (.bipush 6, 2) := by decide +kernel
theorem dX9_kindAbove_4 : decode cX9_kindAbove 4 = .ok (.invokestatic 63, 3) := by decide +kernel
theorem dX9_kindAbove_7 : decode cX9_kindAbove 7 = .ok (.ifCond .eq 11, 3) := by decide +kernel
theorem dX9_kindAbove_10 : decode cX9_kindAbove 10 = .ok (.getstatic 413, 3) := by decide +kernel
theorem dX9_kindAbove_13 : decode cX9_kindAbove 13 = .ok (.iload_n 0, 1) := by decide +kernel
theorem dX9_kindAbove_14 : decode cX9_kindAbove 14 = .ok (.iaload, 1) := by decide +kernel
theorem dX9_kindAbove_15 : decode cX9_kindAbove 15 = .ok (.goto 4, 3) := by decide +kernel
theorem dX9_kindAbove_18 : decode cX9_kindAbove 18 = .ok (.iconst (-1), 1) := by decide +kernel
theorem dX9_kindAbove_19 : decode cX9_kindAbove 19 = .ok (.ireturn, 1) := by decide +kernel
theorem dX9_isKindUnder_0 : decode cX9_isKindUnder 0 = .ok (.iload_n 0, 1) := by decide +kernel
theorem dX9_isKindUnder_1 : decode cX9_isKindUnder 1 = .ok (.istore_n 2, 1) := by decide +kernel
theorem dX9_isKindUnder_2 : decode cX9_isKindUnder 2 = .ok (.iconst 0, 1) := by decide +kernel
theorem dX9_isKindUnder_3 : decode cX9_isKindUnder 3 = .ok (.istore_n 3, 1) := by decide +kernel
theorem dX9_isKindUnder_4 : decode cX9_isKindUnder 4 = .ok (.iload_n 3, 1) := by decide +kernel
theorem dX9_isKindUnder_5 : decode cX9_isKindUnder 5 = .ok (.bipush 7, 2) := by decide +kernel
theorem dX9_isKindUnder_7 : decode cX9_isKindUnder 7 = .ok (.if_icmp .ge 26, 3) := by decide +kernel
theorem dX9_isKindUnder_10 : decode cX9_isKindUnder 10 = .ok (.iload_n 2, 1) := by decide +kernel
theorem dX9_isKindUnder_11 : decode cX9_isKindUnder 11 = .ok (.iconst (-1), 1) := by decide +kernel
theorem dX9_isKindUnder_12 : decode cX9_isKindUnder 12 = .ok (.if_icmp .eq 21, 3) := by decide +kernel
theorem dX9_isKindUnder_15 : decode cX9_isKindUnder 15 = .ok (.iload_n 2, 1) := by decide +kernel
theorem dX9_isKindUnder_16 : decode cX9_isKindUnder 16 = .ok (.iload_n 1, 1) := by decide +kernel
theorem dX9_isKindUnder_17 : decode cX9_isKindUnder 17 = .ok (.if_icmp .ne 5, 3) := by decide +kernel
theorem dX9_isKindUnder_20 : decode cX9_isKindUnder 20 = .ok (.iconst 1, 1) := by decide +kernel
theorem dX9_isKindUnder_21 : decode cX9_isKindUnder 21 = .ok (.ireturn, 1) := by decide +kernel
theorem dX9_isKindUnder_22 : decode cX9_isKindUnder 22 = .ok (.iload_n 2, 1) := by decide +kernel
theorem dX9_isKindUnder_23 : decode cX9_isKindUnder 23 = .ok (.invokestatic 416, 3) := by decide +kernel
theorem dX9_isKindUnder_26 : decode cX9_isKindUnder 26 = .ok (.istore_n 2, 1) := by decide +kernel
theorem dX9_isKindUnder_27 : decode cX9_isKindUnder 27 = .ok (.iinc 3 1, 3) := by decide +kernel
theorem dX9_isKindUnder_30 : decode cX9_isKindUnder 30 = .ok (.goto (-26), 3) := by decide +kernel
theorem dX9_isKindUnder_33 : decode cX9_isKindUnder 33 = .ok (.iconst 0, 1) := by decide +kernel
theorem dX9_isKindUnder_34 : decode cX9_isKindUnder 34 = .ok (.ireturn, 1) := by decide +kernel
theorem dX9_isOfTwoSpaces_0 : decode cX9_isOfTwoSpaces 0 = .ok (.iload_n 0, 1) := by decide +kernel
theorem dX9_isOfTwoSpaces_1 : decode cX9_isOfTwoSpaces 1 = .ok (.iconst 2, 1) := by decide +kernel
theorem dX9_isOfTwoSpaces_2 : decode cX9_isOfTwoSpaces 2 = .ok (.if_icmp .eq 8, 3) := by decide +kernel
theorem dX9_isOfTwoSpaces_5 : decode cX9_isOfTwoSpaces 5 = .ok (.iload_n 0, 1) := by decide +kernel
theorem dX9_isOfTwoSpaces_6 : decode cX9_isOfTwoSpaces 6 = .ok (.iconst 5, 1) := by decide +kernel
theorem dX9_isOfTwoSpaces_7 : decode cX9_isOfTwoSpaces 7 = .ok (.if_icmp .ne 7, 3) := by decide +kernel
theorem dX9_isOfTwoSpaces_10 : decode cX9_isOfTwoSpaces 10 = .ok (.iconst 1, 1) := by decide +kernel
theorem dX9_isOfTwoSpaces_11 : decode cX9_isOfTwoSpaces 11 = .ok (.goto 4, 3) := by decide +kernel
theorem dX9_isOfTwoSpaces_14 : decode cX9_isOfTwoSpaces 14 = .ok (.iconst 0, 1) := by decide +kernel
theorem dX9_isOfTwoSpaces_15 : decode cX9_isOfTwoSpaces 15 = .ok (.ireturn, 1) := by decide +kernel
theorem dX9_quotient_0 : decode cX9_quotient 0 = .ok (.iload_n 1, 1) := by decide +kernel
theorem dX9_quotient_1 : decode cX9_quotient 1 = .ok (.ifCond .ne 7, 3) := by decide +kernel
theorem dX9_quotient_4 : decode cX9_quotient 4 = .ok (.iconst 0, 1) := by decide +kernel
theorem dX9_quotient_5 : decode cX9_quotient 5 = .ok (.goto 6, 3) := by decide +kernel
theorem dX9_quotient_8 : decode cX9_quotient 8 = .ok (.iload_n 0, 1) := by decide +kernel
theorem dX9_quotient_9 : decode cX9_quotient 9 = .ok (.iload_n 1, 1) := by decide +kernel
theorem dX9_quotient_10 : decode cX9_quotient 10 = .ok (.idiv, 1) := by decide +kernel
theorem dX9_quotient_11 : decode cX9_quotient 11 = .ok (.ireturn, 1) := by decide +kernel
theorem dX9_quotient__0 : decode cX9_quotient_ 0 = .ok (.lload_n 2, 1) := by decide +kernel
theorem dX9_quotient__1 : decode cX9_quotient_ 1 = .ok (.lconst 0, 1) := by decide +kernel
theorem dX9_quotient__2 : decode cX9_quotient_ 2 = .ok (.lcmp, 1) := by decide +kernel
theorem dX9_quotient__3 : decode cX9_quotient_ 3 = .ok (.ifCond .ne 7, 3) := by decide +kernel
theorem dX9_quotient__6 : decode cX9_quotient_ 6 = .ok (.lconst 0, 1) := by decide +kernel
theorem dX9_quotient__7 : decode cX9_quotient_ 7 = .ok (.goto 6, 3) := by decide +kernel
theorem dX9_quotient__10 : decode cX9_quotient_ 10 = .ok (.lload_n 0, 1) := by decide +kernel
theorem dX9_quotient__11 : decode cX9_quotient_ 11 = .ok (.lload_n 2, 1) := by decide +kernel
theorem dX9_quotient__12 : decode cX9_quotient_ 12 = .ok (.ldiv, 1) := by decide +kernel
theorem dX9_quotient__13 : decode cX9_quotient_ 13 = .ok (.lreturn, 1) := by decide +kernel
theorem dX9_humBy_0 : decode cX9_humBy 0 = .ok (.sipush 704, 3) := by decide +kernel
theorem dX9_humBy_3 : decode cX9_humBy 3 = .ok (.iload_n 1, 1) := by decide +kernel
theorem dX9_humBy_4 : decode cX9_humBy 4 = .ok (.imul, 1) := by decide +kernel
theorem dX9_humBy_5 : decode cX9_humBy 5 = .ok (.iload_n 0, 1) := by decide +kernel
theorem dX9_humBy_6 : decode cX9_humBy 6 = .ok (.invokestatic 354, 3) := by decide +kernel
theorem dX9_humBy_9 : decode cX9_humBy 9 = .ok (.ireturn, 1) := by decide +kernel
theorem dX9_offBetween_0 : decode cX9_offBetween 0 = .ok (.iload_n 1, 1) := by decide +kernel
theorem dX9_offBetween_1 : decode cX9_offBetween 1 = .ok (.ifCond .ne 15, 3) := by decide +kernel
theorem dX9_offBetween_4 : decode cX9_offBetween 4 = .ok (.iload_n 0, 1) := by decide +kernel
theorem dX9_offBetween_5 : decode cX9_offBetween 5 = .ok (.ifCond .ne 7, 3) := by decide +kernel
theorem dX9_offBetween_8 : decode cX9_offBetween 8 = .ok (.iconst 0, 1) := by decide +kernel
theorem dX9_offBetween_9 : decode cX9_offBetween 9 = .ok (.goto 6, 3) := by decide +kernel
theorem dX9_offBetween_12 : decode cX9_offBetween 12 = .ok (.sipush 999, 3) := by decide +kernel
theorem dX9_offBetween_15 : decode cX9_offBetween 15 = .ok (.ireturn, 1) := by decide +kernel
theorem dX9_offBetween_16 : decode cX9_offBetween 16 = .ok (.iload_n 0, 1) := by decide +kernel
theorem dX9_offBetween_17 : decode cX9_offBetween 17 = .ok (.ifCond .ne 7, 3) := by decide +kernel
theorem dX9_offBetween_20 : decode cX9_offBetween 20 = .ok (.sipush 999, 3) := by decide +kernel
theorem dX9_offBetween_23 : decode cX9_offBetween 23 = .ok (.ireturn, 1) := by decide +kernel
theorem dX9_offBetween_24 : decode cX9_offBetween 24 = .ok (.sipush 999, 3) := by decide +kernel
theorem dX9_offBetween_27 : decode cX9_offBetween 27 = .ok (.iload_n 0, 1) := by decide +kernel
theorem dX9_offBetween_28 : decode cX9_offBetween 28 = .ok (.iload_n 1, 1) := by decide +kernel
theorem dX9_offBetween_29 : decode cX9_offBetween 29 = .ok (.isub, 1) := by decide +kernel
theorem dX9_offBetween_30 : decode cX9_offBetween 30 = .ok (.invokestatic 365, 3) := by decide +kernel
theorem dX9_offBetween_33 : decode cX9_offBetween 33 = .ok (.sipush 1000, 3) := by decide +kernel
theorem dX9_offBetween_36 : decode cX9_offBetween 36 = .ok (.imul, 1) := by decide +kernel
theorem dX9_offBetween_37 : decode cX9_offBetween 37 = .ok (.iload_n 1, 1) := by decide +kernel
theorem dX9_offBetween_38 : decode cX9_offBetween 38 = .ok (.invokestatic 354, 3) := by decide +kernel
theorem dX9_offBetween_41 : decode cX9_offBetween 41 = .ok (.invokestatic 419, 3) := by decide +kernel
theorem dX9_offBetween_44 : decode cX9_offBetween 44 = .ok (.ireturn, 1) := by decide +kernel
