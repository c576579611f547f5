theorem dX11_init_150 : decode cX11_init 150 = .ok (.invokevirtual 61, 3) := by decide +kernel
theorem dX11_init_153 : decode cX11_init 153 = .ok (.aload_n 0, 1) := by decide +kernel
theorem dX11_init_154 : decode cX11_init 154 = .ok (.iconst 0, 1) := by decide +kernel
theorem dX11_init_155 : decode cX11_init 155 = .ok (.iconst 1, 1) := by decide +kernel
theorem dX11_init_156 : decode cX11_init 156 = .ok (.iconst 2, 1) := by decide +kernel
theorem dX11_init_157 : decode cX11_init 157 = .ok (.invokevirtual 61, 3) := by decide +kernel
theorem dX11_init_160 : decode cX11_init 160 = .ok (.aload_n 0, 1) := by decide +kernel
theorem dX11_init_161 : decode cX11_init 161 = .ok (.iconst 0, 1) := by decide +kernel
theorem dX11_init_162 : decode cX11_init 162 = .ok (.iconst 2, 1) := by decide +kernel
theorem dX11_init_163 : decode cX11_init 163 = .ok (.iconst 3, 1) := by decide +kernel
theorem dX11_init_164 : decode cX11_init 164 = .ok (.invokevirtual 61, 3) := by decide +kernel
theorem dX11_init_167 : decode cX11_init 167 = .ok (.aload_n 0, 1) := by decide +kernel
theorem dX11_init_168 : decode cX11_init 168 = .ok (.getfield 7, 3) := by decide +kernel
theorem dX11_init_171 : decode cX11_init 171 = .ok (.iconst 1, 1) := by decide +kernel
theorem dX11_init_172 : decode cX11_init 172 = .ok (.iconst 2, 1) := by decide +kernel
theorem dX11_init_173 : decode cX11_init 173 = .ok (.iastore, 1) := by decide +kernel
theorem dX11_init_174 : decode cX11_init 174 = .ok (.aload_n 0, 1) := by decide +kernel
theorem dX11_init_175 : decode cX11_init 175 = .ok (.getfield 7, 3) := by decide +kernel
theorem dX11_init_178 : decode cX11_init 178 = .ok (.bipush 12, 2) := by decide +kernel
theorem dX11_init_180 : decode cX11_init 180 = .ok (.iconst 1, 1) := by decide +kernel
theorem dX11_init_181 : decode cX11_init 181 = .ok (.iastore, 1) := by decide +kernel
theorem dX11_init_182 : decode cX11_init 182 = .ok (.aload_n 0, 1) := by decide +kernel
theorem dX11_init_183 : decode cX11_init 183 = .ok (.getfield 7, 3) := by decide +kernel
theorem dX11_init_186 : decode cX11_init 186 = .ok (.bipush 13, 2) := by decide +kernel
theorem dX11_init_188 : decode cX11_init 188 = .ok (.iconst 2, 1) := by decide +kernel
theorem dX11_init_189 : decode cX11_init 189 = .ok (.iastore, 1) := by decide +kernel
theorem dX11_init_190 : decode cX11_init 190 = .ok (.aload_n 0, 1) := by decide +kernel
theorem dX11_init_191 : decode cX11_init 191 = .ok (.getfield 7, 3) := by decide +kernel
theorem dX11_init_194 : decode cX11_init 194 = .ok (.bipush 17, 2) := by decide +kernel
theorem dX11_init_196 : decode cX11_init 196 = .ok (.iconst 4, 1) := by decide +kernel
theorem dX11_init_197 : decode cX11_init 197 = .ok (.iastore, 1) := by decide +kernel
theorem dX11_init_198 : decode cX11_init 198 = .ok (.aload_n 0, 1) := by decide +kernel
theorem dX11_init_199 : decode cX11_init 199 = .ok (.getfield 7, 3) := by decide +kernel
theorem dX11_init_202 : decode cX11_init 202 = .ok (.bipush 18, 2) := by decide +kernel
theorem dX11_init_204 : decode cX11_init 204 = .ok (.iconst 1, 1) := by decide +kernel
theorem dX11_init_205 : decode cX11_init 205 = .ok (.iastore, 1) := by decide +kernel
theorem dX11_init_206 : decode cX11_init 206 = .ok (.iconst 0, 1) := by decide +kernel
theorem dX11_init_207 : decode cX11_init 207 = .ok (.istore_n 1, 1) := by decide +kernel
theorem dX11_init_208 : decode cX11_init 208 = .ok (.iload_n 1, 1) := by decide +kernel
theorem dX11_init_209 : decode cX11_init 209 = .ok (.iconst 4, 1) := by decide +kernel
theorem dX11_init_210 : decode cX11_init 210 = .ok (.if_icmp .ge 19, 3) := by decide +kernel
theorem dX11_init_213 : decode cX11_init 213 = .ok (.aload_n 0, 1) := by decide +kernel
theorem dX11_init_214 : decode cX11_init 214 = .ok (.getfield 7, 3) := by decide +kernel
theorem dX11_init_217 : decode cX11_init 217 = .ok (.bipush 22, 2) := by decide +kernel
theorem dX11_init_219 : decode cX11_init 219 = .ok (.iload_n 1, 1) := by decide +kernel
theorem dX11_init_220 : decode cX11_init 220 = .ok (.iadd, 1) := by decide +kernel
theorem dX11_init_221 : decode cX11_init 221 = .ok (.iload_n 1, 1) := by decide +kernel
theorem dX11_init_222 : decode cX11_init 222 = .ok (.iastore, 1) := by decide +kernel
theorem dX11_init_223 : decode cX11_init 223 = .ok (.iinc 1 1, 3) := by decide +kernel
theorem dX11_init_226 : decode cX11_init 226 = .ok (.goto (-18), 3) := by decide +kernel
theorem dX11_init_229 : decode cX11_init 229 = .ok (.aload_n 0, 1) := by decide +kernel
theorem dX11_init_230 : decode cX11_init 230 = .ok (.getfield 7, 3) := by decide +kernel
theorem dX11_init_233 : decode cX11_init 233 = .ok (.bipush 34, 2) := by decide +kernel
theorem dX11_init_235 : decode cX11_init 235 = .ok (.iconst 3, 1) := by decide +kernel
theorem dX11_init_236 : decode cX11_init 236 = .ok (.iastore, 1) := by decide +kernel
theorem dX11_init_237 : decode cX11_init 237 = .ok (.aload_n 0, 1) := by decide +kernel
theorem dX11_init_238 : decode cX11_init 238 = .ok (.invokevirtual 65, 3) := by decide +kernel
theorem dX11_init_241 : decode cX11_init 241 = .ok (.return_, 1) := by decide +kernel
theorem dX11_in_0 : decode cX11_in 0 = .ok (.iload_n 0, 1) := by decide +kernel
theorem dX11_in_1 : decode cX11_in 1 = .ok (.iload_n 1, 1) := by decide +kernel
theorem dX11_in_2 : decode cX11_in 2 = .ok (.if_icmp .lt 12, 3) := by decide +kernel
theorem dX11_in_5 : decode cX11_in 5 = .ok (.iload_n 0, 1) := by decide +kernel
theorem dX11_in_6 : decode cX11_in 6 = .ok (.iload_n 2, 1) := by decide +kernel
theorem dX11_in_7 : decode cX11_in 7 = .ok (.if_icmp .gt 7, 3) := by decide +kernel
theorem dX11_in_10 : decode cX11_in 10 = .ok (.iconst 1, 1) := by decide +kernel
theorem dX11_in_11 : decode cX11_in 11 = .ok (.goto 4, 3) := by decide +kernel
theorem dX11_in_14 : decode cX11_in 14 = .ok (.iconst 0, 1) := by decide +kernel
theorem dX11_in_15 : decode cX11_in 15 = .ok (.ireturn, 1) := by decide +kernel
theorem dX11_link_0 : decode cX11_link 0 = .ok (.aload_n 0, 1) := by decide +kernel
theorem dX11_link_1 : decode cX11_link 1 = .ok (.getfield 7, 3) := by decide +kernel
theorem dX11_link_4 : decode cX11_link 4 = .ok (.iload_n 1, 1) := by decide +kernel
theorem dX11_link_5 : decode cX11_link 5 = .ok (.iconst 4, 1) := by decide +kernel
theorem dX11_link_6 : decode cX11_link 6 = .ok (.iadd, 1) := by decide +kernel
theorem dX11_link_7 : decode cX11_link 7 = .ok (.iload_n 2, 1) := by decide +kernel
theorem dX11_link_8 : decode cX11_link 8 = .ok (.iadd, 1) := by decide +kernel
theorem dX11_link_9 : decode cX11_link 9 = .ok (.dup2, 1) := by decide +kernel
theorem dX11_link_10 : decode cX11_link 10 = .ok (.iaload, 1) := by decide +kernel
theorem dX11_link_11 : decode cX11_link 11 = .ok (.iconst 1, 1) := by decide +kernel
theorem dX11_link_12 : decode cX11_link 12 = .ok (.iload_n 3, 1) := by decide +kernel
theorem dX11_link_13 : decode cX11_link 13 = .ok (.ishl, 1) := by decide +kernel
theorem dX11_link_14 : decode cX11_link 14 = .ok (.ior, 1) := by decide +kernel
theorem dX11_link_15 : decode cX11_link 15 = .ok (.iastore, 1) := by decide +kernel
theorem dX11_link_16 : decode cX11_link 16 = .ok (.aload_n 0, 1) := by decide +kernel
theorem dX11_link_17 : decode cX11_link 17 = .ok (.getfield 7, 3) := by decide +kernel
theorem dX11_link_20 : decode cX11_link 20 = .ok (.iload_n 1, 1) := by decide +kernel
theorem dX11_link_21 : decode cX11_link 21 = .ok (.iconst 4, 1) := by decide +kernel
theorem dX11_link_22 : decode cX11_link 22 = .ok (.iadd, 1) := by decide +kernel
theorem dX11_link_23 : decode cX11_link 23 = .ok (.iload_n 3, 1) := by decide +kernel
theorem dX11_link_24 : decode cX11_link 24 = .ok (.iadd, 1) := by decide +kernel
theorem dX11_link_25 : decode cX11_link 25 = .ok (.dup2, 1) := by decide +kernel
theorem dX11_link_26 : decode cX11_link 26 = .ok (.iaload, 1) := by decide +kernel
theorem dX11_link_27 : decode cX11_link 27 = .ok (.iconst 1, 1) := by decide +kernel
theorem dX11_link_28 : decode cX11_link 28 = .ok (.iload_n 2, 1) := by decide +kernel
theorem dX11_link_29 : decode cX11_link 29 = .ok (.ishl, 1) := by decide +kernel
theorem dX11_link_30 : decode cX11_link 30 = .ok (.ior, 1) := by decide +kernel
theorem dX11_link_31 : decode cX11_link 31 = .ok (.iastore, 1) := by decide +kernel
theorem dX11_link_32 : decode cX11_link 32 = .ok (.return_, 1) := by decide +kernel
theorem dX11_write_0 : decode cX11_write 0 = .ok (.iload_n 1, 1) := by decide +kernel
theorem dX11_write_1 : decode cX11_write 1 = .ok (.iconst 1, 1) := by decide +kernel
theorem dX11_write_2 : decode cX11_write 2 = .ok (.bipush 8, 2) := by decide +kernel
theorem dX11_write_4 : decode cX11_write 4 = .ok (.invokestatic 68, 3) := by decide +kernel
theorem dX11_write_7 : decode cX11_write 7 = .ok (.ifCond .ne 5, 3) := by decide +kernel
theorem dX11_write_10 : decode cX11_write 10 = .ok (.iconst (-1), 1) := by decide +kernel
theorem dX11_write_11 : decode cX11_write 11 = .ok (.ireturn, 1) := by decide +kernel
theorem dX11_write_12 : decode cX11_write 12 = .ok (.aload_n 0, 1) := by decide +kernel
theorem dX11_write_13 : decode cX11_write 13 = .ok (.getfield 72, 3) := by decide +kernel
theorem dX11_write_16 : decode cX11_write 16 = .ok (.iload_n 1, 1) := by decide +kernel
theorem dX11_write_17 : decode cX11_write 17 = .ok (.iadd, 1) := by decide +kernel
theorem dX11_write_18 : decode cX11_write 18 = .ok (.sipush 300, 3) := by decide +kernel
theorem dX11_write_21 : decode cX11_write 21 = .ok (.if_icmp .le 6, 3) := by decide +kernel
theorem dX11_write_24 : decode cX11_write 24 = .ok (.bipush (-3), 2) := by decide +kernel
theorem dX11_write_26 : decode cX11_write 26 = .ok (.ireturn, 1) := by decide +kernel
theorem dX11_write_27 : decode cX11_write 27 = .ok (.iload_n 1, 1) := by decide +kernel
theorem dX11_write_28 : decode cX11_write 28 = .ok (.iconst 1, 1) := by decide +kernel
theorem dX11_write_29 : decode cX11_write 29 = .ok (.isub, 1) := by decide +kernel
theorem dX11_write_30 : decode cX11_write 30 = .ok (.istore 4, 2) := by decide +kernel
theorem dX11_write_32 : decode cX11_write 32 = .ok (.iload 4, 2) := by decide +kernel
theorem dX11_write_34 : decode cX11_write 34 = .ok (.ifCond .lt 41, 3) := by decide +kernel
theorem dX11_write_37 : decode cX11_write 37 = .ok (.aload_n 0, 1) := by decide +kernel
theorem dX11_write_38 : decode cX11_write 38 = .ok (.getfield 16, 3) := by decide +kernel
theorem dX11_write_41 : decode cX11_write 41 = .ok (.aload_n 0, 1) := by decide +kernel
theorem dX11_write_42 : decode cX11_write 42 = .ok (.getfield 72, 3) := by decide +kernel
theorem dX11_write_45 : decode cX11_write 45 = .ok (.lload_n 2, 1) := by decide +kernel
theorem dX11_write_46 : decode cX11_write 46 = .ok (.bipush 8, 2) := by decide +kernel
theorem dX11_write_48 : decode cX11_write 48 = .ok (.iload 4, 2) := by decide +kernel
theorem dX11_write_50 : decode cX11_write 50 = .ok (.imul, 1) := by decide +kernel
theorem dX11_write_51 : decode cX11_write 51 = .ok (.lshr, 1) := by decide +kernel
theorem dX11_write_52 : decode cX11_write 52 = .ok (.ldc2_w 76, 3) := by decide +kernel
theorem dX11_write_55 : decode cX11_write 55 = .ok (.land, 1) := by decide +kernel
theorem dX11_write_56 : decode cX11_write 56 = .ok (.l2i, 1) := by decide +kernel
theorem dX11_write_57 : decode cX11_write 57 = .ok (.i2b, 1) := by decide +kernel
theorem dX11_write_58 : decode cX11_write 58 = .ok (.bastore, 1) := by decide +kernel
theorem dX11_write_59 : decode cX11_write 59 = .ok (.aload_n 0, 1) := by decide +kernel
theorem dX11_write_60 : decode cX11_write 60 = .ok (.dup, 1) := by decide +kernel
theorem dX11_write_61 : decode cX11_write 61 = .ok (.getfield 72, 3) := by decide +kernel
theorem dX11_write_64 : decode cX11_write 64 = .ok (.iconst 1, 1) := by decide +kernel
theorem dX11_write_65 : decode cX11_write 65 = .ok (.iadd, 1) := by decide +kernel
theorem dX11_write_66 : decode cX11_write 66 = .ok (.putfield 72, 3) := by decide +kernel
theorem dX11_write_69 : decode cX11_write 69 = .ok (.iinc 4 (-1), 3) := by decide +kernel
theorem dX11_write_72 : decode cX11_write 72 = .ok (.goto (-40), 3) := by decide +kernel
theorem dX11_write_75 : decode cX11_write 75 = .ok (.aload_n 0, 1) := by decide +kernel
theorem dX11_write_76 : decode cX11_write 76 = .ok (.getfield 72, 3) := by decide +kernel
theorem dX11_write_79 : decode cX11_write 79 = .ok (.ireturn, 1) := by decide +kernel
theorem dX11_wipe_0 : decode cX11_wipe 0 = .ok (.aload_n 0, 1) := by decide +kernel
theorem dX11_wipe_1 : decode cX11_wipe 1 = .ok (.getfield 72, 3) := by decide +kernel
theorem dX11_wipe_4 : decode cX11_wipe 4 = .ok (.istore_n 1, 1) := by decide +kernel
theorem dX11_wipe_5 : decode cX11_wipe 5 = .ok (.aload_n 0, 1) := by decide +kernel
theorem dX11_wipe_6 : decode cX11_wipe 6 = .ok (.iconst 0, 1) := by decide +kernel
theorem dX11_wipe_7 : decode cX11_wipe 7 = .ok (.putfield 72, 3) := by decide +kernel
theorem dX11_wipe_10 : decode cX11_wipe 10 = .ok (.iload_n 1, 1) := by decide +kernel
theorem dX11_wipe_11 : decode cX11_wipe 11 = .ok (.ireturn, 1) := by decide +kernel
theorem dX11_here_0 : decode cX11_here 0 = .ok (.aload_n 0, 1) := by decide +kernel
theorem dX11_here_1 : decode cX11_here 1 = .ok (.getfield 78, 3) := by decide +kernel
theorem dX11_here_4 : decode cX11_here 4 = .ok (.aload_n 0, 1) := by decide +kernel
theorem dX11_here_5 : decode cX11_here 5 = .ok (.getfield 72, 3) := by decide +kernel
theorem dX11_here_8 : decode cX11_here 8 = .ok (.if_icmp .ge 19, 3) := by decide +kernel
theorem dX11_here_11 : decode cX11_here 11 = .ok (.aload_n 0, 1) := by decide +kernel
theorem dX11_here_12 : decode cX11_here 12 = .ok (.getfield 16, 3) := by decide +kernel
theorem dX11_here_15 : decode cX11_here 15 = .ok (.aload_n 0, 1) := by decide +kernel
theorem dX11_here_16 : decode cX11_here 16 = .ok (.getfield 78, 3) := by decide +kernel
theorem dX11_here_19 : decode cX11_here 19 = .ok (.baload, 1) := by decide +kernel
theorem dX11_here_20 : decode cX11_here 20 = .ok (.sipush 255, 3) := by decide +kernel
theorem dX11_here_23 : decode cX11_here 23 = .ok (.iand, 1) := by decide +kernel
theorem dX11_here_24 : decode cX11_here 24 = .ok (.goto 4, 3) := by decide +kernel
theorem dX11_here_27 : decode cX11_here 27 = .ok (.iconst (-1), 1) := by decide +kernel
theorem dX11_here_28 : decode cX11_here 28 = .ok (.ireturn, 1) := by decide +kernel
theorem dX11_number_0 : decode cX11_number 0 = .ok (.iconst 0, 1) := by decide +kernel
theorem dX11_number_1 : decode cX11_number 1 = .ok (.istore_n 3, 1) := by decide +kernel
theorem dX11_number_2 : decode cX11_number 2 = .ok (.iconst 0, 1) := by decide +kernel
theorem dX11_number_3 : decode cX11_number 3 = .ok (.istore 4, 2) := by decide +kernel
theorem dX11_number_5 : decode cX11_number 5 = .ok (.iload 4, 2) := by decide +kernel
theorem dX11_number_7 : decode cX11_number 7 = .ok (.iconst 2, 1) := by decide +kernel
theorem dX11_number_8 : decode cX11_number 8 = .ok (.if_icmp .ge 46, 3) := by decide +kernel
theorem dX11_number_11 : decode cX11_number 11 = .ok (.aload_n 0, 1) := by decide +kernel
theorem dX11_number_12 : decode cX11_number 12 = .ok (.invokevirtual 81, 3) := by decide +kernel
theorem dX11_number_15 : decode cX11_number 15 = .ok (.bipush 48, 2) := by decide +kernel
theorem dX11_number_17 : decode cX11_number 17 = .ok (.bipush 57, 2) := by decide +kernel
theorem dX11_number_19 : decode cX11_number 19 = .ok (.invokestatic 68, 3) := by decide +kernel
theorem dX11_number_22 : decode cX11_number 22 = .ok (.ifCond .eq 32, 3) := by decide +kernel
theorem dX11_number_25 : decode cX11_number 25 = .ok (.bipush 10, 2) := by decide +kernel
theorem dX11_number_27 : decode cX11_number 27 = .ok (.iload_n 3, 1) := by decide +kernel
theorem dX11_number_28 : decode cX11_number 28 = .ok (.imul, 1) := by decide +kernel
theorem dX11_number_29 : decode cX11_number 29 = .ok (.aload_n 0, 1) := by decide +kernel
theorem dX11_number_30 : decode cX11_number 30 = .ok (.invokevirtual 81, 3) := by decide +kernel
theorem dX11_number_33 : decode cX11_number 33 = .ok (.iadd, 1) := by decide +kernel
theorem dX11_number_34 : decode cX11_number 34 = .ok (.bipush 48, 2) := by decide +kernel
theorem dX11_number_36 : decode cX11_number 36 = .ok (.isub, 1) := by decide +kernel
theorem dX11_number_37 : decode cX11_number 37 = .ok (.istore_n 3, 1) := by decide +kernel
theorem dX11_number_38 : decode cX11_number 38 = .ok (.aload_n 0, 1) := by decide +kernel
theorem dX11_number_39 : decode cX11_number 39 = .ok (.dup, 1) := by decide +kernel
theorem dX11_number_40 : decode cX11_number 40 = .ok (.getfield 78, 3) := by decide +kernel
theorem dX11_number_43 : decode cX11_number 43 = .ok (.iconst 1, 1) := by decide +kernel
theorem dX11_number_44 : decode cX11_number 44 = .ok (.iadd, 1) := by decide +kernel
theorem dX11_number_45 : decode cX11_number 45 = .ok (.putfield 78, 3) := by decide +kernel
theorem dX11_number_48 : decode cX11_number 48 = .ok (.iinc 4 1, 3) := by decide +kernel
theorem dX11_number_51 : decode cX11_number 51 = .ok (.goto (-46), 3) := by decide +kernel
theorem dX11_number_54 : decode cX11_number 54 = .ok (.aload_n 0, 1) := by decide +kernel
theorem dX11_number_55 : decode cX11_number 55 = .ok (.aload_n 0, 1) := by decide +kernel
theorem dX11_number_56 : decode cX11_number 56 = .ok (.getfield 85, 3) := by decide +kernel
theorem dX11_number_59 : decode cX11_number 59 = .ok (.ifCond .ne 17, 3) := by decide +kernel
theorem dX11_number_62 : decode cX11_number 62 = .ok (.iload 4, 2) := by decide +kernel
theorem dX11_number_64 : decode cX11_number 64 = .ok (.ifCond .eq 12, 3) := by decide +kernel
theorem dX11_number_67 : decode cX11_number 67 = .ok (.iload_n 3, 1) := by decide +kernel
theorem dX11_number_68 : decode cX11_number 68 = .ok (.iload_n 1, 1) := by decide +kernel
theorem dX11_number_69 : decode cX11_number 69 = .ok (.iload_n 2, 1) := by decide +kernel
theorem dX11_number_70 : decode cX11_number 70 = .ok (.invokestatic 68, 3) := by decide +kernel
theorem dX11_number_73 : decode cX11_number 73 = .ok (.ifCond .ne 7, 3) := by decide +kernel
theorem dX11_number_76 : decode cX11_number 76 = .ok (.iconst 1, 1) := by decide +kernel
theorem dX11_number_77 : decode cX11_number 77 = .ok (.goto 4, 3) := by decide +kernel
theorem dX11_number_80 : decode cX11_number 80 = .ok (.iconst 0, 1) := by decide +kernel
theorem dX11_number_81 : decode cX11_number 81 = .ok (.putfield 85, 3) := by decide +kernel
theorem dX11_number_84 : decode cX11_number 84 = .ok (.iload_n 3, 1) := by decide +kernel
theorem dX11_number_85 : decode cX11_number 85 = .ok (.ireturn, 1) := by decide +kernel
theorem dX11_due_0 : decode cX11_due 0 = .ok (.aload_n 0, 1) := by decide +kernel
theorem dX11_due_1 : decode cX11_due 1 = .ok (.aload_n 0, 1) := by decide +kernel
theorem dX11_due_2 : decode cX11_due 2 = .ok (.getfield 85, 3) := by decide +kernel
theorem dX11_due_5 : decode cX11_due 5 = .ok (.ifCond .ne 11, 3) := by decide +kernel
theorem dX11_due_8 : decode cX11_due 8 = .ok (.aload_n 0, 1) := by decide +kernel
theorem dX11_due_9 : decode cX11_due 9 = .ok (.invokevirtual 81, 3) := by decide +kernel
theorem dX11_due_12 : decode cX11_due 12 = .ok (.iload_n 1, 1) := by decide +kernel
theorem dX11_due_13 : decode cX11_due 13 = .ok (.if_icmp .eq 7, 3) := by decide +kernel
theorem dX11_due_16 : decode cX11_due 16 = .ok (.iconst 1, 1) := by decide +kernel
theorem dX11_due_17 : decode cX11_due 17 = .ok (.goto 4, 3) := by decide +kernel
theorem dX11_due_20 : decode cX11_due 20 = .ok (.iconst 0, 1) := by decide +kernel
theorem dX11_due_21 : decode cX11_due 21 = .ok (.putfield 85, 3) := by decide +kernel
theorem dX11_due_24 : decode cX11_due 24 = .ok (.aload_n 0, 1) := by decide +kernel
theorem dX11_due_25 : decode cX11_due 25 = .ok (.dup, 1) := by decide +kernel
theorem dX11_due_26 : decode cX11_due 26 = .ok (.getfield 78, 3) := by decide +kernel
theorem dX11_due_29 : decode cX11_due 29 = .ok (.iconst 1, 1) := by decide +kernel
theorem dX11_due_30 : decode cX11_due 30 = .ok (.iadd, 1) := by decide +kernel
theorem dX11_due_31 : decode cX11_due 31 = .ok (.putfield 78, 3) := by decide +kernel
theorem dX11_due_34 : decode cX11_due 34 = .ok (.return_, 1) := by decide +kernel
theorem dX11_readWay_0 : decode cX11_readWay 0 = .ok (.aload_n 0, 1) := by decide +kernel
theorem dX11_readWay_1 : decode cX11_readWay 1 = .ok (.getfield 7, 3) := by decide +kernel
theorem dX11_readWay_4 : decode cX11_readWay 4 = .ok (.bipush 83, 2) := by decide +kernel
theorem dX11_readWay_6 : decode cX11_readWay 6 = .ok (.iaload, 1) := by decide +kernel
theorem dX11_readWay_7 : decode cX11_readWay 7 = .ok (.iconst 1, 1) := by decide +kernel
theorem dX11_readWay_8 : decode cX11_readWay 8 = .ok (.isub, 1) := by decide +kernel
theorem dX11_readWay_9 : decode cX11_readWay 9 = .ok (.istore_n 1, 1) := by decide +kernel
theorem dX11_readWay_10 : decode cX11_readWay 10 = .ok (.iconst 0, 1) := by decide +kernel
theorem dX11_readWay_11 : decode cX11_readWay 11 = .ok (.istore_n 2, 1) := by decide +kernel
theorem dX11_readWay_12 : decode cX11_readWay 12 = .ok (.iload_n 2, 1) := by decide +kernel
theorem dX11_readWay_13 : decode cX11_readWay 13 = .ok (.bipush 12, 2) := by decide +kernel
theorem dX11_readWay_15 : decode cX11_readWay 15 = .ok (.if_icmp .ge 58, 3) := by decide +kernel
theorem dX11_readWay_18 : decode cX11_readWay 18 = .ok (.aload_n 0, 1) := by decide +kernel
theorem dX11_readWay_19 : decode cX11_readWay 19 = .ok (.invokevirtual 81, 3) := by decide +kernel
theorem dX11_readWay_22 : decode cX11_readWay 22 = .ok (.bipush 48, 2) := by decide +kernel
theorem dX11_readWay_24 : decode cX11_readWay 24 = .ok (.bipush 55, 2) := by decide +kernel
theorem dX11_readWay_26 : decode cX11_readWay 26 = .ok (.invokestatic 68, 3) := by decide +kernel
theorem dX11_readWay_29 : decode cX11_readWay 29 = .ok (.ifCond .eq 44, 3) := by decide +kernel
theorem dX11_readWay_32 : decode cX11_readWay 32 = .ok (.iload_n 1, 1) := by decide +kernel
theorem dX11_readWay_33 : decode cX11_readWay 33 = .ok (.ifCond .lt 24, 3) := by decide +kernel
theorem dX11_readWay_36 : decode cX11_readWay 36 = .ok (.aload_n 0, 1) := by decide +kernel
theorem dX11_readWay_37 : decode cX11_readWay 37 = .ok (.getfield 7, 3) := by decide +kernel
theorem dX11_readWay_40 : decode cX11_readWay 40 = .ok (.bipush 104, 2) := by decide +kernel
theorem dX11_readWay_42 : decode cX11_readWay 42 = .ok (.bipush 12, 2) := by decide +kernel
theorem dX11_readWay_44 : decode cX11_readWay 44 = .ok (.iload_n 1, 1) := by decide +kernel
theorem dX11_readWay_45 : decode cX11_readWay 45 = .ok (.imul, 1) := by decide +kernel
theorem dX11_readWay_46 : decode cX11_readWay 46 = .ok (.iadd, 1) := by decide +kernel
theorem dX11_readWay_47 : decode cX11_readWay 47 = .ok (.iload_n 2, 1) := by decide +kernel
theorem dX11_readWay_48 : decode cX11_readWay 48 = .ok (.iadd, 1) := by decide +kernel
theorem dX11_readWay_49 : decode cX11_readWay 49 = .ok (.aload_n 0, 1) := by decide +kernel
theorem dX11_readWay_50 : decode cX11_readWay 50 = .ok (.invokevirtual 81, 3) := by decide +kernel
theorem dX11_readWay_53 : decode cX11_readWay 53 = .ok (.bipush 48, 2) := by decide +kernel
theorem dX11_readWay_55 : decode cX11_readWay 55 = .ok (.isub, 1) := by decide +kernel
theorem dX11_readWay_56 : decode cX11_readWay 56 = .ok (.iastore, 1) := by decide +kernel
theorem dX11_readWay_57 : decode cX11_readWay 57 = .ok (.iinc 2 1, 3) := by decide +kernel
theorem dX11_readWay_60 : decode cX11_readWay 60 = .ok (.aload_n 0, 1) := by decide +kernel
theorem dX11_readWay_61 : decode cX11_readWay 61 = .ok (.dup, 1) := by decide +kernel
theorem dX11_readWay_62 : decode cX11_readWay 62 = .ok (.getfield 78, 3) := by decide +kernel
theorem dX11_readWay_65 : decode cX11_readWay 65 = .ok (.iconst 1, 1) := by decide +kernel
theorem dX11_readWay_66 : decode cX11_readWay 66 = .ok (.iadd, 1) := by decide +kernel
theorem dX11_readWay_67 : decode cX11_readWay 67 = .ok (.putfield 78, 3) := by decide +kernel
theorem dX11_readWay_70 : decode cX11_readWay 70 = .ok (.goto (-58), 3) := by decide +kernel
theorem dX11_readWay_73 : decode cX11_readWay 73 = .ok (.aload_n 0, 1) := by decide +kernel
theorem dX11_readWay_74 : decode cX11_readWay 74 = .ok (.aload_n 0, 1) := by decide +kernel
theorem dX11_readWay_75 : decode cX11_readWay 75 = .ok (.getfield 85, 3) := by decide +kernel
theorem dX11_readWay_78 : decode cX11_readWay 78 = .ok (.ifCond .ne 11, 3) := by decide +kernel
theorem dX11_readWay_81 : decode cX11_readWay 81 = .ok (.iload_n 2, 1) := by decide +kernel
theorem dX11_readWay_82 : decode cX11_readWay 82 = .ok (.ifCond .eq 7, 3) := by decide +kernel
theorem dX11_readWay_85 : decode cX11_readWay 85 = .ok (.iload_n 1, 1) := by decide +kernel
theorem dX11_readWay_86 : decode cX11_readWay 86 = .ok (.ifCond .ge 7, 3) := by decide +kernel
theorem dX11_readWay_89 : decode cX11_readWay 89 = .ok (.iconst 1, 1) := by decide +kernel
theorem dX11_readWay_90 : decode cX11_readWay 90 = .ok (.goto 4, 3) := by decide +kernel
theorem dX11_readWay_93 : decode cX11_readWay 93 = .ok (.iconst 0, 1) := by decide +kernel
theorem dX11_readWay_94 : decode cX11_readWay 94 = .ok (.putfield 85, 3) := by decide +kernel
theorem dX11_readWay_97 : decode cX11_readWay 97 = .ok (.iload_n 1, 1) := by decide +kernel
theorem dX11_readWay_98 : decode cX11_readWay 98 = .ok (.ifCond .lt 13, 3) := by decide +kernel
theorem dX11_readWay_101 : decode cX11_readWay 101 = .ok (.aload_n 0, 1) := by decide +kernel
theorem dX11_readWay_102 : decode cX11_readWay 102 = .ok (.getfield 7, 3) := by decide +kernel
theorem dX11_readWay_105 : decode cX11_readWay 105 = .ok (.bipush 99, 2) := by decide +kernel
theorem dX11_readWay_107 : decode cX11_readWay 107 = .ok (.iload_n 1, 1) := by decide +kernel
theorem dX11_readWay_108 : decode cX11_readWay 108 = .ok (.iadd, 1) := by decide +kernel
theorem dX11_readWay_109 : decode cX11_readWay 109 = .ok (.iload_n 2, 1) := by decide +kernel
theorem dX11_readWay_110 : decode cX11_readWay 110 = .ok (.iastore, 1) := by decide +kernel
theorem dX11_readWay_111 : decode cX11_readWay 111 = .ok (.return_, 1) := by decide +kernel
theorem dX11_readItem_0 : decode cX11_readItem 0 = .ok (.aload_n 0, 1) := by decide +kernel
theorem dX11_readItem_1 : decode cX11_readItem 1 = .ok (.invokevirtual 81, 3) := by decide +kernel
theorem dX11_readItem_4 : decode cX11_readItem 4 = .ok (.istore_n 1, 1) := by decide +kernel
theorem dX11_readItem_5 : decode cX11_readItem 5 = .ok (.aload_n 0, 1) := by decide +kernel
theorem dX11_readItem_6 : decode cX11_readItem 6 = .ok (.dup, 1) := by decide +kernel
theorem dX11_readItem_7 : decode cX11_readItem 7 = .ok (.getfield 78, 3) := by decide +kernel
theorem dX11_readItem_10 : decode cX11_readItem 10 = .ok (.iconst 1, 1) := by decide +kernel
theorem dX11_readItem_11 : decode cX11_readItem 11 = .ok (.iadd, 1) := by decide +kernel
theorem dX11_readItem_12 : decode cX11_readItem 12 = .ok (.putfield 78, 3) := by decide +kernel
theorem dX11_readItem_15 : decode cX11_readItem 15 = .ok (.iload_n 1, 1) := by decide +kernel
theorem dX11_readItem_16 : decode cX11_readItem 16 = .ok (.lookupswitch 329 #[(99, 312), (102, 295), (108, 102), (112, 185), (119, 288), (121, 60)], 60) := by decide +kernel
theorem dX11_readItem_76 : decode cX11_readItem 76 = .ok (.aload_n 0, 1) := by decide +kernel
theorem dX11_readItem_77 : decode cX11_readItem 77 = .ok (.iconst 2, 1) := by decide +kernel
theorem dX11_readItem_78 : decode cX11_readItem 78 = .ok (.bipush 8, 2) := by decide +kernel
theorem dX11_readItem_80 : decode cX11_readItem 80 = .ok (.invokevirtual 89, 3) := by decide +kernel
theorem dX11_readItem_83 : decode cX11_readItem 83 = .ok (.istore_n 2, 1) := by decide +kernel
theorem dX11_readItem_84 : decode cX11_readItem 84 = .ok (.aload_n 0, 1) := by decide +kernel
theorem dX11_readItem_85 : decode cX11_readItem 85 = .ok (.aload_n 0, 1) := by decide +kernel
theorem dX11_readItem_86 : decode cX11_readItem 86 = .ok (.getfield 85, 3) := by decide +kernel
theorem dX11_readItem_89 : decode cX11_readItem 89 = .ok (.ifCond .ne 10, 3) := by decide +kernel
theorem dX11_readItem_92 : decode cX11_readItem 92 = .ok (.aload_n 0, 1) := by decide +kernel
theorem dX11_readItem_93 : decode cX11_readItem 93 = .ok (.getfield 93, 3) := by decide +kernel
theorem dX11_readItem_96 : decode cX11_readItem 96 = .ok (.ifCond .eq 7, 3) := by decide +kernel
theorem dX11_readItem_99 : decode cX11_readItem 99 = .ok (.iconst 1, 1) := by decide +kernel
theorem dX11_readItem_100 : decode cX11_readItem 100 = .ok (.goto 4, 3) := by decide +kernel
theorem dX11_readItem_103 : decode cX11_readItem 103 = .ok (.iconst 0, 1) := by decide +kernel
theorem dX11_readItem_104 : decode cX11_readItem 104 = .ok (.putfield 85, 3) := by decide +kernel
theorem dX11_readItem_107 : decode cX11_readItem 107 = .ok (.aload_n 0, 1) := by decide +kernel
theorem dX11_readItem_108 : decode cX11_readItem 108 = .ok (.getfield 7, 3) := by decide +kernel
theorem dX11_readItem_111 : decode cX11_readItem 111 = .ok (.bipush 82, 2) := by decide +kernel
theorem dX11_readItem_113 : decode cX11_readItem 113 = .ok (.iload_n 2, 1) := by decide +kernel
theorem dX11_readItem_114 : decode cX11_readItem 114 = .ok (.iastore, 1) := by decide +kernel
theorem dX11_readItem_115 : decode cX11_readItem 115 = .ok (.goto 235, 3) := by decide +kernel
theorem dX11_readItem_118 : decode cX11_readItem 118 = .ok (.aload_n 0, 1) := by decide +kernel
theorem dX11_readItem_119 : decode cX11_readItem 119 = .ok (.iconst 0, 1) := by decide +kernel
theorem dX11_readItem_120 : decode cX11_readItem 120 = .ok (.aload_n 0, 1) := by decide +kernel
theorem dX11_readItem_121 : decode cX11_readItem 121 = .ok (.getfield 7, 3) := by decide +kernel
theorem dX11_readItem_124 : decode cX11_readItem 124 = .ok (.bipush 82, 2) := by decide +kernel
theorem dX11_readItem_126 : decode cX11_readItem 126 = .ok (.iaload, 1) := by decide +kernel
theorem dX11_readItem_127 : decode cX11_readItem 127 = .ok (.iconst 1, 1) := by decide +kernel
theorem dX11_readItem_128 : decode cX11_readItem 128 = .ok (.isub, 1) := by decide +kernel
theorem dX11_readItem_129 : decode cX11_readItem 129 = .ok (.invokevirtual 89, 3) := by decide +kernel
theorem dX11_readItem_132 : decode cX11_readItem 132 = .ok (.istore_n 3, 1) := by decide +kernel
theorem dX11_readItem_133 : decode cX11_readItem 133 = .ok (.aload_n 0, 1) := by decide +kernel
theorem dX11_readItem_134 : decode cX11_readItem 134 = .ok (.bipush 44, 2) := by decide +kernel
theorem dX11_readItem_136 : decode cX11_readItem 136 = .ok (.invokevirtual 96, 3) := by decide +kernel
theorem dX11_readItem_139 : decode cX11_readItem 139 = .ok (.aload_n 0, 1) := by decide +kernel
theorem dX11_readItem_140 : decode cX11_readItem 140 = .ok (.iconst 0, 1) := by decide +kernel
theorem dX11_readItem_141 : decode cX11_readItem 141 = .ok (.aload_n 0, 1) := by decide +kernel
theorem dX11_readItem_142 : decode cX11_readItem 142 = .ok (.getfield 7, 3) := by decide +kernel
theorem dX11_readItem_145 : decode cX11_readItem 145 = .ok (.bipush 82, 2) := by decide +kernel
theorem dX11_readItem_147 : decode cX11_readItem 147 = .ok (.iaload, 1) := by decide +kernel
theorem dX11_readItem_148 : decode cX11_readItem 148 = .ok (.iconst 1, 1) := by decide +kernel
theorem dX11_readItem_149 : decode cX11_readItem 149 = .ok (.isub, 1) := by decide +kernel
theorem dX11_readItem_150 : decode cX11_readItem 150 = .ok (.invokevirtual 89, 3) := by decide +kernel
theorem dX11_readItem_153 : decode cX11_readItem 153 = .ok (.istore 4, 2) := by decide +kernel
theorem dX11_readItem_155 : decode cX11_readItem 155 = .ok (.aload_n 0, 1) := by decide +kernel
theorem dX11_readItem_156 : decode cX11_readItem 156 = .ok (.aload_n 0, 1) := by decide +kernel
theorem dX11_readItem_157 : decode cX11_readItem 157 = .ok (.getfield 85, 3) := by decide +kernel
theorem dX11_readItem_160 : decode cX11_readItem 160 = .ok (.ifCond .ne 9, 3) := by decide +kernel
theorem dX11_readItem_163 : decode cX11_readItem 163 = .ok (.iload_n 3, 1) := by decide +kernel
theorem dX11_readItem_164 : decode cX11_readItem 164 = .ok (.iload 4, 2) := by decide +kernel
theorem dX11_readItem_166 : decode cX11_readItem 166 = .ok (.if_icmp .ne 7, 3) := by decide +kernel
theorem dX11_readItem_169 : decode cX11_readItem 169 = .ok (.iconst 1, 1) := by decide +kernel
theorem dX11_readItem_170 : decode cX11_readItem 170 = .ok (.goto 4, 3) := by decide +kernel
theorem dX11_readItem_173 : decode cX11_readItem 173 = .ok (.iconst 0, 1) := by decide +kernel
theorem dX11_readItem_174 : decode cX11_readItem 174 = .ok (.putfield 85, 3) := by decide +kernel
theorem dX11_readItem_177 : decode cX11_readItem 177 = .ok (.aload_n 0, 1) := by decide +kernel
theorem dX11_readItem_178 : decode cX11_readItem 178 = .ok (.iconst 1, 1) := by decide +kernel
theorem dX11_readItem_179 : decode cX11_readItem 179 = .ok (.putfield 93, 3) := by decide +kernel
theorem dX11_readItem_182 : decode cX11_readItem 182 = .ok (.aload_n 0, 1) := by decide +kernel
theorem dX11_readItem_183 : decode cX11_readItem 183 = .ok (.getfield 85, 3) := by decide +kernel
theorem dX11_readItem_186 : decode cX11_readItem 186 = .ok (.ifCond .ne 164, 3) := by decide +kernel
theorem dX11_readItem_189 : decode cX11_readItem 189 = .ok (.aload_n 0, 1) := by decide +kernel
theorem dX11_readItem_190 : decode cX11_readItem 190 = .ok (.bipush 82, 2) := by decide +kernel
theorem dX11_readItem_192 : decode cX11_readItem 192 = .ok (.iload_n 3, 1) := by decide +kernel
theorem dX11_readItem_193 : decode cX11_readItem 193 = .ok (.iload 4, 2) := by decide +kernel
theorem dX11_readItem_195 : decode cX11_readItem 195 = .ok (.invokevirtual 61, 3) := by decide +kernel
theorem dX11_readItem_198 : decode cX11_readItem 198 = .ok (.goto 152, 3) := by decide +kernel
theorem dX11_readItem_201 : decode cX11_readItem 201 = .ok (.aload_n 0, 1) := by decide +kernel
theorem dX11_readItem_202 : decode cX11_readItem 202 = .ok (.iconst 0, 1) := by decide +kernel
theorem dX11_readItem_203 : decode cX11_readItem 203 = .ok (.bipush 99, 2) := by decide +kernel
theorem dX11_readItem_205 : decode cX11_readItem 205 = .ok (.invokevirtual 89, 3) := by decide +kernel
theorem dX11_readItem_208 : decode cX11_readItem 208 = .ok (.istore 5, 2) := by decide +kernel
theorem dX11_readItem_210 : decode cX11_readItem 210 = .ok (.aload_n 0, 1) := by decide +kernel
theorem dX11_readItem_211 : decode cX11_readItem 211 = .ok (.aload_n 0, 1) := by decide +kernel
theorem dX11_readItem_212 : decode cX11_readItem 212 = .ok (.getfield 85, 3) := by decide +kernel
theorem dX11_readItem_215 : decode cX11_readItem 215 = .ok (.ifCond .ne 14, 3) := by decide +kernel
theorem dX11_readItem_218 : decode cX11_readItem 218 = .ok (.aload_n 0, 1) := by decide +kernel
theorem dX11_readItem_219 : decode cX11_readItem 219 = .ok (.getfield 7, 3) := by decide +kernel
theorem dX11_readItem_222 : decode cX11_readItem 222 = .ok (.bipush 83, 2) := by decide +kernel
theorem dX11_readItem_224 : decode cX11_readItem 224 = .ok (.iaload, 1) := by decide +kernel
theorem dX11_readItem_225 : decode cX11_readItem 225 = .ok (.iconst 5, 1) := by decide +kernel
theorem dX11_readItem_226 : decode cX11_readItem 226 = .ok (.if_icmp .ne 7, 3) := by decide +kernel
theorem dX11_readItem_229 : decode cX11_readItem 229 = .ok (.iconst 1, 1) := by decide +kernel
theorem dX11_readItem_230 : decode cX11_readItem 230 = .ok (.goto 4, 3) := by decide +kernel
theorem dX11_readItem_233 : decode cX11_readItem 233 = .ok (.iconst 0, 1) := by decide +kernel
theorem dX11_readItem_234 : decode cX11_readItem 234 = .ok (.putfield 85, 3) := by decide +kernel
theorem dX11_readItem_237 : decode cX11_readItem 237 = .ok (.aload_n 0, 1) := by decide +kernel
theorem dX11_readItem_238 : decode cX11_readItem 238 = .ok (.getfield 85, 3) := by decide +kernel
theorem dX11_readItem_241 : decode cX11_readItem 241 = .ok (.ifCond .ne 109, 3) := by decide +kernel
theorem dX11_readItem_244 : decode cX11_readItem 244 = .ok (.aload_n 0, 1) := by decide +kernel
theorem dX11_readItem_245 : decode cX11_readItem 245 = .ok (.getfield 7, 3) := by decide +kernel
theorem dX11_readItem_248 : decode cX11_readItem 248 = .ok (.bipush 83, 2) := by decide +kernel
theorem dX11_readItem_250 : decode cX11_readItem 250 = .ok (.iaload, 1) := by decide +kernel
theorem dX11_readItem_251 : decode cX11_readItem 251 = .ok (.istore 6, 2) := by decide +kernel
theorem dX11_readItem_253 : decode cX11_readItem 253 = .ok (.aload_n 0, 1) := by decide +kernel
theorem dX11_readItem_254 : decode cX11_readItem 254 = .ok (.getfield 7, 3) := by decide +kernel
theorem dX11_readItem_257 : decode cX11_readItem 257 = .ok (.bipush 94, 2) := by decide +kernel
theorem dX11_readItem_259 : decode cX11_readItem 259 = .ok (.iload 6, 2) := by decide +kernel
theorem dX11_readItem_261 : decode cX11_readItem 261 = .ok (.iadd, 1) := by decide +kernel
theorem dX11_readItem_262 : decode cX11_readItem 262 = .ok (.iload 5, 2) := by decide +kernel
theorem dX11_readItem_264 : decode cX11_readItem 264 = .ok (.iastore, 1) := by decide +kernel
theorem dX11_readItem_265 : decode cX11_readItem 265 = .ok (.aload_n 0, 1) := by decide +kernel
theorem dX11_readItem_266 : decode cX11_readItem 266 = .ok (.getfield 7, 3) := by decide +kernel
theorem dX11_readItem_269 : decode cX11_readItem 269 = .ok (.bipush 99, 2) := by decide +kernel
theorem dX11_readItem_271 : decode cX11_readItem 271 = .ok (.iload 6, 2) := by decide +kernel
theorem dX11_readItem_273 : decode cX11_readItem 273 = .ok (.iadd, 1) := by decide +kernel
theorem dX11_readItem_274 : decode cX11_readItem 274 = .ok (.iconst 1, 1) := by decide +kernel
theorem dX11_readItem_275 : decode cX11_readItem 275 = .ok (.iastore, 1) := by decide +kernel
theorem dX11_readItem_276 : decode cX11_readItem 276 = .ok (.aload_n 0, 1) := by decide +kernel
theorem dX11_readItem_277 : decode cX11_readItem 277 = .ok (.getfield 7, 3) := by decide +kernel
theorem dX11_readItem_280 : decode cX11_readItem 280 = .ok (.bipush 104, 2) := by decide +kernel
theorem dX11_readItem_282 : decode cX11_readItem 282 = .ok (.bipush 12, 2) := by decide +kernel
theorem dX11_readItem_284 : decode cX11_readItem 284 = .ok (.iload 6, 2) := by decide +kernel
theorem dX11_readItem_286 : decode cX11_readItem 286 = .ok (.imul, 1) := by decide +kernel
theorem dX11_readItem_287 : decode cX11_readItem 287 = .ok (.iadd, 1) := by decide +kernel
theorem dX11_readItem_288 : decode cX11_readItem 288 = .ok (.iconst 0, 1) := by decide +kernel
theorem dX11_readItem_289 : decode cX11_readItem 289 = .ok (.iastore, 1) := by decide +kernel
theorem dX11_readItem_290 : decode cX11_readItem 290 = .ok (.aload_n 0, 1) := by decide +kernel
theorem dX11_readItem_291 : decode cX11_readItem 291 = .ok (.getfield 7, 3) := by decide +kernel
theorem dX11_readItem_294 : decode cX11_readItem 294 = .ok (.bipush 83, 2) := by decide +kernel
theorem dX11_readItem_296 : decode cX11_readItem 296 = .ok (.dup2, 1) := by decide +kernel
theorem dX11_readItem_297 : decode cX11_readItem 297 = .ok (.iaload, 1) := by decide +kernel
theorem dX11_readItem_298 : decode cX11_readItem 298 = .ok (.iconst 1, 1) := by decide +kernel
theorem dX11_readItem_299 : decode cX11_readItem 299 = .ok (.iadd, 1) := by decide +kernel
theorem dX11_readItem_300 : decode cX11_readItem 300 = .ok (.iastore, 1) := by decide +kernel
theorem dX11_readItem_301 : decode cX11_readItem 301 = .ok (.goto 49, 3) := by decide +kernel
theorem dX11_readItem_304 : decode cX11_readItem 304 = .ok (.aload_n 0, 1) := by decide +kernel
theorem dX11_readItem_305 : decode cX11_readItem 305 = .ok (.invokevirtual 100, 3) := by decide +kernel
theorem dX11_readItem_308 : decode cX11_readItem 308 = .ok (.goto 42, 3) := by decide +kernel
theorem dX11_readItem_311 : decode cX11_readItem 311 = .ok (.aload_n 0, 1) := by decide +kernel
theorem dX11_readItem_312 : decode cX11_readItem 312 = .ok (.getfield 7, 3) := by decide +kernel
theorem dX11_readItem_315 : decode cX11_readItem 315 = .ok (.bipush 84, 2) := by decide +kernel
theorem dX11_readItem_317 : decode cX11_readItem 317 = .ok (.aload_n 0, 1) := by decide +kernel
theorem dX11_readItem_318 : decode cX11_readItem 318 = .ok (.iconst 0, 1) := by decide +kernel
theorem dX11_readItem_319 : decode cX11_readItem 319 = .ok (.bipush 20, 2) := by decide +kernel
theorem dX11_readItem_321 : decode cX11_readItem 321 = .ok (.invokevirtual 89, 3) := by decide +kernel
theorem dX11_readItem_324 : decode cX11_readItem 324 = .ok (.iastore, 1) := by decide +kernel
theorem dX11_readItem_325 : decode cX11_readItem 325 = .ok (.goto 25, 3) := by decide +kernel
theorem dX11_readItem_328 : decode cX11_readItem 328 = .ok (.aload_n 0, 1) := by decide +kernel
theorem dX11_readItem_329 : decode cX11_readItem 329 = .ok (.getfield 7, 3) := by decide +kernel
theorem dX11_readItem_332 : decode cX11_readItem 332 = .ok (.bipush 85, 2) := by decide +kernel
theorem dX11_readItem_334 : decode cX11_readItem 334 = .ok (.aload_n 0, 1) := by decide +kernel
theorem dX11_readItem_335 : decode cX11_readItem 335 = .ok (.iconst 0, 1) := by decide +kernel
theorem dX11_readItem_336 : decode cX11_readItem 336 = .ok (.bipush 7, 2) := by decide +kernel
theorem dX11_readItem_338 : decode cX11_readItem 338 = .ok (.invokevirtual 89, 3) := by decide +kernel
theorem dX11_readItem_341 : decode cX11_readItem 341 = .ok (.iastore, 1) := by decide +kernel
theorem dX11_readItem_342 : decode cX11_readItem 342 = .ok (.goto 8, 3) := by decide +kernel
theorem dX11_readItem_345 : decode cX11_readItem 345 = .ok (.aload_n 0, 1) := by decide +kernel
theorem dX11_readItem_346 : decode cX11_readItem 346 = .ok (.iconst 1, 1) := by decide +kernel
theorem dX11_readItem_347 : decode cX11_readItem 347 = .ok (.putfield 85, 3) := by decide +kernel
theorem dX11_readItem_350 : decode cX11_readItem 350 = .ok (.aload_n 0, 1) := by decide +kernel
theorem dX11_readItem_351 : decode cX11_readItem 351 = .ok (.bipush 59, 2) := by decide +kernel
theorem dX11_readItem_353 : decode cX11_readItem 353 = .ok (.invokevirtual 96, 3) := by decide +kernel
theorem dX11_readItem_356 : decode cX11_readItem 356 = .ok (.return_, 1) := by decide +kernel
theorem dX11_findFault_0 : decode cX11_findFault 0 = .ok (.aload_n 0, 1) := by decide +kernel
theorem dX11_findFault_1 : decode cX11_findFault 1 = .ok (.iconst 0, 1) := by decide +kernel
theorem dX11_findFault_2 : decode cX11_findFault 2 = .ok (.putfield 78, 3) := by decide +kernel
theorem dX11_findFault_5 : decode cX11_findFault 5 = .ok (.aload_n 0, 1) := by decide +kernel
theorem dX11_findFault_6 : decode cX11_findFault 6 = .ok (.iconst 0, 1) := by decide +kernel
theorem dX11_findFault_7 : decode cX11_findFault 7 = .ok (.putfield 85, 3) := by decide +kernel
theorem dX11_findFault_10 : decode cX11_findFault 10 = .ok (.aload_n 0, 1) := by decide +kernel
theorem dX11_findFault_11 : decode cX11_findFault 11 = .ok (.iconst 0, 1) := by decide +kernel
theorem dX11_findFault_12 : decode cX11_findFault 12 = .ok (.putfield 93, 3) := by decide +kernel
theorem dX11_findFault_15 : decode cX11_findFault 15 = .ok (.iconst 0, 1) := by decide +kernel
theorem dX11_findFault_16 : decode cX11_findFault 16 = .ok (.istore_n 1, 1) := by decide +kernel
theorem dX11_findFault_17 : decode cX11_findFault 17 = .ok (.iload_n 1, 1) := by decide +kernel
theorem dX11_findFault_18 : decode cX11_findFault 18 = .ok (.bipush 82, 2) := by decide +kernel
theorem dX11_findFault_20 : decode cX11_findFault 20 = .ok (.if_icmp .ge 19, 3) := by decide +kernel
theorem dX11_findFault_23 : decode cX11_findFault 23 = .ok (.aload_n 0, 1) := by decide +kernel
theorem dX11_findFault_24 : decode cX11_findFault 24 = .ok (.getfield 7, 3) := by decide +kernel
theorem dX11_findFault_27 : decode cX11_findFault 27 = .ok (.bipush 82, 2) := by decide +kernel
theorem dX11_findFault_29 : decode cX11_findFault 29 = .ok (.iload_n 1, 1) := by decide +kernel
theorem dX11_findFault_30 : decode cX11_findFault 30 = .ok (.iadd, 1) := by decide +kernel
theorem dX11_findFault_31 : decode cX11_findFault 31 = .ok (.iconst 0, 1) := by decide +kernel
theorem dX11_findFault_32 : decode cX11_findFault 32 = .ok (.iastore, 1) := by decide +kernel
theorem dX11_findFault_33 : decode cX11_findFault 33 = .ok (.iinc 1 1, 3) := by decide +kernel
theorem dX11_findFault_36 : decode cX11_findFault 36 = .ok (.goto (-19), 3) := by decide +kernel
theorem dX11_findFault_39 : decode cX11_findFault 39 = .ok (.aload_n 0, 1) := by decide +kernel
theorem dX11_findFault_40 : decode cX11_findFault 40 = .ok (.getfield 7, 3) := by decide +kernel
theorem dX11_findFault_43 : decode cX11_findFault 43 = .ok (.bipush 82, 2) := by decide +kernel
theorem dX11_findFault_45 : decode cX11_findFault 45 = .ok (.iconst 4, 1) := by decide +kernel
theorem dX11_findFault_46 : decode cX11_findFault 46 = .ok (.iastore, 1) := by decide +kernel
theorem dX11_findFault_47 : decode cX11_findFault 47 = .ok (.aload_n 0, 1) := by decide +kernel
theorem dX11_findFault_48 : decode cX11_findFault 48 = .ok (.getfield 78, 3) := by decide +kernel
theorem dX11_findFault_51 : decode cX11_findFault 51 = .ok (.aload_n 0, 1) := by decide +kernel
theorem dX11_findFault_52 : decode cX11_findFault 52 = .ok (.getfield 72, 3) := by decide +kernel
theorem dX11_findFault_55 : decode cX11_findFault 55 = .ok (.if_icmp .ge 24, 3) := by decide +kernel
theorem dX11_findFault_58 : decode cX11_findFault 58 = .ok (.aload_n 0, 1) := by decide +kernel
theorem dX11_findFault_59 : decode cX11_findFault 59 = .ok (.getfield 78, 3) := by decide +kernel
theorem dX11_findFault_62 : decode cX11_findFault 62 = .ok (.istore_n 1, 1) := by decide +kernel
theorem dX11_findFault_63 : decode cX11_findFault 63 = .ok (.aload_n 0, 1) := by decide +kernel
theorem dX11_findFault_64 : decode cX11_findFault 64 = .ok (.invokevirtual 103, 3) := by decide +kernel
theorem dX11_findFault_67 : decode cX11_findFault 67 = .ok (.aload_n 0, 1) := by decide +kernel
theorem dX11_findFault_68 : decode cX11_findFault 68 = .ok (.getfield 85, 3) := by decide +kernel
theorem dX11_findFault_71 : decode cX11_findFault 71 = .ok (.ifCond .eq 5, 3) := by decide +kernel
theorem dX11_findFault_74 : decode cX11_findFault 74 = .ok (.iload_n 1, 1) := by decide +kernel
theorem dX11_findFault_75 : decode cX11_findFault 75 = .ok (.ireturn, 1) := by decide +kernel
theorem dX11_findFault_76 : decode cX11_findFault 76 = .ok (.goto (-29), 3) := by decide +kernel
theorem dX11_findFault_79 : decode cX11_findFault 79 = .ok (.bipush (-4), 2) := by decide +kernel
theorem dX11_findFault_81 : decode cX11_findFault 81 = .ok (.ireturn, 1) := by decide +kernel
theorem dX11_fault_0 : decode cX11_fault 0 = .ok (.aload_n 0, 1) := by decide +kernel
theorem dX11_fault_1 : decode cX11_fault 1 = .ok (.invokevirtual 106, 3) := by decide +kernel
theorem dX11_fault_4 : decode cX11_fault 4 = .ok (.ireturn, 1) := by decide +kernel
theorem dX11_lay_0 : decode cX11_lay 0 = .ok (.aload_n 0, 1) := by decide +kernel
theorem dX11_lay_1 : decode cX11_lay 1 = .ok (.invokevirtual 106, 3) := by decide +kernel
theorem dX11_lay_4 : decode cX11_lay 4 = .ok (.bipush (-4), 2) := by decide +kernel
theorem dX11_lay_6 : decode cX11_lay 6 = .ok (.if_icmp .ne 34, 3) := by decide +kernel
theorem dX11_lay_9 : decode cX11_lay 9 = .ok (.aload_n 0, 1) := by decide +kernel
theorem dX11_lay_10 : decode cX11_lay 10 = .ok (.getfield 7, 3) := by decide +kernel
theorem dX11_lay_13 : decode cX11_lay 13 = .ok (.bipush 83, 2) := by decide +kernel
theorem dX11_lay_15 : decode cX11_lay 15 = .ok (.iaload, 1) := by decide +kernel
theorem dX11_lay_16 : decode cX11_lay 16 = .ok (.ifCond .le 24, 3) := by decide +kernel
theorem dX11_lay_19 : decode cX11_lay 19 = .ok (.aload_n 0, 1) := by decide +kernel
theorem dX11_lay_20 : decode cX11_lay 20 = .ok (.getfield 7, 3) := by decide +kernel
theorem dX11_lay_23 : decode cX11_lay 23 = .ok (.bipush 85, 2) := by decide +kernel
theorem dX11_lay_25 : decode cX11_lay 25 = .ok (.iaload, 1) := by decide +kernel
theorem dX11_lay_26 : decode cX11_lay 26 = .ok (.aload_n 0, 1) := by decide +kernel
theorem dX11_lay_27 : decode cX11_lay 27 = .ok (.getfield 7, 3) := by decide +kernel
theorem dX11_lay_30 : decode cX11_lay 30 = .ok (.bipush 82, 2) := by decide +kernel
theorem dX11_lay_32 : decode cX11_lay 32 = .ok (.iaload, 1) := by decide +kernel
theorem dX11_lay_33 : decode cX11_lay 33 = .ok (.if_icmp .ge 7, 3) := by decide +kernel
theorem dX11_lay_36 : decode cX11_lay 36 = .ok (.iconst 1, 1) := by decide +kernel
theorem dX11_lay_37 : decode cX11_lay 37 = .ok (.goto 4, 3) := by decide +kernel
theorem dX11_lay_40 : decode cX11_lay 40 = .ok (.iconst 0, 1) := by decide +kernel
theorem dX11_lay_41 : decode cX11_lay 41 = .ok (.istore_n 1, 1) := by decide +kernel
theorem dX11_lay_42 : decode cX11_lay 42 = .ok (.iconst 0, 1) := by decide +kernel
theorem dX11_lay_43 : decode cX11_lay 43 = .ok (.istore_n 2, 1) := by decide +kernel
theorem dX11_lay_44 : decode cX11_lay 44 = .ok (.iload_n 2, 1) := by decide +kernel
theorem dX11_lay_45 : decode cX11_lay 45 = .ok (.aload_n 0, 1) := by decide +kernel
theorem dX11_lay_46 : decode cX11_lay 46 = .ok (.getfield 7, 3) := by decide +kernel
theorem dX11_lay_49 : decode cX11_lay 49 = .ok (.bipush 83, 2) := by decide +kernel
theorem dX11_lay_51 : decode cX11_lay 51 = .ok (.iaload, 1) := by decide +kernel
theorem dX11_lay_52 : decode cX11_lay 52 = .ok (.if_icmp .ge 68, 3) := by decide +kernel
theorem dX11_lay_55 : decode cX11_lay 55 = .ok (.iload_n 1, 1) := by decide +kernel
theorem dX11_lay_56 : decode cX11_lay 56 = .ok (.ifCond .eq 64, 3) := by decide +kernel
theorem dX11_lay_59 : decode cX11_lay 59 = .ok (.iconst 0, 1) := by decide +kernel
theorem dX11_lay_60 : decode cX11_lay 60 = .ok (.istore_n 3, 1) := by decide +kernel
theorem dX11_lay_61 : decode cX11_lay 61 = .ok (.iload_n 3, 1) := by decide +kernel
theorem dX11_lay_62 : decode cX11_lay 62 = .ok (.aload_n 0, 1) := by decide +kernel
theorem dX11_lay_63 : decode cX11_lay 63 = .ok (.getfield 7, 3) := by decide +kernel
theorem dX11_lay_66 : decode cX11_lay 66 = .ok (.bipush 99, 2) := by decide +kernel
theorem dX11_lay_68 : decode cX11_lay 68 = .ok (.iload_n 2, 1) := by decide +kernel
theorem dX11_lay_69 : decode cX11_lay 69 = .ok (.iadd, 1) := by decide +kernel
theorem dX11_lay_70 : decode cX11_lay 70 = .ok (.iaload, 1) := by decide +kernel
theorem dX11_lay_71 : decode cX11_lay 71 = .ok (.if_icmp .ge 43, 3) := by decide +kernel
theorem dX11_lay_74 : decode cX11_lay 74 = .ok (.iload_n 1, 1) := by decide +kernel
theorem dX11_lay_75 : decode cX11_lay 75 = .ok (.ifCond .eq 31, 3) := by decide +kernel
theorem dX11_lay_78 : decode cX11_lay 78 = .ok (.aload_n 0, 1) := by decide +kernel
theorem dX11_lay_79 : decode cX11_lay 79 = .ok (.getfield 7, 3) := by decide +kernel
theorem dX11_lay_82 : decode cX11_lay 82 = .ok (.bipush 104, 2) := by decide +kernel
theorem dX11_lay_84 : decode cX11_lay 84 = .ok (.bipush 12, 2) := by decide +kernel
theorem dX11_lay_86 : decode cX11_lay 86 = .ok (.iload_n 2, 1) := by decide +kernel
theorem dX11_lay_87 : decode cX11_lay 87 = .ok (.imul, 1) := by decide +kernel
theorem dX11_lay_88 : decode cX11_lay 88 = .ok (.iadd, 1) := by decide +kernel
theorem dX11_lay_89 : decode cX11_lay 89 = .ok (.iload_n 3, 1) := by decide +kernel
theorem dX11_lay_90 : decode cX11_lay 90 = .ok (.iadd, 1) := by decide +kernel
theorem dX11_lay_91 : decode cX11_lay 91 = .ok (.iaload, 1) := by decide +kernel
theorem dX11_lay_92 : decode cX11_lay 92 = .ok (.aload_n 0, 1) := by decide +kernel
theorem dX11_lay_93 : decode cX11_lay 93 = .ok (.getfield 7, 3) := by decide +kernel
theorem dX11_lay_96 : decode cX11_lay 96 = .ok (.bipush 82, 2) := by decide +kernel
theorem dX11_lay_98 : decode cX11_lay 98 = .ok (.iaload, 1) := by decide +kernel
theorem dX11_lay_99 : decode cX11_lay 99 = .ok (.if_icmp .ge 7, 3) := by decide +kernel
theorem dX11_lay_102 : decode cX11_lay 102 = .ok (.iconst 1, 1) := by decide +kernel
theorem dX11_lay_103 : decode cX11_lay 103 = .ok (.goto 4, 3) := by decide +kernel
theorem dX11_lay_106 : decode cX11_lay 106 = .ok (.iconst 0, 1) := by decide +kernel
theorem dX11_lay_107 : decode cX11_lay 107 = .ok (.istore_n 1, 1) := by decide +kernel
theorem dX11_lay_108 : decode cX11_lay 108 = .ok (.iinc 3 1, 3) := by decide +kernel
theorem dX11_lay_111 : decode cX11_lay 111 = .ok (.goto (-50), 3) := by decide +kernel
theorem dX11_lay_114 : decode cX11_lay 114 = .ok (.iinc 2 1, 3) := by decide +kernel
theorem dX11_lay_117 : decode cX11_lay 117 = .ok (.goto (-73), 3) := by decide +kernel
theorem dX11_lay_120 : decode cX11_lay 120 = .ok (.iload_n 1, 1) := by decide +kernel
theorem dX11_lay_121 : decode cX11_lay 121 = .ok (.ifCond .ne 6, 3) := by decide +kernel
theorem dX11_lay_124 : decode cX11_lay 124 = .ok (.bipush (-2), 2) := by decide +kernel
theorem dX11_lay_126 : decode cX11_lay 126 = .ok (.ireturn, 1) := by decide +kernel
theorem dX11_lay_127 : decode cX11_lay 127 = .ok (.iconst 0, 1) := by decide +kernel
theorem dX11_lay_128 : decode cX11_lay 128 = .ok (.istore_n 2, 1) := by decide +kernel
theorem dX11_lay_129 : decode cX11_lay 129 = .ok (.iload_n 2, 1) := by decide +kernel
theorem dX11_lay_130 : decode cX11_lay 130 = .ok (.bipush 82, 2) := by decide +kernel
theorem dX11_lay_132 : decode cX11_lay 132 = .ok (.if_icmp .ge 24, 3) := by decide +kernel
theorem dX11_lay_135 : decode cX11_lay 135 = .ok (.aload_n 0, 1) := by decide +kernel
theorem dX11_lay_136 : decode cX11_lay 136 = .ok (.getfield 7, 3) := by decide +kernel
theorem dX11_lay_139 : decode cX11_lay 139 = .ok (.iload_n 2, 1) := by decide +kernel
theorem dX11_lay_140 : decode cX11_lay 140 = .ok (.aload_n 0, 1) := by decide +kernel
theorem dX11_lay_141 : decode cX11_lay 141 = .ok (.getfield 7, 3) := by decide +kernel
theorem dX11_lay_144 : decode cX11_lay 144 = .ok (.bipush 82, 2) := by decide +kernel
theorem dX11_lay_146 : decode cX11_lay 146 = .ok (.iload_n 2, 1) := by decide +kernel
theorem dX11_lay_147 : decode cX11_lay 147 = .ok (.iadd, 1) := by decide +kernel
theorem dX11_lay_148 : decode cX11_lay 148 = .ok (.iaload, 1) := by decide +kernel
theorem dX11_lay_149 : decode cX11_lay 149 = .ok (.iastore, 1) := by decide +kernel
theorem dX11_lay_150 : decode cX11_lay 150 = .ok (.iinc 2 1, 3) := by decide +kernel
theorem dX11_lay_153 : decode cX11_lay 153 = .ok (.goto (-24), 3) := by decide +kernel
theorem dX11_lay_156 : decode cX11_lay 156 = .ok (.aload_n 0, 1) := by decide +kernel
theorem dX11_lay_157 : decode cX11_lay 157 = .ok (.invokevirtual 65, 3) := by decide +kernel
theorem dX11_lay_160 : decode cX11_lay 160 = .ok (.aload_n 0, 1) := by decide +kernel
theorem dX11_lay_161 : decode cX11_lay 161 = .ok (.getfield 7, 3) := by decide +kernel
theorem dX11_lay_164 : decode cX11_lay 164 = .ok (.iconst 1, 1) := by decide +kernel
theorem dX11_lay_165 : decode cX11_lay 165 = .ok (.iaload, 1) := by decide +kernel
theorem dX11_lay_166 : decode cX11_lay 166 = .ok (.ireturn, 1) := by decide +kernel
theorem dX11_begin_0 : decode cX11_begin 0 = .ok (.iconst 0, 1) := by decide +kernel
theorem dX11_begin_1 : decode cX11_begin 1 = .ok (.istore_n 1, 1) := by decide +kernel
theorem dX11_begin_2 : decode cX11_begin 2 = .ok (.iload_n 1, 1) := by decide +kernel
theorem dX11_begin_3 : decode cX11_begin 3 = .ok (.bipush 8, 2) := by decide +kernel
theorem dX11_begin_5 : decode cX11_begin 5 = .ok (.if_icmp .ge 65, 3) := by decide +kernel
theorem dX11_begin_8 : decode cX11_begin 8 = .ok (.iconst 0, 1) := by decide +kernel
theorem dX11_begin_9 : decode cX11_begin 9 = .ok (.istore_n 2, 1) := by decide +kernel
theorem dX11_begin_10 : decode cX11_begin 10 = .ok (.iload_n 2, 1) := by decide +kernel
theorem dX11_begin_11 : decode cX11_begin 11 = .ok (.bipush 8, 2) := by decide +kernel
theorem dX11_begin_13 : decode cX11_begin 13 = .ok (.if_icmp .ge 51, 3) := by decide +kernel
theorem dX11_begin_16 : decode cX11_begin 16 = .ok (.aload_n 0, 1) := by decide +kernel
theorem dX11_begin_17 : decode cX11_begin 17 = .ok (.getfield 13, 3) := by decide +kernel
theorem dX11_begin_20 : decode cX11_begin 20 = .ok (.bipush 8, 2) := by decide +kernel
theorem dX11_begin_22 : decode cX11_begin 22 = .ok (.iload_n 1, 1) := by decide +kernel
theorem dX11_begin_23 : decode cX11_begin 23 = .ok (.imul, 1) := by decide +kernel
theorem dX11_begin_24 : decode cX11_begin 24 = .ok (.iload_n 2, 1) := by decide +kernel
theorem dX11_begin_25 : decode cX11_begin 25 = .ok (.iadd, 1) := by decide +kernel
theorem dX11_begin_26 : decode cX11_begin 26 = .ok (.iload_n 1, 1) := by decide +kernel
theorem dX11_begin_27 : decode cX11_begin 27 = .ok (.iload_n 2, 1) := by decide +kernel
theorem dX11_begin_28 : decode cX11_begin 28 = .ok (.if_icmp .ne 7, 3) := by decide +kernel
theorem dX11_begin_31 : decode cX11_begin 31 = .ok (.iconst 0, 1) := by decide +kernel
theorem dX11_begin_32 : decode cX11_begin 32 = .ok (.goto 25, 3) := by decide +kernel
theorem dX11_begin_35 : decode cX11_begin 35 = .ok (.aload_n 0, 1) := by decide +kernel
theorem dX11_begin_36 : decode cX11_begin 36 = .ok (.getfield 7, 3) := by decide +kernel
theorem dX11_begin_39 : decode cX11_begin 39 = .ok (.iconst 4, 1) := by decide +kernel
theorem dX11_begin_40 : decode cX11_begin 40 = .ok (.iload_n 1, 1) := by decide +kernel
theorem dX11_begin_41 : decode cX11_begin 41 = .ok (.iadd, 1) := by decide +kernel
theorem dX11_begin_42 : decode cX11_begin 42 = .ok (.iaload, 1) := by decide +kernel
theorem dX11_begin_43 : decode cX11_begin 43 = .ok (.iload_n 2, 1) := by decide +kernel
theorem dX11_begin_44 : decode cX11_begin 44 = .ok (.ishr, 1) := by decide +kernel
theorem dX11_begin_45 : decode cX11_begin 45 = .ok (.iconst 1, 1) := by decide +kernel
theorem dX11_begin_46 : decode cX11_begin 46 = .ok (.iand, 1) := by decide +kernel
theorem dX11_begin_47 : decode cX11_begin 47 = .ok (.iconst 1, 1) := by decide +kernel
theorem dX11_begin_48 : decode cX11_begin 48 = .ok (.if_icmp .ne 7, 3) := by decide +kernel
theorem dX11_begin_51 : decode cX11_begin 51 = .ok (.iconst 1, 1) := by decide +kernel
theorem dX11_begin_52 : decode cX11_begin 52 = .ok (.goto 5, 3) := by decide +kernel
theorem dX11_begin_55 : decode cX11_begin 55 = .ok (.ldc 109, 2) := by decide +kernel
theorem dX11_begin_57 : decode cX11_begin 57 = .ok (.iastore, 1) := by decide +kernel
theorem dX11_begin_58 : decode cX11_begin 58 = .ok (.iinc 2 1, 3) := by decide +kernel
theorem dX11_begin_61 : decode cX11_begin 61 = .ok (.goto (-51), 3) := by decide +kernel
theorem dX11_begin_64 : decode cX11_begin 64 = .ok (.iinc 1 1, 3) := by decide +kernel
theorem dX11_begin_67 : decode cX11_begin 67 = .ok (.goto (-65), 3) := by decide +kernel
theorem dX11_begin_70 : decode cX11_begin 70 = .ok (.iconst 0, 1) := by decide +kernel
theorem dX11_begin_71 : decode cX11_begin 71 = .ok (.istore_n 1, 1) := by decide +kernel
theorem dX11_begin_72 : decode cX11_begin 72 = .ok (.iload_n 1, 1) := by decide +kernel
theorem dX11_begin_73 : decode cX11_begin 73 = .ok (.bipush 8, 2) := by decide +kernel
theorem dX11_begin_75 : decode cX11_begin 75 = .ok (.if_icmp .ge 105, 3) := by decide +kernel
theorem dX11_begin_78 : decode cX11_begin 78 = .ok (.iconst 0, 1) := by decide +kernel
theorem dX11_begin_79 : decode cX11_begin 79 = .ok (.istore_n 2, 1) := by decide +kernel
theorem dX11_begin_80 : decode cX11_begin 80 = .ok (.iload_n 2, 1) := by decide +kernel
theorem dX11_begin_81 : decode cX11_begin 81 = .ok (.bipush 8, 2) := by decide +kernel
theorem dX11_begin_83 : decode cX11_begin 83 = .ok (.if_icmp .ge 91, 3) := by decide +kernel
theorem dX11_begin_86 : decode cX11_begin 86 = .ok (.iconst 0, 1) := by decide +kernel
theorem dX11_begin_87 : decode cX11_begin 87 = .ok (.istore_n 3, 1) := by decide +kernel
theorem dX11_begin_88 : decode cX11_begin 88 = .ok (.iload_n 3, 1) := by decide +kernel
theorem dX11_begin_89 : decode cX11_begin 89 = .ok (.bipush 8, 2) := by decide +kernel
theorem dX11_begin_91 : decode cX11_begin 91 = .ok (.if_icmp .ge 77, 3) := by decide +kernel
theorem dX11_begin_94 : decode cX11_begin 94 = .ok (.aload_n 0, 1) := by decide +kernel
theorem dX11_begin_95 : decode cX11_begin 95 = .ok (.getfield 13, 3) := by decide +kernel
theorem dX11_begin_98 : decode cX11_begin 98 = .ok (.bipush 8, 2) := by decide +kernel
theorem dX11_begin_100 : decode cX11_begin 100 = .ok (.iload_n 2, 1) := by decide +kernel
theorem dX11_begin_101 : decode cX11_begin 101 = .ok (.imul, 1) := by decide +kernel
theorem dX11_begin_102 : decode cX11_begin 102 = .ok (.iload_n 1, 1) := by decide +kernel
theorem dX11_begin_103 : decode cX11_begin 103 = .ok (.iadd, 1) := by decide +kernel
theorem dX11_begin_104 : decode cX11_begin 104 = .ok (.iaload, 1) := by decide +kernel
theorem dX11_begin_105 : decode cX11_begin 105 = .ok (.aload_n 0, 1) := by decide +kernel
theorem dX11_begin_106 : decode cX11_begin 106 = .ok (.getfield 13, 3) := by decide +kernel
theorem dX11_begin_109 : decode cX11_begin 109 = .ok (.bipush 8, 2) := by decide +kernel
theorem dX11_begin_111 : decode cX11_begin 111 = .ok (.iload_n 1, 1) := by decide +kernel
theorem dX11_begin_112 : decode cX11_begin 112 = .ok (.imul, 1) := by decide +kernel
theorem dX11_begin_113 : decode cX11_begin 113 = .ok (.iload_n 3, 1) := by decide +kernel
theorem dX11_begin_114 : decode cX11_begin 114 = .ok (.iadd, 1) := by decide +kernel
theorem dX11_begin_115 : decode cX11_begin 115 = .ok (.iaload, 1) := by decide +kernel
theorem dX11_begin_116 : decode cX11_begin 116 = .ok (.iadd, 1) := by decide +kernel
theorem dX11_begin_117 : decode cX11_begin 117 = .ok (.istore 4, 2) := by decide +kernel
theorem dX11_begin_119 : decode cX11_begin 119 = .ok (.aload_n 0, 1) := by decide +kernel
theorem dX11_begin_120 : decode cX11_begin 120 = .ok (.getfield 13, 3) := by decide +kernel
theorem dX11_begin_123 : decode cX11_begin 123 = .ok (.bipush 8, 2) := by decide +kernel
theorem dX11_begin_125 : decode cX11_begin 125 = .ok (.iload_n 2, 1) := by decide +kernel
theorem dX11_begin_126 : decode cX11_begin 126 = .ok (.imul, 1) := by decide +kernel
theorem dX11_begin_127 : decode cX11_begin 127 = .ok (.iload_n 3, 1) := by decide +kernel
theorem dX11_begin_128 : decode cX11_begin 128 = .ok (.iadd, 1) := by decide +kernel
theorem dX11_begin_129 : decode cX11_begin 129 = .ok (.iload 4, 2) := by decide +kernel
theorem dX11_begin_131 : decode cX11_begin 131 = .ok (.aload_n 0, 1) := by decide +kernel
theorem dX11_begin_132 : decode cX11_begin 132 = .ok (.getfield 13, 3) := by decide +kernel
theorem dX11_begin_135 : decode cX11_begin 135 = .ok (.bipush 8, 2) := by decide +kernel
theorem dX11_begin_137 : decode cX11_begin 137 = .ok (.iload_n 2, 1) := by decide +kernel
theorem dX11_begin_138 : decode cX11_begin 138 = .ok (.imul, 1) := by decide +kernel
theorem dX11_begin_139 : decode cX11_begin 139 = .ok (.iload_n 3, 1) := by decide +kernel
theorem dX11_begin_140 : decode cX11_begin 140 = .ok (.iadd, 1) := by decide +kernel
theorem dX11_begin_141 : decode cX11_begin 141 = .ok (.iaload, 1) := by decide +kernel
theorem dX11_begin_142 : decode cX11_begin 142 = .ok (.if_icmp .ge 8, 3) := by decide +kernel
theorem dX11_begin_145 : decode cX11_begin 145 = .ok (.iload 4, 2) := by decide +kernel
theorem dX11_begin_147 : decode cX11_begin 147 = .ok (.goto 14, 3) := by decide +kernel
theorem dX11_begin_150 : decode cX11_begin 150 = .ok (.aload_n 0, 1) := by decide +kernel
theorem dX11_begin_151 : decode cX11_begin 151 = .ok (.getfield 13, 3) := by decide +kernel
theorem dX11_begin_154 : decode cX11_begin 154 = .ok (.bipush 8, 2) := by decide +kernel
theorem dX11_begin_156 : decode cX11_begin 156 = .ok (.iload_n 2, 1) := by decide +kernel
theorem dX11_begin_157 : decode cX11_begin 157 = .ok (.imul, 1) := by decide +kernel
theorem dX11_begin_158 : decode cX11_begin 158 = .ok (.iload_n 3, 1) := by decide +kernel
theorem dX11_begin_159 : decode cX11_begin 159 = .ok (.iadd, 1) := by decide +kernel
theorem dX11_begin_160 : decode cX11_begin 160 = .ok (.iaload, 1) := by decide +kernel
theorem dX11_begin_161 : decode cX11_begin 161 = .ok (.iastore, 1) := by decide +kernel
theorem dX11_begin_162 : decode cX11_begin 162 = .ok (.iinc 3 1, 3) := by decide +kernel
theorem dX11_begin_165 : decode cX11_begin 165 = .ok (.goto (-77), 3) := by decide +kernel
theorem dX11_begin_168 : decode cX11_begin 168 = .ok (.iinc 2 1, 3) := by decide +kernel
theorem dX11_begin_171 : decode cX11_begin 171 = .ok (.goto (-91), 3) := by decide +kernel
theorem dX11_begin_174 : decode cX11_begin 174 = .ok (.iinc 1 1, 3) := by decide +kernel
theorem dX11_begin_177 : decode cX11_begin 177 = .ok (.goto (-105), 3) := by decide +kernel
theorem dX11_begin_180 : decode cX11_begin 180 = .ok (.aload_n 0, 1) := by decide +kernel
theorem dX11_begin_181 : decode cX11_begin 181 = .ok (.getfield 20, 3) := by decide +kernel
theorem dX11_begin_184 : decode cX11_begin 184 = .ok (.iconst 0, 1) := by decide +kernel
theorem dX11_begin_185 : decode cX11_begin 185 = .ok (.iconst 0, 1) := by decide +kernel
theorem dX11_begin_186 : decode cX11_begin 186 = .ok (.iastore, 1) := by decide +kernel
theorem dX11_begin_187 : decode cX11_begin 187 = .ok (.aload_n 0, 1) := by decide +kernel
theorem dX11_begin_188 : decode cX11_begin 188 = .ok (.getfield 20, 3) := by decide +kernel
theorem dX11_begin_191 : decode cX11_begin 191 = .ok (.iconst 1, 1) := by decide +kernel
theorem dX11_begin_192 : decode cX11_begin 192 = .ok (.aload_n 0, 1) := by decide +kernel
theorem dX11_begin_193 : decode cX11_begin 193 = .ok (.getfield 7, 3) := by decide +kernel
theorem dX11_begin_196 : decode cX11_begin 196 = .ok (.iconst 3, 1) := by decide +kernel
theorem dX11_begin_197 : decode cX11_begin 197 = .ok (.iaload, 1) := by decide +kernel
theorem dX11_begin_198 : decode cX11_begin 198 = .ok (.iastore, 1) := by decide +kernel
theorem dX11_begin_199 : decode cX11_begin 199 = .ok (.aload_n 0, 1) := by decide +kernel
theorem dX11_begin_200 : decode cX11_begin 200 = .ok (.getfield 20, 3) := by decide +kernel
theorem dX11_begin_203 : decode cX11_begin 203 = .ok (.iconst 2, 1) := by decide +kernel
theorem dX11_begin_204 : decode cX11_begin 204 = .ok (.iconst 0, 1) := by decide +kernel
theorem dX11_begin_205 : decode cX11_begin 205 = .ok (.iastore, 1) := by decide +kernel
theorem dX11_begin_206 : decode cX11_begin 206 = .ok (.aload_n 0, 1) := by decide +kernel
theorem dX11_begin_207 : decode cX11_begin 207 = .ok (.iconst 0, 1) := by decide +kernel
theorem dX11_begin_208 : decode cX11_begin 208 = .ok (.putfield 110, 3) := by decide +kernel
theorem dX11_begin_211 : decode cX11_begin 211 = .ok (.aload_n 0, 1) := by decide +kernel
theorem dX11_begin_212 : decode cX11_begin 212 = .ok (.iconst 0, 1) := by decide +kernel
theorem dX11_begin_213 : decode cX11_begin 213 = .ok (.putfield 113, 3) := by decide +kernel
theorem dX11_begin_216 : decode cX11_begin 216 = .ok (.aload_n 0, 1) := by decide +kernel
theorem dX11_begin_217 : decode cX11_begin 217 = .ok (.iconst 0, 1) := by decide +kernel
theorem dX11_begin_218 : decode cX11_begin 218 = .ok (.putfield 116, 3) := by decide +kernel
theorem dX11_begin_221 : decode cX11_begin 221 = .ok (.aload_n 0, 1) := by decide +kernel
theorem dX11_begin_222 : decode cX11_begin 222 = .ok (.iconst 0, 1) := by decide +kernel
theorem dX11_begin_223 : decode cX11_begin 223 = .ok (.putfield 119, 3) := by decide +kernel
theorem dX11_begin_226 : decode cX11_begin 226 = .ok (.return_, 1) := by decide +kernel
theorem dX11_isYard_0 : decode cX11_isYard 0 = .ok (.iload_n 1, 1) := by decide +kernel
theorem dX11_isYard_1 : decode cX11_isYard 1 = .ok (.iconst 0, 1) := by decide +kernel
theorem dX11_isYard_2 : decode cX11_isYard 2 = .ok (.aload_n 0, 1) := by decide +kernel
theorem dX11_isYard_3 : decode cX11_isYard 3 = .ok (.getfield 7, 3) := by decide +kernel
theorem dX11_isYard_6 : decode cX11_isYard 6 = .ok (.iconst 0, 1) := by decide +kernel
theorem dX11_isYard_7 : decode cX11_isYard 7 = .ok (.iaload, 1) := by decide +kernel
theorem dX11_isYard_8 : decode cX11_isYard 8 = .ok (.iconst 1, 1) := by decide +kernel
theorem dX11_isYard_9 : decode cX11_isYard 9 = .ok (.isub, 1) := by decide +kernel
theorem dX11_isYard_10 : decode cX11_isYard 10 = .ok (.invokestatic 68, 3) := by decide +kernel
theorem dX11_isYard_13 : decode cX11_isYard 13 = .ok (.ireturn, 1) := by decide +kernel
theorem dX11_isPerson_0 : decode cX11_isPerson 0 = .ok (.iload_n 1, 1) := by decide +kernel
theorem dX11_isPerson_1 : decode cX11_isPerson 1 = .ok (.iconst 0, 1) := by decide +kernel
theorem dX11_isPerson_2 : decode cX11_isPerson 2 = .ok (.aload_n 0, 1) := by decide +kernel
theorem dX11_isPerson_3 : decode cX11_isPerson 3 = .ok (.getfield 7, 3) := by decide +kernel
theorem dX11_isPerson_6 : decode cX11_isPerson 6 = .ok (.iconst 1, 1) := by decide +kernel
theorem dX11_isPerson_7 : decode cX11_isPerson 7 = .ok (.iaload, 1) := by decide +kernel
theorem dX11_isPerson_8 : decode cX11_isPerson 8 = .ok (.iconst 1, 1) := by decide +kernel
theorem dX11_isPerson_9 : decode cX11_isPerson 9 = .ok (.isub, 1) := by decide +kernel
theorem dX11_isPerson_10 : decode cX11_isPerson 10 = .ok (.invokestatic 68, 3) := by decide +kernel
theorem dX11_isPerson_13 : decode cX11_isPerson 13 = .ok (.ireturn, 1) := by decide +kernel
theorem dX11_far_0 : decode cX11_far 0 = .ok (.aload_n 0, 1) := by decide +kernel
theorem dX11_far_1 : decode cX11_far 1 = .ok (.iload_n 1, 1) := by decide +kernel
theorem dX11_far_2 : decode cX11_far 2 = .ok (.invokevirtual 122, 3) := by decide +kernel
theorem dX11_far_5 : decode cX11_far 5 = .ok (.ifCond .eq 11, 3) := by decide +kernel
theorem dX11_far_8 : decode cX11_far 8 = .ok (.aload_n 0, 1) := by decide +kernel
theorem dX11_far_9 : decode cX11_far 9 = .ok (.iload_n 2, 1) := by decide +kernel
theorem dX11_far_10 : decode cX11_far 10 = .ok (.invokevirtual 122, 3) := by decide +kernel
theorem dX11_far_13 : decode cX11_far 13 = .ok (.ifCond .ne 5, 3) := by decide +kernel
theorem dX11_far_16 : decode cX11_far 16 = .ok (.iconst (-1), 1) := by decide +kernel
theorem dX11_far_17 : decode cX11_far 17 = .ok (.ireturn, 1) := by decide +kernel
theorem dX11_far_18 : decode cX11_far 18 = .ok (.aload_n 0, 1) := by decide +kernel
theorem dX11_far_19 : decode cX11_far 19 = .ok (.getfield 13, 3) := by decide +kernel
theorem dX11_far_22 : decode cX11_far 22 = .ok (.bipush 8, 2) := by decide +kernel
theorem dX11_far_24 : decode cX11_far 24 = .ok (.iload_n 1, 1) := by decide +kernel
theorem dX11_far_25 : decode cX11_far 25 = .ok (.imul, 1) := by decide +kernel
theorem dX11_far_26 : decode cX11_far 26 = .ok (.iload_n 2, 1) := by decide +kernel
theorem dX11_far_27 : decode cX11_far 27 = .ok (.iadd, 1) := by decide +kernel
theorem dX11_far_28 : decode cX11_far 28 = .ok (.iaload, 1) := by decide +kernel
theorem dX11_far_29 : decode cX11_far 29 = .ok (.ldc 109, 2) := by decide +kernel
theorem dX11_far_31 : decode cX11_far 31 = .ok (.if_icmp .lt 8, 3) := by decide +kernel
theorem dX11_far_34 : decode cX11_far 34 = .ok (.bipush (-4), 2) := by decide +kernel
theorem dX11_far_36 : decode cX11_far 36 = .ok (.goto 14, 3) := by decide +kernel
theorem dX11_far_39 : decode cX11_far 39 = .ok (.aload_n 0, 1) := by decide +kernel
theorem dX11_far_40 : decode cX11_far 40 = .ok (.getfield 13, 3) := by decide +kernel
theorem dX11_far_43 : decode cX11_far 43 = .ok (.bipush 8, 2) := by decide +kernel
theorem dX11_far_45 : decode cX11_far 45 = .ok (.iload_n 1, 1) := by decide +kernel
theorem dX11_far_46 : decode cX11_far 46 = .ok (.imul, 1) := by decide +kernel
theorem dX11_far_47 : decode cX11_far 47 = .ok (.iload_n 2, 1) := by decide +kernel
theorem dX11_far_48 : decode cX11_far 48 = .ok (.iadd, 1) := by decide +kernel
theorem dX11_far_49 : decode cX11_far 49 = .ok (.iaload, 1) := by decide +kernel
theorem dX11_far_50 : decode cX11_far 50 = .ok (.ireturn, 1) := by decide +kernel
theorem dX11_placeOf_0 : decode cX11_placeOf 0 = .ok (.aload_n 0, 1) := by decide +kernel
theorem dX11_placeOf_1 : decode cX11_placeOf 1 = .ok (.getfield 7, 3) := by decide +kernel
theorem dX11_placeOf_4 : decode cX11_placeOf 4 = .ok (.bipush 22, 2) := by decide +kernel
theorem dX11_placeOf_6 : decode cX11_placeOf 6 = .ok (.bipush 12, 2) := by decide +kernel
theorem dX11_placeOf_8 : decode cX11_placeOf 8 = .ok (.iload_n 1, 1) := by decide +kernel
theorem dX11_placeOf_9 : decode cX11_placeOf 9 = .ok (.imul, 1) := by decide +kernel
theorem dX11_placeOf_10 : decode cX11_placeOf 10 = .ok (.iadd, 1) := by decide +kernel
theorem dX11_placeOf_11 : decode cX11_placeOf 11 = .ok (.iload_n 2, 1) := by decide +kernel
theorem dX11_placeOf_12 : decode cX11_placeOf 12 = .ok (.aload_n 0, 1) := by decide +kernel
theorem dX11_placeOf_13 : decode cX11_placeOf 13 = .ok (.getfield 7, 3) := by decide +kernel
theorem dX11_placeOf_16 : decode cX11_placeOf 16 = .ok (.bipush 17, 2) := by decide +kernel
theorem dX11_placeOf_18 : decode cX11_placeOf 18 = .ok (.iload_n 1, 1) := by decide +kernel
theorem dX11_placeOf_19 : decode cX11_placeOf 19 = .ok (.iadd, 1) := by decide +kernel
theorem dX11_placeOf_20 : decode cX11_placeOf 20 = .ok (.iaload, 1) := by decide +kernel
theorem dX11_placeOf_21 : decode cX11_placeOf 21 = .ok (.irem, 1) := by decide +kernel
theorem dX11_placeOf_22 : decode cX11_placeOf 22 = .ok (.iadd, 1) := by decide +kernel
theorem dX11_placeOf_23 : decode cX11_placeOf 23 = .ok (.iaload, 1) := by decide +kernel
theorem dX11_placeOf_24 : decode cX11_placeOf 24 = .ok (.ireturn, 1) := by decide +kernel
theorem dX11_person_0 : decode cX11_person 0 = .ok (.aload_n 0, 1) := by decide +kernel
theorem dX11_person_1 : decode cX11_person 1 = .ok (.iload_n 1, 1) := by decide +kernel
theorem dX11_person_2 : decode cX11_person 2 = .ok (.invokevirtual 126, 3) := by decide +kernel
theorem dX11_person_5 : decode cX11_person 5 = .ok (.ifCond .eq 14, 3) := by decide +kernel
theorem dX11_person_8 : decode cX11_person 8 = .ok (.iload_n 2, 1) := by decide +kernel
theorem dX11_person_9 : decode cX11_person 9 = .ok (.iconst (-1), 1) := by decide +kernel
theorem dX11_person_10 : decode cX11_person 10 = .ok (.sipush 9999, 3) := by decide +kernel
theorem dX11_person_13 : decode cX11_person 13 = .ok (.invokestatic 68, 3) := by decide +kernel
theorem dX11_person_16 : decode cX11_person 16 = .ok (.ifCond .ne 5, 3) := by decide +kernel
theorem dX11_person_19 : decode cX11_person 19 = .ok (.iconst (-1), 1) := by decide +kernel
theorem dX11_person_20 : decode cX11_person 20 = .ok (.ireturn, 1) := by decide +kernel
theorem dX11_person_21 : decode cX11_person 21 = .ok (.iload_n 2, 1) := by decide +kernel
theorem dX11_person_22 : decode cX11_person 22 = .ok (.iconst (-1), 1) := by decide +kernel
theorem dX11_person_23 : decode cX11_person 23 = .ok (.if_icmp .ne 15, 3) := by decide +kernel
theorem dX11_person_26 : decode cX11_person 26 = .ok (.aload_n 0, 1) := by decide +kernel
theorem dX11_person_27 : decode cX11_person 27 = .ok (.getfield 7, 3) := by decide +kernel
theorem dX11_person_30 : decode cX11_person 30 = .ok (.bipush 12, 2) := by decide +kernel
theorem dX11_person_32 : decode cX11_person 32 = .ok (.iload_n 1, 1) := by decide +kernel
theorem dX11_person_33 : decode cX11_person 33 = .ok (.iadd, 1) := by decide +kernel
theorem dX11_person_34 : decode cX11_person 34 = .ok (.iaload, 1) := by decide +kernel
theorem dX11_person_35 : decode cX11_person 35 = .ok (.goto 9, 3) := by decide +kernel
theorem dX11_person_38 : decode cX11_person 38 = .ok (.aload_n 0, 1) := by decide +kernel
theorem dX11_person_39 : decode cX11_person 39 = .ok (.iload_n 1, 1) := by decide +kernel
theorem dX11_person_40 : decode cX11_person 40 = .ok (.iload_n 2, 1) := by decide +kernel
theorem dX11_person_41 : decode cX11_person 41 = .ok (.invokevirtual 129, 3) := by decide +kernel
theorem dX11_person_44 : decode cX11_person 44 = .ok (.ireturn, 1) := by decide +kernel
theorem dX11_yardOf_0 : decode cX11_yardOf 0 = .ok (.iload_n 0, 1) := by decide +kernel
theorem dX11_yardOf_1 : decode cX11_yardOf 1 = .ok (.bipush 8, 2) := by decide +kernel
theorem dX11_yardOf_3 : decode cX11_yardOf 3 = .ok (.irem, 1) := by decide +kernel
theorem dX11_yardOf_4 : decode cX11_yardOf 4 = .ok (.ireturn, 1) := by decide +kernel
theorem dX11_whomOf_0 : decode cX11_whomOf 0 = .ok (.iload_n 0, 1) := by decide +kernel
theorem dX11_whomOf_1 : decode cX11_whomOf 1 = .ok (.bipush 8, 2) := by decide +kernel
theorem dX11_whomOf_3 : decode cX11_whomOf 3 = .ok (.idiv, 1) := by decide +kernel
theorem dX11_whomOf_4 : decode cX11_whomOf 4 = .ok (.bipush 6, 2) := by decide +kernel
theorem dX11_whomOf_6 : decode cX11_whomOf 6 = .ok (.irem, 1) := by decide +kernel
theorem dX11_whomOf_7 : decode cX11_whomOf 7 = .ok (.iconst 1, 1) := by decide +kernel
theorem dX11_whomOf_8 : decode cX11_whomOf 8 = .ok (.isub, 1) := by decide +kernel
theorem dX11_whomOf_9 : decode cX11_whomOf 9 = .ok (.ireturn, 1) := by decide +kernel
theorem dX11_fedBy_0 : decode cX11_fedBy 0 = .ok (.iload_n 1, 1) := by decide +kernel
theorem dX11_fedBy_1 : decode cX11_fedBy 1 = .ok (.invokestatic 132, 3) := by decide +kernel
theorem dX11_fedBy_4 : decode cX11_fedBy 4 = .ok (.bipush 8, 2) := by decide +kernel
theorem dX11_fedBy_6 : decode cX11_fedBy 6 = .ok (.iload_n 2, 1) := by decide +kernel
theorem dX11_fedBy_7 : decode cX11_fedBy 7 = .ok (.iconst 1, 1) := by decide +kernel
theorem dX11_fedBy_8 : decode cX11_fedBy 8 = .ok (.iadd, 1) := by decide +kernel
theorem dX11_fedBy_9 : decode cX11_fedBy 9 = .ok (.imul, 1) := by decide +kernel
theorem dX11_fedBy_10 : decode cX11_fedBy 10 = .ok (.iadd, 1) := by decide +kernel
theorem dX11_fedBy_11 : decode cX11_fedBy 11 = .ok (.bipush 48, 2) := by decide +kernel
theorem dX11_fedBy_13 : decode cX11_fedBy 13 = .ok (.aload_n 0, 1) := by decide +kernel
theorem dX11_fedBy_14 : decode cX11_fedBy 14 = .ok (.getfield 7, 3) := by decide +kernel
theorem dX11_fedBy_17 : decode cX11_fedBy 17 = .ok (.iconst 2, 1) := by decide +kernel
theorem dX11_fedBy_18 : decode cX11_fedBy 18 = .ok (.iaload, 1) := by decide +kernel
theorem dX11_fedBy_19 : decode cX11_fedBy 19 = .ok (.imul, 1) := by decide +kernel
theorem dX11_fedBy_20 : decode cX11_fedBy 20 = .ok (.iadd, 1) := by decide +kernel
theorem dX11_fedBy_21 : decode cX11_fedBy 21 = .ok (.ireturn, 1) := by decide +kernel
theorem dX11_mayFeed_0 : decode cX11_mayFeed 0 = .ok (.aload_n 0, 1) := by decide +kernel
theorem dX11_mayFeed_1 : decode cX11_mayFeed 1 = .ok (.iload_n 2, 1) := by decide +kernel
theorem dX11_mayFeed_2 : decode cX11_mayFeed 2 = .ok (.iload_n 3, 1) := by decide +kernel
theorem dX11_mayFeed_3 : decode cX11_mayFeed 3 = .ok (.invokevirtual 129, 3) := by decide +kernel
theorem dX11_mayFeed_6 : decode cX11_mayFeed 6 = .ok (.iload_n 1, 1) := by decide +kernel
theorem dX11_mayFeed_7 : decode cX11_mayFeed 7 = .ok (.invokestatic 132, 3) := by decide +kernel
theorem dX11_mayFeed_10 : decode cX11_mayFeed 10 = .ok (.if_icmp .ne 7, 3) := by decide +kernel
theorem dX11_mayFeed_13 : decode cX11_mayFeed 13 = .ok (.iconst 1, 1) := by decide +kernel
theorem dX11_mayFeed_14 : decode cX11_mayFeed 14 = .ok (.goto 4, 3) := by decide +kernel
theorem dX11_mayFeed_17 : decode cX11_mayFeed 17 = .ok (.iconst 0, 1) := by decide +kernel
theorem dX11_mayFeed_18 : decode cX11_mayFeed 18 = .ok (.ireturn, 1) := by decide +kernel
theorem dX11_after_0 : decode cX11_after 0 = .ok (.iload_n 1, 1) := by decide +kernel
theorem dX11_after_1 : decode cX11_after 1 = .ok (.invokestatic 136, 3) := by decide +kernel
theorem dX11_after_4 : decode cX11_after 4 = .ok (.istore_n 3, 1) := by decide +kernel
theorem dX11_after_5 : decode cX11_after 5 = .ok (.iload_n 1, 1) := by decide +kernel
theorem dX11_after_6 : decode cX11_after 6 = .ok (.invokestatic 132, 3) := by decide +kernel
theorem dX11_after_9 : decode cX11_after 9 = .ok (.istore 4, 2) := by decide +kernel
theorem dX11_after_11 : decode cX11_after 11 = .ok (.iload_n 3, 1) := by decide +kernel
theorem dX11_after_12 : decode cX11_after 12 = .ok (.ifCond .ge 6, 3) := by decide +kernel
theorem dX11_after_15 : decode cX11_after 15 = .ok (.iload 4, 2) := by decide +kernel
theorem dX11_after_17 : decode cX11_after 17 = .ok (.ireturn, 1) := by decide +kernel
theorem dX11_after_18 : decode cX11_after 18 = .ok (.iload_n 1, 1) := by decide +kernel
theorem dX11_after_19 : decode cX11_after 19 = .ok (.bipush 48, 2) := by decide +kernel
theorem dX11_after_21 : decode cX11_after 21 = .ok (.idiv, 1) := by decide +kernel
theorem dX11_after_22 : decode cX11_after 22 = .ok (.istore 5, 2) := by decide +kernel
theorem dX11_after_24 : decode cX11_after 24 = .ok (.aload_n 0, 1) := by decide +kernel
theorem dX11_after_25 : decode cX11_after 25 = .ok (.getfield 7, 3) := by decide +kernel
theorem dX11_after_28 : decode cX11_after 28 = .ok (.iconst 2, 1) := by decide +kernel
theorem dX11_after_29 : decode cX11_after 29 = .ok (.iaload, 1) := by decide +kernel
theorem dX11_after_30 : decode cX11_after 30 = .ok (.ifCond .le 14, 3) := by decide +kernel
theorem dX11_after_33 : decode cX11_after 33 = .ok (.iinc 5 (-1), 3) := by decide +kernel
theorem dX11_after_36 : decode cX11_after 36 = .ok (.iload 5, 2) := by decide +kernel
theorem dX11_after_38 : decode cX11_after 38 = .ok (.ifCond .ne 6, 3) := by decide +kernel
theorem dX11_after_41 : decode cX11_after 41 = .ok (.iload 4, 2) := by decide +kernel
theorem dX11_after_43 : decode cX11_after 43 = .ok (.ireturn, 1) := by decide +kernel
theorem dX11_after_44 : decode cX11_after 44 = .ok (.aload_n 0, 1) := by decide +kernel
theorem dX11_after_45 : decode cX11_after 45 = .ok (.iload_n 3, 1) := by decide +kernel
theorem dX11_after_46 : decode cX11_after 46 = .ok (.iload_n 2, 1) := by decide +kernel
theorem dX11_after_47 : decode cX11_after 47 = .ok (.invokevirtual 129, 3) := by decide +kernel
theorem dX11_after_50 : decode cX11_after 50 = .ok (.istore 6, 2) := by decide +kernel
theorem dX11_after_52 : decode cX11_after 52 = .ok (.aload_n 0, 1) := by decide +kernel
theorem dX11_after_53 : decode cX11_after 53 = .ok (.getfield 13, 3) := by decide +kernel
theorem dX11_after_56 : decode cX11_after 56 = .ok (.bipush 8, 2) := by decide +kernel
theorem dX11_after_58 : decode cX11_after 58 = .ok (.iload 4, 2) := by decide +kernel
theorem dX11_after_60 : decode cX11_after 60 = .ok (.imul, 1) := by decide +kernel
theorem dX11_after_61 : decode cX11_after 61 = .ok (.iload 6, 2) := by decide +kernel
theorem dX11_after_63 : decode cX11_after 63 = .ok (.iadd, 1) := by decide +kernel
theorem dX11_after_64 : decode cX11_after 64 = .ok (.iaload, 1) := by decide +kernel
theorem dX11_after_65 : decode cX11_after 65 = .ok (.istore 7, 2) := by decide +kernel
theorem dX11_after_67 : decode cX11_after 67 = .ok (.iload 7, 2) := by decide +kernel
theorem dX11_after_69 : decode cX11_after 69 = .ok (.ifCond .le 60, 3) := by decide +kernel
theorem dX11_after_72 : decode cX11_after 72 = .ok (.iload 7, 2) := by decide +kernel
theorem dX11_after_74 : decode cX11_after 74 = .ok (.ldc 109, 2) := by decide +kernel
theorem dX11_after_76 : decode cX11_after 76 = .ok (.if_icmp .ge 53, 3) := by decide +kernel
theorem dX11_after_79 : decode cX11_after 79 = .ok (.iconst 0, 1) := by decide +kernel
theorem dX11_after_80 : decode cX11_after 80 = .ok (.istore 8, 2) := by decide +kernel
theorem dX11_after_82 : decode cX11_after 82 = .ok (.aload_n 0, 1) := by decide +kernel
theorem dX11_after_83 : decode cX11_after 83 = .ok (.getfield 7, 3) := by decide +kernel
theorem dX11_after_86 : decode cX11_after 86 = .ok (.iconst 4, 1) := by decide +kernel
theorem dX11_after_87 : decode cX11_after 87 = .ok (.iload 4, 2) := by decide +kernel
theorem dX11_after_89 : decode cX11_after 89 = .ok (.iadd, 1) := by decide +kernel
theorem dX11_after_90 : decode cX11_after 90 = .ok (.iaload, 1) := by decide +kernel
theorem dX11_after_91 : decode cX11_after 91 = .ok (.iload 8, 2) := by decide +kernel
theorem dX11_after_93 : decode cX11_after 93 = .ok (.ishr, 1) := by decide +kernel
theorem dX11_after_94 : decode cX11_after 94 = .ok (.iconst 1, 1) := by decide +kernel
theorem dX11_after_95 : decode cX11_after 95 = .ok (.iand, 1) := by decide +kernel
theorem dX11_after_96 : decode cX11_after 96 = .ok (.ifCond .eq 23, 3) := by decide +kernel
theorem dX11_after_99 : decode cX11_after 99 = .ok (.aload_n 0, 1) := by decide +kernel
theorem dX11_after_100 : decode cX11_after 100 = .ok (.getfield 13, 3) := by decide +kernel
theorem dX11_after_103 : decode cX11_after 103 = .ok (.bipush 8, 2) := by decide +kernel
theorem dX11_after_105 : decode cX11_after 105 = .ok (.iload 8, 2) := by decide +kernel
theorem dX11_after_107 : decode cX11_after 107 = .ok (.imul, 1) := by decide +kernel
theorem dX11_after_108 : decode cX11_after 108 = .ok (.iload 6, 2) := by decide +kernel
theorem dX11_after_110 : decode cX11_after 110 = .ok (.iadd, 1) := by decide +kernel
theorem dX11_after_111 : decode cX11_after 111 = .ok (.iaload, 1) := by decide +kernel
theorem dX11_after_112 : decode cX11_after 112 = .ok (.iload 7, 2) := by decide +kernel
theorem dX11_after_114 : decode cX11_after 114 = .ok (.iconst 1, 1) := by decide +kernel
theorem dX11_after_115 : decode cX11_after 115 = .ok (.isub, 1) := by decide +kernel
theorem dX11_after_116 : decode cX11_after 116 = .ok (.if_icmp .eq 9, 3) := by decide +kernel
theorem dX11_after_119 : decode cX11_after 119 = .ok (.iinc 8 1, 3) := by decide +kernel
theorem dX11_after_122 : decode cX11_after 122 = .ok (.goto (-40), 3) := by decide +kernel
theorem dX11_after_125 : decode cX11_after 125 = .ok (.iload 8, 2) := by decide +kernel
theorem dX11_after_127 : decode cX11_after 127 = .ok (.istore 4, 2) := by decide +kernel
theorem dX11_after_129 : decode cX11_after 129 = .ok (.iload 4, 2) := by decide +kernel
theorem dX11_after_131 : decode cX11_after 131 = .ok (.bipush 8, 2) := by decide +kernel
theorem dX11_after_133 : decode cX11_after 133 = .ok (.iload_n 3, 1) := by decide +kernel
theorem dX11_after_134 : decode cX11_after 134 = .ok (.iconst 1, 1) := by decide +kernel
theorem dX11_after_135 : decode cX11_after 135 = .ok (.iadd, 1) := by decide +kernel
theorem dX11_after_136 : decode cX11_after 136 = .ok (.imul, 1) := by decide +kernel
theorem dX11_after_137 : decode cX11_after 137 = .ok (.iadd, 1) := by decide +kernel
theorem dX11_after_138 : decode cX11_after 138 = .ok (.bipush 48, 2) := by decide +kernel
theorem dX11_after_140 : decode cX11_after 140 = .ok (.iload 5, 2) := by decide +kernel
theorem dX11_after_142 : decode cX11_after 142 = .ok (.imul, 1) := by decide +kernel
theorem dX11_after_143 : decode cX11_after 143 = .ok (.iadd, 1) := by decide +kernel
theorem dX11_after_144 : decode cX11_after 144 = .ok (.ireturn, 1) := by decide +kernel
theorem dX11_know_0 : decode cX11_know 0 = .ok (.aload_n 0, 1) := by decide +kernel
theorem dX11_know_1 : decode cX11_know 1 = .ok (.getfield 110, 3) := by decide +kernel
theorem dX11_know_4 : decode cX11_know 4 = .ok (.bipush 8, 2) := by decide +kernel
theorem dX11_know_6 : decode cX11_know 6 = .ok (.if_icmp .ne 41, 3) := by decide +kernel
theorem dX11_know_9 : decode cX11_know 9 = .ok (.iconst 0, 1) := by decide +kernel
theorem dX11_know_10 : decode cX11_know 10 = .ok (.istore_n 1, 1) := by decide +kernel
theorem dX11_know_11 : decode cX11_know 11 = .ok (.iload_n 1, 1) := by decide +kernel
theorem dX11_know_12 : decode cX11_know 12 = .ok (.bipush 21, 2) := by decide +kernel
theorem dX11_know_14 : decode cX11_know 14 = .ok (.if_icmp .ge 23, 3) := by decide +kernel
theorem dX11_know_17 : decode cX11_know 17 = .ok (.aload_n 0, 1) := by decide +kernel
theorem dX11_know_18 : decode cX11_know 18 = .ok (.getfield 23, 3) := by decide +kernel
theorem dX11_know_21 : decode cX11_know 21 = .ok (.iload_n 1, 1) := by decide +kernel
theorem dX11_know_22 : decode cX11_know 22 = .ok (.aload_n 0, 1) := by decide +kernel
theorem dX11_know_23 : decode cX11_know 23 = .ok (.getfield 23, 3) := by decide +kernel
theorem dX11_know_26 : decode cX11_know 26 = .ok (.iload_n 1, 1) := by decide +kernel
theorem dX11_know_27 : decode cX11_know 27 = .ok (.iconst 3, 1) := by decide +kernel
theorem dX11_know_28 : decode cX11_know 28 = .ok (.iadd, 1) := by decide +kernel
theorem dX11_know_29 : decode cX11_know 29 = .ok (.iaload, 1) := by decide +kernel
theorem dX11_know_30 : decode cX11_know 30 = .ok (.iastore, 1) := by decide +kernel
theorem dX11_know_31 : decode cX11_know 31 = .ok (.iinc 1 1, 3) := by decide +kernel
theorem dX11_know_34 : decode cX11_know 34 = .ok (.goto (-23), 3) := by decide +kernel
theorem dX11_know_37 : decode cX11_know 37 = .ok (.aload_n 0, 1) := by decide +kernel
theorem dX11_know_38 : decode cX11_know 38 = .ok (.dup, 1) := by decide +kernel
theorem dX11_know_39 : decode cX11_know 39 = .ok (.getfield 110, 3) := by decide +kernel
theorem dX11_know_42 : decode cX11_know 42 = .ok (.iconst 1, 1) := by decide +kernel
theorem dX11_know_43 : decode cX11_know 43 = .ok (.isub, 1) := by decide +kernel
theorem dX11_know_44 : decode cX11_know 44 = .ok (.putfield 110, 3) := by decide +kernel
theorem dX11_know_47 : decode cX11_know 47 = .ok (.iconst 0, 1) := by decide +kernel
theorem dX11_know_48 : decode cX11_know 48 = .ok (.istore_n 1, 1) := by decide +kernel
theorem dX11_know_49 : decode cX11_know 49 = .ok (.iload_n 1, 1) := by decide +kernel
theorem dX11_know_50 : decode cX11_know 50 = .ok (.iconst 3, 1) := by decide +kernel
theorem dX11_know_51 : decode cX11_know 51 = .ok (.if_icmp .ge 28, 3) := by decide +kernel
theorem dX11_know_54 : decode cX11_know 54 = .ok (.aload_n 0, 1) := by decide +kernel
theorem dX11_know_55 : decode cX11_know 55 = .ok (.getfield 23, 3) := by decide +kernel
theorem dX11_know_58 : decode cX11_know 58 = .ok (.iconst 3, 1) := by decide +kernel
theorem dX11_know_59 : decode cX11_know 59 = .ok (.aload_n 0, 1) := by decide +kernel
theorem dX11_know_60 : decode cX11_know 60 = .ok (.getfield 110, 3) := by decide +kernel
theorem dX11_know_63 : decode cX11_know 63 = .ok (.imul, 1) := by decide +kernel
theorem dX11_know_64 : decode cX11_know 64 = .ok (.iload_n 1, 1) := by decide +kernel
theorem dX11_know_65 : decode cX11_know 65 = .ok (.iadd, 1) := by decide +kernel
theorem dX11_know_66 : decode cX11_know 66 = .ok (.aload_n 0, 1) := by decide +kernel
theorem dX11_know_67 : decode cX11_know 67 = .ok (.getfield 20, 3) := by decide +kernel
theorem dX11_know_70 : decode cX11_know 70 = .ok (.iload_n 1, 1) := by decide +kernel
theorem dX11_know_71 : decode cX11_know 71 = .ok (.iaload, 1) := by decide +kernel
theorem dX11_know_72 : decode cX11_know 72 = .ok (.iastore, 1) := by decide +kernel
theorem dX11_know_73 : decode cX11_know 73 = .ok (.iinc 1 1, 3) := by decide +kernel
theorem dX11_know_76 : decode cX11_know 76 = .ok (.goto (-27), 3) := by decide +kernel
theorem dX11_know_79 : decode cX11_know 79 = .ok (.aload_n 0, 1) := by decide +kernel
theorem dX11_know_80 : decode cX11_know 80 = .ok (.dup, 1) := by decide +kernel
theorem dX11_know_81 : decode cX11_know 81 = .ok (.getfield 110, 3) := by decide +kernel
theorem dX11_know_84 : decode cX11_know 84 = .ok (.iconst 1, 1) := by decide +kernel
theorem dX11_know_85 : decode cX11_know 85 = .ok (.iadd, 1) := by decide +kernel
theorem dX11_know_86 : decode cX11_know 86 = .ok (.putfield 110, 3) := by decide +kernel
theorem dX11_know_89 : decode cX11_know 89 = .ok (.return_, 1) := by decide +kernel
theorem dX11_feed_0 : decode cX11_feed 0 = .ok (.aload_n 0, 1) := by decide +kernel
theorem dX11_feed_1 : decode cX11_feed 1 = .ok (.iload_n 1, 1) := by decide +kernel
theorem dX11_feed_2 : decode cX11_feed 2 = .ok (.invokevirtual 126, 3) := by decide +kernel
theorem dX11_feed_5 : decode cX11_feed 5 = .ok (.ifCond .ne 5, 3) := by decide +kernel
theorem dX11_feed_8 : decode cX11_feed 8 = .ok (.iconst (-1), 1) := by decide +kernel
theorem dX11_feed_9 : decode cX11_feed 9 = .ok (.ireturn, 1) := by decide +kernel
theorem dX11_feed_10 : decode cX11_feed 10 = .ok (.aload_n 0, 1) := by decide +kernel
theorem dX11_feed_11 : decode cX11_feed 11 = .ok (.aload_n 0, 1) := by decide +kernel
theorem dX11_feed_12 : decode cX11_feed 12 = .ok (.getfield 20, 3) := by decide +kernel
theorem dX11_feed_15 : decode cX11_feed 15 = .ok (.iconst 1, 1) := by decide +kernel
theorem dX11_feed_16 : decode cX11_feed 16 = .ok (.iaload, 1) := by decide +kernel
theorem dX11_feed_17 : decode cX11_feed 17 = .ok (.iload_n 1, 1) := by decide +kernel
theorem dX11_feed_18 : decode cX11_feed 18 = .ok (.aload_n 0, 1) := by decide +kernel
theorem dX11_feed_19 : decode cX11_feed 19 = .ok (.getfield 20, 3) := by decide +kernel
theorem dX11_feed_22 : decode cX11_feed 22 = .ok (.iconst 0, 1) := by decide +kernel
theorem dX11_feed_23 : decode cX11_feed 23 = .ok (.iaload, 1) := by decide +kernel
theorem dX11_feed_24 : decode cX11_feed 24 = .ok (.invokevirtual 139, 3) := by decide +kernel
theorem dX11_feed_27 : decode cX11_feed 27 = .ok (.ifCond .ne 6, 3) := by decide +kernel
theorem dX11_feed_30 : decode cX11_feed 30 = .ok (.bipush (-2), 2) := by decide +kernel
theorem dX11_feed_32 : decode cX11_feed 32 = .ok (.ireturn, 1) := by decide +kernel
theorem dX11_feed_33 : decode cX11_feed 33 = .ok (.aload_n 0, 1) := by decide +kernel
theorem dX11_feed_34 : decode cX11_feed 34 = .ok (.invokevirtual 142, 3) := by decide +kernel
theorem dX11_feed_37 : decode cX11_feed 37 = .ok (.aload_n 0, 1) := by decide +kernel
theorem dX11_feed_38 : decode cX11_feed 38 = .ok (.getfield 20, 3) := by decide +kernel
theorem dX11_feed_41 : decode cX11_feed 41 = .ok (.iconst 1, 1) := by decide +kernel
theorem dX11_feed_42 : decode cX11_feed 42 = .ok (.aload_n 0, 1) := by decide +kernel
theorem dX11_feed_43 : decode cX11_feed 43 = .ok (.aload_n 0, 1) := by decide +kernel
theorem dX11_feed_44 : decode cX11_feed 44 = .ok (.getfield 20, 3) := by decide +kernel
theorem dX11_feed_47 : decode cX11_feed 47 = .ok (.iconst 1, 1) := by decide +kernel
theorem dX11_feed_48 : decode cX11_feed 48 = .ok (.iaload, 1) := by decide +kernel
theorem dX11_feed_49 : decode cX11_feed 49 = .ok (.iload_n 1, 1) := by decide +kernel
theorem dX11_feed_50 : decode cX11_feed 50 = .ok (.invokevirtual 145, 3) := by decide +kernel
theorem dX11_feed_53 : decode cX11_feed 53 = .ok (.iastore, 1) := by decide +kernel
theorem dX11_feed_54 : decode cX11_feed 54 = .ok (.aload_n 0, 1) := by decide +kernel
theorem dX11_feed_55 : decode cX11_feed 55 = .ok (.getfield 20, 3) := by decide +kernel
theorem dX11_feed_58 : decode cX11_feed 58 = .ok (.iconst 2, 1) := by decide +kernel
theorem dX11_feed_59 : decode cX11_feed 59 = .ok (.dup2, 1) := by decide +kernel
theorem dX11_feed_60 : decode cX11_feed 60 = .ok (.iaload, 1) := by decide +kernel
theorem dX11_feed_61 : decode cX11_feed 61 = .ok (.iconst 1, 1) := by decide +kernel
theorem dX11_feed_62 : decode cX11_feed 62 = .ok (.iadd, 1) := by decide +kernel
theorem dX11_feed_63 : decode cX11_feed 63 = .ok (.iastore, 1) := by decide +kernel
theorem dX11_feed_64 : decode cX11_feed 64 = .ok (.aload_n 0, 1) := by decide +kernel
theorem dX11_feed_65 : decode cX11_feed 65 = .ok (.getfield 20, 3) := by decide +kernel
theorem dX11_feed_68 : decode cX11_feed 68 = .ok (.iconst 2, 1) := by decide +kernel
theorem dX11_feed_69 : decode cX11_feed 69 = .ok (.iaload, 1) := by decide +kernel
theorem dX11_feed_70 : decode cX11_feed 70 = .ok (.ireturn, 1) := by decide +kernel
theorem dX11_gone_0 : decode cX11_gone 0 = .ok (.iload_n 1, 1) := by decide +kernel
theorem dX11_gone_1 : decode cX11_gone 1 = .ok (.istore 4, 2) := by decide +kernel
theorem dX11_gone_3 : decode cX11_gone 3 = .ok (.iconst 1, 1) := by decide +kernel
theorem dX11_gone_4 : decode cX11_gone 4 = .ok (.istore 5, 2) := by decide +kernel
theorem dX11_gone_6 : decode cX11_gone 6 = .ok (.iload 5, 2) := by decide +kernel
theorem dX11_gone_8 : decode cX11_gone 8 = .ok (.iload_n 3, 1) := by decide +kernel
theorem dX11_gone_9 : decode cX11_gone 9 = .ok (.if_icmp .gt 21, 3) := by decide +kernel
theorem dX11_gone_12 : decode cX11_gone 12 = .ok (.aload_n 0, 1) := by decide +kernel
theorem dX11_gone_13 : decode cX11_gone 13 = .ok (.iload 4, 2) := by decide +kernel
theorem dX11_gone_15 : decode cX11_gone 15 = .ok (.iload_n 2, 1) := by decide +kernel
theorem dX11_gone_16 : decode cX11_gone 16 = .ok (.iload 5, 2) := by decide +kernel
theorem dX11_gone_18 : decode cX11_gone 18 = .ok (.iadd, 1) := by decide +kernel
theorem dX11_gone_19 : decode cX11_gone 19 = .ok (.invokevirtual 148, 3) := by decide +kernel
theorem dX11_gone_22 : decode cX11_gone 22 = .ok (.istore 4, 2) := by decide +kernel
theorem dX11_gone_24 : decode cX11_gone 24 = .ok (.iinc 5 1, 3) := by decide +kernel
theorem dX11_gone_27 : decode cX11_gone 27 = .ok (.goto (-21), 3) := by decide +kernel
theorem dX11_gone_30 : decode cX11_gone 30 = .ok (.iload 4, 2) := by decide +kernel
theorem dX11_gone_32 : decode cX11_gone 32 = .ok (.ireturn, 1) := by decide +kernel
theorem dX11_pass_0 : decode cX11_pass 0 = .ok (.iload_n 1, 1) := by decide +kernel
theorem dX11_pass_1 : decode cX11_pass 1 = .ok (.iconst 1, 1) := by decide +kernel
theorem dX11_pass_2 : decode cX11_pass 2 = .ok (.bipush 99, 2) := by decide +kernel
theorem dX11_pass_4 : decode cX11_pass 4 = .ok (.invokestatic 68, 3) := by decide +kernel
theorem dX11_pass_7 : decode cX11_pass 7 = .ok (.ifCond .ne 5, 3) := by decide +kernel
theorem dX11_pass_10 : decode cX11_pass 10 = .ok (.iconst (-1), 1) := by decide +kernel
theorem dX11_pass_11 : decode cX11_pass 11 = .ok (.ireturn, 1) := by decide +kernel
theorem dX11_pass_12 : decode cX11_pass 12 = .ok (.aload_n 0, 1) := by decide +kernel
theorem dX11_pass_13 : decode cX11_pass 13 = .ok (.getfield 20, 3) := by decide +kernel
theorem dX11_pass_16 : decode cX11_pass 16 = .ok (.iconst 0, 1) := by decide +kernel
theorem dX11_pass_17 : decode cX11_pass 17 = .ok (.iaload, 1) := by decide +kernel
theorem dX11_pass_18 : decode cX11_pass 18 = .ok (.iload_n 1, 1) := by decide +kernel
theorem dX11_pass_19 : decode cX11_pass 19 = .ok (.iadd, 1) := by decide +kernel
theorem dX11_pass_20 : decode cX11_pass 20 = .ok (.sipush 9999, 3) := by decide +kernel
theorem dX11_pass_23 : decode cX11_pass 23 = .ok (.if_icmp .le 6, 3) := by decide +kernel
theorem dX11_pass_26 : decode cX11_pass 26 = .ok (.bipush (-2), 2) := by decide +kernel
theorem dX11_pass_28 : decode cX11_pass 28 = .ok (.ireturn, 1) := by decide +kernel
theorem dX11_pass_29 : decode cX11_pass 29 = .ok (.aload_n 0, 1) := by decide +kernel
theorem dX11_pass_30 : decode cX11_pass 30 = .ok (.invokevirtual 142, 3) := by decide +kernel
theorem dX11_pass_33 : decode cX11_pass 33 = .ok (.aload_n 0, 1) := by decide +kernel
theorem dX11_pass_34 : decode cX11_pass 34 = .ok (.getfield 20, 3) := by decide +kernel
theorem dX11_pass_37 : decode cX11_pass 37 = .ok (.iconst 1, 1) := by decide +kernel
theorem dX11_pass_38 : decode cX11_pass 38 = .ok (.aload_n 0, 1) := by decide +kernel
theorem dX11_pass_39 : decode cX11_pass 39 = .ok (.aload_n 0, 1) := by decide +kernel
theorem dX11_pass_40 : decode cX11_pass 40 = .ok (.getfield 20, 3) := by decide +kernel
theorem dX11_pass_43 : decode cX11_pass 43 = .ok (.iconst 1, 1) := by decide +kernel
theorem dX11_pass_44 : decode cX11_pass 44 = .ok (.iaload, 1) := by decide +kernel
theorem dX11_pass_45 : decode cX11_pass 45 = .ok (.aload_n 0, 1) := by decide +kernel
theorem dX11_pass_46 : decode cX11_pass 46 = .ok (.getfield 20, 3) := by decide +kernel
theorem dX11_pass_49 : decode cX11_pass 49 = .ok (.iconst 0, 1) := by decide +kernel
theorem dX11_pass_50 : decode cX11_pass 50 = .ok (.iaload, 1) := by decide +kernel
theorem dX11_pass_51 : decode cX11_pass 51 = .ok (.iload_n 1, 1) := by decide +kernel
theorem dX11_pass_52 : decode cX11_pass 52 = .ok (.invokevirtual 151, 3) := by decide +kernel
theorem dX11_pass_55 : decode cX11_pass 55 = .ok (.iastore, 1) := by decide +kernel
theorem dX11_pass_56 : decode cX11_pass 56 = .ok (.aload_n 0, 1) := by decide +kernel
theorem dX11_pass_57 : decode cX11_pass 57 = .ok (.getfield 20, 3) := by decide +kernel
theorem dX11_pass_60 : decode cX11_pass 60 = .ok (.iconst 0, 1) := by decide +kernel
theorem dX11_pass_61 : decode cX11_pass 61 = .ok (.dup2, 1) := by decide +kernel
theorem dX11_pass_62 : decode cX11_pass 62 = .ok (.iaload, 1) := by decide +kernel
theorem dX11_pass_63 : decode cX11_pass 63 = .ok (.iload_n 1, 1) := by decide +kernel
theorem dX11_pass_64 : decode cX11_pass 64 = .ok (.iadd, 1) := by decide +kernel
theorem dX11_pass_65 : decode cX11_pass 65 = .ok (.iastore, 1) := by decide +kernel
theorem dX11_pass_66 : decode cX11_pass 66 = .ok (.aload_n 0, 1) := by decide +kernel
theorem dX11_pass_67 : decode cX11_pass 67 = .ok (.getfield 20, 3) := by decide +kernel
theorem dX11_pass_70 : decode cX11_pass 70 = .ok (.iconst 1, 1) := by decide +kernel
theorem dX11_pass_71 : decode cX11_pass 71 = .ok (.iaload, 1) := by decide +kernel
theorem dX11_pass_72 : decode cX11_pass 72 = .ok (.invokestatic 132, 3) := by decide +kernel
theorem dX11_pass_75 : decode cX11_pass 75 = .ok (.ireturn, 1) := by decide +kernel
theorem dX11_undo_0 : decode cX11_undo 0 = .ok (.aload_n 0, 1) := by decide +kernel
theorem dX11_undo_1 : decode cX11_undo 1 = .ok (.getfield 110, 3) := by decide +kernel
theorem dX11_undo_4 : decode cX11_undo 4 = .ok (.ifCond .ne 6, 3) := by decide +kernel
theorem dX11_undo_7 : decode cX11_undo 7 = .ok (.bipush (-2), 2) := by decide +kernel
theorem dX11_undo_9 : decode cX11_undo 9 = .ok (.ireturn, 1) := by decide +kernel
theorem dX11_undo_10 : decode cX11_undo 10 = .ok (.aload_n 0, 1) := by decide +kernel
theorem dX11_undo_11 : decode cX11_undo 11 = .ok (.dup, 1) := by decide +kernel
theorem dX11_undo_12 : decode cX11_undo 12 = .ok (.getfield 110, 3) := by decide +kernel
theorem dX11_undo_15 : decode cX11_undo 15 = .ok (.iconst 1, 1) := by decide +kernel
theorem dX11_undo_16 : decode cX11_undo 16 = .ok (.isub, 1) := by decide +kernel
theorem dX11_undo_17 : decode cX11_undo 17 = .ok (.putfield 110, 3) := by decide +kernel
theorem dX11_undo_20 : decode cX11_undo 20 = .ok (.iconst 0, 1) := by decide +kernel
theorem dX11_undo_21 : decode cX11_undo 21 = .ok (.istore_n 1, 1) := by decide +kernel
theorem dX11_undo_22 : decode cX11_undo 22 = .ok (.iload_n 1, 1) := by decide +kernel
theorem dX11_undo_23 : decode cX11_undo 23 = .ok (.iconst 3, 1) := by decide +kernel
theorem dX11_undo_24 : decode cX11_undo 24 = .ok (.if_icmp .ge 28, 3) := by decide +kernel
theorem dX11_undo_27 : decode cX11_undo 27 = .ok (.aload_n 0, 1) := by decide +kernel
theorem dX11_undo_28 : decode cX11_undo 28 = .ok (.getfield 20, 3) := by decide +kernel
theorem dX11_undo_31 : decode cX11_undo 31 = .ok (.iload_n 1, 1) := by decide +kernel
theorem dX11_undo_32 : decode cX11_undo 32 = .ok (.aload_n 0, 1) := by decide +kernel
theorem dX11_undo_33 : decode cX11_undo 33 = .ok (.getfield 23, 3) := by decide +kernel
theorem dX11_undo_36 : decode cX11_undo 36 = .ok (.iconst 3, 1) := by decide +kernel
theorem dX11_undo_37 : decode cX11_undo 37 = .ok (.aload_n 0, 1) := by decide +kernel
theorem dX11_undo_38 : decode cX11_undo 38 = .ok (.getfield 110, 3) := by decide +kernel
theorem dX11_undo_41 : decode cX11_undo 41 = .ok (.imul, 1) := by decide +kernel
theorem dX11_undo_42 : decode cX11_undo 42 = .ok (.iload_n 1, 1) := by decide +kernel
theorem dX11_undo_43 : decode cX11_undo 43 = .ok (.iadd, 1) := by decide +kernel
theorem dX11_undo_44 : decode cX11_undo 44 = .ok (.iaload, 1) := by decide +kernel
theorem dX11_undo_45 : decode cX11_undo 45 = .ok (.iastore, 1) := by decide +kernel
theorem dX11_undo_46 : decode cX11_undo 46 = .ok (.iinc 1 1, 3) := by decide +kernel
theorem dX11_undo_49 : decode cX11_undo 49 = .ok (.goto (-27), 3) := by decide +kernel
theorem dX11_undo_52 : decode cX11_undo 52 = .ok (.aload_n 0, 1) := by decide +kernel
theorem dX11_undo_53 : decode cX11_undo 53 = .ok (.getfield 110, 3) := by decide +kernel
theorem dX11_undo_56 : decode cX11_undo 56 = .ok (.ireturn, 1) := by decide +kernel
theorem dX11_calf_0 : decode cX11_calf 0 = .ok (.iload_n 1, 1) := by decide +kernel
theorem dX11_calf_1 : decode cX11_calf 1 = .ok (.iconst 0, 1) := by decide +kernel
theorem dX11_calf_2 : decode cX11_calf 2 = .ok (.sipush 400, 3) := by decide +kernel
theorem dX11_calf_5 : decode cX11_calf 5 = .ok (.invokestatic 68, 3) := by decide +kernel
theorem dX11_calf_8 : decode cX11_calf 8 = .ok (.ifCond .eq 12, 3) := by decide +kernel
theorem dX11_calf_11 : decode cX11_calf 11 = .ok (.iload_n 2, 1) := by decide +kernel
theorem dX11_calf_12 : decode cX11_calf 12 = .ok (.iconst 0, 1) := by decide +kernel
theorem dX11_calf_13 : decode cX11_calf 13 = .ok (.iconst 1, 1) := by decide +kernel
theorem dX11_calf_14 : decode cX11_calf 14 = .ok (.invokestatic 68, 3) := by decide +kernel
theorem dX11_calf_17 : decode cX11_calf 17 = .ok (.ifCond .ne 5, 3) := by decide +kernel
theorem dX11_calf_20 : decode cX11_calf 20 = .ok (.iconst (-1), 1) := by decide +kernel
theorem dX11_calf_21 : decode cX11_calf 21 = .ok (.ireturn, 1) := by decide +kernel
theorem dX11_calf_22 : decode cX11_calf 22 = .ok (.aload_n 0, 1) := by decide +kernel
theorem dX11_calf_23 : decode cX11_calf 23 = .ok (.aload_n 0, 1) := by decide +kernel
theorem dX11_calf_24 : decode cX11_calf 24 = .ok (.getfield 20, 3) := by decide +kernel
theorem dX11_calf_27 : decode cX11_calf 27 = .ok (.iconst 1, 1) := by decide +kernel
theorem dX11_calf_28 : decode cX11_calf 28 = .ok (.iaload, 1) := by decide +kernel
theorem dX11_calf_29 : decode cX11_calf 29 = .ok (.aload_n 0, 1) := by decide +kernel
theorem dX11_calf_30 : decode cX11_calf 30 = .ok (.getfield 20, 3) := by decide +kernel
theorem dX11_calf_33 : decode cX11_calf 33 = .ok (.iconst 0, 1) := by decide +kernel
theorem dX11_calf_34 : decode cX11_calf 34 = .ok (.iaload, 1) := by decide +kernel
theorem dX11_calf_35 : decode cX11_calf 35 = .ok (.iload_n 1, 1) := by decide +kernel
theorem dX11_calf_36 : decode cX11_calf 36 = .ok (.invokevirtual 151, 3) := by decide +kernel
theorem dX11_calf_39 : decode cX11_calf 39 = .ok (.istore_n 3, 1) := by decide +kernel
theorem dX11_calf_40 : decode cX11_calf 40 = .ok (.iload_n 2, 1) := by decide +kernel
theorem dX11_calf_41 : decode cX11_calf 41 = .ok (.ifCond .ne 10, 3) := by decide +kernel
theorem dX11_calf_44 : decode cX11_calf 44 = .ok (.iload_n 3, 1) := by decide +kernel
theorem dX11_calf_45 : decode cX11_calf 45 = .ok (.invokestatic 132, 3) := by decide +kernel
theorem dX11_calf_48 : decode cX11_calf 48 = .ok (.goto 19, 3) := by decide +kernel
theorem dX11_calf_51 : decode cX11_calf 51 = .ok (.iload_n 3, 1) := by decide +kernel
theorem dX11_calf_52 : decode cX11_calf 52 = .ok (.invokestatic 136, 3) := by decide +kernel
theorem dX11_calf_55 : decode cX11_calf 55 = .ok (.ifCond .ge 8, 3) := by decide +kernel
theorem dX11_calf_58 : decode cX11_calf 58 = .ok (.bipush (-4), 2) := by decide +kernel
theorem dX11_calf_60 : decode cX11_calf 60 = .ok (.goto 7, 3) := by decide +kernel
theorem dX11_calf_63 : decode cX11_calf 63 = .ok (.iload_n 3, 1) := by decide +kernel
theorem dX11_calf_64 : decode cX11_calf 64 = .ok (.invokestatic 136, 3) := by decide +kernel
theorem dX11_calf_67 : decode cX11_calf 67 = .ok (.ireturn, 1) := by decide +kernel
theorem dX11_goal_0 : decode cX11_goal 0 = .ok (.aload_n 0, 1) := by decide +kernel
theorem dX11_goal_1 : decode cX11_goal 1 = .ok (.iload_n 1, 1) := by decide +kernel
theorem dX11_goal_2 : decode cX11_goal 2 = .ok (.invokevirtual 122, 3) := by decide +kernel
theorem dX11_goal_5 : decode cX11_goal 5 = .ok (.ifCond .eq 13, 3) := by decide +kernel
theorem dX11_goal_8 : decode cX11_goal 8 = .ok (.iload_n 2, 1) := by decide +kernel
theorem dX11_goal_9 : decode cX11_goal 9 = .ok (.iconst 0, 1) := by decide +kernel
theorem dX11_goal_10 : decode cX11_goal 10 = .ok (.bipush 40, 2) := by decide +kernel
theorem dX11_goal_12 : decode cX11_goal 12 = .ok (.invokestatic 68, 3) := by decide +kernel
theorem dX11_goal_15 : decode cX11_goal 15 = .ok (.ifCond .ne 5, 3) := by decide +kernel
theorem dX11_goal_18 : decode cX11_goal 18 = .ok (.iconst (-1), 1) := by decide +kernel
theorem dX11_goal_19 : decode cX11_goal 19 = .ok (.ireturn, 1) := by decide +kernel
theorem dX11_goal_20 : decode cX11_goal 20 = .ok (.aload_n 0, 1) := by decide +kernel
theorem dX11_goal_21 : decode cX11_goal 21 = .ok (.getfield 116, 3) := by decide +kernel
theorem dX11_goal_24 : decode cX11_goal 24 = .ok (.bipush 6, 2) := by decide +kernel
theorem dX11_goal_26 : decode cX11_goal 26 = .ok (.if_icmp .ne 6, 3) := by decide +kernel
theorem dX11_goal_29 : decode cX11_goal 29 = .ok (.bipush (-3), 2) := by decide +kernel
theorem dX11_goal_31 : decode cX11_goal 31 = .ok (.ireturn, 1) := by decide +kernel
theorem dX11_goal_32 : decode cX11_goal 32 = .ok (.aload_n 0, 1) := by decide +kernel
theorem dX11_goal_33 : decode cX11_goal 33 = .ok (.getfield 29, 3) := by decide +kernel
theorem dX11_goal_36 : decode cX11_goal 36 = .ok (.aload_n 0, 1) := by decide +kernel
theorem dX11_goal_37 : decode cX11_goal 37 = .ok (.getfield 116, 3) := by decide +kernel
theorem dX11_goal_40 : decode cX11_goal 40 = .ok (.iload_n 1, 1) := by decide +kernel
theorem dX11_goal_41 : decode cX11_goal 41 = .ok (.iastore, 1) := by decide +kernel
theorem dX11_goal_42 : decode cX11_goal 42 = .ok (.aload_n 0, 1) := by decide +kernel
theorem dX11_goal_43 : decode cX11_goal 43 = .ok (.getfield 32, 3) := by decide +kernel
theorem dX11_goal_46 : decode cX11_goal 46 = .ok (.aload_n 0, 1) := by decide +kernel
theorem dX11_goal_47 : decode cX11_goal 47 = .ok (.getfield 116, 3) := by decide +kernel
theorem dX11_goal_50 : decode cX11_goal 50 = .ok (.iload_n 2, 1) := by decide +kernel
theorem dX11_goal_51 : decode cX11_goal 51 = .ok (.iastore, 1) := by decide +kernel
theorem dX11_goal_52 : decode cX11_goal 52 = .ok (.aload_n 0, 1) := by decide +kernel
theorem dX11_goal_53 : decode cX11_goal 53 = .ok (.dup, 1) := by decide +kernel
theorem dX11_goal_54 : decode cX11_goal 54 = .ok (.getfield 116, 3) := by decide +kernel
theorem dX11_goal_57 : decode cX11_goal 57 = .ok (.iconst 1, 1) := by decide +kernel
theorem dX11_goal_58 : decode cX11_goal 58 = .ok (.iadd, 1) := by decide +kernel
theorem dX11_goal_59 : decode cX11_goal 59 = .ok (.putfield 116, 3) := by decide +kernel
theorem dX11_goal_62 : decode cX11_goal 62 = .ok (.aload_n 0, 1) := by decide +kernel
theorem dX11_goal_63 : decode cX11_goal 63 = .ok (.getfield 116, 3) := by decide +kernel
theorem dX11_goal_66 : decode cX11_goal 66 = .ok (.ireturn, 1) := by decide +kernel
theorem dX11_noGoals_0 : decode cX11_noGoals 0 = .ok (.aload_n 0, 1) := by decide +kernel
theorem dX11_noGoals_1 : decode cX11_noGoals 1 = .ok (.getfield 116, 3) := by decide +kernel
theorem dX11_noGoals_4 : decode cX11_noGoals 4 = .ok (.istore_n 1, 1) := by decide +kernel
theorem dX11_noGoals_5 : decode cX11_noGoals 5 = .ok (.aload_n 0, 1) := by decide +kernel
theorem dX11_noGoals_6 : decode cX11_noGoals 6 = .ok (.iconst 0, 1) := by decide +kernel
theorem dX11_noGoals_7 : decode cX11_noGoals 7 = .ok (.putfield 116, 3) := by decide +kernel
theorem dX11_noGoals_10 : decode cX11_noGoals 10 = .ok (.iload_n 1, 1) := by decide +kernel
theorem dX11_noGoals_11 : decode cX11_noGoals 11 = .ok (.ireturn, 1) := by decide +kernel
theorem dX11_isUpTo_0 : decode cX11_isUpTo 0 = .ok (.aload_n 0, 1) := by decide +kernel
theorem dX11_isUpTo_1 : decode cX11_isUpTo 1 = .ok (.getfield 32, 3) := by decide +kernel
theorem dX11_isUpTo_4 : decode cX11_isUpTo 4 = .ok (.iload_n 1, 1) := by decide +kernel
theorem dX11_isUpTo_5 : decode cX11_isUpTo 5 = .ok (.iaload, 1) := by decide +kernel
theorem dX11_isUpTo_6 : decode cX11_isUpTo 6 = .ok (.aload_n 0, 1) := by decide +kernel
theorem dX11_isUpTo_7 : decode cX11_isUpTo 7 = .ok (.getfield 32, 3) := by decide +kernel
theorem dX11_isUpTo_10 : decode cX11_isUpTo 10 = .ok (.iload_n 2, 1) := by decide +kernel
theorem dX11_isUpTo_11 : decode cX11_isUpTo 11 = .ok (.iaload, 1) := by decide +kernel
theorem dX11_isUpTo_12 : decode cX11_isUpTo 12 = .ok (.if_icmp .lt 23, 3) := by decide +kernel
theorem dX11_isUpTo_15 : decode cX11_isUpTo 15 = .ok (.aload_n 0, 1) := by decide +kernel
theorem dX11_isUpTo_16 : decode cX11_isUpTo 16 = .ok (.getfield 32, 3) := by decide +kernel
theorem dX11_isUpTo_19 : decode cX11_isUpTo 19 = .ok (.iload_n 1, 1) := by decide +kernel
theorem dX11_isUpTo_20 : decode cX11_isUpTo 20 = .ok (.iaload, 1) := by decide +kernel
theorem dX11_isUpTo_21 : decode cX11_isUpTo 21 = .ok (.aload_n 0, 1) := by decide +kernel
theorem dX11_isUpTo_22 : decode cX11_isUpTo 22 = .ok (.getfield 32, 3) := by decide +kernel
theorem dX11_isUpTo_25 : decode cX11_isUpTo 25 = .ok (.iload_n 2, 1) := by decide +kernel
theorem dX11_isUpTo_26 : decode cX11_isUpTo 26 = .ok (.iaload, 1) := by decide +kernel
theorem dX11_isUpTo_27 : decode cX11_isUpTo 27 = .ok (.if_icmp .ne 12, 3) := by decide +kernel
theorem dX11_isUpTo_30 : decode cX11_isUpTo 30 = .ok (.iload_n 1, 1) := by decide +kernel
theorem dX11_isUpTo_31 : decode cX11_isUpTo 31 = .ok (.iload_n 2, 1) := by decide +kernel
theorem dX11_isUpTo_32 : decode cX11_isUpTo 32 = .ok (.if_icmp .gt 7, 3) := by decide +kernel
theorem dX11_isUpTo_35 : decode cX11_isUpTo 35 = .ok (.iconst 1, 1) := by decide +kernel
theorem dX11_isUpTo_36 : decode cX11_isUpTo 36 = .ok (.goto 4, 3) := by decide +kernel
theorem dX11_isUpTo_39 : decode cX11_isUpTo 39 = .ok (.iconst 0, 1) := by decide +kernel
theorem dX11_isUpTo_40 : decode cX11_isUpTo 40 = .ok (.ireturn, 1) := by decide +kernel
theorem dX11_fits_0 : decode cX11_fits 0 = .ok (.iconst 1, 1) := by decide +kernel
theorem dX11_fits_1 : decode cX11_fits 1 = .ok (.istore 4, 2) := by decide +kernel
theorem dX11_fits_3 : decode cX11_fits 3 = .ok (.iconst 0, 1) := by decide +kernel
theorem dX11_fits_4 : decode cX11_fits 4 = .ok (.istore 5, 2) := by decide +kernel
theorem dX11_fits_6 : decode cX11_fits 6 = .ok (.iload 5, 2) := by decide +kernel
theorem dX11_fits_8 : decode cX11_fits 8 = .ok (.aload_n 0, 1) := by decide +kernel
theorem dX11_fits_9 : decode cX11_fits 9 = .ok (.getfield 116, 3) := by decide +kernel
theorem dX11_fits_12 : decode cX11_fits 12 = .ok (.if_icmp .ge 56, 3) := by decide +kernel
theorem dX11_fits_15 : decode cX11_fits 15 = .ok (.iload 4, 2) := by decide +kernel
theorem dX11_fits_17 : decode cX11_fits 17 = .ok (.ifCond .eq 42, 3) := by decide +kernel
theorem dX11_fits_20 : decode cX11_fits 20 = .ok (.aload_n 0, 1) := by decide +kernel
theorem dX11_fits_21 : decode cX11_fits 21 = .ok (.getfield 32, 3) := by decide +kernel
theorem dX11_fits_24 : decode cX11_fits 24 = .ok (.iload 5, 2) := by decide +kernel
theorem dX11_fits_26 : decode cX11_fits 26 = .ok (.iaload, 1) := by decide +kernel
theorem dX11_fits_27 : decode cX11_fits 27 = .ok (.iload_n 2, 1) := by decide +kernel
theorem dX11_fits_28 : decode cX11_fits 28 = .ok (.if_icmp .ne 27, 3) := by decide +kernel
theorem dX11_fits_31 : decode cX11_fits 31 = .ok (.aload_n 0, 1) := by decide +kernel
theorem dX11_fits_32 : decode cX11_fits 32 = .ok (.iload 5, 2) := by decide +kernel
theorem dX11_fits_34 : decode cX11_fits 34 = .ok (.iload_n 3, 1) := by decide +kernel
theorem dX11_fits_35 : decode cX11_fits 35 = .ok (.invokevirtual 155, 3) := by decide +kernel
theorem dX11_fits_38 : decode cX11_fits 38 = .ok (.ifCond .eq 17, 3) := by decide +kernel
theorem dX11_fits_41 : decode cX11_fits 41 = .ok (.aload_n 0, 1) := by decide +kernel
theorem dX11_fits_42 : decode cX11_fits 42 = .ok (.getfield 29, 3) := by decide +kernel
theorem dX11_fits_45 : decode cX11_fits 45 = .ok (.iload 5, 2) := by decide +kernel
theorem dX11_fits_47 : decode cX11_fits 47 = .ok (.iaload, 1) := by decide +kernel
theorem dX11_fits_48 : decode cX11_fits 48 = .ok (.iload_n 1, 1) := by decide +kernel
theorem dX11_fits_49 : decode cX11_fits 49 = .ok (.invokestatic 132, 3) := by decide +kernel
theorem dX11_fits_52 : decode cX11_fits 52 = .ok (.if_icmp .ne 7, 3) := by decide +kernel
theorem dX11_fits_55 : decode cX11_fits 55 = .ok (.iconst 1, 1) := by decide +kernel
theorem dX11_fits_56 : decode cX11_fits 56 = .ok (.goto 4, 3) := by decide +kernel
theorem dX11_fits_59 : decode cX11_fits 59 = .ok (.iconst 0, 1) := by decide +kernel
theorem dX11_fits_60 : decode cX11_fits 60 = .ok (.istore 4, 2) := by decide +kernel
theorem dX11_fits_62 : decode cX11_fits 62 = .ok (.iinc 5 1, 3) := by decide +kernel
theorem dX11_fits_65 : decode cX11_fits 65 = .ok (.goto (-59), 3) := by decide +kernel
theorem dX11_fits_68 : decode cX11_fits 68 = .ok (.iload 4, 2) := by decide +kernel
theorem dX11_fits_70 : decode cX11_fits 70 = .ok (.ireturn, 1) := by decide +kernel
theorem dX11_costBy_0 : decode cX11_costBy 0 = .ok (.iload_n 3, 1) := by decide +kernel
theorem dX11_costBy_1 : decode cX11_costBy 1 = .ok (.ifCond .ge 7, 3) := by decide +kernel
theorem dX11_costBy_4 : decode cX11_costBy 4 = .ok (.iload_n 1, 1) := by decide +kernel
theorem dX11_costBy_5 : decode cX11_costBy 5 = .ok (.goto 9, 3) := by decide +kernel
theorem dX11_costBy_8 : decode cX11_costBy 8 = .ok (.aload_n 0, 1) := by decide +kernel
theorem dX11_costBy_9 : decode cX11_costBy 9 = .ok (.iload_n 1, 1) := by decide +kernel
theorem dX11_costBy_10 : decode cX11_costBy 10 = .ok (.iload_n 3, 1) := by decide +kernel
theorem dX11_costBy_11 : decode cX11_costBy 11 = .ok (.invokevirtual 145, 3) := by decide +kernel
theorem dX11_costBy_14 : decode cX11_costBy 14 = .ok (.istore 4, 2) := by decide +kernel
theorem dX11_costBy_16 : decode cX11_costBy 16 = .ok (.aload_n 0, 1) := by decide +kernel
theorem dX11_costBy_17 : decode cX11_costBy 17 = .ok (.getfield 35, 3) := by decide +kernel
theorem dX11_costBy_20 : decode cX11_costBy 20 = .ok (.aload_n 0, 1) := by decide +kernel
theorem dX11_costBy_21 : decode cX11_costBy 21 = .ok (.iload 4, 2) := by decide +kernel
theorem dX11_costBy_23 : decode cX11_costBy 23 = .ok (.aload_n 0, 1) := by decide +kernel
theorem dX11_costBy_24 : decode cX11_costBy 24 = .ok (.getfield 20, 3) := by decide +kernel
theorem dX11_costBy_27 : decode cX11_costBy 27 = .ok (.iconst 0, 1) := by decide +kernel
theorem dX11_costBy_28 : decode cX11_costBy 28 = .ok (.iaload, 1) := by decide +kernel
theorem dX11_costBy_29 : decode cX11_costBy 29 = .ok (.iload_n 2, 1) := by decide +kernel
theorem dX11_costBy_30 : decode cX11_costBy 30 = .ok (.iadd, 1) := by decide +kernel
theorem dX11_costBy_31 : decode cX11_costBy 31 = .ok (.iconst 1, 1) := by decide +kernel
theorem dX11_costBy_32 : decode cX11_costBy 32 = .ok (.iadd, 1) := by decide +kernel
theorem dX11_costBy_33 : decode cX11_costBy 33 = .ok (.invokevirtual 148, 3) := by decide +kernel
theorem dX11_costBy_36 : decode cX11_costBy 36 = .ok (.iaload, 1) := by decide +kernel
theorem dX11_costBy_37 : decode cX11_costBy 37 = .ok (.istore 5, 2) := by decide +kernel
theorem dX11_costBy_39 : decode cX11_costBy 39 = .ok (.iload 5, 2) := by decide +kernel
theorem dX11_costBy_41 : decode cX11_costBy 41 = .ok (.ldc 109, 2) := by decide +kernel
theorem dX11_costBy_43 : decode cX11_costBy 43 = .ok (.if_icmp .lt 8, 3) := by decide +kernel
theorem dX11_costBy_46 : decode cX11_costBy 46 = .ok (.ldc 109, 2) := by decide +kernel
theorem dX11_costBy_48 : decode cX11_costBy 48 = .ok (.goto 23, 3) := by decide +kernel
theorem dX11_costBy_51 : decode cX11_costBy 51 = .ok (.iload 5, 2) := by decide +kernel
theorem dX11_costBy_53 : decode cX11_costBy 53 = .ok (.iload_n 3, 1) := by decide +kernel
theorem dX11_costBy_54 : decode cX11_costBy 54 = .ok (.ifCond .ge 7, 3) := by decide +kernel
theorem dX11_costBy_57 : decode cX11_costBy 57 = .ok (.iconst 0, 1) := by decide +kernel
theorem dX11_costBy_58 : decode cX11_costBy 58 = .ok (.goto 12, 3) := by decide +kernel
theorem dX11_costBy_61 : decode cX11_costBy 61 = .ok (.aload_n 0, 1) := by decide +kernel
theorem dX11_costBy_62 : decode cX11_costBy 62 = .ok (.getfield 7, 3) := by decide +kernel
theorem dX11_costBy_65 : decode cX11_costBy 65 = .ok (.bipush 12, 2) := by decide +kernel
theorem dX11_costBy_67 : decode cX11_costBy 67 = .ok (.iload_n 3, 1) := by decide +kernel
theorem dX11_costBy_68 : decode cX11_costBy 68 = .ok (.iadd, 1) := by decide +kernel
theorem dX11_costBy_69 : decode cX11_costBy 69 = .ok (.iaload, 1) := by decide +kernel
theorem dX11_costBy_70 : decode cX11_costBy 70 = .ok (.iadd, 1) := by decide +kernel
theorem dX11_costBy_71 : decode cX11_costBy 71 = .ok (.ireturn, 1) := by decide +kernel
theorem dX11_leastOf_0 : decode cX11_leastOf 0 = .ok (.aload_n 0, 1) := by decide +kernel
theorem dX11_leastOf_1 : decode cX11_leastOf 1 = .ok (.iload_n 1, 1) := by decide +kernel
theorem dX11_leastOf_2 : decode cX11_leastOf 2 = .ok (.iload_n 2, 1) := by decide +kernel
theorem dX11_leastOf_3 : decode cX11_leastOf 3 = .ok (.iconst (-1), 1) := by decide +kernel
theorem dX11_leastOf_4 : decode cX11_leastOf 4 = .ok (.invokevirtual 159, 3) := by decide +kernel
theorem dX11_leastOf_7 : decode cX11_leastOf 7 = .ok (.istore_n 3, 1) := by decide +kernel
theorem dX11_leastOf_8 : decode cX11_leastOf 8 = .ok (.iconst 0, 1) := by decide +kernel
theorem dX11_leastOf_9 : decode cX11_leastOf 9 = .ok (.istore 4, 2) := by decide +kernel
theorem dX11_leastOf_11 : decode cX11_leastOf 11 = .ok (.iload 4, 2) := by decide +kernel
theorem dX11_leastOf_13 : decode cX11_leastOf 13 = .ok (.aload_n 0, 1) := by decide +kernel
theorem dX11_leastOf_14 : decode cX11_leastOf 14 = .ok (.getfield 7, 3) := by decide +kernel
theorem dX11_leastOf_17 : decode cX11_leastOf 17 = .ok (.iconst 1, 1) := by decide +kernel
theorem dX11_leastOf_18 : decode cX11_leastOf 18 = .ok (.iaload, 1) := by decide +kernel
theorem dX11_leastOf_19 : decode cX11_leastOf 19 = .ok (.if_icmp .ge 55, 3) := by decide +kernel
theorem dX11_leastOf_22 : decode cX11_leastOf 22 = .ok (.aload_n 0, 1) := by decide +kernel
theorem dX11_leastOf_23 : decode cX11_leastOf 23 = .ok (.iload_n 1, 1) := by decide +kernel
theorem dX11_leastOf_24 : decode cX11_leastOf 24 = .ok (.iload 4, 2) := by decide +kernel
theorem dX11_leastOf_26 : decode cX11_leastOf 26 = .ok (.aload_n 0, 1) := by decide +kernel
theorem dX11_leastOf_27 : decode cX11_leastOf 27 = .ok (.getfield 20, 3) := by decide +kernel
theorem dX11_leastOf_30 : decode cX11_leastOf 30 = .ok (.iconst 0, 1) := by decide +kernel
theorem dX11_leastOf_31 : decode cX11_leastOf 31 = .ok (.iaload, 1) := by decide +kernel
theorem dX11_leastOf_32 : decode cX11_leastOf 32 = .ok (.iload_n 2, 1) := by decide +kernel
theorem dX11_leastOf_33 : decode cX11_leastOf 33 = .ok (.iadd, 1) := by decide +kernel
theorem dX11_leastOf_34 : decode cX11_leastOf 34 = .ok (.invokevirtual 139, 3) := by decide +kernel
theorem dX11_leastOf_37 : decode cX11_leastOf 37 = .ok (.ifCond .eq 14, 3) := by decide +kernel
theorem dX11_leastOf_40 : decode cX11_leastOf 40 = .ok (.aload_n 0, 1) := by decide +kernel
theorem dX11_leastOf_41 : decode cX11_leastOf 41 = .ok (.iload_n 1, 1) := by decide +kernel
theorem dX11_leastOf_42 : decode cX11_leastOf 42 = .ok (.iload_n 2, 1) := by decide +kernel
theorem dX11_leastOf_43 : decode cX11_leastOf 43 = .ok (.iload 4, 2) := by decide +kernel
theorem dX11_leastOf_45 : decode cX11_leastOf 45 = .ok (.invokevirtual 159, 3) := by decide +kernel
theorem dX11_leastOf_48 : decode cX11_leastOf 48 = .ok (.goto 5, 3) := by decide +kernel
theorem dX11_leastOf_51 : decode cX11_leastOf 51 = .ok (.ldc 109, 2) := by decide +kernel
theorem dX11_leastOf_53 : decode cX11_leastOf 53 = .ok (.istore 5, 2) := by decide +kernel
theorem dX11_leastOf_55 : decode cX11_leastOf 55 = .ok (.iload 5, 2) := by decide +kernel
theorem dX11_leastOf_57 : decode cX11_leastOf 57 = .ok (.iload_n 3, 1) := by decide +kernel
theorem dX11_leastOf_58 : decode cX11_leastOf 58 = .ok (.if_icmp .ge 8, 3) := by decide +kernel
theorem dX11_leastOf_61 : decode cX11_leastOf 61 = .ok (.iload 5, 2) := by decide +kernel
theorem dX11_leastOf_63 : decode cX11_leastOf 63 = .ok (.goto 4, 3) := by decide +kernel
theorem dX11_leastOf_66 : decode cX11_leastOf 66 = .ok (.iload_n 3, 1) := by decide +kernel
theorem dX11_leastOf_67 : decode cX11_leastOf 67 = .ok (.istore_n 3, 1) := by decide +kernel
theorem dX11_leastOf_68 : decode cX11_leastOf 68 = .ok (.iinc 4 1, 3) := by decide +kernel
theorem dX11_leastOf_71 : decode cX11_leastOf 71 = .ok (.goto (-60), 3) := by decide +kernel
theorem dX11_leastOf_74 : decode cX11_leastOf 74 = .ok (.iload_n 3, 1) := by decide +kernel
theorem dX11_leastOf_75 : decode cX11_leastOf 75 = .ok (.ireturn, 1) := by decide +kernel
theorem dX11_isState_0 : decode cX11_isState 0 = .ok (.iload_n 1, 1) := by decide +kernel
theorem dX11_isState_1 : decode cX11_isState 1 = .ok (.bipush 48, 2) := by decide +kernel
theorem dX11_isState_3 : decode cX11_isState 3 = .ok (.idiv, 1) := by decide +kernel
theorem dX11_isState_4 : decode cX11_isState 4 = .ok (.istore_n 2, 1) := by decide +kernel
theorem dX11_isState_5 : decode cX11_isState 5 = .ok (.iload_n 1, 1) := by decide +kernel
theorem dX11_isState_6 : decode cX11_isState 6 = .ok (.invokestatic 136, 3) := by decide +kernel
theorem dX11_isState_9 : decode cX11_isState 9 = .ok (.ifCond .lt 12, 3) := by decide +kernel
theorem dX11_isState_12 : decode cX11_isState 12 = .ok (.aload_n 0, 1) := by decide +kernel
theorem dX11_isState_13 : decode cX11_isState 13 = .ok (.getfield 7, 3) := by decide +kernel
theorem dX11_isState_16 : decode cX11_isState 16 = .ok (.iconst 2, 1) := by decide +kernel
theorem dX11_isState_17 : decode cX11_isState 17 = .ok (.iaload, 1) := by decide +kernel
theorem dX11_isState_18 : decode cX11_isState 18 = .ok (.ifCond .ne 15, 3) := by decide +kernel
theorem dX11_isState_21 : decode cX11_isState 21 = .ok (.iload_n 2, 1) := by decide +kernel
theorem dX11_isState_22 : decode cX11_isState 22 = .ok (.ifCond .ne 7, 3) := by decide +kernel
theorem dX11_isState_25 : decode cX11_isState 25 = .ok (.iconst 1, 1) := by decide +kernel
theorem dX11_isState_26 : decode cX11_isState 26 = .ok (.goto 18, 3) := by decide +kernel
theorem dX11_isState_29 : decode cX11_isState 29 = .ok (.iconst 0, 1) := by decide +kernel
theorem dX11_isState_30 : decode cX11_isState 30 = .ok (.goto 14, 3) := by decide +kernel
theorem dX11_isState_33 : decode cX11_isState 33 = .ok (.iload_n 2, 1) := by decide +kernel
theorem dX11_isState_34 : decode cX11_isState 34 = .ok (.iconst 1, 1) := by decide +kernel
theorem dX11_isState_35 : decode cX11_isState 35 = .ok (.aload_n 0, 1) := by decide +kernel
theorem dX11_isState_36 : decode cX11_isState 36 = .ok (.getfield 7, 3) := by decide +kernel
theorem dX11_isState_39 : decode cX11_isState 39 = .ok (.iconst 2, 1) := by decide +kernel
theorem dX11_isState_40 : decode cX11_isState 40 = .ok (.iaload, 1) := by decide +kernel
theorem dX11_isState_41 : decode cX11_isState 41 = .ok (.invokestatic 68, 3) := by decide +kernel
theorem dX11_isState_44 : decode cX11_isState 44 = .ok (.istore_n 3, 1) := by decide +kernel
theorem dX11_isState_45 : decode cX11_isState 45 = .ok (.iload_n 1, 1) := by decide +kernel
theorem dX11_isState_46 : decode cX11_isState 46 = .ok (.invokestatic 132, 3) := by decide +kernel
theorem dX11_isState_49 : decode cX11_isState 49 = .ok (.aload_n 0, 1) := by decide +kernel
theorem dX11_isState_50 : decode cX11_isState 50 = .ok (.getfield 7, 3) := by decide +kernel
theorem dX11_isState_53 : decode cX11_isState 53 = .ok (.iconst 0, 1) := by decide +kernel
theorem dX11_isState_54 : decode cX11_isState 54 = .ok (.iaload, 1) := by decide +kernel
theorem dX11_isState_55 : decode cX11_isState 55 = .ok (.if_icmp .ge 24, 3) := by decide +kernel
theorem dX11_isState_58 : decode cX11_isState 58 = .ok (.iload_n 1, 1) := by decide +kernel
theorem dX11_isState_59 : decode cX11_isState 59 = .ok (.invokestatic 136, 3) := by decide +kernel
theorem dX11_isState_62 : decode cX11_isState 62 = .ok (.aload_n 0, 1) := by decide +kernel
theorem dX11_isState_63 : decode cX11_isState 63 = .ok (.getfield 7, 3) := by decide +kernel
theorem dX11_isState_66 : decode cX11_isState 66 = .ok (.iconst 1, 1) := by decide +kernel
theorem dX11_isState_67 : decode cX11_isState 67 = .ok (.iaload, 1) := by decide +kernel
theorem dX11_isState_68 : decode cX11_isState 68 = .ok (.if_icmp .ge 11, 3) := by decide +kernel
theorem dX11_isState_71 : decode cX11_isState 71 = .ok (.iload_n 3, 1) := by decide +kernel
theorem dX11_isState_72 : decode cX11_isState 72 = .ok (.ifCond .eq 7, 3) := by decide +kernel
theorem dX11_isState_75 : decode cX11_isState 75 = .ok (.iconst 1, 1) := by decide +kernel
theorem dX11_isState_76 : decode cX11_isState 76 = .ok (.goto 4, 3) := by decide +kernel
theorem dX11_isState_79 : decode cX11_isState 79 = .ok (.iconst 0, 1) := by decide +kernel
theorem dX11_isState_80 : decode cX11_isState 80 = .ok (.ireturn, 1) := by decide +kernel
theorem dX11_priceTo_0 : decode cX11_priceTo 0 = .ok (.iload_n 1, 1) := by decide +kernel
theorem dX11_priceTo_1 : decode cX11_priceTo 1 = .ok (.ifCond .ge 5, 3) := by decide +kernel
theorem dX11_priceTo_4 : decode cX11_priceTo 4 = .ok (.iconst 0, 1) := by decide +kernel
theorem dX11_priceTo_5 : decode cX11_priceTo 5 = .ok (.ireturn, 1) := by decide +kernel
theorem dX11_priceTo_6 : decode cX11_priceTo 6 = .ok (.aload_n 0, 1) := by decide +kernel
theorem dX11_priceTo_7 : decode cX11_priceTo 7 = .ok (.getfield 32, 3) := by decide +kernel
theorem dX11_priceTo_10 : decode cX11_priceTo 10 = .ok (.iload_n 1, 1) := by decide +kernel
theorem dX11_priceTo_11 : decode cX11_priceTo 11 = .ok (.iaload, 1) := by decide +kernel
theorem dX11_priceTo_12 : decode cX11_priceTo 12 = .ok (.istore_n 2, 1) := by decide +kernel
theorem dX11_priceTo_13 : decode cX11_priceTo 13 = .ok (.iconst 0, 1) := by decide +kernel
theorem dX11_priceTo_14 : decode cX11_priceTo 14 = .ok (.istore_n 3, 1) := by decide +kernel
theorem dX11_priceTo_15 : decode cX11_priceTo 15 = .ok (.iload_n 3, 1) := by decide +kernel
theorem dX11_priceTo_16 : decode cX11_priceTo 16 = .ok (.sipush 1008, 3) := by decide +kernel
theorem dX11_priceTo_19 : decode cX11_priceTo 19 = .ok (.if_icmp .ge 16, 3) := by decide +kernel
theorem dX11_priceTo_22 : decode cX11_priceTo 22 = .ok (.aload_n 0, 1) := by decide +kernel
theorem dX11_priceTo_23 : decode cX11_priceTo 23 = .ok (.getfield 35, 3) := by decide +kernel
theorem dX11_priceTo_26 : decode cX11_priceTo 26 = .ok (.iload_n 3, 1) := by decide +kernel
theorem dX11_priceTo_27 : decode cX11_priceTo 27 = .ok (.iconst 0, 1) := by decide +kernel
theorem dX11_priceTo_28 : decode cX11_priceTo 28 = .ok (.iastore, 1) := by decide +kernel
theorem dX11_priceTo_29 : decode cX11_priceTo 29 = .ok (.iinc 3 1, 3) := by decide +kernel
theorem dX11_priceTo_32 : decode cX11_priceTo 32 = .ok (.goto (-17), 3) := by decide +kernel
theorem dX11_priceTo_35 : decode cX11_priceTo 35 = .ok (.iload_n 2, 1) := by decide +kernel
theorem dX11_priceTo_36 : decode cX11_priceTo 36 = .ok (.istore_n 3, 1) := by decide +kernel
theorem dX11_priceTo_37 : decode cX11_priceTo 37 = .ok (.iload_n 3, 1) := by decide +kernel
theorem dX11_priceTo_38 : decode cX11_priceTo 38 = .ok (.ifCond .le 105, 3) := by decide +kernel
theorem dX11_priceTo_41 : decode cX11_priceTo 41 = .ok (.iconst 0, 1) := by decide +kernel
theorem dX11_priceTo_42 : decode cX11_priceTo 42 = .ok (.istore 4, 2) := by decide +kernel
theorem dX11_priceTo_44 : decode cX11_priceTo 44 = .ok (.iload 4, 2) := by decide +kernel
theorem dX11_priceTo_46 : decode cX11_priceTo 46 = .ok (.sipush 1008, 3) := by decide +kernel
theorem dX11_priceTo_49 : decode cX11_priceTo 49 = .ok (.if_icmp .ge 57, 3) := by decide +kernel
theorem dX11_priceTo_52 : decode cX11_priceTo 52 = .ok (.aload_n 0, 1) := by decide +kernel
theorem dX11_priceTo_53 : decode cX11_priceTo 53 = .ok (.getfield 38, 3) := by decide +kernel
theorem dX11_priceTo_56 : decode cX11_priceTo 56 = .ok (.iload 4, 2) := by decide +kernel
theorem dX11_priceTo_58 : decode cX11_priceTo 58 = .ok (.aload_n 0, 1) := by decide +kernel
theorem dX11_priceTo_59 : decode cX11_priceTo 59 = .ok (.iload 4, 2) := by decide +kernel
theorem dX11_priceTo_61 : decode cX11_priceTo 61 = .ok (.invokevirtual 162, 3) := by decide +kernel
theorem dX11_priceTo_64 : decode cX11_priceTo 64 = .ok (.ifCond .eq 33, 3) := by decide +kernel
theorem dX11_priceTo_67 : decode cX11_priceTo 67 = .ok (.aload_n 0, 1) := by decide +kernel
theorem dX11_priceTo_68 : decode cX11_priceTo 68 = .ok (.iload 4, 2) := by decide +kernel
theorem dX11_priceTo_70 : decode cX11_priceTo 70 = .ok (.iload_n 3, 1) := by decide +kernel
theorem dX11_priceTo_71 : decode cX11_priceTo 71 = .ok (.iload_n 1, 1) := by decide +kernel
theorem dX11_priceTo_72 : decode cX11_priceTo 72 = .ok (.invokevirtual 165, 3) := by decide +kernel
theorem dX11_priceTo_75 : decode cX11_priceTo 75 = .ok (.ifCond .eq 22, 3) := by decide +kernel
theorem dX11_priceTo_78 : decode cX11_priceTo 78 = .ok (.iload_n 3, 1) := by decide +kernel
theorem dX11_priceTo_79 : decode cX11_priceTo 79 = .ok (.iload_n 2, 1) := by decide +kernel
theorem dX11_priceTo_80 : decode cX11_priceTo 80 = .ok (.if_icmp .ne 7, 3) := by decide +kernel
theorem dX11_priceTo_83 : decode cX11_priceTo 83 = .ok (.iconst 0, 1) := by decide +kernel
theorem dX11_priceTo_84 : decode cX11_priceTo 84 = .ok (.goto 15, 3) := by decide +kernel
theorem dX11_priceTo_87 : decode cX11_priceTo 87 = .ok (.aload_n 0, 1) := by decide +kernel
theorem dX11_priceTo_88 : decode cX11_priceTo 88 = .ok (.iload 4, 2) := by decide +kernel
theorem dX11_priceTo_90 : decode cX11_priceTo 90 = .ok (.iload_n 3, 1) := by decide +kernel
theorem dX11_priceTo_91 : decode cX11_priceTo 91 = .ok (.invokevirtual 168, 3) := by decide +kernel
theorem dX11_priceTo_94 : decode cX11_priceTo 94 = .ok (.goto 5, 3) := by decide +kernel
theorem dX11_priceTo_97 : decode cX11_priceTo 97 = .ok (.ldc 109, 2) := by decide +kernel
theorem dX11_priceTo_99 : decode cX11_priceTo 99 = .ok (.iastore, 1) := by decide +kernel
theorem dX11_priceTo_100 : decode cX11_priceTo 100 = .ok (.iinc 4 1, 3) := by decide +kernel
theorem dX11_priceTo_103 : decode cX11_priceTo 103 = .ok (.goto (-59), 3) := by decide +kernel
theorem dX11_priceTo_106 : decode cX11_priceTo 106 = .ok (.iconst 0, 1) := by decide +kernel
theorem dX11_priceTo_107 : decode cX11_priceTo 107 = .ok (.istore 4, 2) := by decide +kernel
theorem dX11_priceTo_109 : decode cX11_priceTo 109 = .ok (.iload 4, 2) := by decide +kernel
