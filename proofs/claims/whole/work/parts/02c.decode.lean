/-! each instruction, decoded (written by wip/whole/names.py) -/
theorem d_Lw_change_0 : decode b_Lw_change 0 = .ok (.aload 4, 2) := by decide +kernel
theorem d_Lw_change_2 : decode b_Lw_change 2 = .ok (.iconst 0, 1) := by decide +kernel
theorem d_Lw_change_3 : decode b_Lw_change 3 = .ok (.aload_n 0, 1) := by decide +kernel
theorem d_Lw_change_4 : decode b_Lw_change 4 = .ok (.iload_n 1, 1) := by decide +kernel
theorem d_Lw_change_5 : decode b_Lw_change 5 = .ok (.iload_n 2, 1) := by decide +kernel
theorem d_Lw_change_6 : decode b_Lw_change 6 = .ok (.iload_n 3, 1) := by decide +kernel
theorem d_Lw_change_7 : decode b_Lw_change 7 = .ok (.invokevirtual 46, 3) := by decide +kernel
theorem d_Lw_change_10 : decode b_Lw_change 10 = .ok (.i2l, 1) := by decide +kernel
theorem d_Lw_change_11 : decode b_Lw_change 11 = .ok (.lastore, 1) := by decide +kernel
theorem d_Lw_change_12 : decode b_Lw_change 12 = .ok (.goto 11, 3) := by decide +kernel
theorem d_Lw_change_15 : decode b_Lw_change 15 = .ok (.astore 5, 2) := by decide +kernel
theorem d_Lw_change_17 : decode b_Lw_change 17 = .ok (.iconst 1, 1) := by decide +kernel
theorem d_Lw_change_18 : decode b_Lw_change 18 = .ok (.ireturn, 1) := by decide +kernel
theorem d_Lw_change_19 : decode b_Lw_change 19 = .ok (.astore 5, 2) := by decide +kernel
theorem d_Lw_change_21 : decode b_Lw_change 21 = .ok (.iconst 2, 1) := by decide +kernel
theorem d_Lw_change_22 : decode b_Lw_change 22 = .ok (.ireturn, 1) := by decide +kernel
theorem d_Lw_change_23 : decode b_Lw_change 23 = .ok (.iconst 0, 1) := by decide +kernel
theorem d_Lw_change_24 : decode b_Lw_change 24 = .ok (.ireturn, 1) := by decide +kernel
theorem d_Lw_delete_0 : decode b_Lw_delete 0 = .ok (.aload_n 3, 1) := by decide +kernel
theorem d_Lw_delete_1 : decode b_Lw_delete 1 = .ok (.iconst 0, 1) := by decide +kernel
theorem d_Lw_delete_2 : decode b_Lw_delete 2 = .ok (.aload_n 0, 1) := by decide +kernel
theorem d_Lw_delete_3 : decode b_Lw_delete 3 = .ok (.iload_n 1, 1) := by decide +kernel
theorem d_Lw_delete_4 : decode b_Lw_delete 4 = .ok (.iload_n 2, 1) := by decide +kernel
theorem d_Lw_delete_5 : decode b_Lw_delete 5 = .ok (.invokevirtual 19, 3) := by decide +kernel
theorem d_Lw_delete_8 : decode b_Lw_delete 8 = .ok (.i2l, 1) := by decide +kernel
theorem d_Lw_delete_9 : decode b_Lw_delete 9 = .ok (.lastore, 1) := by decide +kernel
theorem d_Lw_delete_10 : decode b_Lw_delete 10 = .ok (.goto 15, 3) := by decide +kernel
theorem d_Lw_delete_13 : decode b_Lw_delete 13 = .ok (.astore 4, 2) := by decide +kernel
theorem d_Lw_delete_15 : decode b_Lw_delete 15 = .ok (.iconst 1, 1) := by decide +kernel
theorem d_Lw_delete_16 : decode b_Lw_delete 16 = .ok (.ireturn, 1) := by decide +kernel
theorem d_Lw_delete_17 : decode b_Lw_delete 17 = .ok (.astore 4, 2) := by decide +kernel
theorem d_Lw_delete_19 : decode b_Lw_delete 19 = .ok (.iconst 2, 1) := by decide +kernel
theorem d_Lw_delete_20 : decode b_Lw_delete 20 = .ok (.ireturn, 1) := by decide +kernel
theorem d_Lw_delete_21 : decode b_Lw_delete 21 = .ok (.astore 4, 2) := by decide +kernel
theorem d_Lw_delete_23 : decode b_Lw_delete 23 = .ok (.iconst 3, 1) := by decide +kernel
theorem d_Lw_delete_24 : decode b_Lw_delete 24 = .ok (.ireturn, 1) := by decide +kernel
theorem d_Lw_delete_25 : decode b_Lw_delete 25 = .ok (.iconst 0, 1) := by decide +kernel
theorem d_Lw_delete_26 : decode b_Lw_delete 26 = .ok (.ireturn, 1) := by decide +kernel
theorem d_Lw_got_0 : decode b_Lw_got 0 = .ok (.aload_n 3, 1) := by decide +kernel
theorem d_Lw_got_1 : decode b_Lw_got 1 = .ok (.iconst 0, 1) := by decide +kernel
theorem d_Lw_got_2 : decode b_Lw_got 2 = .ok (.aload_n 0, 1) := by decide +kernel
theorem d_Lw_got_3 : decode b_Lw_got 3 = .ok (.iload_n 1, 1) := by decide +kernel
theorem d_Lw_got_4 : decode b_Lw_got 4 = .ok (.iload_n 2, 1) := by decide +kernel
theorem d_Lw_got_5 : decode b_Lw_got 5 = .ok (.invokevirtual 40, 3) := by decide +kernel
theorem d_Lw_got_8 : decode b_Lw_got 8 = .ok (.i2l, 1) := by decide +kernel
theorem d_Lw_got_9 : decode b_Lw_got 9 = .ok (.lastore, 1) := by decide +kernel
theorem d_Lw_got_10 : decode b_Lw_got 10 = .ok (.goto 7, 3) := by decide +kernel
theorem d_Lw_got_13 : decode b_Lw_got 13 = .ok (.astore 4, 2) := by decide +kernel
theorem d_Lw_got_15 : decode b_Lw_got 15 = .ok (.iconst 1, 1) := by decide +kernel
theorem d_Lw_got_16 : decode b_Lw_got 16 = .ok (.ireturn, 1) := by decide +kernel
theorem d_Lw_got_17 : decode b_Lw_got 17 = .ok (.iconst 0, 1) := by decide +kernel
theorem d_Lw_got_18 : decode b_Lw_got 18 = .ok (.ireturn, 1) := by decide +kernel
theorem d_Lw_insert_0 : decode b_Lw_insert 0 = .ok (.aload 4, 2) := by decide +kernel
theorem d_Lw_insert_2 : decode b_Lw_insert 2 = .ok (.iconst 0, 1) := by decide +kernel
theorem d_Lw_insert_3 : decode b_Lw_insert 3 = .ok (.aload_n 0, 1) := by decide +kernel
theorem d_Lw_insert_4 : decode b_Lw_insert 4 = .ok (.iload_n 1, 1) := by decide +kernel
theorem d_Lw_insert_5 : decode b_Lw_insert 5 = .ok (.iload_n 2, 1) := by decide +kernel
theorem d_Lw_insert_6 : decode b_Lw_insert 6 = .ok (.iload_n 3, 1) := by decide +kernel
theorem d_Lw_insert_7 : decode b_Lw_insert 7 = .ok (.invokevirtual 7, 3) := by decide +kernel
theorem d_Lw_insert_10 : decode b_Lw_insert 10 = .ok (.i2l, 1) := by decide +kernel
theorem d_Lw_insert_11 : decode b_Lw_insert 11 = .ok (.lastore, 1) := by decide +kernel
theorem d_Lw_insert_12 : decode b_Lw_insert 12 = .ok (.goto 15, 3) := by decide +kernel
theorem d_Lw_insert_15 : decode b_Lw_insert 15 = .ok (.astore 5, 2) := by decide +kernel
theorem d_Lw_insert_17 : decode b_Lw_insert 17 = .ok (.iconst 1, 1) := by decide +kernel
theorem d_Lw_insert_18 : decode b_Lw_insert 18 = .ok (.ireturn, 1) := by decide +kernel
theorem d_Lw_insert_19 : decode b_Lw_insert 19 = .ok (.astore 5, 2) := by decide +kernel
theorem d_Lw_insert_21 : decode b_Lw_insert 21 = .ok (.iconst 2, 1) := by decide +kernel
theorem d_Lw_insert_22 : decode b_Lw_insert 22 = .ok (.ireturn, 1) := by decide +kernel
theorem d_Lw_insert_23 : decode b_Lw_insert 23 = .ok (.astore 5, 2) := by decide +kernel
theorem d_Lw_insert_25 : decode b_Lw_insert 25 = .ok (.iconst 3, 1) := by decide +kernel
theorem d_Lw_insert_26 : decode b_Lw_insert 26 = .ok (.ireturn, 1) := by decide +kernel
theorem d_Lw_insert_27 : decode b_Lw_insert 27 = .ok (.iconst 0, 1) := by decide +kernel
theorem d_Lw_insert_28 : decode b_Lw_insert 28 = .ok (.ireturn, 1) := by decide +kernel
theorem d_Lw_law_0 : decode b_Lw_law 0 = .ok (.new 8, 3) := by decide +kernel
theorem d_Lw_law_3 : decode b_Lw_law 3 = .ok (.dup, 1) := by decide +kernel
theorem d_Lw_law_4 : decode b_Lw_law 4 = .ok (.invokespecial 56, 3) := by decide +kernel
theorem d_Lw_law_7 : decode b_Lw_law 7 = .ok (.astore_n 1, 1) := by decide +kernel
theorem d_Lw_law_8 : decode b_Lw_law 8 = .ok (.new 57, 3) := by decide +kernel
theorem d_Lw_law_11 : decode b_Lw_law 11 = .ok (.dup, 1) := by decide +kernel
theorem d_Lw_law_12 : decode b_Lw_law 12 = .ok (.invokespecial 59, 3) := by decide +kernel
theorem d_Lw_law_15 : decode b_Lw_law 15 = .ok (.astore_n 2, 1) := by decide +kernel
theorem d_Lw_law_16 : decode b_Lw_law 16 = .ok (.iconst 1, 1) := by decide +kernel
theorem d_Lw_law_17 : decode b_Lw_law 17 = .ok (.newarray .long, 2) := by decide +kernel
theorem d_Lw_law_19 : decode b_Lw_law 19 = .ok (.astore_n 3, 1) := by decide +kernel
theorem d_Lw_law_20 : decode b_Lw_law 20 = .ok (.iconst 0, 1) := by decide +kernel
theorem d_Lw_law_21 : decode b_Lw_law 21 = .ok (.istore 4, 2) := by decide +kernel
theorem d_Lw_law_23 : decode b_Lw_law 23 = .ok (.iload 4, 2) := by decide +kernel
theorem d_Lw_law_25 : decode b_Lw_law 25 = .ok (.aload_n 0, 1) := by decide +kernel
theorem d_Lw_law_26 : decode b_Lw_law 26 = .ok (.arraylength, 1) := by decide +kernel
theorem d_Lw_law_27 : decode b_Lw_law 27 = .ok (.iconst 4, 1) := by decide +kernel
theorem d_Lw_law_28 : decode b_Lw_law 28 = .ok (.isub, 1) := by decide +kernel
theorem d_Lw_law_29 : decode b_Lw_law 29 = .ok (.if_icmp .gt 877, 3) := by decide +kernel
theorem d_Lw_law_32 : decode b_Lw_law 32 = .ok (.aload_n 0, 1) := by decide +kernel
theorem d_Lw_law_33 : decode b_Lw_law 33 = .ok (.iload 4, 2) := by decide +kernel
theorem d_Lw_law_35 : decode b_Lw_law 35 = .ok (.iaload, 1) := by decide +kernel
theorem d_Lw_law_36 : decode b_Lw_law 36 = .ok (.bipush 15, 2) := by decide +kernel
theorem d_Lw_law_38 : decode b_Lw_law 38 = .ok (.iand, 1) := by decide +kernel
theorem d_Lw_law_39 : decode b_Lw_law 39 = .ok (.tableswitch 861 0 12 #[65, 147, 215, 251, 307, 363, 447, 531, 615, 711, 767, 835, 848], 65) := by decide +kernel
theorem d_Lw_law_104 : decode b_Lw_law 104 = .ok (.aload_n 1, 1) := by decide +kernel
theorem d_Lw_law_105 : decode b_Lw_law 105 = .ok (.aload_n 0, 1) := by decide +kernel
theorem d_Lw_law_106 : decode b_Lw_law 106 = .ok (.iload 4, 2) := by decide +kernel
theorem d_Lw_law_108 : decode b_Lw_law 108 = .ok (.iconst 1, 1) := by decide +kernel
theorem d_Lw_law_109 : decode b_Lw_law 109 = .ok (.iadd, 1) := by decide +kernel
theorem d_Lw_law_110 : decode b_Lw_law 110 = .ok (.iaload, 1) := by decide +kernel
theorem d_Lw_law_111 : decode b_Lw_law 111 = .ok (.aload_n 0, 1) := by decide +kernel
theorem d_Lw_law_112 : decode b_Lw_law 112 = .ok (.iload 4, 2) := by decide +kernel
theorem d_Lw_law_114 : decode b_Lw_law 114 = .ok (.iconst 2, 1) := by decide +kernel
theorem d_Lw_law_115 : decode b_Lw_law 115 = .ok (.iadd, 1) := by decide +kernel
theorem d_Lw_law_116 : decode b_Lw_law 116 = .ok (.iaload, 1) := by decide +kernel
theorem d_Lw_law_117 : decode b_Lw_law 117 = .ok (.aload_n 0, 1) := by decide +kernel
theorem d_Lw_law_118 : decode b_Lw_law 118 = .ok (.iload 4, 2) := by decide +kernel
theorem d_Lw_law_120 : decode b_Lw_law 120 = .ok (.iconst 3, 1) := by decide +kernel
theorem d_Lw_law_121 : decode b_Lw_law 121 = .ok (.iadd, 1) := by decide +kernel
theorem d_Lw_law_122 : decode b_Lw_law 122 = .ok (.iaload, 1) := by decide +kernel
theorem d_Lw_law_123 : decode b_Lw_law 123 = .ok (.i2c, 1) := by decide +kernel
theorem d_Lw_law_124 : decode b_Lw_law 124 = .ok (.aload_n 3, 1) := by decide +kernel
theorem d_Lw_law_125 : decode b_Lw_law 125 = .ok (.invokestatic 60, 3) := by decide +kernel
theorem d_Lw_law_128 : decode b_Lw_law 128 = .ok (.istore 5, 2) := by decide +kernel
theorem d_Lw_law_130 : decode b_Lw_law 130 = .ok (.aload_n 2, 1) := by decide +kernel
theorem d_Lw_law_131 : decode b_Lw_law 131 = .ok (.aload_n 0, 1) := by decide +kernel
theorem d_Lw_law_132 : decode b_Lw_law 132 = .ok (.iload 4, 2) := by decide +kernel
theorem d_Lw_law_134 : decode b_Lw_law 134 = .ok (.iconst 1, 1) := by decide +kernel
theorem d_Lw_law_135 : decode b_Lw_law 135 = .ok (.iadd, 1) := by decide +kernel
theorem d_Lw_law_136 : decode b_Lw_law 136 = .ok (.iaload, 1) := by decide +kernel
theorem d_Lw_law_137 : decode b_Lw_law 137 = .ok (.aload_n 0, 1) := by decide +kernel
theorem d_Lw_law_138 : decode b_Lw_law 138 = .ok (.iload 4, 2) := by decide +kernel
theorem d_Lw_law_140 : decode b_Lw_law 140 = .ok (.iconst 2, 1) := by decide +kernel
theorem d_Lw_law_141 : decode b_Lw_law 141 = .ok (.iadd, 1) := by decide +kernel
theorem d_Lw_law_142 : decode b_Lw_law 142 = .ok (.iaload, 1) := by decide +kernel
theorem d_Lw_law_143 : decode b_Lw_law 143 = .ok (.aload_n 0, 1) := by decide +kernel
theorem d_Lw_law_144 : decode b_Lw_law 144 = .ok (.iload 4, 2) := by decide +kernel
theorem d_Lw_law_146 : decode b_Lw_law 146 = .ok (.iconst 3, 1) := by decide +kernel
theorem d_Lw_law_147 : decode b_Lw_law 147 = .ok (.iadd, 1) := by decide +kernel
theorem d_Lw_law_148 : decode b_Lw_law 148 = .ok (.iaload, 1) := by decide +kernel
theorem d_Lw_law_149 : decode b_Lw_law 149 = .ok (.i2c, 1) := by decide +kernel
theorem d_Lw_law_150 : decode b_Lw_law 150 = .ok (.invokevirtual 65, 3) := by decide +kernel
theorem d_Lw_law_153 : decode b_Lw_law 153 = .ok (.istore 6, 2) := by decide +kernel
theorem d_Lw_law_155 : decode b_Lw_law 155 = .ok (.aload_n 2, 1) := by decide +kernel
theorem d_Lw_law_156 : decode b_Lw_law 156 = .ok (.invokevirtual 66, 3) := by decide +kernel
theorem d_Lw_law_159 : decode b_Lw_law 159 = .ok (.iload 5, 2) := by decide +kernel
theorem d_Lw_law_161 : decode b_Lw_law 161 = .ok (.if_icmp .eq 5, 3) := by decide +kernel
theorem d_Lw_law_164 : decode b_Lw_law 164 = .ok (.iconst 0, 1) := by decide +kernel
theorem d_Lw_law_165 : decode b_Lw_law 165 = .ok (.ireturn, 1) := by decide +kernel
theorem d_Lw_law_166 : decode b_Lw_law 166 = .ok (.iload 5, 2) := by decide +kernel
theorem d_Lw_law_168 : decode b_Lw_law 168 = .ok (.ifCond .ne 15, 3) := by decide +kernel
theorem d_Lw_law_171 : decode b_Lw_law 171 = .ok (.aload_n 3, 1) := by decide +kernel
theorem d_Lw_law_172 : decode b_Lw_law 172 = .ok (.iconst 0, 1) := by decide +kernel
theorem d_Lw_law_173 : decode b_Lw_law 173 = .ok (.laload, 1) := by decide +kernel
theorem d_Lw_law_174 : decode b_Lw_law 174 = .ok (.iload 6, 2) := by decide +kernel
theorem d_Lw_law_176 : decode b_Lw_law 176 = .ok (.i2l, 1) := by decide +kernel
theorem d_Lw_law_177 : decode b_Lw_law 177 = .ok (.lcmp, 1) := by decide +kernel
theorem d_Lw_law_178 : decode b_Lw_law 178 = .ok (.ifCond .eq 5, 3) := by decide +kernel
theorem d_Lw_law_181 : decode b_Lw_law 181 = .ok (.iconst 0, 1) := by decide +kernel
theorem d_Lw_law_182 : decode b_Lw_law 182 = .ok (.ireturn, 1) := by decide +kernel
theorem d_Lw_law_183 : decode b_Lw_law 183 = .ok (.goto 717, 3) := by decide +kernel
theorem d_Lw_law_186 : decode b_Lw_law 186 = .ok (.aload_n 1, 1) := by decide +kernel
theorem d_Lw_law_187 : decode b_Lw_law 187 = .ok (.aload_n 0, 1) := by decide +kernel
theorem d_Lw_law_188 : decode b_Lw_law 188 = .ok (.iload 4, 2) := by decide +kernel
theorem d_Lw_law_190 : decode b_Lw_law 190 = .ok (.iconst 1, 1) := by decide +kernel
theorem d_Lw_law_191 : decode b_Lw_law 191 = .ok (.iadd, 1) := by decide +kernel
theorem d_Lw_law_192 : decode b_Lw_law 192 = .ok (.iaload, 1) := by decide +kernel
theorem d_Lw_law_193 : decode b_Lw_law 193 = .ok (.aload_n 0, 1) := by decide +kernel
theorem d_Lw_law_194 : decode b_Lw_law 194 = .ok (.iload 4, 2) := by decide +kernel
theorem d_Lw_law_196 : decode b_Lw_law 196 = .ok (.iconst 2, 1) := by decide +kernel
theorem d_Lw_law_197 : decode b_Lw_law 197 = .ok (.iadd, 1) := by decide +kernel
theorem d_Lw_law_198 : decode b_Lw_law 198 = .ok (.iaload, 1) := by decide +kernel
theorem d_Lw_law_199 : decode b_Lw_law 199 = .ok (.aload_n 3, 1) := by decide +kernel
theorem d_Lw_law_200 : decode b_Lw_law 200 = .ok (.invokestatic 70, 3) := by decide +kernel
theorem d_Lw_law_203 : decode b_Lw_law 203 = .ok (.istore 5, 2) := by decide +kernel
theorem d_Lw_law_205 : decode b_Lw_law 205 = .ok (.aload_n 2, 1) := by decide +kernel
theorem d_Lw_law_206 : decode b_Lw_law 206 = .ok (.aload_n 0, 1) := by decide +kernel
theorem d_Lw_law_207 : decode b_Lw_law 207 = .ok (.iload 4, 2) := by decide +kernel
theorem d_Lw_law_209 : decode b_Lw_law 209 = .ok (.iconst 1, 1) := by decide +kernel
theorem d_Lw_law_210 : decode b_Lw_law 210 = .ok (.iadd, 1) := by decide +kernel
theorem d_Lw_law_211 : decode b_Lw_law 211 = .ok (.iaload, 1) := by decide +kernel
theorem d_Lw_law_212 : decode b_Lw_law 212 = .ok (.aload_n 0, 1) := by decide +kernel
theorem d_Lw_law_213 : decode b_Lw_law 213 = .ok (.iload 4, 2) := by decide +kernel
theorem d_Lw_law_215 : decode b_Lw_law 215 = .ok (.iconst 2, 1) := by decide +kernel
theorem d_Lw_law_216 : decode b_Lw_law 216 = .ok (.iadd, 1) := by decide +kernel
theorem d_Lw_law_217 : decode b_Lw_law 217 = .ok (.iaload, 1) := by decide +kernel
theorem d_Lw_law_218 : decode b_Lw_law 218 = .ok (.invokevirtual 73, 3) := by decide +kernel
theorem d_Lw_law_221 : decode b_Lw_law 221 = .ok (.istore 6, 2) := by decide +kernel
theorem d_Lw_law_223 : decode b_Lw_law 223 = .ok (.aload_n 2, 1) := by decide +kernel
theorem d_Lw_law_224 : decode b_Lw_law 224 = .ok (.invokevirtual 66, 3) := by decide +kernel
theorem d_Lw_law_227 : decode b_Lw_law 227 = .ok (.iload 5, 2) := by decide +kernel
theorem d_Lw_law_229 : decode b_Lw_law 229 = .ok (.if_icmp .eq 5, 3) := by decide +kernel
theorem d_Lw_law_232 : decode b_Lw_law 232 = .ok (.iconst 0, 1) := by decide +kernel
theorem d_Lw_law_233 : decode b_Lw_law 233 = .ok (.ireturn, 1) := by decide +kernel
theorem d_Lw_law_234 : decode b_Lw_law 234 = .ok (.iload 5, 2) := by decide +kernel
theorem d_Lw_law_236 : decode b_Lw_law 236 = .ok (.ifCond .ne 15, 3) := by decide +kernel
theorem d_Lw_law_239 : decode b_Lw_law 239 = .ok (.aload_n 3, 1) := by decide +kernel
theorem d_Lw_law_240 : decode b_Lw_law 240 = .ok (.iconst 0, 1) := by decide +kernel
theorem d_Lw_law_241 : decode b_Lw_law 241 = .ok (.laload, 1) := by decide +kernel
theorem d_Lw_law_242 : decode b_Lw_law 242 = .ok (.iload 6, 2) := by decide +kernel
theorem d_Lw_law_244 : decode b_Lw_law 244 = .ok (.i2l, 1) := by decide +kernel
theorem d_Lw_law_245 : decode b_Lw_law 245 = .ok (.lcmp, 1) := by decide +kernel
theorem d_Lw_law_246 : decode b_Lw_law 246 = .ok (.ifCond .eq 5, 3) := by decide +kernel
theorem d_Lw_law_249 : decode b_Lw_law 249 = .ok (.iconst 0, 1) := by decide +kernel
theorem d_Lw_law_250 : decode b_Lw_law 250 = .ok (.ireturn, 1) := by decide +kernel
theorem d_Lw_law_251 : decode b_Lw_law 251 = .ok (.goto 649, 3) := by decide +kernel
theorem d_Lw_law_254 : decode b_Lw_law 254 = .ok (.aload_n 1, 1) := by decide +kernel
theorem d_Lw_law_255 : decode b_Lw_law 255 = .ok (.aload_n 0, 1) := by decide +kernel
theorem d_Lw_law_256 : decode b_Lw_law 256 = .ok (.iload 4, 2) := by decide +kernel
theorem d_Lw_law_258 : decode b_Lw_law 258 = .ok (.iconst 1, 1) := by decide +kernel
theorem d_Lw_law_259 : decode b_Lw_law 259 = .ok (.iadd, 1) := by decide +kernel
theorem d_Lw_law_260 : decode b_Lw_law 260 = .ok (.iaload, 1) := by decide +kernel
theorem d_Lw_law_261 : decode b_Lw_law 261 = .ok (.invokestatic 74, 3) := by decide +kernel
theorem d_Lw_law_264 : decode b_Lw_law 264 = .ok (.istore 5, 2) := by decide +kernel
theorem d_Lw_law_266 : decode b_Lw_law 266 = .ok (.aload_n 2, 1) := by decide +kernel
theorem d_Lw_law_267 : decode b_Lw_law 267 = .ok (.aload_n 0, 1) := by decide +kernel
theorem d_Lw_law_268 : decode b_Lw_law 268 = .ok (.iload 4, 2) := by decide +kernel
theorem d_Lw_law_270 : decode b_Lw_law 270 = .ok (.iconst 1, 1) := by decide +kernel
theorem d_Lw_law_271 : decode b_Lw_law 271 = .ok (.iadd, 1) := by decide +kernel
theorem d_Lw_law_272 : decode b_Lw_law 272 = .ok (.iaload, 1) := by decide +kernel
theorem d_Lw_law_273 : decode b_Lw_law 273 = .ok (.invokevirtual 77, 3) := by decide +kernel
theorem d_Lw_law_276 : decode b_Lw_law 276 = .ok (.aload_n 2, 1) := by decide +kernel
theorem d_Lw_law_277 : decode b_Lw_law 277 = .ok (.invokevirtual 66, 3) := by decide +kernel
theorem d_Lw_law_280 : decode b_Lw_law 280 = .ok (.iload 5, 2) := by decide +kernel
theorem d_Lw_law_282 : decode b_Lw_law 282 = .ok (.if_icmp .eq 5, 3) := by decide +kernel
theorem d_Lw_law_285 : decode b_Lw_law 285 = .ok (.iconst 0, 1) := by decide +kernel
theorem d_Lw_law_286 : decode b_Lw_law 286 = .ok (.ireturn, 1) := by decide +kernel
theorem d_Lw_law_287 : decode b_Lw_law 287 = .ok (.goto 613, 3) := by decide +kernel
theorem d_Lw_law_290 : decode b_Lw_law 290 = .ok (.aload_n 1, 1) := by decide +kernel
theorem d_Lw_law_291 : decode b_Lw_law 291 = .ok (.aload_n 0, 1) := by decide +kernel
theorem d_Lw_law_292 : decode b_Lw_law 292 = .ok (.iload 4, 2) := by decide +kernel
theorem d_Lw_law_294 : decode b_Lw_law 294 = .ok (.iconst 1, 1) := by decide +kernel
theorem d_Lw_law_295 : decode b_Lw_law 295 = .ok (.iadd, 1) := by decide +kernel
theorem d_Lw_law_296 : decode b_Lw_law 296 = .ok (.iaload, 1) := by decide +kernel
theorem d_Lw_law_297 : decode b_Lw_law 297 = .ok (.aload_n 3, 1) := by decide +kernel
theorem d_Lw_law_298 : decode b_Lw_law 298 = .ok (.invokestatic 78, 3) := by decide +kernel
theorem d_Lw_law_301 : decode b_Lw_law 301 = .ok (.istore 5, 2) := by decide +kernel
theorem d_Lw_law_303 : decode b_Lw_law 303 = .ok (.aload_n 2, 1) := by decide +kernel
theorem d_Lw_law_304 : decode b_Lw_law 304 = .ok (.aload_n 0, 1) := by decide +kernel
theorem d_Lw_law_305 : decode b_Lw_law 305 = .ok (.iload 4, 2) := by decide +kernel
theorem d_Lw_law_307 : decode b_Lw_law 307 = .ok (.iconst 1, 1) := by decide +kernel
theorem d_Lw_law_308 : decode b_Lw_law 308 = .ok (.iadd, 1) := by decide +kernel
theorem d_Lw_law_309 : decode b_Lw_law 309 = .ok (.iaload, 1) := by decide +kernel
theorem d_Lw_law_310 : decode b_Lw_law 310 = .ok (.invokevirtual 81, 3) := by decide +kernel
theorem d_Lw_law_313 : decode b_Lw_law 313 = .ok (.istore 6, 2) := by decide +kernel
theorem d_Lw_law_315 : decode b_Lw_law 315 = .ok (.aload_n 2, 1) := by decide +kernel
theorem d_Lw_law_316 : decode b_Lw_law 316 = .ok (.invokevirtual 66, 3) := by decide +kernel
theorem d_Lw_law_319 : decode b_Lw_law 319 = .ok (.iload 5, 2) := by decide +kernel
theorem d_Lw_law_321 : decode b_Lw_law 321 = .ok (.if_icmp .eq 5, 3) := by decide +kernel
theorem d_Lw_law_324 : decode b_Lw_law 324 = .ok (.iconst 0, 1) := by decide +kernel
theorem d_Lw_law_325 : decode b_Lw_law 325 = .ok (.ireturn, 1) := by decide +kernel
theorem d_Lw_law_326 : decode b_Lw_law 326 = .ok (.iload 5, 2) := by decide +kernel
theorem d_Lw_law_328 : decode b_Lw_law 328 = .ok (.ifCond .ne 15, 3) := by decide +kernel
theorem d_Lw_law_331 : decode b_Lw_law 331 = .ok (.aload_n 3, 1) := by decide +kernel
theorem d_Lw_law_332 : decode b_Lw_law 332 = .ok (.iconst 0, 1) := by decide +kernel
theorem d_Lw_law_333 : decode b_Lw_law 333 = .ok (.laload, 1) := by decide +kernel
theorem d_Lw_law_334 : decode b_Lw_law 334 = .ok (.iload 6, 2) := by decide +kernel
theorem d_Lw_law_336 : decode b_Lw_law 336 = .ok (.i2l, 1) := by decide +kernel
theorem d_Lw_law_337 : decode b_Lw_law 337 = .ok (.lcmp, 1) := by decide +kernel
theorem d_Lw_law_338 : decode b_Lw_law 338 = .ok (.ifCond .eq 5, 3) := by decide +kernel
theorem d_Lw_law_341 : decode b_Lw_law 341 = .ok (.iconst 0, 1) := by decide +kernel
theorem d_Lw_law_342 : decode b_Lw_law 342 = .ok (.ireturn, 1) := by decide +kernel
theorem d_Lw_law_343 : decode b_Lw_law 343 = .ok (.goto 557, 3) := by decide +kernel
theorem d_Lw_law_346 : decode b_Lw_law 346 = .ok (.aload_n 1, 1) := by decide +kernel
theorem d_Lw_law_347 : decode b_Lw_law 347 = .ok (.aload_n 0, 1) := by decide +kernel
theorem d_Lw_law_348 : decode b_Lw_law 348 = .ok (.iload 4, 2) := by decide +kernel
theorem d_Lw_law_350 : decode b_Lw_law 350 = .ok (.iconst 1, 1) := by decide +kernel
theorem d_Lw_law_351 : decode b_Lw_law 351 = .ok (.iadd, 1) := by decide +kernel
theorem d_Lw_law_352 : decode b_Lw_law 352 = .ok (.iaload, 1) := by decide +kernel
theorem d_Lw_law_353 : decode b_Lw_law 353 = .ok (.aload_n 3, 1) := by decide +kernel
theorem d_Lw_law_354 : decode b_Lw_law 354 = .ok (.invokestatic 82, 3) := by decide +kernel
theorem d_Lw_law_357 : decode b_Lw_law 357 = .ok (.istore 5, 2) := by decide +kernel
theorem d_Lw_law_359 : decode b_Lw_law 359 = .ok (.aload_n 2, 1) := by decide +kernel
theorem d_Lw_law_360 : decode b_Lw_law 360 = .ok (.aload_n 0, 1) := by decide +kernel
theorem d_Lw_law_361 : decode b_Lw_law 361 = .ok (.iload 4, 2) := by decide +kernel
theorem d_Lw_law_363 : decode b_Lw_law 363 = .ok (.iconst 1, 1) := by decide +kernel
theorem d_Lw_law_364 : decode b_Lw_law 364 = .ok (.iadd, 1) := by decide +kernel
theorem d_Lw_law_365 : decode b_Lw_law 365 = .ok (.iaload, 1) := by decide +kernel
theorem d_Lw_law_366 : decode b_Lw_law 366 = .ok (.invokevirtual 84, 3) := by decide +kernel
theorem d_Lw_law_369 : decode b_Lw_law 369 = .ok (.istore 6, 2) := by decide +kernel
theorem d_Lw_law_371 : decode b_Lw_law 371 = .ok (.aload_n 2, 1) := by decide +kernel
theorem d_Lw_law_372 : decode b_Lw_law 372 = .ok (.invokevirtual 66, 3) := by decide +kernel
theorem d_Lw_law_375 : decode b_Lw_law 375 = .ok (.iload 5, 2) := by decide +kernel
theorem d_Lw_law_377 : decode b_Lw_law 377 = .ok (.if_icmp .eq 5, 3) := by decide +kernel
theorem d_Lw_law_380 : decode b_Lw_law 380 = .ok (.iconst 0, 1) := by decide +kernel
theorem d_Lw_law_381 : decode b_Lw_law 381 = .ok (.ireturn, 1) := by decide +kernel
theorem d_Lw_law_382 : decode b_Lw_law 382 = .ok (.iload 5, 2) := by decide +kernel
theorem d_Lw_law_384 : decode b_Lw_law 384 = .ok (.ifCond .ne 15, 3) := by decide +kernel
theorem d_Lw_law_387 : decode b_Lw_law 387 = .ok (.aload_n 3, 1) := by decide +kernel
theorem d_Lw_law_388 : decode b_Lw_law 388 = .ok (.iconst 0, 1) := by decide +kernel
theorem d_Lw_law_389 : decode b_Lw_law 389 = .ok (.laload, 1) := by decide +kernel
theorem d_Lw_law_390 : decode b_Lw_law 390 = .ok (.iload 6, 2) := by decide +kernel
theorem d_Lw_law_392 : decode b_Lw_law 392 = .ok (.i2l, 1) := by decide +kernel
theorem d_Lw_law_393 : decode b_Lw_law 393 = .ok (.lcmp, 1) := by decide +kernel
theorem d_Lw_law_394 : decode b_Lw_law 394 = .ok (.ifCond .eq 5, 3) := by decide +kernel
theorem d_Lw_law_397 : decode b_Lw_law 397 = .ok (.iconst 0, 1) := by decide +kernel
theorem d_Lw_law_398 : decode b_Lw_law 398 = .ok (.ireturn, 1) := by decide +kernel
theorem d_Lw_law_399 : decode b_Lw_law 399 = .ok (.goto 501, 3) := by decide +kernel
theorem d_Lw_law_402 : decode b_Lw_law 402 = .ok (.aload_n 1, 1) := by decide +kernel
theorem d_Lw_law_403 : decode b_Lw_law 403 = .ok (.aload_n 0, 1) := by decide +kernel
theorem d_Lw_law_404 : decode b_Lw_law 404 = .ok (.iload 4, 2) := by decide +kernel
theorem d_Lw_law_406 : decode b_Lw_law 406 = .ok (.iconst 1, 1) := by decide +kernel
theorem d_Lw_law_407 : decode b_Lw_law 407 = .ok (.iadd, 1) := by decide +kernel
theorem d_Lw_law_408 : decode b_Lw_law 408 = .ok (.iaload, 1) := by decide +kernel
theorem d_Lw_law_409 : decode b_Lw_law 409 = .ok (.aload_n 0, 1) := by decide +kernel
theorem d_Lw_law_410 : decode b_Lw_law 410 = .ok (.iload 4, 2) := by decide +kernel
theorem d_Lw_law_412 : decode b_Lw_law 412 = .ok (.iconst 2, 1) := by decide +kernel
theorem d_Lw_law_413 : decode b_Lw_law 413 = .ok (.iadd, 1) := by decide +kernel
theorem d_Lw_law_414 : decode b_Lw_law 414 = .ok (.iaload, 1) := by decide +kernel
theorem d_Lw_law_415 : decode b_Lw_law 415 = .ok (.ifCond .eq 7, 3) := by decide +kernel
theorem d_Lw_law_418 : decode b_Lw_law 418 = .ok (.iconst 1, 1) := by decide +kernel
theorem d_Lw_law_419 : decode b_Lw_law 419 = .ok (.goto 4, 3) := by decide +kernel
theorem d_Lw_law_422 : decode b_Lw_law 422 = .ok (.iconst 0, 1) := by decide +kernel
theorem d_Lw_law_423 : decode b_Lw_law 423 = .ok (.aload_n 3, 1) := by decide +kernel
theorem d_Lw_law_424 : decode b_Lw_law 424 = .ok (.invokestatic 85, 3) := by decide +kernel
theorem d_Lw_law_427 : decode b_Lw_law 427 = .ok (.istore 5, 2) := by decide +kernel
theorem d_Lw_law_429 : decode b_Lw_law 429 = .ok (.aload_n 2, 1) := by decide +kernel
theorem d_Lw_law_430 : decode b_Lw_law 430 = .ok (.aload_n 0, 1) := by decide +kernel
theorem d_Lw_law_431 : decode b_Lw_law 431 = .ok (.iload 4, 2) := by decide +kernel
theorem d_Lw_law_433 : decode b_Lw_law 433 = .ok (.iconst 1, 1) := by decide +kernel
theorem d_Lw_law_434 : decode b_Lw_law 434 = .ok (.iadd, 1) := by decide +kernel
theorem d_Lw_law_435 : decode b_Lw_law 435 = .ok (.iaload, 1) := by decide +kernel
theorem d_Lw_law_436 : decode b_Lw_law 436 = .ok (.aload_n 0, 1) := by decide +kernel
theorem d_Lw_law_437 : decode b_Lw_law 437 = .ok (.iload 4, 2) := by decide +kernel
theorem d_Lw_law_439 : decode b_Lw_law 439 = .ok (.iconst 2, 1) := by decide +kernel
theorem d_Lw_law_440 : decode b_Lw_law 440 = .ok (.iadd, 1) := by decide +kernel
theorem d_Lw_law_441 : decode b_Lw_law 441 = .ok (.iaload, 1) := by decide +kernel
theorem d_Lw_law_442 : decode b_Lw_law 442 = .ok (.ifCond .eq 7, 3) := by decide +kernel
theorem d_Lw_law_445 : decode b_Lw_law 445 = .ok (.iconst 1, 1) := by decide +kernel
theorem d_Lw_law_446 : decode b_Lw_law 446 = .ok (.goto 4, 3) := by decide +kernel
theorem d_Lw_law_449 : decode b_Lw_law 449 = .ok (.iconst 0, 1) := by decide +kernel
theorem d_Lw_law_450 : decode b_Lw_law 450 = .ok (.invokevirtual 88, 3) := by decide +kernel
theorem d_Lw_law_453 : decode b_Lw_law 453 = .ok (.istore 6, 2) := by decide +kernel
theorem d_Lw_law_455 : decode b_Lw_law 455 = .ok (.aload_n 2, 1) := by decide +kernel
theorem d_Lw_law_456 : decode b_Lw_law 456 = .ok (.invokevirtual 66, 3) := by decide +kernel
theorem d_Lw_law_459 : decode b_Lw_law 459 = .ok (.iload 5, 2) := by decide +kernel
theorem d_Lw_law_461 : decode b_Lw_law 461 = .ok (.if_icmp .eq 5, 3) := by decide +kernel
theorem d_Lw_law_464 : decode b_Lw_law 464 = .ok (.iconst 0, 1) := by decide +kernel
theorem d_Lw_law_465 : decode b_Lw_law 465 = .ok (.ireturn, 1) := by decide +kernel
theorem d_Lw_law_466 : decode b_Lw_law 466 = .ok (.iload 5, 2) := by decide +kernel
theorem d_Lw_law_468 : decode b_Lw_law 468 = .ok (.ifCond .ne 15, 3) := by decide +kernel
theorem d_Lw_law_471 : decode b_Lw_law 471 = .ok (.aload_n 3, 1) := by decide +kernel
theorem d_Lw_law_472 : decode b_Lw_law 472 = .ok (.iconst 0, 1) := by decide +kernel
theorem d_Lw_law_473 : decode b_Lw_law 473 = .ok (.laload, 1) := by decide +kernel
theorem d_Lw_law_474 : decode b_Lw_law 474 = .ok (.iload 6, 2) := by decide +kernel
theorem d_Lw_law_476 : decode b_Lw_law 476 = .ok (.i2l, 1) := by decide +kernel
theorem d_Lw_law_477 : decode b_Lw_law 477 = .ok (.lcmp, 1) := by decide +kernel
theorem d_Lw_law_478 : decode b_Lw_law 478 = .ok (.ifCond .eq 5, 3) := by decide +kernel
theorem d_Lw_law_481 : decode b_Lw_law 481 = .ok (.iconst 0, 1) := by decide +kernel
theorem d_Lw_law_482 : decode b_Lw_law 482 = .ok (.ireturn, 1) := by decide +kernel
theorem d_Lw_law_483 : decode b_Lw_law 483 = .ok (.goto 417, 3) := by decide +kernel
theorem d_Lw_law_486 : decode b_Lw_law 486 = .ok (.aload_n 1, 1) := by decide +kernel
theorem d_Lw_law_487 : decode b_Lw_law 487 = .ok (.aload_n 0, 1) := by decide +kernel
theorem d_Lw_law_488 : decode b_Lw_law 488 = .ok (.iload 4, 2) := by decide +kernel
theorem d_Lw_law_490 : decode b_Lw_law 490 = .ok (.iconst 1, 1) := by decide +kernel
theorem d_Lw_law_491 : decode b_Lw_law 491 = .ok (.iadd, 1) := by decide +kernel
theorem d_Lw_law_492 : decode b_Lw_law 492 = .ok (.iaload, 1) := by decide +kernel
theorem d_Lw_law_493 : decode b_Lw_law 493 = .ok (.aload_n 0, 1) := by decide +kernel
theorem d_Lw_law_494 : decode b_Lw_law 494 = .ok (.iload 4, 2) := by decide +kernel
theorem d_Lw_law_496 : decode b_Lw_law 496 = .ok (.iconst 2, 1) := by decide +kernel
theorem d_Lw_law_497 : decode b_Lw_law 497 = .ok (.iadd, 1) := by decide +kernel
theorem d_Lw_law_498 : decode b_Lw_law 498 = .ok (.iaload, 1) := by decide +kernel
theorem d_Lw_law_499 : decode b_Lw_law 499 = .ok (.ifCond .eq 7, 3) := by decide +kernel
theorem d_Lw_law_502 : decode b_Lw_law 502 = .ok (.iconst 1, 1) := by decide +kernel
theorem d_Lw_law_503 : decode b_Lw_law 503 = .ok (.goto 4, 3) := by decide +kernel
theorem d_Lw_law_506 : decode b_Lw_law 506 = .ok (.iconst 0, 1) := by decide +kernel
theorem d_Lw_law_507 : decode b_Lw_law 507 = .ok (.aload_n 3, 1) := by decide +kernel
theorem d_Lw_law_508 : decode b_Lw_law 508 = .ok (.invokestatic 89, 3) := by decide +kernel
theorem d_Lw_law_511 : decode b_Lw_law 511 = .ok (.istore 5, 2) := by decide +kernel
theorem d_Lw_law_513 : decode b_Lw_law 513 = .ok (.aload_n 2, 1) := by decide +kernel
theorem d_Lw_law_514 : decode b_Lw_law 514 = .ok (.aload_n 0, 1) := by decide +kernel
theorem d_Lw_law_515 : decode b_Lw_law 515 = .ok (.iload 4, 2) := by decide +kernel
theorem d_Lw_law_517 : decode b_Lw_law 517 = .ok (.iconst 1, 1) := by decide +kernel
theorem d_Lw_law_518 : decode b_Lw_law 518 = .ok (.iadd, 1) := by decide +kernel
theorem d_Lw_law_519 : decode b_Lw_law 519 = .ok (.iaload, 1) := by decide +kernel
theorem d_Lw_law_520 : decode b_Lw_law 520 = .ok (.aload_n 0, 1) := by decide +kernel
theorem d_Lw_law_521 : decode b_Lw_law 521 = .ok (.iload 4, 2) := by decide +kernel
theorem d_Lw_law_523 : decode b_Lw_law 523 = .ok (.iconst 2, 1) := by decide +kernel
theorem d_Lw_law_524 : decode b_Lw_law 524 = .ok (.iadd, 1) := by decide +kernel
theorem d_Lw_law_525 : decode b_Lw_law 525 = .ok (.iaload, 1) := by decide +kernel
theorem d_Lw_law_526 : decode b_Lw_law 526 = .ok (.ifCond .eq 7, 3) := by decide +kernel
theorem d_Lw_law_529 : decode b_Lw_law 529 = .ok (.iconst 1, 1) := by decide +kernel
theorem d_Lw_law_530 : decode b_Lw_law 530 = .ok (.goto 4, 3) := by decide +kernel
theorem d_Lw_law_533 : decode b_Lw_law 533 = .ok (.iconst 0, 1) := by decide +kernel
theorem d_Lw_law_534 : decode b_Lw_law 534 = .ok (.invokevirtual 91, 3) := by decide +kernel
theorem d_Lw_law_537 : decode b_Lw_law 537 = .ok (.istore 6, 2) := by decide +kernel
theorem d_Lw_law_539 : decode b_Lw_law 539 = .ok (.aload_n 2, 1) := by decide +kernel
theorem d_Lw_law_540 : decode b_Lw_law 540 = .ok (.invokevirtual 66, 3) := by decide +kernel
theorem d_Lw_law_543 : decode b_Lw_law 543 = .ok (.iload 5, 2) := by decide +kernel
theorem d_Lw_law_545 : decode b_Lw_law 545 = .ok (.if_icmp .eq 5, 3) := by decide +kernel
theorem d_Lw_law_548 : decode b_Lw_law 548 = .ok (.iconst 0, 1) := by decide +kernel
theorem d_Lw_law_549 : decode b_Lw_law 549 = .ok (.ireturn, 1) := by decide +kernel
theorem d_Lw_law_550 : decode b_Lw_law 550 = .ok (.iload 5, 2) := by decide +kernel
theorem d_Lw_law_552 : decode b_Lw_law 552 = .ok (.ifCond .ne 15, 3) := by decide +kernel
theorem d_Lw_law_555 : decode b_Lw_law 555 = .ok (.aload_n 3, 1) := by decide +kernel
theorem d_Lw_law_556 : decode b_Lw_law 556 = .ok (.iconst 0, 1) := by decide +kernel
theorem d_Lw_law_557 : decode b_Lw_law 557 = .ok (.laload, 1) := by decide +kernel
theorem d_Lw_law_558 : decode b_Lw_law 558 = .ok (.iload 6, 2) := by decide +kernel
theorem d_Lw_law_560 : decode b_Lw_law 560 = .ok (.i2l, 1) := by decide +kernel
theorem d_Lw_law_561 : decode b_Lw_law 561 = .ok (.lcmp, 1) := by decide +kernel
theorem d_Lw_law_562 : decode b_Lw_law 562 = .ok (.ifCond .eq 5, 3) := by decide +kernel
theorem d_Lw_law_565 : decode b_Lw_law 565 = .ok (.iconst 0, 1) := by decide +kernel
theorem d_Lw_law_566 : decode b_Lw_law 566 = .ok (.ireturn, 1) := by decide +kernel
theorem d_Lw_law_567 : decode b_Lw_law 567 = .ok (.goto 333, 3) := by decide +kernel
theorem d_Lw_law_570 : decode b_Lw_law 570 = .ok (.aload_n 1, 1) := by decide +kernel
theorem d_Lw_law_571 : decode b_Lw_law 571 = .ok (.aload_n 0, 1) := by decide +kernel
theorem d_Lw_law_572 : decode b_Lw_law 572 = .ok (.iload 4, 2) := by decide +kernel
theorem d_Lw_law_574 : decode b_Lw_law 574 = .ok (.iconst 1, 1) := by decide +kernel
theorem d_Lw_law_575 : decode b_Lw_law 575 = .ok (.iadd, 1) := by decide +kernel
theorem d_Lw_law_576 : decode b_Lw_law 576 = .ok (.iaload, 1) := by decide +kernel
theorem d_Lw_law_577 : decode b_Lw_law 577 = .ok (.aload_n 0, 1) := by decide +kernel
theorem d_Lw_law_578 : decode b_Lw_law 578 = .ok (.iload 4, 2) := by decide +kernel
theorem d_Lw_law_580 : decode b_Lw_law 580 = .ok (.iconst 2, 1) := by decide +kernel
theorem d_Lw_law_581 : decode b_Lw_law 581 = .ok (.iadd, 1) := by decide +kernel
theorem d_Lw_law_582 : decode b_Lw_law 582 = .ok (.iaload, 1) := by decide +kernel
theorem d_Lw_law_583 : decode b_Lw_law 583 = .ok (.ifCond .eq 7, 3) := by decide +kernel
theorem d_Lw_law_586 : decode b_Lw_law 586 = .ok (.iconst 1, 1) := by decide +kernel
theorem d_Lw_law_587 : decode b_Lw_law 587 = .ok (.goto 4, 3) := by decide +kernel
theorem d_Lw_law_590 : decode b_Lw_law 590 = .ok (.iconst 0, 1) := by decide +kernel
theorem d_Lw_law_591 : decode b_Lw_law 591 = .ok (.aload_n 3, 1) := by decide +kernel
theorem d_Lw_law_592 : decode b_Lw_law 592 = .ok (.invokestatic 92, 3) := by decide +kernel
theorem d_Lw_law_595 : decode b_Lw_law 595 = .ok (.istore 5, 2) := by decide +kernel
theorem d_Lw_law_597 : decode b_Lw_law 597 = .ok (.aload_n 2, 1) := by decide +kernel
theorem d_Lw_law_598 : decode b_Lw_law 598 = .ok (.aload_n 0, 1) := by decide +kernel
theorem d_Lw_law_599 : decode b_Lw_law 599 = .ok (.iload 4, 2) := by decide +kernel
theorem d_Lw_law_601 : decode b_Lw_law 601 = .ok (.iconst 1, 1) := by decide +kernel
theorem d_Lw_law_602 : decode b_Lw_law 602 = .ok (.iadd, 1) := by decide +kernel
theorem d_Lw_law_603 : decode b_Lw_law 603 = .ok (.iaload, 1) := by decide +kernel
theorem d_Lw_law_604 : decode b_Lw_law 604 = .ok (.aload_n 0, 1) := by decide +kernel
theorem d_Lw_law_605 : decode b_Lw_law 605 = .ok (.iload 4, 2) := by decide +kernel
theorem d_Lw_law_607 : decode b_Lw_law 607 = .ok (.iconst 2, 1) := by decide +kernel
theorem d_Lw_law_608 : decode b_Lw_law 608 = .ok (.iadd, 1) := by decide +kernel
theorem d_Lw_law_609 : decode b_Lw_law 609 = .ok (.iaload, 1) := by decide +kernel
theorem d_Lw_law_610 : decode b_Lw_law 610 = .ok (.ifCond .eq 7, 3) := by decide +kernel
theorem d_Lw_law_613 : decode b_Lw_law 613 = .ok (.iconst 1, 1) := by decide +kernel
theorem d_Lw_law_614 : decode b_Lw_law 614 = .ok (.goto 4, 3) := by decide +kernel
theorem d_Lw_law_617 : decode b_Lw_law 617 = .ok (.iconst 0, 1) := by decide +kernel
theorem d_Lw_law_618 : decode b_Lw_law 618 = .ok (.invokevirtual 94, 3) := by decide +kernel
theorem d_Lw_law_621 : decode b_Lw_law 621 = .ok (.istore 6, 2) := by decide +kernel
theorem d_Lw_law_623 : decode b_Lw_law 623 = .ok (.aload_n 2, 1) := by decide +kernel
theorem d_Lw_law_624 : decode b_Lw_law 624 = .ok (.invokevirtual 66, 3) := by decide +kernel
theorem d_Lw_law_627 : decode b_Lw_law 627 = .ok (.iload 5, 2) := by decide +kernel
theorem d_Lw_law_629 : decode b_Lw_law 629 = .ok (.if_icmp .eq 5, 3) := by decide +kernel
theorem d_Lw_law_632 : decode b_Lw_law 632 = .ok (.iconst 0, 1) := by decide +kernel
theorem d_Lw_law_633 : decode b_Lw_law 633 = .ok (.ireturn, 1) := by decide +kernel
theorem d_Lw_law_634 : decode b_Lw_law 634 = .ok (.iload 5, 2) := by decide +kernel
theorem d_Lw_law_636 : decode b_Lw_law 636 = .ok (.ifCond .ne 15, 3) := by decide +kernel
theorem d_Lw_law_639 : decode b_Lw_law 639 = .ok (.aload_n 3, 1) := by decide +kernel
theorem d_Lw_law_640 : decode b_Lw_law 640 = .ok (.iconst 0, 1) := by decide +kernel
theorem d_Lw_law_641 : decode b_Lw_law 641 = .ok (.laload, 1) := by decide +kernel
theorem d_Lw_law_642 : decode b_Lw_law 642 = .ok (.iload 6, 2) := by decide +kernel
theorem d_Lw_law_644 : decode b_Lw_law 644 = .ok (.i2l, 1) := by decide +kernel
theorem d_Lw_law_645 : decode b_Lw_law 645 = .ok (.lcmp, 1) := by decide +kernel
theorem d_Lw_law_646 : decode b_Lw_law 646 = .ok (.ifCond .eq 5, 3) := by decide +kernel
theorem d_Lw_law_649 : decode b_Lw_law 649 = .ok (.iconst 0, 1) := by decide +kernel
theorem d_Lw_law_650 : decode b_Lw_law 650 = .ok (.ireturn, 1) := by decide +kernel
theorem d_Lw_law_651 : decode b_Lw_law 651 = .ok (.goto 249, 3) := by decide +kernel
theorem d_Lw_law_654 : decode b_Lw_law 654 = .ok (.aload_n 1, 1) := by decide +kernel
theorem d_Lw_law_655 : decode b_Lw_law 655 = .ok (.aload_n 0, 1) := by decide +kernel
theorem d_Lw_law_656 : decode b_Lw_law 656 = .ok (.iload 4, 2) := by decide +kernel
theorem d_Lw_law_658 : decode b_Lw_law 658 = .ok (.iconst 1, 1) := by decide +kernel
theorem d_Lw_law_659 : decode b_Lw_law 659 = .ok (.iadd, 1) := by decide +kernel
theorem d_Lw_law_660 : decode b_Lw_law 660 = .ok (.iaload, 1) := by decide +kernel
theorem d_Lw_law_661 : decode b_Lw_law 661 = .ok (.aload_n 0, 1) := by decide +kernel
theorem d_Lw_law_662 : decode b_Lw_law 662 = .ok (.iload 4, 2) := by decide +kernel
theorem d_Lw_law_664 : decode b_Lw_law 664 = .ok (.iconst 2, 1) := by decide +kernel
theorem d_Lw_law_665 : decode b_Lw_law 665 = .ok (.iadd, 1) := by decide +kernel
theorem d_Lw_law_666 : decode b_Lw_law 666 = .ok (.iaload, 1) := by decide +kernel
theorem d_Lw_law_667 : decode b_Lw_law 667 = .ok (.ifCond .eq 7, 3) := by decide +kernel
theorem d_Lw_law_670 : decode b_Lw_law 670 = .ok (.iconst 1, 1) := by decide +kernel
theorem d_Lw_law_671 : decode b_Lw_law 671 = .ok (.goto 4, 3) := by decide +kernel
theorem d_Lw_law_674 : decode b_Lw_law 674 = .ok (.iconst 0, 1) := by decide +kernel
theorem d_Lw_law_675 : decode b_Lw_law 675 = .ok (.aload_n 0, 1) := by decide +kernel
theorem d_Lw_law_676 : decode b_Lw_law 676 = .ok (.iload 4, 2) := by decide +kernel
theorem d_Lw_law_678 : decode b_Lw_law 678 = .ok (.iconst 3, 1) := by decide +kernel
theorem d_Lw_law_679 : decode b_Lw_law 679 = .ok (.iadd, 1) := by decide +kernel
theorem d_Lw_law_680 : decode b_Lw_law 680 = .ok (.iaload, 1) := by decide +kernel
theorem d_Lw_law_681 : decode b_Lw_law 681 = .ok (.aload_n 3, 1) := by decide +kernel
theorem d_Lw_law_682 : decode b_Lw_law 682 = .ok (.invokestatic 95, 3) := by decide +kernel
theorem d_Lw_law_685 : decode b_Lw_law 685 = .ok (.istore 5, 2) := by decide +kernel
theorem d_Lw_law_687 : decode b_Lw_law 687 = .ok (.aload_n 2, 1) := by decide +kernel
theorem d_Lw_law_688 : decode b_Lw_law 688 = .ok (.aload_n 0, 1) := by decide +kernel
theorem d_Lw_law_689 : decode b_Lw_law 689 = .ok (.iload 4, 2) := by decide +kernel
theorem d_Lw_law_691 : decode b_Lw_law 691 = .ok (.iconst 1, 1) := by decide +kernel
theorem d_Lw_law_692 : decode b_Lw_law 692 = .ok (.iadd, 1) := by decide +kernel
theorem d_Lw_law_693 : decode b_Lw_law 693 = .ok (.iaload, 1) := by decide +kernel
theorem d_Lw_law_694 : decode b_Lw_law 694 = .ok (.aload_n 0, 1) := by decide +kernel
theorem d_Lw_law_695 : decode b_Lw_law 695 = .ok (.iload 4, 2) := by decide +kernel
theorem d_Lw_law_697 : decode b_Lw_law 697 = .ok (.iconst 2, 1) := by decide +kernel
theorem d_Lw_law_698 : decode b_Lw_law 698 = .ok (.iadd, 1) := by decide +kernel
theorem d_Lw_law_699 : decode b_Lw_law 699 = .ok (.iaload, 1) := by decide +kernel
theorem d_Lw_law_700 : decode b_Lw_law 700 = .ok (.ifCond .eq 7, 3) := by decide +kernel
theorem d_Lw_law_703 : decode b_Lw_law 703 = .ok (.iconst 1, 1) := by decide +kernel
theorem d_Lw_law_704 : decode b_Lw_law 704 = .ok (.goto 4, 3) := by decide +kernel
theorem d_Lw_law_707 : decode b_Lw_law 707 = .ok (.iconst 0, 1) := by decide +kernel
theorem d_Lw_law_708 : decode b_Lw_law 708 = .ok (.aload_n 0, 1) := by decide +kernel
theorem d_Lw_law_709 : decode b_Lw_law 709 = .ok (.iload 4, 2) := by decide +kernel
theorem d_Lw_law_711 : decode b_Lw_law 711 = .ok (.iconst 3, 1) := by decide +kernel
theorem d_Lw_law_712 : decode b_Lw_law 712 = .ok (.iadd, 1) := by decide +kernel
theorem d_Lw_law_713 : decode b_Lw_law 713 = .ok (.iaload, 1) := by decide +kernel
theorem d_Lw_law_714 : decode b_Lw_law 714 = .ok (.invokevirtual 98, 3) := by decide +kernel
theorem d_Lw_law_717 : decode b_Lw_law 717 = .ok (.istore 6, 2) := by decide +kernel
theorem d_Lw_law_719 : decode b_Lw_law 719 = .ok (.aload_n 2, 1) := by decide +kernel
theorem d_Lw_law_720 : decode b_Lw_law 720 = .ok (.invokevirtual 66, 3) := by decide +kernel
theorem d_Lw_law_723 : decode b_Lw_law 723 = .ok (.iload 5, 2) := by decide +kernel
theorem d_Lw_law_725 : decode b_Lw_law 725 = .ok (.if_icmp .eq 5, 3) := by decide +kernel
theorem d_Lw_law_728 : decode b_Lw_law 728 = .ok (.iconst 0, 1) := by decide +kernel
theorem d_Lw_law_729 : decode b_Lw_law 729 = .ok (.ireturn, 1) := by decide +kernel
theorem d_Lw_law_730 : decode b_Lw_law 730 = .ok (.iload 5, 2) := by decide +kernel
theorem d_Lw_law_732 : decode b_Lw_law 732 = .ok (.ifCond .ne 15, 3) := by decide +kernel
theorem d_Lw_law_735 : decode b_Lw_law 735 = .ok (.aload_n 3, 1) := by decide +kernel
theorem d_Lw_law_736 : decode b_Lw_law 736 = .ok (.iconst 0, 1) := by decide +kernel
theorem d_Lw_law_737 : decode b_Lw_law 737 = .ok (.laload, 1) := by decide +kernel
theorem d_Lw_law_738 : decode b_Lw_law 738 = .ok (.iload 6, 2) := by decide +kernel
theorem d_Lw_law_740 : decode b_Lw_law 740 = .ok (.i2l, 1) := by decide +kernel
theorem d_Lw_law_741 : decode b_Lw_law 741 = .ok (.lcmp, 1) := by decide +kernel
theorem d_Lw_law_742 : decode b_Lw_law 742 = .ok (.ifCond .eq 5, 3) := by decide +kernel
theorem d_Lw_law_745 : decode b_Lw_law 745 = .ok (.iconst 0, 1) := by decide +kernel
theorem d_Lw_law_746 : decode b_Lw_law 746 = .ok (.ireturn, 1) := by decide +kernel
theorem d_Lw_law_747 : decode b_Lw_law 747 = .ok (.goto 153, 3) := by decide +kernel
theorem d_Lw_law_750 : decode b_Lw_law 750 = .ok (.aload_n 1, 1) := by decide +kernel
theorem d_Lw_law_751 : decode b_Lw_law 751 = .ok (.aload_n 0, 1) := by decide +kernel
theorem d_Lw_law_752 : decode b_Lw_law 752 = .ok (.iload 4, 2) := by decide +kernel
theorem d_Lw_law_754 : decode b_Lw_law 754 = .ok (.iconst 1, 1) := by decide +kernel
theorem d_Lw_law_755 : decode b_Lw_law 755 = .ok (.iadd, 1) := by decide +kernel
theorem d_Lw_law_756 : decode b_Lw_law 756 = .ok (.iaload, 1) := by decide +kernel
theorem d_Lw_law_757 : decode b_Lw_law 757 = .ok (.aload_n 3, 1) := by decide +kernel
theorem d_Lw_law_758 : decode b_Lw_law 758 = .ok (.invokestatic 99, 3) := by decide +kernel
theorem d_Lw_law_761 : decode b_Lw_law 761 = .ok (.istore 5, 2) := by decide +kernel
theorem d_Lw_law_763 : decode b_Lw_law 763 = .ok (.aload_n 2, 1) := by decide +kernel
theorem d_Lw_law_764 : decode b_Lw_law 764 = .ok (.aload_n 0, 1) := by decide +kernel
theorem d_Lw_law_765 : decode b_Lw_law 765 = .ok (.iload 4, 2) := by decide +kernel
theorem d_Lw_law_767 : decode b_Lw_law 767 = .ok (.iconst 1, 1) := by decide +kernel
theorem d_Lw_law_768 : decode b_Lw_law 768 = .ok (.iadd, 1) := by decide +kernel
theorem d_Lw_law_769 : decode b_Lw_law 769 = .ok (.iaload, 1) := by decide +kernel
theorem d_Lw_law_770 : decode b_Lw_law 770 = .ok (.invokevirtual 101, 3) := by decide +kernel
theorem d_Lw_law_773 : decode b_Lw_law 773 = .ok (.istore 6, 2) := by decide +kernel
theorem d_Lw_law_775 : decode b_Lw_law 775 = .ok (.aload_n 2, 1) := by decide +kernel
theorem d_Lw_law_776 : decode b_Lw_law 776 = .ok (.invokevirtual 66, 3) := by decide +kernel
theorem d_Lw_law_779 : decode b_Lw_law 779 = .ok (.iload 5, 2) := by decide +kernel
theorem d_Lw_law_781 : decode b_Lw_law 781 = .ok (.if_icmp .eq 5, 3) := by decide +kernel
theorem d_Lw_law_784 : decode b_Lw_law 784 = .ok (.iconst 0, 1) := by decide +kernel
theorem d_Lw_law_785 : decode b_Lw_law 785 = .ok (.ireturn, 1) := by decide +kernel
theorem d_Lw_law_786 : decode b_Lw_law 786 = .ok (.iload 5, 2) := by decide +kernel
theorem d_Lw_law_788 : decode b_Lw_law 788 = .ok (.ifCond .ne 15, 3) := by decide +kernel
theorem d_Lw_law_791 : decode b_Lw_law 791 = .ok (.aload_n 3, 1) := by decide +kernel
theorem d_Lw_law_792 : decode b_Lw_law 792 = .ok (.iconst 0, 1) := by decide +kernel
theorem d_Lw_law_793 : decode b_Lw_law 793 = .ok (.laload, 1) := by decide +kernel
theorem d_Lw_law_794 : decode b_Lw_law 794 = .ok (.iload 6, 2) := by decide +kernel
theorem d_Lw_law_796 : decode b_Lw_law 796 = .ok (.i2l, 1) := by decide +kernel
theorem d_Lw_law_797 : decode b_Lw_law 797 = .ok (.lcmp, 1) := by decide +kernel
theorem d_Lw_law_798 : decode b_Lw_law 798 = .ok (.ifCond .eq 5, 3) := by decide +kernel
theorem d_Lw_law_801 : decode b_Lw_law 801 = .ok (.iconst 0, 1) := by decide +kernel
theorem d_Lw_law_802 : decode b_Lw_law 802 = .ok (.ireturn, 1) := by decide +kernel
theorem d_Lw_law_803 : decode b_Lw_law 803 = .ok (.goto 97, 3) := by decide +kernel
theorem d_Lw_law_806 : decode b_Lw_law 806 = .ok (.aload_n 1, 1) := by decide +kernel
theorem d_Lw_law_807 : decode b_Lw_law 807 = .ok (.aload_n 0, 1) := by decide +kernel
theorem d_Lw_law_808 : decode b_Lw_law 808 = .ok (.iload 4, 2) := by decide +kernel
theorem d_Lw_law_810 : decode b_Lw_law 810 = .ok (.iconst 1, 1) := by decide +kernel
theorem d_Lw_law_811 : decode b_Lw_law 811 = .ok (.iadd, 1) := by decide +kernel
theorem d_Lw_law_812 : decode b_Lw_law 812 = .ok (.iaload, 1) := by decide +kernel
theorem d_Lw_law_813 : decode b_Lw_law 813 = .ok (.aload_n 0, 1) := by decide +kernel
theorem d_Lw_law_814 : decode b_Lw_law 814 = .ok (.iload 4, 2) := by decide +kernel
theorem d_Lw_law_816 : decode b_Lw_law 816 = .ok (.iconst 2, 1) := by decide +kernel
theorem d_Lw_law_817 : decode b_Lw_law 817 = .ok (.iadd, 1) := by decide +kernel
theorem d_Lw_law_818 : decode b_Lw_law 818 = .ok (.iaload, 1) := by decide +kernel
theorem d_Lw_law_819 : decode b_Lw_law 819 = .ok (.aload_n 3, 1) := by decide +kernel
theorem d_Lw_law_820 : decode b_Lw_law 820 = .ok (.invokestatic 102, 3) := by decide +kernel
theorem d_Lw_law_823 : decode b_Lw_law 823 = .ok (.istore 5, 2) := by decide +kernel
theorem d_Lw_law_825 : decode b_Lw_law 825 = .ok (.aload_n 2, 1) := by decide +kernel
theorem d_Lw_law_826 : decode b_Lw_law 826 = .ok (.aload_n 0, 1) := by decide +kernel
theorem d_Lw_law_827 : decode b_Lw_law 827 = .ok (.iload 4, 2) := by decide +kernel
theorem d_Lw_law_829 : decode b_Lw_law 829 = .ok (.iconst 1, 1) := by decide +kernel
theorem d_Lw_law_830 : decode b_Lw_law 830 = .ok (.iadd, 1) := by decide +kernel
theorem d_Lw_law_831 : decode b_Lw_law 831 = .ok (.iaload, 1) := by decide +kernel
theorem d_Lw_law_832 : decode b_Lw_law 832 = .ok (.aload_n 0, 1) := by decide +kernel
theorem d_Lw_law_833 : decode b_Lw_law 833 = .ok (.iload 4, 2) := by decide +kernel
theorem d_Lw_law_835 : decode b_Lw_law 835 = .ok (.iconst 2, 1) := by decide +kernel
theorem d_Lw_law_836 : decode b_Lw_law 836 = .ok (.iadd, 1) := by decide +kernel
theorem d_Lw_law_837 : decode b_Lw_law 837 = .ok (.iaload, 1) := by decide +kernel
theorem d_Lw_law_838 : decode b_Lw_law 838 = .ok (.invokevirtual 104, 3) := by decide +kernel
theorem d_Lw_law_841 : decode b_Lw_law 841 = .ok (.istore 6, 2) := by decide +kernel
theorem d_Lw_law_843 : decode b_Lw_law 843 = .ok (.aload_n 2, 1) := by decide +kernel
theorem d_Lw_law_844 : decode b_Lw_law 844 = .ok (.invokevirtual 66, 3) := by decide +kernel
theorem d_Lw_law_847 : decode b_Lw_law 847 = .ok (.iload 5, 2) := by decide +kernel
theorem d_Lw_law_849 : decode b_Lw_law 849 = .ok (.if_icmp .eq 5, 3) := by decide +kernel
theorem d_Lw_law_852 : decode b_Lw_law 852 = .ok (.iconst 0, 1) := by decide +kernel
theorem d_Lw_law_853 : decode b_Lw_law 853 = .ok (.ireturn, 1) := by decide +kernel
theorem d_Lw_law_854 : decode b_Lw_law 854 = .ok (.iload 5, 2) := by decide +kernel
theorem d_Lw_law_856 : decode b_Lw_law 856 = .ok (.ifCond .ne 15, 3) := by decide +kernel
theorem d_Lw_law_859 : decode b_Lw_law 859 = .ok (.aload_n 3, 1) := by decide +kernel
theorem d_Lw_law_860 : decode b_Lw_law 860 = .ok (.iconst 0, 1) := by decide +kernel
theorem d_Lw_law_861 : decode b_Lw_law 861 = .ok (.laload, 1) := by decide +kernel
theorem d_Lw_law_862 : decode b_Lw_law 862 = .ok (.iload 6, 2) := by decide +kernel
theorem d_Lw_law_864 : decode b_Lw_law 864 = .ok (.i2l, 1) := by decide +kernel
theorem d_Lw_law_865 : decode b_Lw_law 865 = .ok (.lcmp, 1) := by decide +kernel
theorem d_Lw_law_866 : decode b_Lw_law 866 = .ok (.ifCond .eq 5, 3) := by decide +kernel
theorem d_Lw_law_869 : decode b_Lw_law 869 = .ok (.iconst 0, 1) := by decide +kernel
theorem d_Lw_law_870 : decode b_Lw_law 870 = .ok (.ireturn, 1) := by decide +kernel
theorem d_Lw_law_871 : decode b_Lw_law 871 = .ok (.goto 29, 3) := by decide +kernel
theorem d_Lw_law_874 : decode b_Lw_law 874 = .ok (.aload_n 1, 1) := by decide +kernel
theorem d_Lw_law_875 : decode b_Lw_law 875 = .ok (.invokevirtual 105, 3) := by decide +kernel
theorem d_Lw_law_878 : decode b_Lw_law 878 = .ok (.aload_n 2, 1) := by decide +kernel
theorem d_Lw_law_879 : decode b_Lw_law 879 = .ok (.invokevirtual 109, 3) := by decide +kernel
theorem d_Lw_law_882 : decode b_Lw_law 882 = .ok (.if_icmp .eq 18, 3) := by decide +kernel
theorem d_Lw_law_885 : decode b_Lw_law 885 = .ok (.iconst 0, 1) := by decide +kernel
theorem d_Lw_law_886 : decode b_Lw_law 886 = .ok (.ireturn, 1) := by decide +kernel
theorem d_Lw_law_887 : decode b_Lw_law 887 = .ok (.aload_n 1, 1) := by decide +kernel
theorem d_Lw_law_888 : decode b_Lw_law 888 = .ok (.invokevirtual 110, 3) := by decide +kernel
theorem d_Lw_law_891 : decode b_Lw_law 891 = .ok (.aload_n 2, 1) := by decide +kernel
theorem d_Lw_law_892 : decode b_Lw_law 892 = .ok (.invokevirtual 113, 3) := by decide +kernel
theorem d_Lw_law_895 : decode b_Lw_law 895 = .ok (.if_icmp .eq 5, 3) := by decide +kernel
theorem d_Lw_law_898 : decode b_Lw_law 898 = .ok (.iconst 0, 1) := by decide +kernel
theorem d_Lw_law_899 : decode b_Lw_law 899 = .ok (.ireturn, 1) := by decide +kernel
theorem d_Lw_law_900 : decode b_Lw_law 900 = .ok (.iinc 4 4, 3) := by decide +kernel
theorem d_Lw_law_903 : decode b_Lw_law 903 = .ok (.goto (-880), 3) := by decide +kernel
theorem d_Lw_law_906 : decode b_Lw_law 906 = .ok (.iconst 1, 1) := by decide +kernel
theorem d_Lw_law_907 : decode b_Lw_law 907 = .ok (.ireturn, 1) := by decide +kernel
theorem d_Lw_letter_0 : decode b_Lw_letter 0 = .ok (.aload_n 3, 1) := by decide +kernel
theorem d_Lw_letter_1 : decode b_Lw_letter 1 = .ok (.iconst 0, 1) := by decide +kernel
theorem d_Lw_letter_2 : decode b_Lw_letter 2 = .ok (.aload_n 0, 1) := by decide +kernel
theorem d_Lw_letter_3 : decode b_Lw_letter 3 = .ok (.iload_n 1, 1) := by decide +kernel
theorem d_Lw_letter_4 : decode b_Lw_letter 4 = .ok (.iload_n 2, 1) := by decide +kernel
theorem d_Lw_letter_5 : decode b_Lw_letter 5 = .ok (.invokevirtual 53, 3) := by decide +kernel
theorem d_Lw_letter_8 : decode b_Lw_letter 8 = .ok (.i2l, 1) := by decide +kernel
theorem d_Lw_letter_9 : decode b_Lw_letter 9 = .ok (.lastore, 1) := by decide +kernel
theorem d_Lw_letter_10 : decode b_Lw_letter 10 = .ok (.goto 11, 3) := by decide +kernel
theorem d_Lw_letter_13 : decode b_Lw_letter 13 = .ok (.astore 4, 2) := by decide +kernel
theorem d_Lw_letter_15 : decode b_Lw_letter 15 = .ok (.iconst 1, 1) := by decide +kernel
theorem d_Lw_letter_16 : decode b_Lw_letter 16 = .ok (.ireturn, 1) := by decide +kernel
theorem d_Lw_letter_17 : decode b_Lw_letter 17 = .ok (.astore 4, 2) := by decide +kernel
theorem d_Lw_letter_19 : decode b_Lw_letter 19 = .ok (.iconst 2, 1) := by decide +kernel
theorem d_Lw_letter_20 : decode b_Lw_letter 20 = .ok (.ireturn, 1) := by decide +kernel
theorem d_Lw_letter_21 : decode b_Lw_letter 21 = .ok (.iconst 0, 1) := by decide +kernel
theorem d_Lw_letter_22 : decode b_Lw_letter 22 = .ok (.ireturn, 1) := by decide +kernel
theorem d_Lw_nod_0 : decode b_Lw_nod 0 = .ok (.aload_n 0, 1) := by decide +kernel
theorem d_Lw_nod_1 : decode b_Lw_nod 1 = .ok (.iload_n 1, 1) := by decide +kernel
theorem d_Lw_nod_2 : decode b_Lw_nod 2 = .ok (.invokevirtual 23, 3) := by decide +kernel
theorem d_Lw_nod_5 : decode b_Lw_nod 5 = .ok (.goto 9, 3) := by decide +kernel
theorem d_Lw_nod_8 : decode b_Lw_nod 8 = .ok (.astore_n 2, 1) := by decide +kernel
theorem d_Lw_nod_9 : decode b_Lw_nod 9 = .ok (.iconst 1, 1) := by decide +kernel
theorem d_Lw_nod_10 : decode b_Lw_nod 10 = .ok (.ireturn, 1) := by decide +kernel
theorem d_Lw_nod_11 : decode b_Lw_nod 11 = .ok (.astore_n 2, 1) := by decide +kernel
theorem d_Lw_nod_12 : decode b_Lw_nod 12 = .ok (.iconst 2, 1) := by decide +kernel
theorem d_Lw_nod_13 : decode b_Lw_nod 13 = .ok (.ireturn, 1) := by decide +kernel
theorem d_Lw_nod_14 : decode b_Lw_nod 14 = .ok (.iconst 0, 1) := by decide +kernel
theorem d_Lw_nod_15 : decode b_Lw_nod 15 = .ok (.ireturn, 1) := by decide +kernel
theorem d_Lw_open_0 : decode b_Lw_open 0 = .ok (.aload_n 3, 1) := by decide +kernel
theorem d_Lw_open_1 : decode b_Lw_open 1 = .ok (.iconst 0, 1) := by decide +kernel
theorem d_Lw_open_2 : decode b_Lw_open 2 = .ok (.aload_n 0, 1) := by decide +kernel
theorem d_Lw_open_3 : decode b_Lw_open 3 = .ok (.iload_n 1, 1) := by decide +kernel
theorem d_Lw_open_4 : decode b_Lw_open 4 = .ok (.iload_n 2, 1) := by decide +kernel
theorem d_Lw_open_5 : decode b_Lw_open 5 = .ok (.invokevirtual 43, 3) := by decide +kernel
theorem d_Lw_open_8 : decode b_Lw_open 8 = .ok (.i2l, 1) := by decide +kernel
theorem d_Lw_open_9 : decode b_Lw_open 9 = .ok (.lastore, 1) := by decide +kernel
theorem d_Lw_open_10 : decode b_Lw_open 10 = .ok (.goto 7, 3) := by decide +kernel
theorem d_Lw_open_13 : decode b_Lw_open 13 = .ok (.astore 4, 2) := by decide +kernel
theorem d_Lw_open_15 : decode b_Lw_open 15 = .ok (.iconst 1, 1) := by decide +kernel
theorem d_Lw_open_16 : decode b_Lw_open 16 = .ok (.ireturn, 1) := by decide +kernel
theorem d_Lw_open_17 : decode b_Lw_open 17 = .ok (.iconst 0, 1) := by decide +kernel
theorem d_Lw_open_18 : decode b_Lw_open 18 = .ok (.ireturn, 1) := by decide +kernel
theorem d_Lw_pull_0 : decode b_Lw_pull 0 = .ok (.aload_n 2, 1) := by decide +kernel
theorem d_Lw_pull_1 : decode b_Lw_pull 1 = .ok (.iconst 0, 1) := by decide +kernel
theorem d_Lw_pull_2 : decode b_Lw_pull 2 = .ok (.aload_n 0, 1) := by decide +kernel
theorem d_Lw_pull_3 : decode b_Lw_pull 3 = .ok (.iload_n 1, 1) := by decide +kernel
theorem d_Lw_pull_4 : decode b_Lw_pull 4 = .ok (.invokevirtual 33, 3) := by decide +kernel
theorem d_Lw_pull_7 : decode b_Lw_pull 7 = .ok (.i2l, 1) := by decide +kernel
theorem d_Lw_pull_8 : decode b_Lw_pull 8 = .ok (.lastore, 1) := by decide +kernel
theorem d_Lw_pull_9 : decode b_Lw_pull 9 = .ok (.goto 9, 3) := by decide +kernel
theorem d_Lw_pull_12 : decode b_Lw_pull 12 = .ok (.astore_n 3, 1) := by decide +kernel
theorem d_Lw_pull_13 : decode b_Lw_pull 13 = .ok (.iconst 1, 1) := by decide +kernel
theorem d_Lw_pull_14 : decode b_Lw_pull 14 = .ok (.ireturn, 1) := by decide +kernel
theorem d_Lw_pull_15 : decode b_Lw_pull 15 = .ok (.astore_n 3, 1) := by decide +kernel
theorem d_Lw_pull_16 : decode b_Lw_pull 16 = .ok (.iconst 2, 1) := by decide +kernel
theorem d_Lw_pull_17 : decode b_Lw_pull 17 = .ok (.ireturn, 1) := by decide +kernel
theorem d_Lw_pull_18 : decode b_Lw_pull 18 = .ok (.iconst 0, 1) := by decide +kernel
theorem d_Lw_pull_19 : decode b_Lw_pull 19 = .ok (.ireturn, 1) := by decide +kernel
theorem d_Lw_push_0 : decode b_Lw_push 0 = .ok (.aload_n 2, 1) := by decide +kernel
theorem d_Lw_push_1 : decode b_Lw_push 1 = .ok (.iconst 0, 1) := by decide +kernel
theorem d_Lw_push_2 : decode b_Lw_push 2 = .ok (.aload_n 0, 1) := by decide +kernel
theorem d_Lw_push_3 : decode b_Lw_push 3 = .ok (.iload_n 1, 1) := by decide +kernel
theorem d_Lw_push_4 : decode b_Lw_push 4 = .ok (.invokevirtual 27, 3) := by decide +kernel
theorem d_Lw_push_7 : decode b_Lw_push 7 = .ok (.i2l, 1) := by decide +kernel
theorem d_Lw_push_8 : decode b_Lw_push 8 = .ok (.lastore, 1) := by decide +kernel
theorem d_Lw_push_9 : decode b_Lw_push 9 = .ok (.goto 12, 3) := by decide +kernel
theorem d_Lw_push_12 : decode b_Lw_push 12 = .ok (.astore_n 3, 1) := by decide +kernel
theorem d_Lw_push_13 : decode b_Lw_push 13 = .ok (.iconst 1, 1) := by decide +kernel
theorem d_Lw_push_14 : decode b_Lw_push 14 = .ok (.ireturn, 1) := by decide +kernel
theorem d_Lw_push_15 : decode b_Lw_push 15 = .ok (.astore_n 3, 1) := by decide +kernel
theorem d_Lw_push_16 : decode b_Lw_push 16 = .ok (.iconst 2, 1) := by decide +kernel
theorem d_Lw_push_17 : decode b_Lw_push 17 = .ok (.ireturn, 1) := by decide +kernel
theorem d_Lw_push_18 : decode b_Lw_push 18 = .ok (.astore_n 3, 1) := by decide +kernel
theorem d_Lw_push_19 : decode b_Lw_push 19 = .ok (.iconst 3, 1) := by decide +kernel
theorem d_Lw_push_20 : decode b_Lw_push 20 = .ok (.ireturn, 1) := by decide +kernel
theorem d_Lw_push_21 : decode b_Lw_push 21 = .ok (.iconst 0, 1) := by decide +kernel
theorem d_Lw_push_22 : decode b_Lw_push 22 = .ok (.ireturn, 1) := by decide +kernel
theorem d_Lw_size_0 : decode b_Lw_size 0 = .ok (.aload_n 2, 1) := by decide +kernel
theorem d_Lw_size_1 : decode b_Lw_size 1 = .ok (.iconst 0, 1) := by decide +kernel
theorem d_Lw_size_2 : decode b_Lw_size 2 = .ok (.aload_n 0, 1) := by decide +kernel
theorem d_Lw_size_3 : decode b_Lw_size 3 = .ok (.iload_n 1, 1) := by decide +kernel
theorem d_Lw_size_4 : decode b_Lw_size 4 = .ok (.invokevirtual 50, 3) := by decide +kernel
theorem d_Lw_size_7 : decode b_Lw_size 7 = .ok (.i2l, 1) := by decide +kernel
theorem d_Lw_size_8 : decode b_Lw_size 8 = .ok (.lastore, 1) := by decide +kernel
theorem d_Lw_size_9 : decode b_Lw_size 9 = .ok (.goto 6, 3) := by decide +kernel
theorem d_Lw_size_12 : decode b_Lw_size 12 = .ok (.astore_n 3, 1) := by decide +kernel
theorem d_Lw_size_13 : decode b_Lw_size 13 = .ok (.iconst 1, 1) := by decide +kernel
theorem d_Lw_size_14 : decode b_Lw_size 14 = .ok (.ireturn, 1) := by decide +kernel
theorem d_Lw_size_15 : decode b_Lw_size 15 = .ok (.iconst 0, 1) := by decide +kernel
theorem d_Lw_size_16 : decode b_Lw_size 16 = .ok (.ireturn, 1) := by decide +kernel
theorem d_Lw_waiting_0 : decode b_Lw_waiting 0 = .ok (.aload_n 3, 1) := by decide +kernel
theorem d_Lw_waiting_1 : decode b_Lw_waiting 1 = .ok (.iconst 0, 1) := by decide +kernel
theorem d_Lw_waiting_2 : decode b_Lw_waiting 2 = .ok (.aload_n 0, 1) := by decide +kernel
theorem d_Lw_waiting_3 : decode b_Lw_waiting 3 = .ok (.iload_n 1, 1) := by decide +kernel
theorem d_Lw_waiting_4 : decode b_Lw_waiting 4 = .ok (.iload_n 2, 1) := by decide +kernel
theorem d_Lw_waiting_5 : decode b_Lw_waiting 5 = .ok (.invokevirtual 36, 3) := by decide +kernel
theorem d_Lw_waiting_8 : decode b_Lw_waiting 8 = .ok (.i2l, 1) := by decide +kernel
theorem d_Lw_waiting_9 : decode b_Lw_waiting 9 = .ok (.lastore, 1) := by decide +kernel
theorem d_Lw_waiting_10 : decode b_Lw_waiting 10 = .ok (.goto 7, 3) := by decide +kernel
theorem d_Lw_waiting_13 : decode b_Lw_waiting 13 = .ok (.astore 4, 2) := by decide +kernel
theorem d_Lw_waiting_15 : decode b_Lw_waiting 15 = .ok (.iconst 1, 1) := by decide +kernel
theorem d_Lw_waiting_16 : decode b_Lw_waiting 16 = .ok (.ireturn, 1) := by decide +kernel
theorem d_Lw_waiting_17 : decode b_Lw_waiting 17 = .ok (.iconst 0, 1) := by decide +kernel
theorem d_Lw_waiting_18 : decode b_Lw_waiting 18 = .ok (.ireturn, 1) := by decide +kernel
