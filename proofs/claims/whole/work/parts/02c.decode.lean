theorem dX12_token_144 : decode cX12_token 144 = .ok (.aload_n 0, 1) := by decide +kernel
theorem dX12_token_145 : decode cX12_token 145 = .ok (.iload_n 2, 1) := by decide +kernel
theorem dX12_token_146 : decode cX12_token 146 = .ok (.invokevirtual 209, 3) := by decide +kernel
theorem dX12_token_149 : decode cX12_token 149 = .ok (.invokestatic 230, 3) := by decide +kernel
theorem dX12_token_152 : decode cX12_token 152 = .ok (.ifCond .eq 34, 3) := by decide +kernel
theorem dX12_token_155 : decode cX12_token 155 = .ok (.iload_n 2, 1) := by decide +kernel
theorem dX12_token_156 : decode cX12_token 156 = .ok (.iconst 4, 1) := by decide +kernel
theorem dX12_token_157 : decode cX12_token 157 = .ok (.if_icmp .ge 23, 3) := by decide +kernel
theorem dX12_token_160 : decode cX12_token 160 = .ok (.aload_n 0, 1) := by decide +kernel
theorem dX12_token_161 : decode cX12_token 161 = .ok (.bipush 10, 2) := by decide +kernel
theorem dX12_token_163 : decode cX12_token 163 = .ok (.aload_n 0, 1) := by decide +kernel
theorem dX12_token_164 : decode cX12_token 164 = .ok (.getfield 220, 3) := by decide +kernel
theorem dX12_token_167 : decode cX12_token 167 = .ok (.imul, 1) := by decide +kernel
theorem dX12_token_168 : decode cX12_token 168 = .ok (.aload_n 0, 1) := by decide +kernel
theorem dX12_token_169 : decode cX12_token 169 = .ok (.iload_n 2, 1) := by decide +kernel
theorem dX12_token_170 : decode cX12_token 170 = .ok (.invokevirtual 209, 3) := by decide +kernel
theorem dX12_token_173 : decode cX12_token 173 = .ok (.iadd, 1) := by decide +kernel
theorem dX12_token_174 : decode cX12_token 174 = .ok (.bipush 48, 2) := by decide +kernel
theorem dX12_token_176 : decode cX12_token 176 = .ok (.isub, 1) := by decide +kernel
theorem dX12_token_177 : decode cX12_token 177 = .ok (.putfield 220, 3) := by decide +kernel
theorem dX12_token_180 : decode cX12_token 180 = .ok (.iinc 2 1, 3) := by decide +kernel
theorem dX12_token_183 : decode cX12_token 183 = .ok (.goto (-39), 3) := by decide +kernel
theorem dX12_token_186 : decode cX12_token 186 = .ok (.aload_n 0, 1) := by decide +kernel
theorem dX12_token_187 : decode cX12_token 187 = .ok (.iload_n 2, 1) := by decide +kernel
theorem dX12_token_188 : decode cX12_token 188 = .ok (.iconst 4, 1) := by decide +kernel
theorem dX12_token_189 : decode cX12_token 189 = .ok (.if_icmp .gt 14, 3) := by decide +kernel
theorem dX12_token_192 : decode cX12_token 192 = .ok (.aload_n 0, 1) := by decide +kernel
theorem dX12_token_193 : decode cX12_token 193 = .ok (.iload_n 2, 1) := by decide +kernel
theorem dX12_token_194 : decode cX12_token 194 = .ok (.invokevirtual 209, 3) := by decide +kernel
theorem dX12_token_197 : decode cX12_token 197 = .ok (.invokestatic 226, 3) := by decide +kernel
theorem dX12_token_200 : decode cX12_token 200 = .ok (.ifCond .eq 7, 3) := by decide +kernel
theorem dX12_token_203 : decode cX12_token 203 = .ok (.iconst 3, 1) := by decide +kernel
theorem dX12_token_204 : decode cX12_token 204 = .ok (.goto 4, 3) := by decide +kernel
theorem dX12_token_207 : decode cX12_token 207 = .ok (.iconst 2, 1) := by decide +kernel
theorem dX12_token_208 : decode cX12_token 208 = .ok (.putfield 223, 3) := by decide +kernel
theorem dX12_token_211 : decode cX12_token 211 = .ok (.goto 21, 3) := by decide +kernel
theorem dX12_token_214 : decode cX12_token 214 = .ok (.iconst 1, 1) := by decide +kernel
theorem dX12_token_215 : decode cX12_token 215 = .ok (.istore_n 2, 1) := by decide +kernel
theorem dX12_token_216 : decode cX12_token 216 = .ok (.aload_n 0, 1) := by decide +kernel
theorem dX12_token_217 : decode cX12_token 217 = .ok (.iload_n 1, 1) := by decide +kernel
theorem dX12_token_218 : decode cX12_token 218 = .ok (.invokestatic 233, 3) := by decide +kernel
theorem dX12_token_221 : decode cX12_token 221 = .ok (.ifCond .eq 7, 3) := by decide +kernel
theorem dX12_token_224 : decode cX12_token 224 = .ok (.iload_n 1, 1) := by decide +kernel
theorem dX12_token_225 : decode cX12_token 225 = .ok (.goto 4, 3) := by decide +kernel
theorem dX12_token_228 : decode cX12_token 228 = .ok (.iconst 3, 1) := by decide +kernel
theorem dX12_token_229 : decode cX12_token 229 = .ok (.putfield 223, 3) := by decide +kernel
theorem dX12_token_232 : decode cX12_token 232 = .ok (.aload_n 0, 1) := by decide +kernel
theorem dX12_token_233 : decode cX12_token 233 = .ok (.getfield 223, 3) := by decide +kernel
theorem dX12_token_236 : decode cX12_token 236 = .ok (.iconst 3, 1) := by decide +kernel
theorem dX12_token_237 : decode cX12_token 237 = .ok (.if_icmp .eq 13, 3) := by decide +kernel
theorem dX12_token_240 : decode cX12_token 240 = .ok (.aload_n 0, 1) := by decide +kernel
theorem dX12_token_241 : decode cX12_token 241 = .ok (.dup, 1) := by decide +kernel
theorem dX12_token_242 : decode cX12_token 242 = .ok (.getfield 203, 3) := by decide +kernel
theorem dX12_token_245 : decode cX12_token 245 = .ok (.iload_n 2, 1) := by decide +kernel
theorem dX12_token_246 : decode cX12_token 246 = .ok (.iadd, 1) := by decide +kernel
theorem dX12_token_247 : decode cX12_token 247 = .ok (.putfield 203, 3) := by decide +kernel
theorem dX12_token_250 : decode cX12_token 250 = .ok (.return_, 1) := by decide +kernel
theorem dX12_wrong_0 : decode cX12_wrong 0 = .ok (.aload_n 0, 1) := by decide +kernel
theorem dX12_wrong_1 : decode cX12_wrong 1 = .ok (.getfield 236, 3) := by decide +kernel
theorem dX12_wrong_4 : decode cX12_wrong 4 = .ok (.ifCond .le 4, 3) := by decide +kernel
theorem dX12_wrong_7 : decode cX12_wrong 7 = .ok (.return_, 1) := by decide +kernel
theorem dX12_wrong_8 : decode cX12_wrong 8 = .ok (.aload_n 0, 1) := by decide +kernel
theorem dX12_wrong_9 : decode cX12_wrong 9 = .ok (.aload_n 0, 1) := by decide +kernel
theorem dX12_wrong_10 : decode cX12_wrong 10 = .ok (.getfield 223, 3) := by decide +kernel
theorem dX12_wrong_13 : decode cX12_wrong 13 = .ok (.iconst 3, 1) := by decide +kernel
theorem dX12_wrong_14 : decode cX12_wrong 14 = .ok (.if_icmp .ne 7, 3) := by decide +kernel
theorem dX12_wrong_17 : decode cX12_wrong 17 = .ok (.iconst 1, 1) := by decide +kernel
theorem dX12_wrong_18 : decode cX12_wrong 18 = .ok (.goto 4, 3) := by decide +kernel
theorem dX12_wrong_21 : decode cX12_wrong 21 = .ok (.iload_n 1, 1) := by decide +kernel
theorem dX12_wrong_22 : decode cX12_wrong 22 = .ok (.putfield 236, 3) := by decide +kernel
theorem dX12_wrong_25 : decode cX12_wrong 25 = .ok (.aload_n 0, 1) := by decide +kernel
theorem dX12_wrong_26 : decode cX12_wrong 26 = .ok (.aload_n 0, 1) := by decide +kernel
theorem dX12_wrong_27 : decode cX12_wrong 27 = .ok (.getfield 213, 3) := by decide +kernel
theorem dX12_wrong_30 : decode cX12_wrong 30 = .ok (.putfield 13, 3) := by decide +kernel
theorem dX12_wrong_33 : decode cX12_wrong 33 = .ok (.return_, 1) := by decide +kernel
theorem dX12_isWord_0 : decode cX12_isWord 0 = .ok (.aload_n 0, 1) := by decide +kernel
theorem dX12_isWord_1 : decode cX12_isWord 1 = .ok (.getfield 223, 3) := by decide +kernel
theorem dX12_isWord_4 : decode cX12_isWord 4 = .ok (.iconst 1, 1) := by decide +kernel
theorem dX12_isWord_5 : decode cX12_isWord 5 = .ok (.if_icmp .ne 16, 3) := by decide +kernel
theorem dX12_isWord_8 : decode cX12_isWord 8 = .ok (.aload_n 0, 1) := by decide +kernel
theorem dX12_isWord_9 : decode cX12_isWord 9 = .ok (.getfield 216, 3) := by decide +kernel
theorem dX12_isWord_12 : decode cX12_isWord 12 = .ok (.lload_n 1, 1) := by decide +kernel
theorem dX12_isWord_13 : decode cX12_isWord 13 = .ok (.lcmp, 1) := by decide +kernel
theorem dX12_isWord_14 : decode cX12_isWord 14 = .ok (.ifCond .ne 7, 3) := by decide +kernel
theorem dX12_isWord_17 : decode cX12_isWord 17 = .ok (.iconst 1, 1) := by decide +kernel
theorem dX12_isWord_18 : decode cX12_isWord 18 = .ok (.goto 4, 3) := by decide +kernel
theorem dX12_isWord_21 : decode cX12_isWord 21 = .ok (.iconst 0, 1) := by decide +kernel
theorem dX12_isWord_22 : decode cX12_isWord 22 = .ok (.ireturn, 1) := by decide +kernel
theorem dX12_isName_0 : decode cX12_isName 0 = .ok (.aload_n 0, 1) := by decide +kernel
theorem dX12_isName_1 : decode cX12_isName 1 = .ok (.getfield 223, 3) := by decide +kernel
theorem dX12_isName_4 : decode cX12_isName 4 = .ok (.iconst 1, 1) := by decide +kernel
theorem dX12_isName_5 : decode cX12_isName 5 = .ok (.if_icmp .eq 5, 3) := by decide +kernel
theorem dX12_isName_8 : decode cX12_isName 8 = .ok (.iconst 0, 1) := by decide +kernel
theorem dX12_isName_9 : decode cX12_isName 9 = .ok (.ireturn, 1) := by decide +kernel
theorem dX12_isName_10 : decode cX12_isName 10 = .ok (.aload_n 0, 1) := by decide +kernel
theorem dX12_isName_11 : decode cX12_isName 11 = .ok (.getfield 216, 3) := by decide +kernel
theorem dX12_isName_14 : decode cX12_isName 14 = .ok (.ldc2_w 239, 3) := by decide +kernel
theorem dX12_isName_17 : decode cX12_isName 17 = .ok (.lcmp, 1) := by decide +kernel
theorem dX12_isName_18 : decode cX12_isName 18 = .ok (.ifCond .eq 146, 3) := by decide +kernel
theorem dX12_isName_21 : decode cX12_isName 21 = .ok (.aload_n 0, 1) := by decide +kernel
theorem dX12_isName_22 : decode cX12_isName 22 = .ok (.getfield 216, 3) := by decide +kernel
theorem dX12_isName_25 : decode cX12_isName 25 = .ok (.ldc2_w 241, 3) := by decide +kernel
theorem dX12_isName_28 : decode cX12_isName 28 = .ok (.lcmp, 1) := by decide +kernel
theorem dX12_isName_29 : decode cX12_isName 29 = .ok (.ifCond .eq 135, 3) := by decide +kernel
theorem dX12_isName_32 : decode cX12_isName 32 = .ok (.aload_n 0, 1) := by decide +kernel
theorem dX12_isName_33 : decode cX12_isName 33 = .ok (.getfield 216, 3) := by decide +kernel
theorem dX12_isName_36 : decode cX12_isName 36 = .ok (.ldc2_w 243, 3) := by decide +kernel
theorem dX12_isName_39 : decode cX12_isName 39 = .ok (.lcmp, 1) := by decide +kernel
theorem dX12_isName_40 : decode cX12_isName 40 = .ok (.ifCond .eq 124, 3) := by decide +kernel
theorem dX12_isName_43 : decode cX12_isName 43 = .ok (.aload_n 0, 1) := by decide +kernel
theorem dX12_isName_44 : decode cX12_isName 44 = .ok (.getfield 216, 3) := by decide +kernel
theorem dX12_isName_47 : decode cX12_isName 47 = .ok (.ldc2_w 245, 3) := by decide +kernel
theorem dX12_isName_50 : decode cX12_isName 50 = .ok (.lcmp, 1) := by decide +kernel
theorem dX12_isName_51 : decode cX12_isName 51 = .ok (.ifCond .eq 113, 3) := by decide +kernel
theorem dX12_isName_54 : decode cX12_isName 54 = .ok (.aload_n 0, 1) := by decide +kernel
theorem dX12_isName_55 : decode cX12_isName 55 = .ok (.getfield 216, 3) := by decide +kernel
theorem dX12_isName_58 : decode cX12_isName 58 = .ok (.ldc2_w 247, 3) := by decide +kernel
theorem dX12_isName_61 : decode cX12_isName 61 = .ok (.lcmp, 1) := by decide +kernel
theorem dX12_isName_62 : decode cX12_isName 62 = .ok (.ifCond .eq 102, 3) := by decide +kernel
theorem dX12_isName_65 : decode cX12_isName 65 = .ok (.aload_n 0, 1) := by decide +kernel
theorem dX12_isName_66 : decode cX12_isName 66 = .ok (.getfield 216, 3) := by decide +kernel
theorem dX12_isName_69 : decode cX12_isName 69 = .ok (.ldc2_w 249, 3) := by decide +kernel
theorem dX12_isName_72 : decode cX12_isName 72 = .ok (.lcmp, 1) := by decide +kernel
theorem dX12_isName_73 : decode cX12_isName 73 = .ok (.ifCond .eq 91, 3) := by decide +kernel
theorem dX12_isName_76 : decode cX12_isName 76 = .ok (.aload_n 0, 1) := by decide +kernel
theorem dX12_isName_77 : decode cX12_isName 77 = .ok (.getfield 216, 3) := by decide +kernel
theorem dX12_isName_80 : decode cX12_isName 80 = .ok (.ldc2_w 251, 3) := by decide +kernel
theorem dX12_isName_83 : decode cX12_isName 83 = .ok (.lcmp, 1) := by decide +kernel
theorem dX12_isName_84 : decode cX12_isName 84 = .ok (.ifCond .eq 80, 3) := by decide +kernel
theorem dX12_isName_87 : decode cX12_isName 87 = .ok (.aload_n 0, 1) := by decide +kernel
theorem dX12_isName_88 : decode cX12_isName 88 = .ok (.getfield 216, 3) := by decide +kernel
theorem dX12_isName_91 : decode cX12_isName 91 = .ok (.ldc2_w 253, 3) := by decide +kernel
theorem dX12_isName_94 : decode cX12_isName 94 = .ok (.lcmp, 1) := by decide +kernel
theorem dX12_isName_95 : decode cX12_isName 95 = .ok (.ifCond .eq 69, 3) := by decide +kernel
theorem dX12_isName_98 : decode cX12_isName 98 = .ok (.aload_n 0, 1) := by decide +kernel
theorem dX12_isName_99 : decode cX12_isName 99 = .ok (.getfield 216, 3) := by decide +kernel
theorem dX12_isName_102 : decode cX12_isName 102 = .ok (.ldc2_w 255, 3) := by decide +kernel
theorem dX12_isName_105 : decode cX12_isName 105 = .ok (.lcmp, 1) := by decide +kernel
theorem dX12_isName_106 : decode cX12_isName 106 = .ok (.ifCond .eq 58, 3) := by decide +kernel
theorem dX12_isName_109 : decode cX12_isName 109 = .ok (.aload_n 0, 1) := by decide +kernel
theorem dX12_isName_110 : decode cX12_isName 110 = .ok (.getfield 216, 3) := by decide +kernel
theorem dX12_isName_113 : decode cX12_isName 113 = .ok (.ldc2_w 257, 3) := by decide +kernel
theorem dX12_isName_116 : decode cX12_isName 116 = .ok (.lcmp, 1) := by decide +kernel
theorem dX12_isName_117 : decode cX12_isName 117 = .ok (.ifCond .eq 47, 3) := by decide +kernel
theorem dX12_isName_120 : decode cX12_isName 120 = .ok (.aload_n 0, 1) := by decide +kernel
theorem dX12_isName_121 : decode cX12_isName 121 = .ok (.getfield 216, 3) := by decide +kernel
theorem dX12_isName_124 : decode cX12_isName 124 = .ok (.ldc2_w 259, 3) := by decide +kernel
theorem dX12_isName_127 : decode cX12_isName 127 = .ok (.lcmp, 1) := by decide +kernel
theorem dX12_isName_128 : decode cX12_isName 128 = .ok (.ifCond .eq 36, 3) := by decide +kernel
theorem dX12_isName_131 : decode cX12_isName 131 = .ok (.aload_n 0, 1) := by decide +kernel
theorem dX12_isName_132 : decode cX12_isName 132 = .ok (.getfield 216, 3) := by decide +kernel
theorem dX12_isName_135 : decode cX12_isName 135 = .ok (.ldc2_w 261, 3) := by decide +kernel
theorem dX12_isName_138 : decode cX12_isName 138 = .ok (.lcmp, 1) := by decide +kernel
theorem dX12_isName_139 : decode cX12_isName 139 = .ok (.ifCond .eq 25, 3) := by decide +kernel
theorem dX12_isName_142 : decode cX12_isName 142 = .ok (.aload_n 0, 1) := by decide +kernel
theorem dX12_isName_143 : decode cX12_isName 143 = .ok (.getfield 216, 3) := by decide +kernel
theorem dX12_isName_146 : decode cX12_isName 146 = .ok (.ldc2_w 263, 3) := by decide +kernel
theorem dX12_isName_149 : decode cX12_isName 149 = .ok (.lcmp, 1) := by decide +kernel
theorem dX12_isName_150 : decode cX12_isName 150 = .ok (.ifCond .eq 14, 3) := by decide +kernel
theorem dX12_isName_153 : decode cX12_isName 153 = .ok (.aload_n 0, 1) := by decide +kernel
theorem dX12_isName_154 : decode cX12_isName 154 = .ok (.getfield 216, 3) := by decide +kernel
theorem dX12_isName_157 : decode cX12_isName 157 = .ok (.ldc2_w 265, 3) := by decide +kernel
theorem dX12_isName_160 : decode cX12_isName 160 = .ok (.lcmp, 1) := by decide +kernel
theorem dX12_isName_161 : decode cX12_isName 161 = .ok (.ifCond .ne 7, 3) := by decide +kernel
theorem dX12_isName_164 : decode cX12_isName 164 = .ok (.iconst 1, 1) := by decide +kernel
theorem dX12_isName_165 : decode cX12_isName 165 = .ok (.goto 4, 3) := by decide +kernel
theorem dX12_isName_168 : decode cX12_isName 168 = .ok (.iconst 0, 1) := by decide +kernel
theorem dX12_isName_169 : decode cX12_isName 169 = .ok (.istore_n 1, 1) := by decide +kernel
theorem dX12_isName_170 : decode cX12_isName 170 = .ok (.aload_n 0, 1) := by decide +kernel
theorem dX12_isName_171 : decode cX12_isName 171 = .ok (.getfield 216, 3) := by decide +kernel
theorem dX12_isName_174 : decode cX12_isName 174 = .ok (.ldc2_w 267, 3) := by decide +kernel
theorem dX12_isName_177 : decode cX12_isName 177 = .ok (.lcmp, 1) := by decide +kernel
theorem dX12_isName_178 : decode cX12_isName 178 = .ok (.ifCond .eq 146, 3) := by decide +kernel
theorem dX12_isName_181 : decode cX12_isName 181 = .ok (.aload_n 0, 1) := by decide +kernel
theorem dX12_isName_182 : decode cX12_isName 182 = .ok (.getfield 216, 3) := by decide +kernel
theorem dX12_isName_185 : decode cX12_isName 185 = .ok (.ldc2_w 269, 3) := by decide +kernel
theorem dX12_isName_188 : decode cX12_isName 188 = .ok (.lcmp, 1) := by decide +kernel
theorem dX12_isName_189 : decode cX12_isName 189 = .ok (.ifCond .eq 135, 3) := by decide +kernel
theorem dX12_isName_192 : decode cX12_isName 192 = .ok (.aload_n 0, 1) := by decide +kernel
theorem dX12_isName_193 : decode cX12_isName 193 = .ok (.getfield 216, 3) := by decide +kernel
theorem dX12_isName_196 : decode cX12_isName 196 = .ok (.ldc2_w 271, 3) := by decide +kernel
theorem dX12_isName_199 : decode cX12_isName 199 = .ok (.lcmp, 1) := by decide +kernel
theorem dX12_isName_200 : decode cX12_isName 200 = .ok (.ifCond .eq 124, 3) := by decide +kernel
theorem dX12_isName_203 : decode cX12_isName 203 = .ok (.aload_n 0, 1) := by decide +kernel
theorem dX12_isName_204 : decode cX12_isName 204 = .ok (.getfield 216, 3) := by decide +kernel
theorem dX12_isName_207 : decode cX12_isName 207 = .ok (.ldc2_w 273, 3) := by decide +kernel
theorem dX12_isName_210 : decode cX12_isName 210 = .ok (.lcmp, 1) := by decide +kernel
theorem dX12_isName_211 : decode cX12_isName 211 = .ok (.ifCond .eq 113, 3) := by decide +kernel
theorem dX12_isName_214 : decode cX12_isName 214 = .ok (.aload_n 0, 1) := by decide +kernel
theorem dX12_isName_215 : decode cX12_isName 215 = .ok (.getfield 216, 3) := by decide +kernel
theorem dX12_isName_218 : decode cX12_isName 218 = .ok (.ldc2_w 275, 3) := by decide +kernel
theorem dX12_isName_221 : decode cX12_isName 221 = .ok (.lcmp, 1) := by decide +kernel
theorem dX12_isName_222 : decode cX12_isName 222 = .ok (.ifCond .eq 102, 3) := by decide +kernel
theorem dX12_isName_225 : decode cX12_isName 225 = .ok (.aload_n 0, 1) := by decide +kernel
theorem dX12_isName_226 : decode cX12_isName 226 = .ok (.getfield 216, 3) := by decide +kernel
theorem dX12_isName_229 : decode cX12_isName 229 = .ok (.ldc2_w 277, 3) := by decide +kernel
theorem dX12_isName_232 : decode cX12_isName 232 = .ok (.lcmp, 1) := by decide +kernel
theorem dX12_isName_233 : decode cX12_isName 233 = .ok (.ifCond .eq 91, 3) := by decide +kernel
theorem dX12_isName_236 : decode cX12_isName 236 = .ok (.aload_n 0, 1) := by decide +kernel
theorem dX12_isName_237 : decode cX12_isName 237 = .ok (.getfield 216, 3) := by decide +kernel
theorem dX12_isName_240 : decode cX12_isName 240 = .ok (.ldc2_w 279, 3) := by decide +kernel
theorem dX12_isName_243 : decode cX12_isName 243 = .ok (.lcmp, 1) := by decide +kernel
theorem dX12_isName_244 : decode cX12_isName 244 = .ok (.ifCond .eq 80, 3) := by decide +kernel
theorem dX12_isName_247 : decode cX12_isName 247 = .ok (.aload_n 0, 1) := by decide +kernel
theorem dX12_isName_248 : decode cX12_isName 248 = .ok (.getfield 216, 3) := by decide +kernel
theorem dX12_isName_251 : decode cX12_isName 251 = .ok (.ldc2_w 281, 3) := by decide +kernel
theorem dX12_isName_254 : decode cX12_isName 254 = .ok (.lcmp, 1) := by decide +kernel
theorem dX12_isName_255 : decode cX12_isName 255 = .ok (.ifCond .eq 69, 3) := by decide +kernel
theorem dX12_isName_258 : decode cX12_isName 258 = .ok (.aload_n 0, 1) := by decide +kernel
theorem dX12_isName_259 : decode cX12_isName 259 = .ok (.getfield 216, 3) := by decide +kernel
theorem dX12_isName_262 : decode cX12_isName 262 = .ok (.ldc2_w 283, 3) := by decide +kernel
theorem dX12_isName_265 : decode cX12_isName 265 = .ok (.lcmp, 1) := by decide +kernel
theorem dX12_isName_266 : decode cX12_isName 266 = .ok (.ifCond .eq 58, 3) := by decide +kernel
theorem dX12_isName_269 : decode cX12_isName 269 = .ok (.aload_n 0, 1) := by decide +kernel
theorem dX12_isName_270 : decode cX12_isName 270 = .ok (.getfield 216, 3) := by decide +kernel
theorem dX12_isName_273 : decode cX12_isName 273 = .ok (.ldc2_w 285, 3) := by decide +kernel
theorem dX12_isName_276 : decode cX12_isName 276 = .ok (.lcmp, 1) := by decide +kernel
theorem dX12_isName_277 : decode cX12_isName 277 = .ok (.ifCond .eq 47, 3) := by decide +kernel
theorem dX12_isName_280 : decode cX12_isName 280 = .ok (.aload_n 0, 1) := by decide +kernel
theorem dX12_isName_281 : decode cX12_isName 281 = .ok (.getfield 216, 3) := by decide +kernel
theorem dX12_isName_284 : decode cX12_isName 284 = .ok (.ldc2_w 287, 3) := by decide +kernel
theorem dX12_isName_287 : decode cX12_isName 287 = .ok (.lcmp, 1) := by decide +kernel
theorem dX12_isName_288 : decode cX12_isName 288 = .ok (.ifCond .eq 36, 3) := by decide +kernel
theorem dX12_isName_291 : decode cX12_isName 291 = .ok (.aload_n 0, 1) := by decide +kernel
theorem dX12_isName_292 : decode cX12_isName 292 = .ok (.getfield 216, 3) := by decide +kernel
theorem dX12_isName_295 : decode cX12_isName 295 = .ok (.ldc2_w 289, 3) := by decide +kernel
theorem dX12_isName_298 : decode cX12_isName 298 = .ok (.lcmp, 1) := by decide +kernel
theorem dX12_isName_299 : decode cX12_isName 299 = .ok (.ifCond .eq 25, 3) := by decide +kernel
theorem dX12_isName_302 : decode cX12_isName 302 = .ok (.aload_n 0, 1) := by decide +kernel
theorem dX12_isName_303 : decode cX12_isName 303 = .ok (.getfield 216, 3) := by decide +kernel
theorem dX12_isName_306 : decode cX12_isName 306 = .ok (.ldc2_w 291, 3) := by decide +kernel
theorem dX12_isName_309 : decode cX12_isName 309 = .ok (.lcmp, 1) := by decide +kernel
theorem dX12_isName_310 : decode cX12_isName 310 = .ok (.ifCond .eq 14, 3) := by decide +kernel
theorem dX12_isName_313 : decode cX12_isName 313 = .ok (.aload_n 0, 1) := by decide +kernel
theorem dX12_isName_314 : decode cX12_isName 314 = .ok (.getfield 216, 3) := by decide +kernel
theorem dX12_isName_317 : decode cX12_isName 317 = .ok (.ldc2_w 293, 3) := by decide +kernel
theorem dX12_isName_320 : decode cX12_isName 320 = .ok (.lcmp, 1) := by decide +kernel
theorem dX12_isName_321 : decode cX12_isName 321 = .ok (.ifCond .ne 7, 3) := by decide +kernel
theorem dX12_isName_324 : decode cX12_isName 324 = .ok (.iconst 1, 1) := by decide +kernel
theorem dX12_isName_325 : decode cX12_isName 325 = .ok (.goto 4, 3) := by decide +kernel
theorem dX12_isName_328 : decode cX12_isName 328 = .ok (.iconst 0, 1) := by decide +kernel
theorem dX12_isName_329 : decode cX12_isName 329 = .ok (.istore_n 2, 1) := by decide +kernel
theorem dX12_isName_330 : decode cX12_isName 330 = .ok (.iload_n 1, 1) := by decide +kernel
theorem dX12_isName_331 : decode cX12_isName 331 = .ok (.ifCond .ne 11, 3) := by decide +kernel
theorem dX12_isName_334 : decode cX12_isName 334 = .ok (.iload_n 2, 1) := by decide +kernel
theorem dX12_isName_335 : decode cX12_isName 335 = .ok (.ifCond .ne 7, 3) := by decide +kernel
theorem dX12_isName_338 : decode cX12_isName 338 = .ok (.iconst 1, 1) := by decide +kernel
theorem dX12_isName_339 : decode cX12_isName 339 = .ok (.goto 4, 3) := by decide +kernel
theorem dX12_isName_342 : decode cX12_isName 342 = .ok (.iconst 0, 1) := by decide +kernel
theorem dX12_isName_343 : decode cX12_isName 343 = .ok (.ireturn, 1) := by decide +kernel
theorem dX12_want_0 : decode cX12_want 0 = .ok (.aload_n 0, 1) := by decide +kernel
theorem dX12_want_1 : decode cX12_want 1 = .ok (.getfield 236, 3) := by decide +kernel
theorem dX12_want_4 : decode cX12_want 4 = .ok (.ifCond .le 4, 3) := by decide +kernel
theorem dX12_want_7 : decode cX12_want 7 = .ok (.return_, 1) := by decide +kernel
theorem dX12_want_8 : decode cX12_want 8 = .ok (.aload_n 0, 1) := by decide +kernel
theorem dX12_want_9 : decode cX12_want 9 = .ok (.lload_n 1, 1) := by decide +kernel
theorem dX12_want_10 : decode cX12_want 10 = .ok (.invokevirtual 295, 3) := by decide +kernel
theorem dX12_want_13 : decode cX12_want 13 = .ok (.ifCond .ne 11, 3) := by decide +kernel
theorem dX12_want_16 : decode cX12_want 16 = .ok (.aload_n 0, 1) := by decide +kernel
theorem dX12_want_17 : decode cX12_want 17 = .ok (.iconst 2, 1) := by decide +kernel
theorem dX12_want_18 : decode cX12_want 18 = .ok (.invokevirtual 299, 3) := by decide +kernel
theorem dX12_want_21 : decode cX12_want 21 = .ok (.goto 7, 3) := by decide +kernel
theorem dX12_want_24 : decode cX12_want 24 = .ok (.aload_n 0, 1) := by decide +kernel
theorem dX12_want_25 : decode cX12_want 25 = .ok (.invokevirtual 302, 3) := by decide +kernel
theorem dX12_want_28 : decode cX12_want 28 = .ok (.return_, 1) := by decide +kernel
theorem dX12_toldNumber_0 : decode cX12_toldNumber 0 = .ok (.aload_n 0, 1) := by decide +kernel
theorem dX12_toldNumber_1 : decode cX12_toldNumber 1 = .ok (.getfield 236, 3) := by decide +kernel
theorem dX12_toldNumber_4 : decode cX12_toldNumber 4 = .ok (.ifCond .le 5, 3) := by decide +kernel
theorem dX12_toldNumber_7 : decode cX12_toldNumber 7 = .ok (.iconst 0, 1) := by decide +kernel
theorem dX12_toldNumber_8 : decode cX12_toldNumber 8 = .ok (.ireturn, 1) := by decide +kernel
theorem dX12_toldNumber_9 : decode cX12_toldNumber 9 = .ok (.aload_n 0, 1) := by decide +kernel
theorem dX12_toldNumber_10 : decode cX12_toldNumber 10 = .ok (.getfield 223, 3) := by decide +kernel
theorem dX12_toldNumber_13 : decode cX12_toldNumber 13 = .ok (.iconst 2, 1) := by decide +kernel
theorem dX12_toldNumber_14 : decode cX12_toldNumber 14 = .ok (.if_icmp .eq 11, 3) := by decide +kernel
theorem dX12_toldNumber_17 : decode cX12_toldNumber 17 = .ok (.aload_n 0, 1) := by decide +kernel
theorem dX12_toldNumber_18 : decode cX12_toldNumber 18 = .ok (.iconst 2, 1) := by decide +kernel
theorem dX12_toldNumber_19 : decode cX12_toldNumber 19 = .ok (.invokevirtual 299, 3) := by decide +kernel
theorem dX12_toldNumber_22 : decode cX12_toldNumber 22 = .ok (.goto 24, 3) := by decide +kernel
theorem dX12_toldNumber_25 : decode cX12_toldNumber 25 = .ok (.aload_n 0, 1) := by decide +kernel
theorem dX12_toldNumber_26 : decode cX12_toldNumber 26 = .ok (.getfield 220, 3) := by decide +kernel
theorem dX12_toldNumber_29 : decode cX12_toldNumber 29 = .ok (.iload_n 1, 1) := by decide +kernel
theorem dX12_toldNumber_30 : decode cX12_toldNumber 30 = .ok (.if_icmp .lt 11, 3) := by decide +kernel
theorem dX12_toldNumber_33 : decode cX12_toldNumber 33 = .ok (.aload_n 0, 1) := by decide +kernel
theorem dX12_toldNumber_34 : decode cX12_toldNumber 34 = .ok (.getfield 220, 3) := by decide +kernel
theorem dX12_toldNumber_37 : decode cX12_toldNumber 37 = .ok (.iload_n 2, 1) := by decide +kernel
theorem dX12_toldNumber_38 : decode cX12_toldNumber 38 = .ok (.if_icmp .le 8, 3) := by decide +kernel
theorem dX12_toldNumber_41 : decode cX12_toldNumber 41 = .ok (.aload_n 0, 1) := by decide +kernel
theorem dX12_toldNumber_42 : decode cX12_toldNumber 42 = .ok (.iconst 4, 1) := by decide +kernel
theorem dX12_toldNumber_43 : decode cX12_toldNumber 43 = .ok (.invokevirtual 299, 3) := by decide +kernel
theorem dX12_toldNumber_46 : decode cX12_toldNumber 46 = .ok (.aload_n 0, 1) := by decide +kernel
theorem dX12_toldNumber_47 : decode cX12_toldNumber 47 = .ok (.getfield 220, 3) := by decide +kernel
theorem dX12_toldNumber_50 : decode cX12_toldNumber 50 = .ok (.istore_n 3, 1) := by decide +kernel
theorem dX12_toldNumber_51 : decode cX12_toldNumber 51 = .ok (.aload_n 0, 1) := by decide +kernel
theorem dX12_toldNumber_52 : decode cX12_toldNumber 52 = .ok (.getfield 236, 3) := by decide +kernel
theorem dX12_toldNumber_55 : decode cX12_toldNumber 55 = .ok (.ifCond .ne 7, 3) := by decide +kernel
theorem dX12_toldNumber_58 : decode cX12_toldNumber 58 = .ok (.aload_n 0, 1) := by decide +kernel
theorem dX12_toldNumber_59 : decode cX12_toldNumber 59 = .ok (.invokevirtual 302, 3) := by decide +kernel
theorem dX12_toldNumber_62 : decode cX12_toldNumber 62 = .ok (.iload_n 3, 1) := by decide +kernel
theorem dX12_toldNumber_63 : decode cX12_toldNumber 63 = .ok (.ireturn, 1) := by decide +kernel
theorem dX12_told_0 : decode cX12_told 0 = .ok (.aload_n 0, 1) := by decide +kernel
theorem dX12_told_1 : decode cX12_told 1 = .ok (.lload_n 1, 1) := by decide +kernel
theorem dX12_told_2 : decode cX12_told 2 = .ok (.invokevirtual 305, 3) := by decide +kernel
theorem dX12_told_5 : decode cX12_told 5 = .ok (.aload_n 0, 1) := by decide +kernel
theorem dX12_told_6 : decode cX12_told 6 = .ok (.iload_n 3, 1) := by decide +kernel
theorem dX12_told_7 : decode cX12_told 7 = .ok (.iload 4, 2) := by decide +kernel
theorem dX12_told_9 : decode cX12_told 9 = .ok (.invokevirtual 309, 3) := by decide +kernel
theorem dX12_told_12 : decode cX12_told 12 = .ok (.ireturn, 1) := by decide +kernel
theorem dX12_note_0 : decode cX12_note 0 = .ok (.aload_n 0, 1) := by decide +kernel
theorem dX12_note_1 : decode cX12_note 1 = .ok (.getfield 17, 3) := by decide +kernel
theorem dX12_note_4 : decode cX12_note 4 = .ok (.aload_n 0, 1) := by decide +kernel
theorem dX12_note_5 : decode cX12_note 5 = .ok (.getfield 313, 3) := by decide +kernel
theorem dX12_note_8 : decode cX12_note 8 = .ok (.iload_n 1, 1) := by decide +kernel
theorem dX12_note_9 : decode cX12_note 9 = .ok (.iastore, 1) := by decide +kernel
theorem dX12_note_10 : decode cX12_note 10 = .ok (.aload_n 0, 1) := by decide +kernel
theorem dX12_note_11 : decode cX12_note 11 = .ok (.getfield 20, 3) := by decide +kernel
theorem dX12_note_14 : decode cX12_note 14 = .ok (.aload_n 0, 1) := by decide +kernel
theorem dX12_note_15 : decode cX12_note 15 = .ok (.getfield 313, 3) := by decide +kernel
theorem dX12_note_18 : decode cX12_note 18 = .ok (.iload_n 2, 1) := by decide +kernel
theorem dX12_note_19 : decode cX12_note 19 = .ok (.iastore, 1) := by decide +kernel
theorem dX12_note_20 : decode cX12_note 20 = .ok (.aload_n 0, 1) := by decide +kernel
theorem dX12_note_21 : decode cX12_note 21 = .ok (.dup, 1) := by decide +kernel
theorem dX12_note_22 : decode cX12_note 22 = .ok (.getfield 313, 3) := by decide +kernel
theorem dX12_note_25 : decode cX12_note 25 = .ok (.iconst 1, 1) := by decide +kernel
theorem dX12_note_26 : decode cX12_note 26 = .ok (.iadd, 1) := by decide +kernel
theorem dX12_note_27 : decode cX12_note 27 = .ok (.putfield 313, 3) := by decide +kernel
theorem dX12_note_30 : decode cX12_note 30 = .ok (.return_, 1) := by decide +kernel
theorem dX12_upper_0 : decode cX12_upper 0 = .ok (.aload_n 0, 1) := by decide +kernel
theorem dX12_upper_1 : decode cX12_upper 1 = .ok (.getfield 316, 3) := by decide +kernel
theorem dX12_upper_4 : decode cX12_upper 4 = .ok (.ifCond .ne 8, 3) := by decide +kernel
theorem dX12_upper_7 : decode cX12_upper 7 = .ok (.bipush 40, 2) := by decide +kernel
theorem dX12_upper_9 : decode cX12_upper 9 = .ok (.goto 14, 3) := by decide +kernel
theorem dX12_upper_12 : decode cX12_upper 12 = .ok (.aload_n 0, 1) := by decide +kernel
theorem dX12_upper_13 : decode cX12_upper 13 = .ok (.getfield 35, 3) := by decide +kernel
theorem dX12_upper_16 : decode cX12_upper 16 = .ok (.aload_n 0, 1) := by decide +kernel
theorem dX12_upper_17 : decode cX12_upper 17 = .ok (.getfield 316, 3) := by decide +kernel
theorem dX12_upper_20 : decode cX12_upper 20 = .ok (.iconst 1, 1) := by decide +kernel
theorem dX12_upper_21 : decode cX12_upper 21 = .ok (.isub, 1) := by decide +kernel
theorem dX12_upper_22 : decode cX12_upper 22 = .ok (.iaload, 1) := by decide +kernel
theorem dX12_upper_23 : decode cX12_upper 23 = .ok (.ireturn, 1) := by decide +kernel
theorem dX12_hold_0 : decode cX12_hold 0 = .ok (.aload_n 0, 1) := by decide +kernel
theorem dX12_hold_1 : decode cX12_hold 1 = .ok (.getfield 35, 3) := by decide +kernel
theorem dX12_hold_4 : decode cX12_hold 4 = .ok (.aload_n 0, 1) := by decide +kernel
theorem dX12_hold_5 : decode cX12_hold 5 = .ok (.getfield 316, 3) := by decide +kernel
theorem dX12_hold_8 : decode cX12_hold 8 = .ok (.iload_n 1, 1) := by decide +kernel
theorem dX12_hold_9 : decode cX12_hold 9 = .ok (.iastore, 1) := by decide +kernel
theorem dX12_hold_10 : decode cX12_hold 10 = .ok (.aload_n 0, 1) := by decide +kernel
theorem dX12_hold_11 : decode cX12_hold 11 = .ok (.dup, 1) := by decide +kernel
theorem dX12_hold_12 : decode cX12_hold 12 = .ok (.getfield 316, 3) := by decide +kernel
theorem dX12_hold_15 : decode cX12_hold 15 = .ok (.iconst 1, 1) := by decide +kernel
theorem dX12_hold_16 : decode cX12_hold 16 = .ok (.iadd, 1) := by decide +kernel
theorem dX12_hold_17 : decode cX12_hold 17 = .ok (.putfield 316, 3) := by decide +kernel
theorem dX12_hold_20 : decode cX12_hold 20 = .ok (.iload_n 1, 1) := by decide +kernel
theorem dX12_hold_21 : decode cX12_hold 21 = .ok (.bipush 40, 2) := by decide +kernel
theorem dX12_hold_23 : decode cX12_hold 23 = .ok (.if_icmp .eq 9, 3) := by decide +kernel
theorem dX12_hold_26 : decode cX12_hold 26 = .ok (.iload_n 1, 1) := by decide +kernel
theorem dX12_hold_27 : decode cX12_hold 27 = .ok (.bipush 22, 2) := by decide +kernel
theorem dX12_hold_29 : decode cX12_hold 29 = .ok (.if_icmp .ne 13, 3) := by decide +kernel
theorem dX12_hold_32 : decode cX12_hold 32 = .ok (.aload_n 0, 1) := by decide +kernel
theorem dX12_hold_33 : decode cX12_hold 33 = .ok (.dup, 1) := by decide +kernel
theorem dX12_hold_34 : decode cX12_hold 34 = .ok (.getfield 319, 3) := by decide +kernel
theorem dX12_hold_37 : decode cX12_hold 37 = .ok (.iconst 1, 1) := by decide +kernel
theorem dX12_hold_38 : decode cX12_hold 38 = .ok (.iadd, 1) := by decide +kernel
theorem dX12_hold_39 : decode cX12_hold 39 = .ok (.putfield 319, 3) := by decide +kernel
theorem dX12_hold_42 : decode cX12_hold 42 = .ok (.return_, 1) := by decide +kernel
theorem dX12_pop_0 : decode cX12_pop 0 = .ok (.aload_n 0, 1) := by decide +kernel
theorem dX12_pop_1 : decode cX12_pop 1 = .ok (.dup, 1) := by decide +kernel
theorem dX12_pop_2 : decode cX12_pop 2 = .ok (.getfield 316, 3) := by decide +kernel
theorem dX12_pop_5 : decode cX12_pop 5 = .ok (.iconst 1, 1) := by decide +kernel
theorem dX12_pop_6 : decode cX12_pop 6 = .ok (.isub, 1) := by decide +kernel
theorem dX12_pop_7 : decode cX12_pop 7 = .ok (.putfield 316, 3) := by decide +kernel
theorem dX12_pop_10 : decode cX12_pop 10 = .ok (.aload_n 0, 1) := by decide +kernel
theorem dX12_pop_11 : decode cX12_pop 11 = .ok (.getfield 35, 3) := by decide +kernel
theorem dX12_pop_14 : decode cX12_pop 14 = .ok (.aload_n 0, 1) := by decide +kernel
theorem dX12_pop_15 : decode cX12_pop 15 = .ok (.getfield 316, 3) := by decide +kernel
theorem dX12_pop_18 : decode cX12_pop 18 = .ok (.iaload, 1) := by decide +kernel
theorem dX12_pop_19 : decode cX12_pop 19 = .ok (.bipush 22, 2) := by decide +kernel
theorem dX12_pop_21 : decode cX12_pop 21 = .ok (.if_icmp .ne 13, 3) := by decide +kernel
theorem dX12_pop_24 : decode cX12_pop 24 = .ok (.aload_n 0, 1) := by decide +kernel
theorem dX12_pop_25 : decode cX12_pop 25 = .ok (.dup, 1) := by decide +kernel
theorem dX12_pop_26 : decode cX12_pop 26 = .ok (.getfield 319, 3) := by decide +kernel
theorem dX12_pop_29 : decode cX12_pop 29 = .ok (.iconst 1, 1) := by decide +kernel
theorem dX12_pop_30 : decode cX12_pop 30 = .ok (.isub, 1) := by decide +kernel
theorem dX12_pop_31 : decode cX12_pop 31 = .ok (.putfield 319, 3) := by decide +kernel
theorem dX12_pop_34 : decode cX12_pop 34 = .ok (.aload_n 0, 1) := by decide +kernel
theorem dX12_pop_35 : decode cX12_pop 35 = .ok (.aload_n 0, 1) := by decide +kernel
theorem dX12_pop_36 : decode cX12_pop 36 = .ok (.getfield 35, 3) := by decide +kernel
theorem dX12_pop_39 : decode cX12_pop 39 = .ok (.aload_n 0, 1) := by decide +kernel
theorem dX12_pop_40 : decode cX12_pop 40 = .ok (.getfield 316, 3) := by decide +kernel
theorem dX12_pop_43 : decode cX12_pop 43 = .ok (.iaload, 1) := by decide +kernel
theorem dX12_pop_44 : decode cX12_pop 44 = .ok (.iconst 0, 1) := by decide +kernel
theorem dX12_pop_45 : decode cX12_pop 45 = .ok (.invokevirtual 322, 3) := by decide +kernel
theorem dX12_pop_48 : decode cX12_pop 48 = .ok (.return_, 1) := by decide +kernel
theorem dX12_rank_0 : decode cX12_rank 0 = .ok (.iload_n 0, 1) := by decide +kernel
theorem dX12_rank_1 : decode cX12_rank 1 = .ok (.bipush 27, 2) := by decide +kernel
theorem dX12_rank_3 : decode cX12_rank 3 = .ok (.if_icmp .ne 8, 3) := by decide +kernel
theorem dX12_rank_6 : decode cX12_rank 6 = .ok (.bipush 26, 2) := by decide +kernel
theorem dX12_rank_8 : decode cX12_rank 8 = .ok (.goto 21, 3) := by decide +kernel
theorem dX12_rank_11 : decode cX12_rank 11 = .ok (.iload_n 0, 1) := by decide +kernel
theorem dX12_rank_12 : decode cX12_rank 12 = .ok (.bipush 24, 2) := by decide +kernel
theorem dX12_rank_14 : decode cX12_rank 14 = .ok (.if_icmp .eq 9, 3) := by decide +kernel
theorem dX12_rank_17 : decode cX12_rank 17 = .ok (.iload_n 0, 1) := by decide +kernel
theorem dX12_rank_18 : decode cX12_rank 18 = .ok (.bipush 25, 2) := by decide +kernel
theorem dX12_rank_20 : decode cX12_rank 20 = .ok (.if_icmp .ne 8, 3) := by decide +kernel
theorem dX12_rank_23 : decode cX12_rank 23 = .ok (.bipush 23, 2) := by decide +kernel
theorem dX12_rank_25 : decode cX12_rank 25 = .ok (.goto 4, 3) := by decide +kernel
theorem dX12_rank_28 : decode cX12_rank 28 = .ok (.iload_n 0, 1) := by decide +kernel
theorem dX12_rank_29 : decode cX12_rank 29 = .ok (.ireturn, 1) := by decide +kernel
theorem dX12_settle_0 : decode cX12_settle 0 = .ok (.aload_n 0, 1) := by decide +kernel
theorem dX12_settle_1 : decode cX12_settle 1 = .ok (.invokevirtual 326, 3) := by decide +kernel
theorem dX12_settle_4 : decode cX12_settle 4 = .ok (.bipush 40, 2) := by decide +kernel
theorem dX12_settle_6 : decode cX12_settle 6 = .ok (.if_icmp .eq 21, 3) := by decide +kernel
theorem dX12_settle_9 : decode cX12_settle 9 = .ok (.aload_n 0, 1) := by decide +kernel
theorem dX12_settle_10 : decode cX12_settle 10 = .ok (.invokevirtual 326, 3) := by decide +kernel
theorem dX12_settle_13 : decode cX12_settle 13 = .ok (.invokestatic 330, 3) := by decide +kernel
theorem dX12_settle_16 : decode cX12_settle 16 = .ok (.iload_n 1, 1) := by decide +kernel
theorem dX12_settle_17 : decode cX12_settle 17 = .ok (.if_icmp .lt 10, 3) := by decide +kernel
theorem dX12_settle_20 : decode cX12_settle 20 = .ok (.aload_n 0, 1) := by decide +kernel
theorem dX12_settle_21 : decode cX12_settle 21 = .ok (.invokevirtual 333, 3) := by decide +kernel
theorem dX12_settle_24 : decode cX12_settle 24 = .ok (.goto (-24), 3) := by decide +kernel
theorem dX12_settle_27 : decode cX12_settle 27 = .ok (.return_, 1) := by decide +kernel
theorem dX12_isOpen_0 : decode cX12_isOpen 0 = .ok (.iconst 0, 1) := by decide +kernel
theorem dX12_isOpen_1 : decode cX12_isOpen 1 = .ok (.istore_n 1, 1) := by decide +kernel
theorem dX12_isOpen_2 : decode cX12_isOpen 2 = .ok (.iconst 0, 1) := by decide +kernel
theorem dX12_isOpen_3 : decode cX12_isOpen 3 = .ok (.istore_n 2, 1) := by decide +kernel
theorem dX12_isOpen_4 : decode cX12_isOpen 4 = .ok (.iload_n 2, 1) := by decide +kernel
theorem dX12_isOpen_5 : decode cX12_isOpen 5 = .ok (.aload_n 0, 1) := by decide +kernel
theorem dX12_isOpen_6 : decode cX12_isOpen 6 = .ok (.getfield 316, 3) := by decide +kernel
theorem dX12_isOpen_9 : decode cX12_isOpen 9 = .ok (.if_icmp .ge 30, 3) := by decide +kernel
theorem dX12_isOpen_12 : decode cX12_isOpen 12 = .ok (.iload_n 1, 1) := by decide +kernel
theorem dX12_isOpen_13 : decode cX12_isOpen 13 = .ok (.ifCond .ne 14, 3) := by decide +kernel
theorem dX12_isOpen_16 : decode cX12_isOpen 16 = .ok (.aload_n 0, 1) := by decide +kernel
theorem dX12_isOpen_17 : decode cX12_isOpen 17 = .ok (.getfield 35, 3) := by decide +kernel
theorem dX12_isOpen_20 : decode cX12_isOpen 20 = .ok (.iload_n 2, 1) := by decide +kernel
theorem dX12_isOpen_21 : decode cX12_isOpen 21 = .ok (.iaload, 1) := by decide +kernel
theorem dX12_isOpen_22 : decode cX12_isOpen 22 = .ok (.bipush 40, 2) := by decide +kernel
theorem dX12_isOpen_24 : decode cX12_isOpen 24 = .ok (.if_icmp .ne 7, 3) := by decide +kernel
theorem dX12_isOpen_27 : decode cX12_isOpen 27 = .ok (.iconst 1, 1) := by decide +kernel
theorem dX12_isOpen_28 : decode cX12_isOpen 28 = .ok (.goto 4, 3) := by decide +kernel
theorem dX12_isOpen_31 : decode cX12_isOpen 31 = .ok (.iconst 0, 1) := by decide +kernel
theorem dX12_isOpen_32 : decode cX12_isOpen 32 = .ok (.istore_n 1, 1) := by decide +kernel
theorem dX12_isOpen_33 : decode cX12_isOpen 33 = .ok (.iinc 2 1, 3) := by decide +kernel
theorem dX12_isOpen_36 : decode cX12_isOpen 36 = .ok (.goto (-32), 3) := by decide +kernel
theorem dX12_isOpen_39 : decode cX12_isOpen 39 = .ok (.iload_n 1, 1) := by decide +kernel
theorem dX12_isOpen_40 : decode cX12_isOpen 40 = .ok (.ireturn, 1) := by decide +kernel
theorem dX12_known_0 : decode cX12_known 0 = .ok (.aload_n 0, 1) := by decide +kernel
theorem dX12_known_1 : decode cX12_known 1 = .ok (.ldc2_w 251, 3) := by decide +kernel
theorem dX12_known_4 : decode cX12_known 4 = .ok (.invokevirtual 295, 3) := by decide +kernel
theorem dX12_known_7 : decode cX12_known 7 = .ok (.ifCond .ne 53, 3) := by decide +kernel
theorem dX12_known_10 : decode cX12_known 10 = .ok (.aload_n 0, 1) := by decide +kernel
theorem dX12_known_11 : decode cX12_known 11 = .ok (.ldc2_w 277, 3) := by decide +kernel
theorem dX12_known_14 : decode cX12_known 14 = .ok (.invokevirtual 295, 3) := by decide +kernel
theorem dX12_known_17 : decode cX12_known 17 = .ok (.ifCond .ne 43, 3) := by decide +kernel
theorem dX12_known_20 : decode cX12_known 20 = .ok (.aload_n 0, 1) := by decide +kernel
theorem dX12_known_21 : decode cX12_known 21 = .ok (.ldc2_w 255, 3) := by decide +kernel
theorem dX12_known_24 : decode cX12_known 24 = .ok (.invokevirtual 295, 3) := by decide +kernel
theorem dX12_known_27 : decode cX12_known 27 = .ok (.ifCond .ne 33, 3) := by decide +kernel
theorem dX12_known_30 : decode cX12_known 30 = .ok (.aload_n 0, 1) := by decide +kernel
theorem dX12_known_31 : decode cX12_known 31 = .ok (.ldc2_w 279, 3) := by decide +kernel
theorem dX12_known_34 : decode cX12_known 34 = .ok (.invokevirtual 295, 3) := by decide +kernel
theorem dX12_known_37 : decode cX12_known 37 = .ok (.ifCond .ne 23, 3) := by decide +kernel
theorem dX12_known_40 : decode cX12_known 40 = .ok (.aload_n 0, 1) := by decide +kernel
theorem dX12_known_41 : decode cX12_known 41 = .ok (.ldc2_w 281, 3) := by decide +kernel
theorem dX12_known_44 : decode cX12_known 44 = .ok (.invokevirtual 295, 3) := by decide +kernel
theorem dX12_known_47 : decode cX12_known 47 = .ok (.ifCond .ne 13, 3) := by decide +kernel
theorem dX12_known_50 : decode cX12_known 50 = .ok (.aload_n 0, 1) := by decide +kernel
theorem dX12_known_51 : decode cX12_known 51 = .ok (.ldc2_w 283, 3) := by decide +kernel
theorem dX12_known_54 : decode cX12_known 54 = .ok (.invokevirtual 295, 3) := by decide +kernel
theorem dX12_known_57 : decode cX12_known 57 = .ok (.ifCond .eq 7, 3) := by decide +kernel
theorem dX12_known_60 : decode cX12_known 60 = .ok (.iconst 1, 1) := by decide +kernel
theorem dX12_known_61 : decode cX12_known 61 = .ok (.goto 4, 3) := by decide +kernel
theorem dX12_known_64 : decode cX12_known 64 = .ok (.iconst 0, 1) := by decide +kernel
theorem dX12_known_65 : decode cX12_known 65 = .ok (.istore_n 1, 1) := by decide +kernel
theorem dX12_known_66 : decode cX12_known 66 = .ok (.iload_n 1, 1) := by decide +kernel
theorem dX12_known_67 : decode cX12_known 67 = .ok (.ifCond .eq 76, 3) := by decide +kernel
theorem dX12_known_70 : decode cX12_known 70 = .ok (.aload_n 0, 1) := by decide +kernel
theorem dX12_known_71 : decode cX12_known 71 = .ok (.ldc2_w 251, 3) := by decide +kernel
theorem dX12_known_74 : decode cX12_known 74 = .ok (.invokevirtual 295, 3) := by decide +kernel
theorem dX12_known_77 : decode cX12_known 77 = .ok (.ifCond .eq 7, 3) := by decide +kernel
theorem dX12_known_80 : decode cX12_known 80 = .ok (.iconst 1, 1) := by decide +kernel
theorem dX12_known_81 : decode cX12_known 81 = .ok (.goto 61, 3) := by decide +kernel
theorem dX12_known_84 : decode cX12_known 84 = .ok (.aload_n 0, 1) := by decide +kernel
theorem dX12_known_85 : decode cX12_known 85 = .ok (.ldc2_w 277, 3) := by decide +kernel
theorem dX12_known_88 : decode cX12_known 88 = .ok (.invokevirtual 295, 3) := by decide +kernel
theorem dX12_known_91 : decode cX12_known 91 = .ok (.ifCond .eq 7, 3) := by decide +kernel
theorem dX12_known_94 : decode cX12_known 94 = .ok (.iconst 2, 1) := by decide +kernel
theorem dX12_known_95 : decode cX12_known 95 = .ok (.goto 47, 3) := by decide +kernel
theorem dX12_known_98 : decode cX12_known 98 = .ok (.aload_n 0, 1) := by decide +kernel
theorem dX12_known_99 : decode cX12_known 99 = .ok (.ldc2_w 255, 3) := by decide +kernel
theorem dX12_known_102 : decode cX12_known 102 = .ok (.invokevirtual 295, 3) := by decide +kernel
theorem dX12_known_105 : decode cX12_known 105 = .ok (.ifCond .eq 7, 3) := by decide +kernel
theorem dX12_known_108 : decode cX12_known 108 = .ok (.iconst 3, 1) := by decide +kernel
theorem dX12_known_109 : decode cX12_known 109 = .ok (.goto 33, 3) := by decide +kernel
theorem dX12_known_112 : decode cX12_known 112 = .ok (.aload_n 0, 1) := by decide +kernel
theorem dX12_known_113 : decode cX12_known 113 = .ok (.ldc2_w 279, 3) := by decide +kernel
theorem dX12_known_116 : decode cX12_known 116 = .ok (.invokevirtual 295, 3) := by decide +kernel
theorem dX12_known_119 : decode cX12_known 119 = .ok (.ifCond .eq 7, 3) := by decide +kernel
theorem dX12_known_122 : decode cX12_known 122 = .ok (.iconst 4, 1) := by decide +kernel
theorem dX12_known_123 : decode cX12_known 123 = .ok (.goto 19, 3) := by decide +kernel
theorem dX12_known_126 : decode cX12_known 126 = .ok (.aload_n 0, 1) := by decide +kernel
theorem dX12_known_127 : decode cX12_known 127 = .ok (.ldc2_w 281, 3) := by decide +kernel
theorem dX12_known_130 : decode cX12_known 130 = .ok (.invokevirtual 295, 3) := by decide +kernel
theorem dX12_known_133 : decode cX12_known 133 = .ok (.ifCond .eq 7, 3) := by decide +kernel
theorem dX12_known_136 : decode cX12_known 136 = .ok (.iconst 5, 1) := by decide +kernel
theorem dX12_known_137 : decode cX12_known 137 = .ok (.goto 5, 3) := by decide +kernel
theorem dX12_known_140 : decode cX12_known 140 = .ok (.bipush 6, 2) := by decide +kernel
theorem dX12_known_142 : decode cX12_known 142 = .ok (.ireturn, 1) := by decide +kernel
theorem dX12_known_143 : decode cX12_known 143 = .ok (.aload_n 0, 1) := by decide +kernel
theorem dX12_known_144 : decode cX12_known 144 = .ok (.ldc2_w 285, 3) := by decide +kernel
theorem dX12_known_147 : decode cX12_known 147 = .ok (.invokevirtual 295, 3) := by decide +kernel
theorem dX12_known_150 : decode cX12_known 150 = .ok (.ifCond .eq 8, 3) := by decide +kernel
theorem dX12_known_153 : decode cX12_known 153 = .ok (.bipush 7, 2) := by decide +kernel
theorem dX12_known_155 : decode cX12_known 155 = .ok (.goto 64, 3) := by decide +kernel
theorem dX12_known_158 : decode cX12_known 158 = .ok (.aload_n 0, 1) := by decide +kernel
theorem dX12_known_159 : decode cX12_known 159 = .ok (.ldc2_w 287, 3) := by decide +kernel
theorem dX12_known_162 : decode cX12_known 162 = .ok (.invokevirtual 295, 3) := by decide +kernel
theorem dX12_known_165 : decode cX12_known 165 = .ok (.ifCond .eq 8, 3) := by decide +kernel
theorem dX12_known_168 : decode cX12_known 168 = .ok (.bipush 8, 2) := by decide +kernel
theorem dX12_known_170 : decode cX12_known 170 = .ok (.goto 49, 3) := by decide +kernel
theorem dX12_known_173 : decode cX12_known 173 = .ok (.aload_n 0, 1) := by decide +kernel
theorem dX12_known_174 : decode cX12_known 174 = .ok (.ldc2_w 261, 3) := by decide +kernel
theorem dX12_known_177 : decode cX12_known 177 = .ok (.invokevirtual 295, 3) := by decide +kernel
theorem dX12_known_180 : decode cX12_known 180 = .ok (.ifCond .eq 8, 3) := by decide +kernel
theorem dX12_known_183 : decode cX12_known 183 = .ok (.bipush 9, 2) := by decide +kernel
theorem dX12_known_185 : decode cX12_known 185 = .ok (.goto 34, 3) := by decide +kernel
theorem dX12_known_188 : decode cX12_known 188 = .ok (.aload_n 0, 1) := by decide +kernel
theorem dX12_known_189 : decode cX12_known 189 = .ok (.ldc2_w 263, 3) := by decide +kernel
theorem dX12_known_192 : decode cX12_known 192 = .ok (.invokevirtual 295, 3) := by decide +kernel
theorem dX12_known_195 : decode cX12_known 195 = .ok (.ifCond .eq 8, 3) := by decide +kernel
theorem dX12_known_198 : decode cX12_known 198 = .ok (.bipush 10, 2) := by decide +kernel
theorem dX12_known_200 : decode cX12_known 200 = .ok (.goto 19, 3) := by decide +kernel
theorem dX12_known_203 : decode cX12_known 203 = .ok (.aload_n 0, 1) := by decide +kernel
theorem dX12_known_204 : decode cX12_known 204 = .ok (.ldc2_w 241, 3) := by decide +kernel
theorem dX12_known_207 : decode cX12_known 207 = .ok (.invokevirtual 295, 3) := by decide +kernel
theorem dX12_known_210 : decode cX12_known 210 = .ok (.ifCond .eq 8, 3) := by decide +kernel
theorem dX12_known_213 : decode cX12_known 213 = .ok (.bipush 11, 2) := by decide +kernel
theorem dX12_known_215 : decode cX12_known 215 = .ok (.goto 4, 3) := by decide +kernel
theorem dX12_known_218 : decode cX12_known 218 = .ok (.iconst (-1), 1) := by decide +kernel
theorem dX12_known_219 : decode cX12_known 219 = .ok (.ireturn, 1) := by decide +kernel
theorem dX12_operand_0 : decode cX12_operand 0 = .ok (.iload_n 1, 1) := by decide +kernel
theorem dX12_operand_1 : decode cX12_operand 1 = .ok (.ifCond .ne 17, 3) := by decide +kernel
theorem dX12_operand_4 : decode cX12_operand 4 = .ok (.aload_n 0, 1) := by decide +kernel
theorem dX12_operand_5 : decode cX12_operand 5 = .ok (.ldc2_w 293, 3) := by decide +kernel
theorem dX12_operand_8 : decode cX12_operand 8 = .ok (.invokevirtual 295, 3) := by decide +kernel
theorem dX12_operand_11 : decode cX12_operand 11 = .ok (.ifCond .eq 7, 3) := by decide +kernel
theorem dX12_operand_14 : decode cX12_operand 14 = .ok (.iconst 1, 1) := by decide +kernel
theorem dX12_operand_15 : decode cX12_operand 15 = .ok (.goto 4, 3) := by decide +kernel
theorem dX12_operand_18 : decode cX12_operand 18 = .ok (.iconst 0, 1) := by decide +kernel
theorem dX12_operand_19 : decode cX12_operand 19 = .ok (.istore_n 2, 1) := by decide +kernel
theorem dX12_operand_20 : decode cX12_operand 20 = .ok (.aload_n 0, 1) := by decide +kernel
theorem dX12_operand_21 : decode cX12_operand 21 = .ok (.invokevirtual 336, 3) := by decide +kernel
theorem dX12_operand_24 : decode cX12_operand 24 = .ok (.istore_n 3, 1) := by decide +kernel
theorem dX12_operand_25 : decode cX12_operand 25 = .ok (.aload_n 0, 1) := by decide +kernel
theorem dX12_operand_26 : decode cX12_operand 26 = .ok (.getfield 223, 3) := by decide +kernel
theorem dX12_operand_29 : decode cX12_operand 29 = .ok (.iconst 2, 1) := by decide +kernel
theorem dX12_operand_30 : decode cX12_operand 30 = .ok (.if_icmp .eq 16, 3) := by decide +kernel
theorem dX12_operand_33 : decode cX12_operand 33 = .ok (.aload_n 0, 1) := by decide +kernel
theorem dX12_operand_34 : decode cX12_operand 34 = .ok (.getfield 223, 3) := by decide +kernel
theorem dX12_operand_37 : decode cX12_operand 37 = .ok (.bipush 40, 2) := by decide +kernel
theorem dX12_operand_39 : decode cX12_operand 39 = .ok (.if_icmp .eq 7, 3) := by decide +kernel
theorem dX12_operand_42 : decode cX12_operand 42 = .ok (.iload_n 3, 1) := by decide +kernel
theorem dX12_operand_43 : decode cX12_operand 43 = .ok (.ifCond .lt 7, 3) := by decide +kernel
theorem dX12_operand_46 : decode cX12_operand 46 = .ok (.iconst 1, 1) := by decide +kernel
theorem dX12_operand_47 : decode cX12_operand 47 = .ok (.goto 4, 3) := by decide +kernel
theorem dX12_operand_50 : decode cX12_operand 50 = .ok (.iconst 0, 1) := by decide +kernel
theorem dX12_operand_51 : decode cX12_operand 51 = .ok (.istore 4, 2) := by decide +kernel
theorem dX12_operand_53 : decode cX12_operand 53 = .ok (.iload_n 2, 1) := by decide +kernel
theorem dX12_operand_54 : decode cX12_operand 54 = .ok (.ifCond .ne 8, 3) := by decide +kernel
theorem dX12_operand_57 : decode cX12_operand 57 = .ok (.iload 4, 2) := by decide +kernel
theorem dX12_operand_59 : decode cX12_operand 59 = .ok (.ifCond .eq 39, 3) := by decide +kernel
theorem dX12_operand_62 : decode cX12_operand 62 = .ok (.iload 4, 2) := by decide +kernel
theorem dX12_operand_64 : decode cX12_operand 64 = .ok (.ifCond .eq 12, 3) := by decide +kernel
theorem dX12_operand_67 : decode cX12_operand 67 = .ok (.aload_n 0, 1) := by decide +kernel
theorem dX12_operand_68 : decode cX12_operand 68 = .ok (.getfield 339, 3) := by decide +kernel
theorem dX12_operand_71 : decode cX12_operand 71 = .ok (.bipush 80, 2) := by decide +kernel
theorem dX12_operand_73 : decode cX12_operand 73 = .ok (.if_icmp .eq 25, 3) := by decide +kernel
theorem dX12_operand_76 : decode cX12_operand 76 = .ok (.iload_n 2, 1) := by decide +kernel
theorem dX12_operand_77 : decode cX12_operand 77 = .ok (.ifCond .ne 12, 3) := by decide +kernel
theorem dX12_operand_80 : decode cX12_operand 80 = .ok (.aload_n 0, 1) := by decide +kernel
theorem dX12_operand_81 : decode cX12_operand 81 = .ok (.getfield 223, 3) := by decide +kernel
theorem dX12_operand_84 : decode cX12_operand 84 = .ok (.bipush 40, 2) := by decide +kernel
theorem dX12_operand_86 : decode cX12_operand 86 = .ok (.if_icmp .ne 17, 3) := by decide +kernel
theorem dX12_operand_89 : decode cX12_operand 89 = .ok (.aload_n 0, 1) := by decide +kernel
theorem dX12_operand_90 : decode cX12_operand 90 = .ok (.getfield 319, 3) := by decide +kernel
theorem dX12_operand_93 : decode cX12_operand 93 = .ok (.bipush 7, 2) := by decide +kernel
theorem dX12_operand_95 : decode cX12_operand 95 = .ok (.if_icmp .lt 8, 3) := by decide +kernel
theorem dX12_operand_98 : decode cX12_operand 98 = .ok (.aload_n 0, 1) := by decide +kernel
theorem dX12_operand_99 : decode cX12_operand 99 = .ok (.iconst 2, 1) := by decide +kernel
theorem dX12_operand_100 : decode cX12_operand 100 = .ok (.invokevirtual 299, 3) := by decide +kernel
theorem dX12_operand_103 : decode cX12_operand 103 = .ok (.aload_n 0, 1) := by decide +kernel
theorem dX12_operand_104 : decode cX12_operand 104 = .ok (.getfield 236, 3) := by decide +kernel
theorem dX12_operand_107 : decode cX12_operand 107 = .ok (.ifCond .le 5, 3) := by decide +kernel
theorem dX12_operand_110 : decode cX12_operand 110 = .ok (.iload_n 1, 1) := by decide +kernel
theorem dX12_operand_111 : decode cX12_operand 111 = .ok (.ireturn, 1) := by decide +kernel
theorem dX12_operand_112 : decode cX12_operand 112 = .ok (.iload_n 2, 1) := by decide +kernel
theorem dX12_operand_113 : decode cX12_operand 113 = .ok (.ifCond .eq 15, 3) := by decide +kernel
theorem dX12_operand_116 : decode cX12_operand 116 = .ok (.aload_n 0, 1) := by decide +kernel
theorem dX12_operand_117 : decode cX12_operand 117 = .ok (.bipush 22, 2) := by decide +kernel
theorem dX12_operand_119 : decode cX12_operand 119 = .ok (.invokevirtual 342, 3) := by decide +kernel
theorem dX12_operand_122 : decode cX12_operand 122 = .ok (.aload_n 0, 1) := by decide +kernel
theorem dX12_operand_123 : decode cX12_operand 123 = .ok (.invokevirtual 302, 3) := by decide +kernel
theorem dX12_operand_126 : decode cX12_operand 126 = .ok (.iconst 0, 1) := by decide +kernel
theorem dX12_operand_127 : decode cX12_operand 127 = .ok (.ireturn, 1) := by decide +kernel
theorem dX12_operand_128 : decode cX12_operand 128 = .ok (.aload_n 0, 1) := by decide +kernel
theorem dX12_operand_129 : decode cX12_operand 129 = .ok (.dup, 1) := by decide +kernel
theorem dX12_operand_130 : decode cX12_operand 130 = .ok (.getfield 339, 3) := by decide +kernel
theorem dX12_operand_133 : decode cX12_operand 133 = .ok (.iconst 1, 1) := by decide +kernel
theorem dX12_operand_134 : decode cX12_operand 134 = .ok (.iadd, 1) := by decide +kernel
theorem dX12_operand_135 : decode cX12_operand 135 = .ok (.putfield 339, 3) := by decide +kernel
theorem dX12_operand_138 : decode cX12_operand 138 = .ok (.aload_n 0, 1) := by decide +kernel
theorem dX12_operand_139 : decode cX12_operand 139 = .ok (.getfield 223, 3) := by decide +kernel
theorem dX12_operand_142 : decode cX12_operand 142 = .ok (.bipush 40, 2) := by decide +kernel
theorem dX12_operand_144 : decode cX12_operand 144 = .ok (.if_icmp .ne 15, 3) := by decide +kernel
theorem dX12_operand_147 : decode cX12_operand 147 = .ok (.aload_n 0, 1) := by decide +kernel
theorem dX12_operand_148 : decode cX12_operand 148 = .ok (.bipush 40, 2) := by decide +kernel
theorem dX12_operand_150 : decode cX12_operand 150 = .ok (.invokevirtual 342, 3) := by decide +kernel
theorem dX12_operand_153 : decode cX12_operand 153 = .ok (.aload_n 0, 1) := by decide +kernel
theorem dX12_operand_154 : decode cX12_operand 154 = .ok (.invokevirtual 302, 3) := by decide +kernel
theorem dX12_operand_157 : decode cX12_operand 157 = .ok (.iconst 0, 1) := by decide +kernel
theorem dX12_operand_158 : decode cX12_operand 158 = .ok (.ireturn, 1) := by decide +kernel
theorem dX12_operand_159 : decode cX12_operand 159 = .ok (.aload_n 0, 1) := by decide +kernel
theorem dX12_operand_160 : decode cX12_operand 160 = .ok (.iload_n 3, 1) := by decide +kernel
theorem dX12_operand_161 : decode cX12_operand 161 = .ok (.ifCond .ge 7, 3) := by decide +kernel
theorem dX12_operand_164 : decode cX12_operand 164 = .ok (.iconst 0, 1) := by decide +kernel
theorem dX12_operand_165 : decode cX12_operand 165 = .ok (.goto 4, 3) := by decide +kernel
theorem dX12_operand_168 : decode cX12_operand 168 = .ok (.iload_n 3, 1) := by decide +kernel
theorem dX12_operand_169 : decode cX12_operand 169 = .ok (.aload_n 0, 1) := by decide +kernel
theorem dX12_operand_170 : decode cX12_operand 170 = .ok (.getfield 220, 3) := by decide +kernel
theorem dX12_operand_173 : decode cX12_operand 173 = .ok (.invokevirtual 322, 3) := by decide +kernel
theorem dX12_operand_176 : decode cX12_operand 176 = .ok (.aload_n 0, 1) := by decide +kernel
theorem dX12_operand_177 : decode cX12_operand 177 = .ok (.invokevirtual 302, 3) := by decide +kernel
theorem dX12_operand_180 : decode cX12_operand 180 = .ok (.iconst 2, 1) := by decide +kernel
theorem dX12_operand_181 : decode cX12_operand 181 = .ok (.ireturn, 1) := by decide +kernel
theorem dX12_signOf_0 : decode cX12_signOf 0 = .ok (.aload_n 0, 1) := by decide +kernel
theorem dX12_signOf_1 : decode cX12_signOf 1 = .ok (.getfield 223, 3) := by decide +kernel
theorem dX12_signOf_4 : decode cX12_signOf 4 = .ok (.bipush 43, 2) := by decide +kernel
theorem dX12_signOf_6 : decode cX12_signOf 6 = .ok (.if_icmp .ne 8, 3) := by decide +kernel
theorem dX12_signOf_9 : decode cX12_signOf 9 = .ok (.bipush 26, 2) := by decide +kernel
theorem dX12_signOf_11 : decode cX12_signOf 11 = .ok (.goto 104, 3) := by decide +kernel
theorem dX12_signOf_14 : decode cX12_signOf 14 = .ok (.aload_n 0, 1) := by decide +kernel
theorem dX12_signOf_15 : decode cX12_signOf 15 = .ok (.getfield 223, 3) := by decide +kernel
theorem dX12_signOf_18 : decode cX12_signOf 18 = .ok (.bipush 45, 2) := by decide +kernel
theorem dX12_signOf_20 : decode cX12_signOf 20 = .ok (.if_icmp .ne 8, 3) := by decide +kernel
theorem dX12_signOf_23 : decode cX12_signOf 23 = .ok (.bipush 27, 2) := by decide +kernel
theorem dX12_signOf_25 : decode cX12_signOf 25 = .ok (.goto 90, 3) := by decide +kernel
theorem dX12_signOf_28 : decode cX12_signOf 28 = .ok (.aload_n 0, 1) := by decide +kernel
theorem dX12_signOf_29 : decode cX12_signOf 29 = .ok (.getfield 223, 3) := by decide +kernel
theorem dX12_signOf_32 : decode cX12_signOf 32 = .ok (.bipush 42, 2) := by decide +kernel
theorem dX12_signOf_34 : decode cX12_signOf 34 = .ok (.if_icmp .ne 8, 3) := by decide +kernel
theorem dX12_signOf_37 : decode cX12_signOf 37 = .ok (.bipush 28, 2) := by decide +kernel
theorem dX12_signOf_39 : decode cX12_signOf 39 = .ok (.goto 76, 3) := by decide +kernel
theorem dX12_signOf_42 : decode cX12_signOf 42 = .ok (.aload_n 0, 1) := by decide +kernel
theorem dX12_signOf_43 : decode cX12_signOf 43 = .ok (.getfield 223, 3) := by decide +kernel
theorem dX12_signOf_46 : decode cX12_signOf 46 = .ok (.bipush 61, 2) := by decide +kernel
theorem dX12_signOf_48 : decode cX12_signOf 48 = .ok (.if_icmp .ne 8, 3) := by decide +kernel
theorem dX12_signOf_51 : decode cX12_signOf 51 = .ok (.bipush 23, 2) := by decide +kernel
theorem dX12_signOf_53 : decode cX12_signOf 53 = .ok (.goto 62, 3) := by decide +kernel
theorem dX12_signOf_56 : decode cX12_signOf 56 = .ok (.aload_n 0, 1) := by decide +kernel
theorem dX12_signOf_57 : decode cX12_signOf 57 = .ok (.getfield 223, 3) := by decide +kernel
theorem dX12_signOf_60 : decode cX12_signOf 60 = .ok (.bipush 60, 2) := by decide +kernel
theorem dX12_signOf_62 : decode cX12_signOf 62 = .ok (.if_icmp .ne 8, 3) := by decide +kernel
theorem dX12_signOf_65 : decode cX12_signOf 65 = .ok (.bipush 24, 2) := by decide +kernel
theorem dX12_signOf_67 : decode cX12_signOf 67 = .ok (.goto 48, 3) := by decide +kernel
theorem dX12_signOf_70 : decode cX12_signOf 70 = .ok (.aload_n 0, 1) := by decide +kernel
theorem dX12_signOf_71 : decode cX12_signOf 71 = .ok (.getfield 223, 3) := by decide +kernel
theorem dX12_signOf_74 : decode cX12_signOf 74 = .ok (.bipush 62, 2) := by decide +kernel
theorem dX12_signOf_76 : decode cX12_signOf 76 = .ok (.if_icmp .ne 8, 3) := by decide +kernel
theorem dX12_signOf_79 : decode cX12_signOf 79 = .ok (.bipush 25, 2) := by decide +kernel
theorem dX12_signOf_81 : decode cX12_signOf 81 = .ok (.goto 34, 3) := by decide +kernel
theorem dX12_signOf_84 : decode cX12_signOf 84 = .ok (.aload_n 0, 1) := by decide +kernel
theorem dX12_signOf_85 : decode cX12_signOf 85 = .ok (.ldc2_w 289, 3) := by decide +kernel
theorem dX12_signOf_88 : decode cX12_signOf 88 = .ok (.invokevirtual 295, 3) := by decide +kernel
theorem dX12_signOf_91 : decode cX12_signOf 91 = .ok (.ifCond .eq 8, 3) := by decide +kernel
theorem dX12_signOf_94 : decode cX12_signOf 94 = .ok (.bipush 21, 2) := by decide +kernel
theorem dX12_signOf_96 : decode cX12_signOf 96 = .ok (.goto 19, 3) := by decide +kernel
theorem dX12_signOf_99 : decode cX12_signOf 99 = .ok (.aload_n 0, 1) := by decide +kernel
theorem dX12_signOf_100 : decode cX12_signOf 100 = .ok (.ldc2_w 291, 3) := by decide +kernel
theorem dX12_signOf_103 : decode cX12_signOf 103 = .ok (.invokevirtual 295, 3) := by decide +kernel
theorem dX12_signOf_106 : decode cX12_signOf 106 = .ok (.ifCond .eq 8, 3) := by decide +kernel
theorem dX12_signOf_109 : decode cX12_signOf 109 = .ok (.bipush 20, 2) := by decide +kernel
theorem dX12_signOf_111 : decode cX12_signOf 111 = .ok (.goto 4, 3) := by decide +kernel
theorem dX12_signOf_114 : decode cX12_signOf 114 = .ok (.iconst (-1), 1) := by decide +kernel
theorem dX12_signOf_115 : decode cX12_signOf 115 = .ok (.ireturn, 1) := by decide +kernel
theorem dX12_sign_0 : decode cX12_sign 0 = .ok (.aload_n 0, 1) := by decide +kernel
theorem dX12_sign_1 : decode cX12_sign 1 = .ok (.invokevirtual 345, 3) := by decide +kernel
theorem dX12_sign_4 : decode cX12_sign 4 = .ok (.istore_n 1, 1) := by decide +kernel
theorem dX12_sign_5 : decode cX12_sign 5 = .ok (.aload_n 0, 1) := by decide +kernel
theorem dX12_sign_6 : decode cX12_sign 6 = .ok (.getfield 223, 3) := by decide +kernel
theorem dX12_sign_9 : decode cX12_sign 9 = .ok (.bipush 41, 2) := by decide +kernel
theorem dX12_sign_11 : decode cX12_sign 11 = .ok (.if_icmp .ne 41, 3) := by decide +kernel
theorem dX12_sign_14 : decode cX12_sign 14 = .ok (.aload_n 0, 1) := by decide +kernel
theorem dX12_sign_15 : decode cX12_sign 15 = .ok (.invokevirtual 348, 3) := by decide +kernel
theorem dX12_sign_18 : decode cX12_sign 18 = .ok (.ifCond .eq 34, 3) := by decide +kernel
theorem dX12_sign_21 : decode cX12_sign 21 = .ok (.aload_n 0, 1) := by decide +kernel
theorem dX12_sign_22 : decode cX12_sign 22 = .ok (.iconst 0, 1) := by decide +kernel
theorem dX12_sign_23 : decode cX12_sign 23 = .ok (.invokevirtual 352, 3) := by decide +kernel
theorem dX12_sign_26 : decode cX12_sign 26 = .ok (.aload_n 0, 1) := by decide +kernel
theorem dX12_sign_27 : decode cX12_sign 27 = .ok (.dup, 1) := by decide +kernel
theorem dX12_sign_28 : decode cX12_sign 28 = .ok (.getfield 316, 3) := by decide +kernel
theorem dX12_sign_31 : decode cX12_sign 31 = .ok (.iconst 1, 1) := by decide +kernel
theorem dX12_sign_32 : decode cX12_sign 32 = .ok (.isub, 1) := by decide +kernel
theorem dX12_sign_33 : decode cX12_sign 33 = .ok (.putfield 316, 3) := by decide +kernel
theorem dX12_sign_36 : decode cX12_sign 36 = .ok (.aload_n 0, 1) := by decide +kernel
theorem dX12_sign_37 : decode cX12_sign 37 = .ok (.dup, 1) := by decide +kernel
theorem dX12_sign_38 : decode cX12_sign 38 = .ok (.getfield 319, 3) := by decide +kernel
theorem dX12_sign_41 : decode cX12_sign 41 = .ok (.iconst 1, 1) := by decide +kernel
theorem dX12_sign_42 : decode cX12_sign 42 = .ok (.isub, 1) := by decide +kernel
theorem dX12_sign_43 : decode cX12_sign 43 = .ok (.putfield 319, 3) := by decide +kernel
theorem dX12_sign_46 : decode cX12_sign 46 = .ok (.aload_n 0, 1) := by decide +kernel
theorem dX12_sign_47 : decode cX12_sign 47 = .ok (.invokevirtual 302, 3) := by decide +kernel
theorem dX12_sign_50 : decode cX12_sign 50 = .ok (.iconst 2, 1) := by decide +kernel
theorem dX12_sign_51 : decode cX12_sign 51 = .ok (.ireturn, 1) := by decide +kernel
theorem dX12_sign_52 : decode cX12_sign 52 = .ok (.iload_n 1, 1) := by decide +kernel
theorem dX12_sign_53 : decode cX12_sign 53 = .ok (.ifCond .ge 10, 3) := by decide +kernel
theorem dX12_sign_56 : decode cX12_sign 56 = .ok (.aload_n 0, 1) := by decide +kernel
theorem dX12_sign_57 : decode cX12_sign 57 = .ok (.iconst 2, 1) := by decide +kernel
theorem dX12_sign_58 : decode cX12_sign 58 = .ok (.invokevirtual 299, 3) := by decide +kernel
theorem dX12_sign_61 : decode cX12_sign 61 = .ok (.iconst 2, 1) := by decide +kernel
theorem dX12_sign_62 : decode cX12_sign 62 = .ok (.ireturn, 1) := by decide +kernel
theorem dX12_sign_63 : decode cX12_sign 63 = .ok (.iload_n 1, 1) := by decide +kernel
theorem dX12_sign_64 : decode cX12_sign 64 = .ok (.invokestatic 330, 3) := by decide +kernel
theorem dX12_sign_67 : decode cX12_sign 67 = .ok (.bipush 23, 2) := by decide +kernel
theorem dX12_sign_69 : decode cX12_sign 69 = .ok (.if_icmp .ne 29, 3) := by decide +kernel
theorem dX12_sign_72 : decode cX12_sign 72 = .ok (.aload_n 0, 1) := by decide +kernel
theorem dX12_sign_73 : decode cX12_sign 73 = .ok (.bipush 26, 2) := by decide +kernel
theorem dX12_sign_75 : decode cX12_sign 75 = .ok (.invokevirtual 352, 3) := by decide +kernel
theorem dX12_sign_78 : decode cX12_sign 78 = .ok (.aload_n 0, 1) := by decide +kernel
theorem dX12_sign_79 : decode cX12_sign 79 = .ok (.invokevirtual 326, 3) := by decide +kernel
theorem dX12_sign_82 : decode cX12_sign 82 = .ok (.invokestatic 330, 3) := by decide +kernel
theorem dX12_sign_85 : decode cX12_sign 85 = .ok (.bipush 23, 2) := by decide +kernel
theorem dX12_sign_87 : decode cX12_sign 87 = .ok (.if_icmp .ne 19, 3) := by decide +kernel
theorem dX12_sign_90 : decode cX12_sign 90 = .ok (.aload_n 0, 1) := by decide +kernel
theorem dX12_sign_91 : decode cX12_sign 91 = .ok (.iconst 2, 1) := by decide +kernel
theorem dX12_sign_92 : decode cX12_sign 92 = .ok (.invokevirtual 299, 3) := by decide +kernel
theorem dX12_sign_95 : decode cX12_sign 95 = .ok (.goto 11, 3) := by decide +kernel
theorem dX12_sign_98 : decode cX12_sign 98 = .ok (.aload_n 0, 1) := by decide +kernel
theorem dX12_sign_99 : decode cX12_sign 99 = .ok (.iload_n 1, 1) := by decide +kernel
theorem dX12_sign_100 : decode cX12_sign 100 = .ok (.invokestatic 330, 3) := by decide +kernel
theorem dX12_sign_103 : decode cX12_sign 103 = .ok (.invokevirtual 352, 3) := by decide +kernel
theorem dX12_sign_106 : decode cX12_sign 106 = .ok (.aload_n 0, 1) := by decide +kernel
theorem dX12_sign_107 : decode cX12_sign 107 = .ok (.getfield 236, 3) := by decide +kernel
theorem dX12_sign_110 : decode cX12_sign 110 = .ok (.ifCond .le 5, 3) := by decide +kernel
theorem dX12_sign_113 : decode cX12_sign 113 = .ok (.iconst 2, 1) := by decide +kernel
theorem dX12_sign_114 : decode cX12_sign 114 = .ok (.ireturn, 1) := by decide +kernel
theorem dX12_sign_115 : decode cX12_sign 115 = .ok (.aload_n 0, 1) := by decide +kernel
theorem dX12_sign_116 : decode cX12_sign 116 = .ok (.iload_n 1, 1) := by decide +kernel
theorem dX12_sign_117 : decode cX12_sign 117 = .ok (.invokevirtual 342, 3) := by decide +kernel
theorem dX12_sign_120 : decode cX12_sign 120 = .ok (.aload_n 0, 1) := by decide +kernel
theorem dX12_sign_121 : decode cX12_sign 121 = .ok (.invokevirtual 302, 3) := by decide +kernel
theorem dX12_sign_124 : decode cX12_sign 124 = .ok (.iload_n 1, 1) := by decide +kernel
theorem dX12_sign_125 : decode cX12_sign 125 = .ok (.bipush 21, 2) := by decide +kernel
theorem dX12_sign_127 : decode cX12_sign 127 = .ok (.if_icmp .eq 9, 3) := by decide +kernel
theorem dX12_sign_130 : decode cX12_sign 130 = .ok (.iload_n 1, 1) := by decide +kernel
theorem dX12_sign_131 : decode cX12_sign 131 = .ok (.bipush 20, 2) := by decide +kernel
theorem dX12_sign_133 : decode cX12_sign 133 = .ok (.if_icmp .ne 7, 3) := by decide +kernel
theorem dX12_sign_136 : decode cX12_sign 136 = .ok (.iconst 0, 1) := by decide +kernel
theorem dX12_sign_137 : decode cX12_sign 137 = .ok (.goto 4, 3) := by decide +kernel
theorem dX12_sign_140 : decode cX12_sign 140 = .ok (.iconst 1, 1) := by decide +kernel
theorem dX12_sign_141 : decode cX12_sign 141 = .ok (.ireturn, 1) := by decide +kernel
theorem dX12_readStands_0 : decode cX12_readStands 0 = .ok (.aload_n 0, 1) := by decide +kernel
theorem dX12_readStands_1 : decode cX12_readStands 1 = .ok (.ldc2_w 267, 3) := by decide +kernel
theorem dX12_readStands_4 : decode cX12_readStands 4 = .ok (.invokevirtual 305, 3) := by decide +kernel
theorem dX12_readStands_7 : decode cX12_readStands 7 = .ok (.aload_n 0, 1) := by decide +kernel
theorem dX12_readStands_8 : decode cX12_readStands 8 = .ok (.getfield 236, 3) := by decide +kernel
theorem dX12_readStands_11 : decode cX12_readStands 11 = .ok (.ifCond .le 4, 3) := by decide +kernel
theorem dX12_readStands_14 : decode cX12_readStands 14 = .ok (.return_, 1) := by decide +kernel
theorem dX12_readStands_15 : decode cX12_readStands 15 = .ok (.aload_n 0, 1) := by decide +kernel
theorem dX12_readStands_16 : decode cX12_readStands 16 = .ok (.getfield 23, 3) := by decide +kernel
theorem dX12_readStands_19 : decode cX12_readStands 19 = .ok (.aload_n 0, 1) := by decide +kernel
theorem dX12_readStands_20 : decode cX12_readStands 20 = .ok (.getfield 355, 3) := by decide +kernel
theorem dX12_readStands_23 : decode cX12_readStands 23 = .ok (.aload_n 0, 1) := by decide +kernel
theorem dX12_readStands_24 : decode cX12_readStands 24 = .ok (.getfield 313, 3) := by decide +kernel
theorem dX12_readStands_27 : decode cX12_readStands 27 = .ok (.iastore, 1) := by decide +kernel
theorem dX12_readStands_28 : decode cX12_readStands 28 = .ok (.aload_n 0, 1) := by decide +kernel
theorem dX12_readStands_29 : decode cX12_readStands 29 = .ok (.iconst 0, 1) := by decide +kernel
theorem dX12_readStands_30 : decode cX12_readStands 30 = .ok (.putfield 316, 3) := by decide +kernel
theorem dX12_readStands_33 : decode cX12_readStands 33 = .ok (.aload_n 0, 1) := by decide +kernel
theorem dX12_readStands_34 : decode cX12_readStands 34 = .ok (.iconst 0, 1) := by decide +kernel
theorem dX12_readStands_35 : decode cX12_readStands 35 = .ok (.putfield 319, 3) := by decide +kernel
theorem dX12_readStands_38 : decode cX12_readStands 38 = .ok (.iconst 0, 1) := by decide +kernel
theorem dX12_readStands_39 : decode cX12_readStands 39 = .ok (.istore_n 1, 1) := by decide +kernel
theorem dX12_readStands_40 : decode cX12_readStands 40 = .ok (.aload_n 0, 1) := by decide +kernel
theorem dX12_readStands_41 : decode cX12_readStands 41 = .ok (.getfield 236, 3) := by decide +kernel
theorem dX12_readStands_44 : decode cX12_readStands 44 = .ok (.ifCond .ne 45, 3) := by decide +kernel
theorem dX12_readStands_47 : decode cX12_readStands 47 = .ok (.iload_n 1, 1) := by decide +kernel
theorem dX12_readStands_48 : decode cX12_readStands 48 = .ok (.iconst 2, 1) := by decide +kernel
theorem dX12_readStands_49 : decode cX12_readStands 49 = .ok (.if_icmp .ne 19, 3) := by decide +kernel
theorem dX12_readStands_52 : decode cX12_readStands 52 = .ok (.aload_n 0, 1) := by decide +kernel
theorem dX12_readStands_53 : decode cX12_readStands 53 = .ok (.invokevirtual 348, 3) := by decide +kernel
theorem dX12_readStands_56 : decode cX12_readStands 56 = .ok (.ifCond .ne 12, 3) := by decide +kernel
theorem dX12_readStands_59 : decode cX12_readStands 59 = .ok (.aload_n 0, 1) := by decide +kernel
theorem dX12_readStands_60 : decode cX12_readStands 60 = .ok (.getfield 223, 3) := by decide +kernel
theorem dX12_readStands_63 : decode cX12_readStands 63 = .ok (.bipush 59, 2) := by decide +kernel
theorem dX12_readStands_65 : decode cX12_readStands 65 = .ok (.if_icmp .eq 24, 3) := by decide +kernel
theorem dX12_readStands_68 : decode cX12_readStands 68 = .ok (.iload_n 1, 1) := by decide +kernel
theorem dX12_readStands_69 : decode cX12_readStands 69 = .ok (.iconst 2, 1) := by decide +kernel
theorem dX12_readStands_70 : decode cX12_readStands 70 = .ok (.if_icmp .ne 10, 3) := by decide +kernel
theorem dX12_readStands_73 : decode cX12_readStands 73 = .ok (.aload_n 0, 1) := by decide +kernel
theorem dX12_readStands_74 : decode cX12_readStands 74 = .ok (.invokevirtual 358, 3) := by decide +kernel
theorem dX12_readStands_77 : decode cX12_readStands 77 = .ok (.goto 8, 3) := by decide +kernel
theorem dX12_readStands_80 : decode cX12_readStands 80 = .ok (.aload_n 0, 1) := by decide +kernel
theorem dX12_readStands_81 : decode cX12_readStands 81 = .ok (.iload_n 1, 1) := by decide +kernel
theorem dX12_readStands_82 : decode cX12_readStands 82 = .ok (.invokevirtual 361, 3) := by decide +kernel
theorem dX12_readStands_85 : decode cX12_readStands 85 = .ok (.istore_n 1, 1) := by decide +kernel
theorem dX12_readStands_86 : decode cX12_readStands 86 = .ok (.goto (-46), 3) := by decide +kernel
theorem dX12_readStands_89 : decode cX12_readStands 89 = .ok (.aload_n 0, 1) := by decide +kernel
theorem dX12_readStands_90 : decode cX12_readStands 90 = .ok (.getfield 236, 3) := by decide +kernel
theorem dX12_readStands_93 : decode cX12_readStands 93 = .ok (.ifCond .ne 8, 3) := by decide +kernel
theorem dX12_readStands_96 : decode cX12_readStands 96 = .ok (.aload_n 0, 1) := by decide +kernel
theorem dX12_readStands_97 : decode cX12_readStands 97 = .ok (.iconst 0, 1) := by decide +kernel
theorem dX12_readStands_98 : decode cX12_readStands 98 = .ok (.invokevirtual 352, 3) := by decide +kernel
theorem dX12_readStands_101 : decode cX12_readStands 101 = .ok (.return_, 1) := by decide +kernel
theorem dX12_find_0 : decode cX12_find 0 = .ok (.iconst (-1), 1) := by decide +kernel
theorem dX12_find_1 : decode cX12_find 1 = .ok (.istore 4, 2) := by decide +kernel
theorem dX12_find_3 : decode cX12_find 3 = .ok (.iconst 0, 1) := by decide +kernel
theorem dX12_find_4 : decode cX12_find 4 = .ok (.istore 5, 2) := by decide +kernel
theorem dX12_find_6 : decode cX12_find 6 = .ok (.iload 5, 2) := by decide +kernel
theorem dX12_find_8 : decode cX12_find 8 = .ok (.iload_n 1, 1) := by decide +kernel
theorem dX12_find_9 : decode cX12_find 9 = .ok (.if_icmp .ge 27, 3) := by decide +kernel
theorem dX12_find_12 : decode cX12_find 12 = .ok (.aload_n 0, 1) := by decide +kernel
theorem dX12_find_13 : decode cX12_find 13 = .ok (.iload 5, 2) := by decide +kernel
theorem dX12_find_15 : decode cX12_find 15 = .ok (.laload, 1) := by decide +kernel
theorem dX12_find_16 : decode cX12_find 16 = .ok (.lload_n 2, 1) := by decide +kernel
theorem dX12_find_17 : decode cX12_find 17 = .ok (.lcmp, 1) := by decide +kernel
theorem dX12_find_18 : decode cX12_find 18 = .ok (.ifCond .ne 8, 3) := by decide +kernel
theorem dX12_find_21 : decode cX12_find 21 = .ok (.iload 5, 2) := by decide +kernel
theorem dX12_find_23 : decode cX12_find 23 = .ok (.goto 5, 3) := by decide +kernel
theorem dX12_find_26 : decode cX12_find 26 = .ok (.iload 4, 2) := by decide +kernel
theorem dX12_find_28 : decode cX12_find 28 = .ok (.istore 4, 2) := by decide +kernel
theorem dX12_find_30 : decode cX12_find 30 = .ok (.iinc 5 1, 3) := by decide +kernel
theorem dX12_find_33 : decode cX12_find 33 = .ok (.goto (-27), 3) := by decide +kernel
theorem dX12_find_36 : decode cX12_find 36 = .ok (.iload 4, 2) := by decide +kernel
theorem dX12_find_38 : decode cX12_find 38 = .ok (.ireturn, 1) := by decide +kernel
theorem dX12_newName_0 : decode cX12_newName 0 = .ok (.aload_n 0, 1) := by decide +kernel
theorem dX12_newName_1 : decode cX12_newName 1 = .ok (.invokevirtual 302, 3) := by decide +kernel
theorem dX12_newName_4 : decode cX12_newName 4 = .ok (.aload_n 0, 1) := by decide +kernel
theorem dX12_newName_5 : decode cX12_newName 5 = .ok (.invokevirtual 364, 3) := by decide +kernel
theorem dX12_newName_8 : decode cX12_newName 8 = .ok (.ifCond .ne 11, 3) := by decide +kernel
theorem dX12_newName_11 : decode cX12_newName 11 = .ok (.aload_n 0, 1) := by decide +kernel
theorem dX12_newName_12 : decode cX12_newName 12 = .ok (.iconst 2, 1) := by decide +kernel
theorem dX12_newName_13 : decode cX12_newName 13 = .ok (.invokevirtual 299, 3) := by decide +kernel
theorem dX12_newName_16 : decode cX12_newName 16 = .ok (.goto 20, 3) := by decide +kernel
theorem dX12_newName_19 : decode cX12_newName 19 = .ok (.aload_n 1, 1) := by decide +kernel
theorem dX12_newName_20 : decode cX12_newName 20 = .ok (.iload_n 2, 1) := by decide +kernel
theorem dX12_newName_21 : decode cX12_newName 21 = .ok (.aload_n 0, 1) := by decide +kernel
theorem dX12_newName_22 : decode cX12_newName 22 = .ok (.getfield 216, 3) := by decide +kernel
theorem dX12_newName_25 : decode cX12_newName 25 = .ok (.invokestatic 367, 3) := by decide +kernel
theorem dX12_newName_28 : decode cX12_newName 28 = .ok (.ifCond .lt 8, 3) := by decide +kernel
theorem dX12_newName_31 : decode cX12_newName 31 = .ok (.aload_n 0, 1) := by decide +kernel
theorem dX12_newName_32 : decode cX12_newName 32 = .ok (.iconst 3, 1) := by decide +kernel
theorem dX12_newName_33 : decode cX12_newName 33 = .ok (.invokevirtual 299, 3) := by decide +kernel
theorem dX12_newName_36 : decode cX12_newName 36 = .ok (.aload_n 0, 1) := by decide +kernel
theorem dX12_newName_37 : decode cX12_newName 37 = .ok (.getfield 216, 3) := by decide +kernel
theorem dX12_newName_40 : decode cX12_newName 40 = .ok (.lstore_n 3, 1) := by decide +kernel
theorem dX12_newName_41 : decode cX12_newName 41 = .ok (.aload_n 0, 1) := by decide +kernel
theorem dX12_newName_42 : decode cX12_newName 42 = .ok (.getfield 236, 3) := by decide +kernel
theorem dX12_newName_45 : decode cX12_newName 45 = .ok (.ifCond .ne 7, 3) := by decide +kernel
theorem dX12_newName_48 : decode cX12_newName 48 = .ok (.aload_n 0, 1) := by decide +kernel
theorem dX12_newName_49 : decode cX12_newName 49 = .ok (.invokevirtual 302, 3) := by decide +kernel
theorem dX12_newName_52 : decode cX12_newName 52 = .ok (.lload_n 3, 1) := by decide +kernel
theorem dX12_newName_53 : decode cX12_newName 53 = .ok (.lreturn, 1) := by decide +kernel
theorem dX12_oldPlace_0 : decode cX12_oldPlace 0 = .ok (.aload_n 0, 1) := by decide +kernel
theorem dX12_oldPlace_1 : decode cX12_oldPlace 1 = .ok (.getfield 236, 3) := by decide +kernel
theorem dX12_oldPlace_4 : decode cX12_oldPlace 4 = .ok (.ifCond .le 5, 3) := by decide +kernel
theorem dX12_oldPlace_7 : decode cX12_oldPlace 7 = .ok (.iconst 0, 1) := by decide +kernel
theorem dX12_oldPlace_8 : decode cX12_oldPlace 8 = .ok (.ireturn, 1) := by decide +kernel
theorem dX12_oldPlace_9 : decode cX12_oldPlace 9 = .ok (.aload_n 0, 1) := by decide +kernel
theorem dX12_oldPlace_10 : decode cX12_oldPlace 10 = .ok (.getfield 44, 3) := by decide +kernel
theorem dX12_oldPlace_13 : decode cX12_oldPlace 13 = .ok (.aload_n 0, 1) := by decide +kernel
theorem dX12_oldPlace_14 : decode cX12_oldPlace 14 = .ok (.getfield 371, 3) := by decide +kernel
theorem dX12_oldPlace_17 : decode cX12_oldPlace 17 = .ok (.aload_n 0, 1) := by decide +kernel
theorem dX12_oldPlace_18 : decode cX12_oldPlace 18 = .ok (.getfield 216, 3) := by decide +kernel
theorem dX12_oldPlace_21 : decode cX12_oldPlace 21 = .ok (.invokestatic 367, 3) := by decide +kernel
theorem dX12_oldPlace_24 : decode cX12_oldPlace 24 = .ok (.istore_n 1, 1) := by decide +kernel
theorem dX12_oldPlace_25 : decode cX12_oldPlace 25 = .ok (.aload_n 0, 1) := by decide +kernel
theorem dX12_oldPlace_26 : decode cX12_oldPlace 26 = .ok (.invokevirtual 364, 3) := by decide +kernel
theorem dX12_oldPlace_29 : decode cX12_oldPlace 29 = .ok (.ifCond .ne 11, 3) := by decide +kernel
theorem dX12_oldPlace_32 : decode cX12_oldPlace 32 = .ok (.aload_n 0, 1) := by decide +kernel
theorem dX12_oldPlace_33 : decode cX12_oldPlace 33 = .ok (.iconst 2, 1) := by decide +kernel
theorem dX12_oldPlace_34 : decode cX12_oldPlace 34 = .ok (.invokevirtual 299, 3) := by decide +kernel
theorem dX12_oldPlace_37 : decode cX12_oldPlace 37 = .ok (.goto 12, 3) := by decide +kernel
theorem dX12_oldPlace_40 : decode cX12_oldPlace 40 = .ok (.iload_n 1, 1) := by decide +kernel
theorem dX12_oldPlace_41 : decode cX12_oldPlace 41 = .ok (.ifCond .ge 8, 3) := by decide +kernel
theorem dX12_oldPlace_44 : decode cX12_oldPlace 44 = .ok (.aload_n 0, 1) := by decide +kernel
theorem dX12_oldPlace_45 : decode cX12_oldPlace 45 = .ok (.iconst 5, 1) := by decide +kernel
theorem dX12_oldPlace_46 : decode cX12_oldPlace 46 = .ok (.invokevirtual 299, 3) := by decide +kernel
theorem dX12_oldPlace_49 : decode cX12_oldPlace 49 = .ok (.aload_n 0, 1) := by decide +kernel
theorem dX12_oldPlace_50 : decode cX12_oldPlace 50 = .ok (.getfield 236, 3) := by decide +kernel
theorem dX12_oldPlace_53 : decode cX12_oldPlace 53 = .ok (.ifCond .ne 7, 3) := by decide +kernel
theorem dX12_oldPlace_56 : decode cX12_oldPlace 56 = .ok (.aload_n 0, 1) := by decide +kernel
theorem dX12_oldPlace_57 : decode cX12_oldPlace 57 = .ok (.invokevirtual 302, 3) := by decide +kernel
theorem dX12_oldPlace_60 : decode cX12_oldPlace 60 = .ok (.iload_n 1, 1) := by decide +kernel
theorem dX12_oldPlace_61 : decode cX12_oldPlace 61 = .ok (.ireturn, 1) := by decide +kernel
theorem dX12_atPlace_0 : decode cX12_atPlace 0 = .ok (.aload_n 0, 1) := by decide +kernel
theorem dX12_atPlace_1 : decode cX12_atPlace 1 = .ok (.ldc2_w 249, 3) := by decide +kernel
theorem dX12_atPlace_4 : decode cX12_atPlace 4 = .ok (.invokevirtual 305, 3) := by decide +kernel
theorem dX12_atPlace_7 : decode cX12_atPlace 7 = .ok (.aload_n 0, 1) := by decide +kernel
theorem dX12_atPlace_8 : decode cX12_atPlace 8 = .ok (.invokevirtual 374, 3) := by decide +kernel
theorem dX12_atPlace_11 : decode cX12_atPlace 11 = .ok (.ireturn, 1) := by decide +kernel
theorem dX12_readPlace_0 : decode cX12_readPlace 0 = .ok (.aload_n 0, 1) := by decide +kernel
theorem dX12_readPlace_1 : decode cX12_readPlace 1 = .ok (.aload_n 0, 1) := by decide +kernel
theorem dX12_readPlace_2 : decode cX12_readPlace 2 = .ok (.getfield 44, 3) := by decide +kernel
theorem dX12_readPlace_5 : decode cX12_readPlace 5 = .ok (.aload_n 0, 1) := by decide +kernel
theorem dX12_readPlace_6 : decode cX12_readPlace 6 = .ok (.getfield 371, 3) := by decide +kernel
theorem dX12_readPlace_9 : decode cX12_readPlace 9 = .ok (.invokevirtual 377, 3) := by decide +kernel
theorem dX12_readPlace_12 : decode cX12_readPlace 12 = .ok (.lstore_n 1, 1) := by decide +kernel
theorem dX12_readPlace_13 : decode cX12_readPlace 13 = .ok (.aload_n 0, 1) := by decide +kernel
theorem dX12_readPlace_14 : decode cX12_readPlace 14 = .ok (.ldc2_w 241, 3) := by decide +kernel
theorem dX12_readPlace_17 : decode cX12_readPlace 17 = .ok (.iconst 0, 1) := by decide +kernel
theorem dX12_readPlace_18 : decode cX12_readPlace 18 = .ok (.bipush 59, 2) := by decide +kernel
theorem dX12_readPlace_20 : decode cX12_readPlace 20 = .ok (.invokevirtual 381, 3) := by decide +kernel
theorem dX12_readPlace_23 : decode cX12_readPlace 23 = .ok (.istore_n 3, 1) := by decide +kernel
theorem dX12_readPlace_24 : decode cX12_readPlace 24 = .ok (.aload_n 0, 1) := by decide +kernel
theorem dX12_readPlace_25 : decode cX12_readPlace 25 = .ok (.getfield 236, 3) := by decide +kernel
theorem dX12_readPlace_28 : decode cX12_readPlace 28 = .ok (.ifCond .le 4, 3) := by decide +kernel
theorem dX12_readPlace_31 : decode cX12_readPlace 31 = .ok (.return_, 1) := by decide +kernel
theorem dX12_readPlace_32 : decode cX12_readPlace 32 = .ok (.aload_n 0, 1) := by decide +kernel
theorem dX12_readPlace_33 : decode cX12_readPlace 33 = .ok (.getfield 44, 3) := by decide +kernel
theorem dX12_readPlace_36 : decode cX12_readPlace 36 = .ok (.aload_n 0, 1) := by decide +kernel
theorem dX12_readPlace_37 : decode cX12_readPlace 37 = .ok (.getfield 371, 3) := by decide +kernel
theorem dX12_readPlace_40 : decode cX12_readPlace 40 = .ok (.lload_n 1, 1) := by decide +kernel
theorem dX12_readPlace_41 : decode cX12_readPlace 41 = .ok (.lastore, 1) := by decide +kernel
theorem dX12_readPlace_42 : decode cX12_readPlace 42 = .ok (.aload_n 0, 1) := by decide +kernel
theorem dX12_readPlace_43 : decode cX12_readPlace 43 = .ok (.getfield 54, 3) := by decide +kernel
theorem dX12_readPlace_46 : decode cX12_readPlace 46 = .ok (.aload_n 0, 1) := by decide +kernel
theorem dX12_readPlace_47 : decode cX12_readPlace 47 = .ok (.getfield 371, 3) := by decide +kernel
theorem dX12_readPlace_50 : decode cX12_readPlace 50 = .ok (.iload_n 3, 1) := by decide +kernel
theorem dX12_readPlace_51 : decode cX12_readPlace 51 = .ok (.iastore, 1) := by decide +kernel
theorem dX12_readPlace_52 : decode cX12_readPlace 52 = .ok (.aload_n 0, 1) := by decide +kernel
theorem dX12_readPlace_53 : decode cX12_readPlace 53 = .ok (.dup, 1) := by decide +kernel
theorem dX12_readPlace_54 : decode cX12_readPlace 54 = .ok (.getfield 371, 3) := by decide +kernel
theorem dX12_readPlace_57 : decode cX12_readPlace 57 = .ok (.iconst 1, 1) := by decide +kernel
theorem dX12_readPlace_58 : decode cX12_readPlace 58 = .ok (.iadd, 1) := by decide +kernel
theorem dX12_readPlace_59 : decode cX12_readPlace 59 = .ok (.putfield 371, 3) := by decide +kernel
theorem dX12_readPlace_62 : decode cX12_readPlace 62 = .ok (.return_, 1) := by decide +kernel
theorem dX12_readRoad_0 : decode cX12_readRoad 0 = .ok (.aload_n 0, 1) := by decide +kernel
theorem dX12_readRoad_1 : decode cX12_readRoad 1 = .ok (.invokevirtual 302, 3) := by decide +kernel
theorem dX12_readRoad_4 : decode cX12_readRoad 4 = .ok (.aload_n 0, 1) := by decide +kernel
theorem dX12_readRoad_5 : decode cX12_readRoad 5 = .ok (.invokevirtual 374, 3) := by decide +kernel
theorem dX12_readRoad_8 : decode cX12_readRoad 8 = .ok (.istore_n 1, 1) := by decide +kernel
theorem dX12_readRoad_9 : decode cX12_readRoad 9 = .ok (.aload_n 0, 1) := by decide +kernel
theorem dX12_readRoad_10 : decode cX12_readRoad 10 = .ok (.getfield 236, 3) := by decide +kernel
theorem dX12_readRoad_13 : decode cX12_readRoad 13 = .ok (.ifCond .le 4, 3) := by decide +kernel
theorem dX12_readRoad_16 : decode cX12_readRoad 16 = .ok (.return_, 1) := by decide +kernel
theorem dX12_readRoad_17 : decode cX12_readRoad 17 = .ok (.aload_n 0, 1) := by decide +kernel
theorem dX12_readRoad_18 : decode cX12_readRoad 18 = .ok (.getfield 44, 3) := by decide +kernel
theorem dX12_readRoad_21 : decode cX12_readRoad 21 = .ok (.aload_n 0, 1) := by decide +kernel
theorem dX12_readRoad_22 : decode cX12_readRoad 22 = .ok (.getfield 371, 3) := by decide +kernel
theorem dX12_readRoad_25 : decode cX12_readRoad 25 = .ok (.aload_n 0, 1) := by decide +kernel
theorem dX12_readRoad_26 : decode cX12_readRoad 26 = .ok (.getfield 216, 3) := by decide +kernel
theorem dX12_readRoad_29 : decode cX12_readRoad 29 = .ok (.invokestatic 367, 3) := by decide +kernel
theorem dX12_readRoad_32 : decode cX12_readRoad 32 = .ok (.istore_n 2, 1) := by decide +kernel
theorem dX12_readRoad_33 : decode cX12_readRoad 33 = .ok (.aload_n 0, 1) := by decide +kernel
theorem dX12_readRoad_34 : decode cX12_readRoad 34 = .ok (.invokevirtual 364, 3) := by decide +kernel
theorem dX12_readRoad_37 : decode cX12_readRoad 37 = .ok (.ifCond .eq 34, 3) := by decide +kernel
theorem dX12_readRoad_40 : decode cX12_readRoad 40 = .ok (.iload_n 2, 1) := by decide +kernel
theorem dX12_readRoad_41 : decode cX12_readRoad 41 = .ok (.ifCond .lt 30, 3) := by decide +kernel
theorem dX12_readRoad_44 : decode cX12_readRoad 44 = .ok (.iload_n 1, 1) := by decide +kernel
theorem dX12_readRoad_45 : decode cX12_readRoad 45 = .ok (.iload_n 2, 1) := by decide +kernel
theorem dX12_readRoad_46 : decode cX12_readRoad 46 = .ok (.if_icmp .eq 20, 3) := by decide +kernel
theorem dX12_readRoad_49 : decode cX12_readRoad 49 = .ok (.aload_n 0, 1) := by decide +kernel
theorem dX12_readRoad_50 : decode cX12_readRoad 50 = .ok (.getfield 57, 3) := by decide +kernel
theorem dX12_readRoad_53 : decode cX12_readRoad 53 = .ok (.bipush 8, 2) := by decide +kernel
theorem dX12_readRoad_55 : decode cX12_readRoad 55 = .ok (.iload_n 1, 1) := by decide +kernel
theorem dX12_readRoad_56 : decode cX12_readRoad 56 = .ok (.imul, 1) := by decide +kernel
theorem dX12_readRoad_57 : decode cX12_readRoad 57 = .ok (.iload_n 2, 1) := by decide +kernel
theorem dX12_readRoad_58 : decode cX12_readRoad 58 = .ok (.iadd, 1) := by decide +kernel
theorem dX12_readRoad_59 : decode cX12_readRoad 59 = .ok (.iaload, 1) := by decide +kernel
theorem dX12_readRoad_60 : decode cX12_readRoad 60 = .ok (.sipush 999, 3) := by decide +kernel
theorem dX12_readRoad_63 : decode cX12_readRoad 63 = .ok (.if_icmp .ge 8, 3) := by decide +kernel
theorem dX12_readRoad_66 : decode cX12_readRoad 66 = .ok (.aload_n 0, 1) := by decide +kernel
theorem dX12_readRoad_67 : decode cX12_readRoad 67 = .ok (.iconst 3, 1) := by decide +kernel
theorem dX12_readRoad_68 : decode cX12_readRoad 68 = .ok (.invokevirtual 299, 3) := by decide +kernel
theorem dX12_readRoad_71 : decode cX12_readRoad 71 = .ok (.aload_n 0, 1) := by decide +kernel
theorem dX12_readRoad_72 : decode cX12_readRoad 72 = .ok (.invokevirtual 374, 3) := by decide +kernel
theorem dX12_readRoad_75 : decode cX12_readRoad 75 = .ok (.istore_n 2, 1) := by decide +kernel
theorem dX12_readRoad_76 : decode cX12_readRoad 76 = .ok (.aload_n 0, 1) := by decide +kernel
theorem dX12_readRoad_77 : decode cX12_readRoad 77 = .ok (.ldc2_w 245, 3) := by decide +kernel
theorem dX12_readRoad_80 : decode cX12_readRoad 80 = .ok (.iconst 1, 1) := by decide +kernel
theorem dX12_readRoad_81 : decode cX12_readRoad 81 = .ok (.bipush 99, 2) := by decide +kernel
theorem dX12_readRoad_83 : decode cX12_readRoad 83 = .ok (.invokevirtual 381, 3) := by decide +kernel
theorem dX12_readRoad_86 : decode cX12_readRoad 86 = .ok (.istore_n 3, 1) := by decide +kernel
theorem dX12_readRoad_87 : decode cX12_readRoad 87 = .ok (.aload_n 0, 1) := by decide +kernel
theorem dX12_readRoad_88 : decode cX12_readRoad 88 = .ok (.getfield 236, 3) := by decide +kernel
theorem dX12_readRoad_91 : decode cX12_readRoad 91 = .ok (.ifCond .le 4, 3) := by decide +kernel
theorem dX12_readRoad_94 : decode cX12_readRoad 94 = .ok (.return_, 1) := by decide +kernel
theorem dX12_readRoad_95 : decode cX12_readRoad 95 = .ok (.aload_n 0, 1) := by decide +kernel
theorem dX12_readRoad_96 : decode cX12_readRoad 96 = .ok (.getfield 57, 3) := by decide +kernel
theorem dX12_readRoad_99 : decode cX12_readRoad 99 = .ok (.bipush 8, 2) := by decide +kernel
theorem dX12_readRoad_101 : decode cX12_readRoad 101 = .ok (.iload_n 1, 1) := by decide +kernel
theorem dX12_readRoad_102 : decode cX12_readRoad 102 = .ok (.imul, 1) := by decide +kernel
theorem dX12_readRoad_103 : decode cX12_readRoad 103 = .ok (.iload_n 2, 1) := by decide +kernel
theorem dX12_readRoad_104 : decode cX12_readRoad 104 = .ok (.iadd, 1) := by decide +kernel
theorem dX12_readRoad_105 : decode cX12_readRoad 105 = .ok (.iload_n 3, 1) := by decide +kernel
theorem dX12_readRoad_106 : decode cX12_readRoad 106 = .ok (.iastore, 1) := by decide +kernel
theorem dX12_readRoad_107 : decode cX12_readRoad 107 = .ok (.aload_n 0, 1) := by decide +kernel
theorem dX12_readRoad_108 : decode cX12_readRoad 108 = .ok (.getfield 57, 3) := by decide +kernel
theorem dX12_readRoad_111 : decode cX12_readRoad 111 = .ok (.bipush 8, 2) := by decide +kernel
theorem dX12_readRoad_113 : decode cX12_readRoad 113 = .ok (.iload_n 2, 1) := by decide +kernel
theorem dX12_readRoad_114 : decode cX12_readRoad 114 = .ok (.imul, 1) := by decide +kernel
theorem dX12_readRoad_115 : decode cX12_readRoad 115 = .ok (.iload_n 1, 1) := by decide +kernel
theorem dX12_readRoad_116 : decode cX12_readRoad 116 = .ok (.iadd, 1) := by decide +kernel
theorem dX12_readRoad_117 : decode cX12_readRoad 117 = .ok (.iload_n 3, 1) := by decide +kernel
theorem dX12_readRoad_118 : decode cX12_readRoad 118 = .ok (.iastore, 1) := by decide +kernel
theorem dX12_readRoad_119 : decode cX12_readRoad 119 = .ok (.aload_n 0, 1) := by decide +kernel
theorem dX12_readRoad_120 : decode cX12_readRoad 120 = .ok (.dup, 1) := by decide +kernel
theorem dX12_readRoad_121 : decode cX12_readRoad 121 = .ok (.getfield 385, 3) := by decide +kernel
theorem dX12_readRoad_124 : decode cX12_readRoad 124 = .ok (.iconst 1, 1) := by decide +kernel
theorem dX12_readRoad_125 : decode cX12_readRoad 125 = .ok (.iadd, 1) := by decide +kernel
theorem dX12_readRoad_126 : decode cX12_readRoad 126 = .ok (.putfield 385, 3) := by decide +kernel
theorem dX12_readRoad_129 : decode cX12_readRoad 129 = .ok (.return_, 1) := by decide +kernel
theorem dX12_readThing_0 : decode cX12_readThing 0 = .ok (.iconst 5, 1) := by decide +kernel
theorem dX12_readThing_1 : decode cX12_readThing 1 = .ok (.aload_n 0, 1) := by decide +kernel
theorem dX12_readThing_2 : decode cX12_readThing 2 = .ok (.getfield 388, 3) := by decide +kernel
theorem dX12_readThing_5 : decode cX12_readThing 5 = .ok (.imul, 1) := by decide +kernel
theorem dX12_readThing_6 : decode cX12_readThing 6 = .ok (.istore_n 1, 1) := by decide +kernel
theorem dX12_readThing_7 : decode cX12_readThing 7 = .ok (.aload_n 0, 1) := by decide +kernel
theorem dX12_readThing_8 : decode cX12_readThing 8 = .ok (.aload_n 0, 1) := by decide +kernel
theorem dX12_readThing_9 : decode cX12_readThing 9 = .ok (.getfield 48, 3) := by decide +kernel
theorem dX12_readThing_12 : decode cX12_readThing 12 = .ok (.aload_n 0, 1) := by decide +kernel
theorem dX12_readThing_13 : decode cX12_readThing 13 = .ok (.getfield 388, 3) := by decide +kernel
theorem dX12_readThing_16 : decode cX12_readThing 16 = .ok (.invokevirtual 377, 3) := by decide +kernel
theorem dX12_readThing_19 : decode cX12_readThing 19 = .ok (.lstore_n 2, 1) := by decide +kernel
theorem dX12_readThing_20 : decode cX12_readThing 20 = .ok (.aload_n 0, 1) := by decide +kernel
theorem dX12_readThing_21 : decode cX12_readThing 21 = .ok (.invokevirtual 391, 3) := by decide +kernel
theorem dX12_readThing_24 : decode cX12_readThing 24 = .ok (.istore 4, 2) := by decide +kernel
theorem dX12_readThing_26 : decode cX12_readThing 26 = .ok (.aload_n 0, 1) := by decide +kernel
theorem dX12_readThing_27 : decode cX12_readThing 27 = .ok (.ldc2_w 251, 3) := by decide +kernel
theorem dX12_readThing_30 : decode cX12_readThing 30 = .ok (.iconst 0, 1) := by decide +kernel
theorem dX12_readThing_31 : decode cX12_readThing 31 = .ok (.bipush 99, 2) := by decide +kernel
theorem dX12_readThing_33 : decode cX12_readThing 33 = .ok (.invokevirtual 381, 3) := by decide +kernel
theorem dX12_readThing_36 : decode cX12_readThing 36 = .ok (.istore 5, 2) := by decide +kernel
theorem dX12_readThing_38 : decode cX12_readThing 38 = .ok (.aload_n 0, 1) := by decide +kernel
theorem dX12_readThing_39 : decode cX12_readThing 39 = .ok (.ldc2_w 253, 3) := by decide +kernel
theorem dX12_readThing_42 : decode cX12_readThing 42 = .ok (.iconst 0, 1) := by decide +kernel
theorem dX12_readThing_43 : decode cX12_readThing 43 = .ok (.bipush 20, 2) := by decide +kernel
theorem dX12_readThing_45 : decode cX12_readThing 45 = .ok (.invokevirtual 381, 3) := by decide +kernel
theorem dX12_readThing_48 : decode cX12_readThing 48 = .ok (.istore 6, 2) := by decide +kernel
theorem dX12_readThing_50 : decode cX12_readThing 50 = .ok (.aload_n 0, 1) := by decide +kernel
theorem dX12_readThing_51 : decode cX12_readThing 51 = .ok (.ldc2_w 255, 3) := by decide +kernel
theorem dX12_readThing_54 : decode cX12_readThing 54 = .ok (.iconst 0, 1) := by decide +kernel
theorem dX12_readThing_55 : decode cX12_readThing 55 = .ok (.bipush 99, 2) := by decide +kernel
theorem dX12_readThing_57 : decode cX12_readThing 57 = .ok (.invokevirtual 381, 3) := by decide +kernel
theorem dX12_readThing_60 : decode cX12_readThing 60 = .ok (.istore 7, 2) := by decide +kernel
theorem dX12_readThing_62 : decode cX12_readThing 62 = .ok (.aload_n 0, 1) := by decide +kernel
theorem dX12_readThing_63 : decode cX12_readThing 63 = .ok (.getfield 236, 3) := by decide +kernel
theorem dX12_readThing_66 : decode cX12_readThing 66 = .ok (.ifCond .le 4, 3) := by decide +kernel
theorem dX12_readThing_69 : decode cX12_readThing 69 = .ok (.return_, 1) := by decide +kernel
theorem dX12_readThing_70 : decode cX12_readThing 70 = .ok (.aload_n 0, 1) := by decide +kernel
theorem dX12_readThing_71 : decode cX12_readThing 71 = .ok (.getfield 60, 3) := by decide +kernel
theorem dX12_readThing_74 : decode cX12_readThing 74 = .ok (.iload_n 1, 1) := by decide +kernel
theorem dX12_readThing_75 : decode cX12_readThing 75 = .ok (.iconst 4, 1) := by decide +kernel
theorem dX12_readThing_76 : decode cX12_readThing 76 = .ok (.iadd, 1) := by decide +kernel
theorem dX12_readThing_77 : decode cX12_readThing 77 = .ok (.aload_n 0, 1) := by decide +kernel
theorem dX12_readThing_78 : decode cX12_readThing 78 = .ok (.ldc2_w 257, 3) := by decide +kernel
theorem dX12_readThing_81 : decode cX12_readThing 81 = .ok (.invokevirtual 295, 3) := by decide +kernel
theorem dX12_readThing_84 : decode cX12_readThing 84 = .ok (.ifCond .eq 7, 3) := by decide +kernel
theorem dX12_readThing_87 : decode cX12_readThing 87 = .ok (.iconst 1, 1) := by decide +kernel
theorem dX12_readThing_88 : decode cX12_readThing 88 = .ok (.goto 4, 3) := by decide +kernel
theorem dX12_readThing_91 : decode cX12_readThing 91 = .ok (.iconst 0, 1) := by decide +kernel
theorem dX12_readThing_92 : decode cX12_readThing 92 = .ok (.iastore, 1) := by decide +kernel
theorem dX12_readThing_93 : decode cX12_readThing 93 = .ok (.aload_n 0, 1) := by decide +kernel
theorem dX12_readThing_94 : decode cX12_readThing 94 = .ok (.ldc2_w 257, 3) := by decide +kernel
theorem dX12_readThing_97 : decode cX12_readThing 97 = .ok (.invokevirtual 295, 3) := by decide +kernel
theorem dX12_readThing_100 : decode cX12_readThing 100 = .ok (.ifCond .eq 7, 3) := by decide +kernel
theorem dX12_readThing_103 : decode cX12_readThing 103 = .ok (.aload_n 0, 1) := by decide +kernel
theorem dX12_readThing_104 : decode cX12_readThing 104 = .ok (.invokevirtual 302, 3) := by decide +kernel
theorem dX12_readThing_107 : decode cX12_readThing 107 = .ok (.aload_n 0, 1) := by decide +kernel
theorem dX12_readThing_108 : decode cX12_readThing 108 = .ok (.getfield 60, 3) := by decide +kernel
theorem dX12_readThing_111 : decode cX12_readThing 111 = .ok (.iload_n 1, 1) := by decide +kernel
theorem dX12_readThing_112 : decode cX12_readThing 112 = .ok (.iload 4, 2) := by decide +kernel
theorem dX12_readThing_114 : decode cX12_readThing 114 = .ok (.iastore, 1) := by decide +kernel
theorem dX12_readThing_115 : decode cX12_readThing 115 = .ok (.aload_n 0, 1) := by decide +kernel
theorem dX12_readThing_116 : decode cX12_readThing 116 = .ok (.getfield 60, 3) := by decide +kernel
theorem dX12_readThing_119 : decode cX12_readThing 119 = .ok (.iload_n 1, 1) := by decide +kernel
theorem dX12_readThing_120 : decode cX12_readThing 120 = .ok (.iconst 1, 1) := by decide +kernel
theorem dX12_readThing_121 : decode cX12_readThing 121 = .ok (.iadd, 1) := by decide +kernel
theorem dX12_readThing_122 : decode cX12_readThing 122 = .ok (.iload 5, 2) := by decide +kernel
theorem dX12_readThing_124 : decode cX12_readThing 124 = .ok (.iastore, 1) := by decide +kernel
theorem dX12_readThing_125 : decode cX12_readThing 125 = .ok (.aload_n 0, 1) := by decide +kernel
theorem dX12_readThing_126 : decode cX12_readThing 126 = .ok (.getfield 60, 3) := by decide +kernel
theorem dX12_readThing_129 : decode cX12_readThing 129 = .ok (.iload_n 1, 1) := by decide +kernel
theorem dX12_readThing_130 : decode cX12_readThing 130 = .ok (.iconst 2, 1) := by decide +kernel
theorem dX12_readThing_131 : decode cX12_readThing 131 = .ok (.iadd, 1) := by decide +kernel
theorem dX12_readThing_132 : decode cX12_readThing 132 = .ok (.iload 6, 2) := by decide +kernel
theorem dX12_readThing_134 : decode cX12_readThing 134 = .ok (.iastore, 1) := by decide +kernel
theorem dX12_readThing_135 : decode cX12_readThing 135 = .ok (.aload_n 0, 1) := by decide +kernel
theorem dX12_readThing_136 : decode cX12_readThing 136 = .ok (.getfield 60, 3) := by decide +kernel
theorem dX12_readThing_139 : decode cX12_readThing 139 = .ok (.iload_n 1, 1) := by decide +kernel
theorem dX12_readThing_140 : decode cX12_readThing 140 = .ok (.iconst 3, 1) := by decide +kernel
theorem dX12_readThing_141 : decode cX12_readThing 141 = .ok (.iadd, 1) := by decide +kernel
theorem dX12_readThing_142 : decode cX12_readThing 142 = .ok (.iload 7, 2) := by decide +kernel
theorem dX12_readThing_144 : decode cX12_readThing 144 = .ok (.iastore, 1) := by decide +kernel
theorem dX12_readThing_145 : decode cX12_readThing 145 = .ok (.aload_n 0, 1) := by decide +kernel
theorem dX12_readThing_146 : decode cX12_readThing 146 = .ok (.getfield 48, 3) := by decide +kernel
theorem dX12_readThing_149 : decode cX12_readThing 149 = .ok (.aload_n 0, 1) := by decide +kernel
theorem dX12_readThing_150 : decode cX12_readThing 150 = .ok (.getfield 388, 3) := by decide +kernel
theorem dX12_readThing_153 : decode cX12_readThing 153 = .ok (.lload_n 2, 1) := by decide +kernel
theorem dX12_readThing_154 : decode cX12_readThing 154 = .ok (.lastore, 1) := by decide +kernel
theorem dX12_readThing_155 : decode cX12_readThing 155 = .ok (.aload_n 0, 1) := by decide +kernel
theorem dX12_readThing_156 : decode cX12_readThing 156 = .ok (.dup, 1) := by decide +kernel
theorem dX12_readThing_157 : decode cX12_readThing 157 = .ok (.getfield 388, 3) := by decide +kernel
theorem dX12_readThing_160 : decode cX12_readThing 160 = .ok (.iconst 1, 1) := by decide +kernel
theorem dX12_readThing_161 : decode cX12_readThing 161 = .ok (.iadd, 1) := by decide +kernel
theorem dX12_readThing_162 : decode cX12_readThing 162 = .ok (.putfield 388, 3) := by decide +kernel
theorem dX12_readThing_165 : decode cX12_readThing 165 = .ok (.return_, 1) := by decide +kernel
theorem dX12_readPerson_0 : decode cX12_readPerson 0 = .ok (.iconst 4, 1) := by decide +kernel
theorem dX12_readPerson_1 : decode cX12_readPerson 1 = .ok (.aload_n 0, 1) := by decide +kernel
theorem dX12_readPerson_2 : decode cX12_readPerson 2 = .ok (.getfield 355, 3) := by decide +kernel
theorem dX12_readPerson_5 : decode cX12_readPerson 5 = .ok (.imul, 1) := by decide +kernel
theorem dX12_readPerson_6 : decode cX12_readPerson 6 = .ok (.istore_n 1, 1) := by decide +kernel
theorem dX12_readPerson_7 : decode cX12_readPerson 7 = .ok (.aload_n 0, 1) := by decide +kernel
theorem dX12_readPerson_8 : decode cX12_readPerson 8 = .ok (.aload_n 0, 1) := by decide +kernel
theorem dX12_readPerson_9 : decode cX12_readPerson 9 = .ok (.getfield 51, 3) := by decide +kernel
theorem dX12_readPerson_12 : decode cX12_readPerson 12 = .ok (.aload_n 0, 1) := by decide +kernel
theorem dX12_readPerson_13 : decode cX12_readPerson 13 = .ok (.getfield 355, 3) := by decide +kernel
theorem dX12_readPerson_16 : decode cX12_readPerson 16 = .ok (.invokevirtual 377, 3) := by decide +kernel
theorem dX12_readPerson_19 : decode cX12_readPerson 19 = .ok (.lstore_n 2, 1) := by decide +kernel
theorem dX12_readPerson_20 : decode cX12_readPerson 20 = .ok (.aload_n 0, 1) := by decide +kernel
theorem dX12_readPerson_21 : decode cX12_readPerson 21 = .ok (.invokevirtual 391, 3) := by decide +kernel
theorem dX12_readPerson_24 : decode cX12_readPerson 24 = .ok (.istore 4, 2) := by decide +kernel
theorem dX12_readPerson_26 : decode cX12_readPerson 26 = .ok (.aload_n 0, 1) := by decide +kernel
theorem dX12_readPerson_27 : decode cX12_readPerson 27 = .ok (.ldc2_w 261, 3) := by decide +kernel
theorem dX12_readPerson_30 : decode cX12_readPerson 30 = .ok (.iconst 0, 1) := by decide +kernel
theorem dX12_readPerson_31 : decode cX12_readPerson 31 = .ok (.bipush 9, 2) := by decide +kernel
theorem dX12_readPerson_33 : decode cX12_readPerson 33 = .ok (.invokevirtual 381, 3) := by decide +kernel
theorem dX12_readPerson_36 : decode cX12_readPerson 36 = .ok (.istore 5, 2) := by decide +kernel
theorem dX12_readPerson_38 : decode cX12_readPerson 38 = .ok (.aload_n 0, 1) := by decide +kernel
theorem dX12_readPerson_39 : decode cX12_readPerson 39 = .ok (.ldc2_w 263, 3) := by decide +kernel
theorem dX12_readPerson_42 : decode cX12_readPerson 42 = .ok (.iconst 0, 1) := by decide +kernel
theorem dX12_readPerson_43 : decode cX12_readPerson 43 = .ok (.bipush 99, 2) := by decide +kernel
theorem dX12_readPerson_45 : decode cX12_readPerson 45 = .ok (.invokevirtual 381, 3) := by decide +kernel
theorem dX12_readPerson_48 : decode cX12_readPerson 48 = .ok (.istore 6, 2) := by decide +kernel
theorem dX12_readPerson_50 : decode cX12_readPerson 50 = .ok (.aload_n 0, 1) := by decide +kernel
theorem dX12_readPerson_51 : decode cX12_readPerson 51 = .ok (.ldc2_w 265, 3) := by decide +kernel
theorem dX12_readPerson_54 : decode cX12_readPerson 54 = .ok (.iconst 0, 1) := by decide +kernel
theorem dX12_readPerson_55 : decode cX12_readPerson 55 = .ok (.bipush 9, 2) := by decide +kernel
theorem dX12_readPerson_57 : decode cX12_readPerson 57 = .ok (.invokevirtual 381, 3) := by decide +kernel
theorem dX12_readPerson_60 : decode cX12_readPerson 60 = .ok (.istore 7, 2) := by decide +kernel
theorem dX12_readPerson_62 : decode cX12_readPerson 62 = .ok (.aload_n 0, 1) := by decide +kernel
theorem dX12_readPerson_63 : decode cX12_readPerson 63 = .ok (.invokevirtual 394, 3) := by decide +kernel
theorem dX12_readPerson_66 : decode cX12_readPerson 66 = .ok (.aload_n 0, 1) := by decide +kernel
theorem dX12_readPerson_67 : decode cX12_readPerson 67 = .ok (.getfield 236, 3) := by decide +kernel
theorem dX12_readPerson_70 : decode cX12_readPerson 70 = .ok (.ifCond .le 4, 3) := by decide +kernel
theorem dX12_readPerson_73 : decode cX12_readPerson 73 = .ok (.return_, 1) := by decide +kernel
theorem dX12_readPerson_74 : decode cX12_readPerson 74 = .ok (.aload_n 0, 1) := by decide +kernel
theorem dX12_readPerson_75 : decode cX12_readPerson 75 = .ok (.getfield 63, 3) := by decide +kernel
theorem dX12_readPerson_78 : decode cX12_readPerson 78 = .ok (.iload_n 1, 1) := by decide +kernel
theorem dX12_readPerson_79 : decode cX12_readPerson 79 = .ok (.iload 4, 2) := by decide +kernel
theorem dX12_readPerson_81 : decode cX12_readPerson 81 = .ok (.iastore, 1) := by decide +kernel
theorem dX12_readPerson_82 : decode cX12_readPerson 82 = .ok (.aload_n 0, 1) := by decide +kernel
theorem dX12_readPerson_83 : decode cX12_readPerson 83 = .ok (.getfield 63, 3) := by decide +kernel
theorem dX12_readPerson_86 : decode cX12_readPerson 86 = .ok (.iload_n 1, 1) := by decide +kernel
theorem dX12_readPerson_87 : decode cX12_readPerson 87 = .ok (.iconst 1, 1) := by decide +kernel
theorem dX12_readPerson_88 : decode cX12_readPerson 88 = .ok (.iadd, 1) := by decide +kernel
theorem dX12_readPerson_89 : decode cX12_readPerson 89 = .ok (.iload 5, 2) := by decide +kernel
theorem dX12_readPerson_91 : decode cX12_readPerson 91 = .ok (.iastore, 1) := by decide +kernel
theorem dX12_readPerson_92 : decode cX12_readPerson 92 = .ok (.aload_n 0, 1) := by decide +kernel
theorem dX12_readPerson_93 : decode cX12_readPerson 93 = .ok (.getfield 63, 3) := by decide +kernel
theorem dX12_readPerson_96 : decode cX12_readPerson 96 = .ok (.iload_n 1, 1) := by decide +kernel
theorem dX12_readPerson_97 : decode cX12_readPerson 97 = .ok (.iconst 2, 1) := by decide +kernel
theorem dX12_readPerson_98 : decode cX12_readPerson 98 = .ok (.iadd, 1) := by decide +kernel
theorem dX12_readPerson_99 : decode cX12_readPerson 99 = .ok (.iload 6, 2) := by decide +kernel
theorem dX12_readPerson_101 : decode cX12_readPerson 101 = .ok (.iastore, 1) := by decide +kernel
theorem dX12_readPerson_102 : decode cX12_readPerson 102 = .ok (.aload_n 0, 1) := by decide +kernel
theorem dX12_readPerson_103 : decode cX12_readPerson 103 = .ok (.getfield 63, 3) := by decide +kernel
theorem dX12_readPerson_106 : decode cX12_readPerson 106 = .ok (.iload_n 1, 1) := by decide +kernel
theorem dX12_readPerson_107 : decode cX12_readPerson 107 = .ok (.iconst 3, 1) := by decide +kernel
theorem dX12_readPerson_108 : decode cX12_readPerson 108 = .ok (.iadd, 1) := by decide +kernel
theorem dX12_readPerson_109 : decode cX12_readPerson 109 = .ok (.iload 7, 2) := by decide +kernel
theorem dX12_readPerson_111 : decode cX12_readPerson 111 = .ok (.iastore, 1) := by decide +kernel
theorem dX12_readPerson_112 : decode cX12_readPerson 112 = .ok (.aload_n 0, 1) := by decide +kernel
theorem dX12_readPerson_113 : decode cX12_readPerson 113 = .ok (.getfield 51, 3) := by decide +kernel
theorem dX12_readPerson_116 : decode cX12_readPerson 116 = .ok (.aload_n 0, 1) := by decide +kernel
theorem dX12_readPerson_117 : decode cX12_readPerson 117 = .ok (.getfield 355, 3) := by decide +kernel
theorem dX12_readPerson_120 : decode cX12_readPerson 120 = .ok (.lload_n 2, 1) := by decide +kernel
theorem dX12_readPerson_121 : decode cX12_readPerson 121 = .ok (.lastore, 1) := by decide +kernel
theorem dX12_readPerson_122 : decode cX12_readPerson 122 = .ok (.aload_n 0, 1) := by decide +kernel
theorem dX12_readPerson_123 : decode cX12_readPerson 123 = .ok (.dup, 1) := by decide +kernel
theorem dX12_readPerson_124 : decode cX12_readPerson 124 = .ok (.getfield 355, 3) := by decide +kernel
theorem dX12_readPerson_127 : decode cX12_readPerson 127 = .ok (.iconst 1, 1) := by decide +kernel
theorem dX12_readPerson_128 : decode cX12_readPerson 128 = .ok (.iadd, 1) := by decide +kernel
theorem dX12_readPerson_129 : decode cX12_readPerson 129 = .ok (.putfield 355, 3) := by decide +kernel
theorem dX12_readPerson_132 : decode cX12_readPerson 132 = .ok (.aload_n 0, 1) := by decide +kernel
theorem dX12_readPerson_133 : decode cX12_readPerson 133 = .ok (.getfield 23, 3) := by decide +kernel
theorem dX12_readPerson_136 : decode cX12_readPerson 136 = .ok (.aload_n 0, 1) := by decide +kernel
theorem dX12_readPerson_137 : decode cX12_readPerson 137 = .ok (.getfield 355, 3) := by decide +kernel
theorem dX12_readPerson_140 : decode cX12_readPerson 140 = .ok (.aload_n 0, 1) := by decide +kernel
theorem dX12_readPerson_141 : decode cX12_readPerson 141 = .ok (.getfield 313, 3) := by decide +kernel
theorem dX12_readPerson_144 : decode cX12_readPerson 144 = .ok (.iastore, 1) := by decide +kernel
theorem dX12_readPerson_145 : decode cX12_readPerson 145 = .ok (.return_, 1) := by decide +kernel
theorem dX12_readLaw_0 : decode cX12_readLaw 0 = .ok (.aload_n 0, 1) := by decide +kernel
theorem dX12_readLaw_1 : decode cX12_readLaw 1 = .ok (.invokevirtual 302, 3) := by decide +kernel
theorem dX12_readLaw_4 : decode cX12_readLaw 4 = .ok (.aload_n 0, 1) := by decide +kernel
theorem dX12_readLaw_5 : decode cX12_readLaw 5 = .ok (.iconst 1, 1) := by decide +kernel
theorem dX12_readLaw_6 : decode cX12_readLaw 6 = .ok (.putfield 397, 3) := by decide +kernel
theorem dX12_readLaw_9 : decode cX12_readLaw 9 = .ok (.aload_n 0, 1) := by decide +kernel
theorem dX12_readLaw_10 : decode cX12_readLaw 10 = .ok (.ldc2_w 271, 3) := by decide +kernel
theorem dX12_readLaw_13 : decode cX12_readLaw 13 = .ok (.invokevirtual 295, 3) := by decide +kernel
theorem dX12_readLaw_16 : decode cX12_readLaw 16 = .ok (.ifCond .ne 28, 3) := by decide +kernel
theorem dX12_readLaw_19 : decode cX12_readLaw 19 = .ok (.aload_n 0, 1) := by decide +kernel
theorem dX12_readLaw_20 : decode cX12_readLaw 20 = .ok (.ldc2_w 263, 3) := by decide +kernel
theorem dX12_readLaw_23 : decode cX12_readLaw 23 = .ok (.invokevirtual 295, 3) := by decide +kernel
theorem dX12_readLaw_26 : decode cX12_readLaw 26 = .ok (.ifCond .ne 18, 3) := by decide +kernel
theorem dX12_readLaw_29 : decode cX12_readLaw 29 = .ok (.aload_n 0, 1) := by decide +kernel
theorem dX12_readLaw_30 : decode cX12_readLaw 30 = .ok (.ldc2_w 273, 3) := by decide +kernel
theorem dX12_readLaw_33 : decode cX12_readLaw 33 = .ok (.invokevirtual 295, 3) := by decide +kernel
theorem dX12_readLaw_36 : decode cX12_readLaw 36 = .ok (.ifCond .ne 8, 3) := by decide +kernel
theorem dX12_readLaw_39 : decode cX12_readLaw 39 = .ok (.aload_n 0, 1) := by decide +kernel
theorem dX12_readLaw_40 : decode cX12_readLaw 40 = .ok (.iconst 2, 1) := by decide +kernel
theorem dX12_readLaw_41 : decode cX12_readLaw 41 = .ok (.invokevirtual 299, 3) := by decide +kernel
theorem dX12_readLaw_44 : decode cX12_readLaw 44 = .ok (.aload_n 0, 1) := by decide +kernel
theorem dX12_readLaw_45 : decode cX12_readLaw 45 = .ok (.aload_n 0, 1) := by decide +kernel
theorem dX12_readLaw_46 : decode cX12_readLaw 46 = .ok (.ldc2_w 263, 3) := by decide +kernel
theorem dX12_readLaw_49 : decode cX12_readLaw 49 = .ok (.invokevirtual 295, 3) := by decide +kernel
theorem dX12_readLaw_52 : decode cX12_readLaw 52 = .ok (.ifCond .eq 7, 3) := by decide +kernel
theorem dX12_readLaw_55 : decode cX12_readLaw 55 = .ok (.iconst 1, 1) := by decide +kernel
theorem dX12_readLaw_56 : decode cX12_readLaw 56 = .ok (.goto 18, 3) := by decide +kernel
theorem dX12_readLaw_59 : decode cX12_readLaw 59 = .ok (.aload_n 0, 1) := by decide +kernel
theorem dX12_readLaw_60 : decode cX12_readLaw 60 = .ok (.ldc2_w 273, 3) := by decide +kernel
theorem dX12_readLaw_63 : decode cX12_readLaw 63 = .ok (.invokevirtual 295, 3) := by decide +kernel
theorem dX12_readLaw_66 : decode cX12_readLaw 66 = .ok (.ifCond .eq 7, 3) := by decide +kernel
theorem dX12_readLaw_69 : decode cX12_readLaw 69 = .ok (.iconst 2, 1) := by decide +kernel
theorem dX12_readLaw_70 : decode cX12_readLaw 70 = .ok (.goto 4, 3) := by decide +kernel
theorem dX12_readLaw_73 : decode cX12_readLaw 73 = .ok (.iconst 0, 1) := by decide +kernel
theorem dX12_readLaw_74 : decode cX12_readLaw 74 = .ok (.putfield 401, 3) := by decide +kernel
theorem dX12_readLaw_77 : decode cX12_readLaw 77 = .ok (.aload_n 0, 1) := by decide +kernel
theorem dX12_readLaw_78 : decode cX12_readLaw 78 = .ok (.getfield 236, 3) := by decide +kernel
theorem dX12_readLaw_81 : decode cX12_readLaw 81 = .ok (.ifCond .ne 7, 3) := by decide +kernel
theorem dX12_readLaw_84 : decode cX12_readLaw 84 = .ok (.aload_n 0, 1) := by decide +kernel
theorem dX12_readLaw_85 : decode cX12_readLaw 85 = .ok (.invokevirtual 302, 3) := by decide +kernel
theorem dX12_readLaw_88 : decode cX12_readLaw 88 = .ok (.return_, 1) := by decide +kernel
theorem dX12_readLate_0 : decode cX12_readLate 0 = .ok (.aload_n 0, 1) := by decide +kernel
theorem dX12_readLate_1 : decode cX12_readLate 1 = .ok (.invokevirtual 302, 3) := by decide +kernel
theorem dX12_readLate_4 : decode cX12_readLate 4 = .ok (.aload_n 0, 1) := by decide +kernel
theorem dX12_readLate_5 : decode cX12_readLate 5 = .ok (.iconst 1, 1) := by decide +kernel
theorem dX12_readLate_6 : decode cX12_readLate 6 = .ok (.putfield 404, 3) := by decide +kernel
theorem dX12_readLate_9 : decode cX12_readLate 9 = .ok (.aload_n 0, 1) := by decide +kernel
theorem dX12_readLate_10 : decode cX12_readLate 10 = .ok (.aload_n 0, 1) := by decide +kernel
theorem dX12_readLate_11 : decode cX12_readLate 11 = .ok (.iconst 0, 1) := by decide +kernel
theorem dX12_readLate_12 : decode cX12_readLate 12 = .ok (.bipush 100, 2) := by decide +kernel
theorem dX12_readLate_14 : decode cX12_readLate 14 = .ok (.invokevirtual 309, 3) := by decide +kernel
theorem dX12_readLate_17 : decode cX12_readLate 17 = .ok (.putfield 407, 3) := by decide +kernel
theorem dX12_readLate_20 : decode cX12_readLate 20 = .ok (.return_, 1) := by decide +kernel
theorem dX12_readLine_0 : decode cX12_readLine 0 = .ok (.aload_n 0, 1) := by decide +kernel
theorem dX12_readLine_1 : decode cX12_readLine 1 = .ok (.ldc2_w 239, 3) := by decide +kernel
theorem dX12_readLine_4 : decode cX12_readLine 4 = .ok (.invokevirtual 295, 3) := by decide +kernel
theorem dX12_readLine_7 : decode cX12_readLine 7 = .ok (.ifCond .eq 19, 3) := by decide +kernel
theorem dX12_readLine_10 : decode cX12_readLine 10 = .ok (.aload_n 0, 1) := by decide +kernel
theorem dX12_readLine_11 : decode cX12_readLine 11 = .ok (.getfield 371, 3) := by decide +kernel
theorem dX12_readLine_14 : decode cX12_readLine 14 = .ok (.bipush 8, 2) := by decide +kernel
theorem dX12_readLine_16 : decode cX12_readLine 16 = .ok (.if_icmp .ge 10, 3) := by decide +kernel
theorem dX12_readLine_19 : decode cX12_readLine 19 = .ok (.aload_n 0, 1) := by decide +kernel
theorem dX12_readLine_20 : decode cX12_readLine 20 = .ok (.invokevirtual 410, 3) := by decide +kernel
theorem dX12_readLine_23 : decode cX12_readLine 23 = .ok (.goto 134, 3) := by decide +kernel
theorem dX12_readLine_26 : decode cX12_readLine 26 = .ok (.aload_n 0, 1) := by decide +kernel
theorem dX12_readLine_27 : decode cX12_readLine 27 = .ok (.ldc2_w 243, 3) := by decide +kernel
theorem dX12_readLine_30 : decode cX12_readLine 30 = .ok (.invokevirtual 295, 3) := by decide +kernel
theorem dX12_readLine_33 : decode cX12_readLine 33 = .ok (.ifCond .eq 19, 3) := by decide +kernel
theorem dX12_readLine_36 : decode cX12_readLine 36 = .ok (.aload_n 0, 1) := by decide +kernel
theorem dX12_readLine_37 : decode cX12_readLine 37 = .ok (.getfield 385, 3) := by decide +kernel
theorem dX12_readLine_40 : decode cX12_readLine 40 = .ok (.bipush 16, 2) := by decide +kernel
theorem dX12_readLine_42 : decode cX12_readLine 42 = .ok (.if_icmp .ge 10, 3) := by decide +kernel
theorem dX12_readLine_45 : decode cX12_readLine 45 = .ok (.aload_n 0, 1) := by decide +kernel
theorem dX12_readLine_46 : decode cX12_readLine 46 = .ok (.invokevirtual 413, 3) := by decide +kernel
theorem dX12_readLine_49 : decode cX12_readLine 49 = .ok (.goto 108, 3) := by decide +kernel
theorem dX12_readLine_52 : decode cX12_readLine 52 = .ok (.aload_n 0, 1) := by decide +kernel
theorem dX12_readLine_53 : decode cX12_readLine 53 = .ok (.ldc2_w 247, 3) := by decide +kernel
theorem dX12_readLine_56 : decode cX12_readLine 56 = .ok (.invokevirtual 295, 3) := by decide +kernel
theorem dX12_readLine_59 : decode cX12_readLine 59 = .ok (.ifCond .eq 19, 3) := by decide +kernel
theorem dX12_readLine_62 : decode cX12_readLine 62 = .ok (.aload_n 0, 1) := by decide +kernel
theorem dX12_readLine_63 : decode cX12_readLine 63 = .ok (.getfield 388, 3) := by decide +kernel
theorem dX12_readLine_66 : decode cX12_readLine 66 = .ok (.bipush 10, 2) := by decide +kernel
theorem dX12_readLine_68 : decode cX12_readLine 68 = .ok (.if_icmp .ge 10, 3) := by decide +kernel
theorem dX12_readLine_71 : decode cX12_readLine 71 = .ok (.aload_n 0, 1) := by decide +kernel
theorem dX12_readLine_72 : decode cX12_readLine 72 = .ok (.invokevirtual 416, 3) := by decide +kernel
theorem dX12_readLine_75 : decode cX12_readLine 75 = .ok (.goto 82, 3) := by decide +kernel
theorem dX12_readLine_78 : decode cX12_readLine 78 = .ok (.aload_n 0, 1) := by decide +kernel
theorem dX12_readLine_79 : decode cX12_readLine 79 = .ok (.ldc2_w 259, 3) := by decide +kernel
theorem dX12_readLine_82 : decode cX12_readLine 82 = .ok (.invokevirtual 295, 3) := by decide +kernel
theorem dX12_readLine_85 : decode cX12_readLine 85 = .ok (.ifCond .eq 19, 3) := by decide +kernel
theorem dX12_readLine_88 : decode cX12_readLine 88 = .ok (.aload_n 0, 1) := by decide +kernel
theorem dX12_readLine_89 : decode cX12_readLine 89 = .ok (.getfield 355, 3) := by decide +kernel
theorem dX12_readLine_92 : decode cX12_readLine 92 = .ok (.bipush 6, 2) := by decide +kernel
theorem dX12_readLine_94 : decode cX12_readLine 94 = .ok (.if_icmp .ge 10, 3) := by decide +kernel
theorem dX12_readLine_97 : decode cX12_readLine 97 = .ok (.aload_n 0, 1) := by decide +kernel
theorem dX12_readLine_98 : decode cX12_readLine 98 = .ok (.invokevirtual 419, 3) := by decide +kernel
theorem dX12_readLine_101 : decode cX12_readLine 101 = .ok (.goto 56, 3) := by decide +kernel
theorem dX12_readLine_104 : decode cX12_readLine 104 = .ok (.aload_n 0, 1) := by decide +kernel
theorem dX12_readLine_105 : decode cX12_readLine 105 = .ok (.ldc2_w 269, 3) := by decide +kernel
theorem dX12_readLine_108 : decode cX12_readLine 108 = .ok (.invokevirtual 295, 3) := by decide +kernel
theorem dX12_readLine_111 : decode cX12_readLine 111 = .ok (.ifCond .eq 17, 3) := by decide +kernel
theorem dX12_readLine_114 : decode cX12_readLine 114 = .ok (.aload_n 0, 1) := by decide +kernel
theorem dX12_readLine_115 : decode cX12_readLine 115 = .ok (.getfield 397, 3) := by decide +kernel
theorem dX12_readLine_118 : decode cX12_readLine 118 = .ok (.ifCond .ne 10, 3) := by decide +kernel
theorem dX12_readLine_121 : decode cX12_readLine 121 = .ok (.aload_n 0, 1) := by decide +kernel
theorem dX12_readLine_122 : decode cX12_readLine 122 = .ok (.invokevirtual 422, 3) := by decide +kernel
theorem dX12_readLine_125 : decode cX12_readLine 125 = .ok (.goto 32, 3) := by decide +kernel
theorem dX12_readLine_128 : decode cX12_readLine 128 = .ok (.aload_n 0, 1) := by decide +kernel
theorem dX12_readLine_129 : decode cX12_readLine 129 = .ok (.ldc2_w 275, 3) := by decide +kernel
theorem dX12_readLine_132 : decode cX12_readLine 132 = .ok (.invokevirtual 295, 3) := by decide +kernel
theorem dX12_readLine_135 : decode cX12_readLine 135 = .ok (.ifCond .eq 17, 3) := by decide +kernel
theorem dX12_readLine_138 : decode cX12_readLine 138 = .ok (.aload_n 0, 1) := by decide +kernel
theorem dX12_readLine_139 : decode cX12_readLine 139 = .ok (.getfield 404, 3) := by decide +kernel
theorem dX12_readLine_142 : decode cX12_readLine 142 = .ok (.ifCond .ne 10, 3) := by decide +kernel
theorem dX12_readLine_145 : decode cX12_readLine 145 = .ok (.aload_n 0, 1) := by decide +kernel
theorem dX12_readLine_146 : decode cX12_readLine 146 = .ok (.invokevirtual 425, 3) := by decide +kernel
theorem dX12_readLine_149 : decode cX12_readLine 149 = .ok (.goto 8, 3) := by decide +kernel
theorem dX12_readLine_152 : decode cX12_readLine 152 = .ok (.aload_n 0, 1) := by decide +kernel
theorem dX12_readLine_153 : decode cX12_readLine 153 = .ok (.iconst 2, 1) := by decide +kernel
theorem dX12_readLine_154 : decode cX12_readLine 154 = .ok (.invokevirtual 299, 3) := by decide +kernel
theorem dX12_readLine_157 : decode cX12_readLine 157 = .ok (.aload_n 0, 1) := by decide +kernel
theorem dX12_readLine_158 : decode cX12_readLine 158 = .ok (.getfield 236, 3) := by decide +kernel
theorem dX12_readLine_161 : decode cX12_readLine 161 = .ok (.ifCond .ne 17, 3) := by decide +kernel
theorem dX12_readLine_164 : decode cX12_readLine 164 = .ok (.aload_n 0, 1) := by decide +kernel
theorem dX12_readLine_165 : decode cX12_readLine 165 = .ok (.getfield 223, 3) := by decide +kernel
theorem dX12_readLine_168 : decode cX12_readLine 168 = .ok (.bipush 59, 2) := by decide +kernel
theorem dX12_readLine_170 : decode cX12_readLine 170 = .ok (.if_icmp .eq 8, 3) := by decide +kernel
theorem dX12_readLine_173 : decode cX12_readLine 173 = .ok (.aload_n 0, 1) := by decide +kernel
theorem dX12_readLine_174 : decode cX12_readLine 174 = .ok (.iconst 2, 1) := by decide +kernel
theorem dX12_readLine_175 : decode cX12_readLine 175 = .ok (.invokevirtual 299, 3) := by decide +kernel
theorem dX12_readLine_178 : decode cX12_readLine 178 = .ok (.aload_n 0, 1) := by decide +kernel
theorem dX12_readLine_179 : decode cX12_readLine 179 = .ok (.getfield 236, 3) := by decide +kernel
theorem dX12_readLine_182 : decode cX12_readLine 182 = .ok (.ifCond .ne 7, 3) := by decide +kernel
theorem dX12_readLine_185 : decode cX12_readLine 185 = .ok (.aload_n 0, 1) := by decide +kernel
theorem dX12_readLine_186 : decode cX12_readLine 186 = .ok (.invokevirtual 302, 3) := by decide +kernel
theorem dX12_readLine_189 : decode cX12_readLine 189 = .ok (.return_, 1) := by decide +kernel
theorem dX12_valley_0 : decode cX12_valley 0 = .ok (.aload_n 0, 1) := by decide +kernel
theorem dX12_valley_1 : decode cX12_valley 1 = .ok (.aload_n 0, 1) := by decide +kernel
theorem dX12_valley_2 : decode cX12_valley 2 = .ok (.getfield 196, 3) := by decide +kernel
theorem dX12_valley_5 : decode cX12_valley 5 = .ok (.putfield 206, 3) := by decide +kernel
theorem dX12_valley_8 : decode cX12_valley 8 = .ok (.aload_n 0, 1) := by decide +kernel
theorem dX12_valley_9 : decode cX12_valley 9 = .ok (.iconst 0, 1) := by decide +kernel
theorem dX12_valley_10 : decode cX12_valley 10 = .ok (.putfield 196, 3) := by decide +kernel
theorem dX12_valley_13 : decode cX12_valley 13 = .ok (.aload_n 0, 1) := by decide +kernel
theorem dX12_valley_14 : decode cX12_valley 14 = .ok (.iconst 0, 1) := by decide +kernel
theorem dX12_valley_15 : decode cX12_valley 15 = .ok (.putfield 203, 3) := by decide +kernel
theorem dX12_valley_18 : decode cX12_valley 18 = .ok (.aload_n 0, 1) := by decide +kernel
theorem dX12_valley_19 : decode cX12_valley 19 = .ok (.iconst 0, 1) := by decide +kernel
theorem dX12_valley_20 : decode cX12_valley 20 = .ok (.putfield 236, 3) := by decide +kernel
theorem dX12_valley_23 : decode cX12_valley 23 = .ok (.aload_n 0, 1) := by decide +kernel
theorem dX12_valley_24 : decode cX12_valley 24 = .ok (.iconst (-1), 1) := by decide +kernel
theorem dX12_valley_25 : decode cX12_valley 25 = .ok (.putfield 13, 3) := by decide +kernel
theorem dX12_valley_28 : decode cX12_valley 28 = .ok (.aload_n 0, 1) := by decide +kernel
theorem dX12_valley_29 : decode cX12_valley 29 = .ok (.iconst 0, 1) := by decide +kernel
theorem dX12_valley_30 : decode cX12_valley 30 = .ok (.putfield 313, 3) := by decide +kernel
theorem dX12_valley_33 : decode cX12_valley 33 = .ok (.aload_n 0, 1) := by decide +kernel
theorem dX12_valley_34 : decode cX12_valley 34 = .ok (.iconst 0, 1) := by decide +kernel
theorem dX12_valley_35 : decode cX12_valley 35 = .ok (.putfield 339, 3) := by decide +kernel
theorem dX12_valley_38 : decode cX12_valley 38 = .ok (.aload_n 0, 1) := by decide +kernel
theorem dX12_valley_39 : decode cX12_valley 39 = .ok (.iconst 0, 1) := by decide +kernel
theorem dX12_valley_40 : decode cX12_valley 40 = .ok (.putfield 371, 3) := by decide +kernel
theorem dX12_valley_43 : decode cX12_valley 43 = .ok (.aload_n 0, 1) := by decide +kernel
theorem dX12_valley_44 : decode cX12_valley 44 = .ok (.iconst 0, 1) := by decide +kernel
theorem dX12_valley_45 : decode cX12_valley 45 = .ok (.putfield 385, 3) := by decide +kernel
theorem dX12_valley_48 : decode cX12_valley 48 = .ok (.aload_n 0, 1) := by decide +kernel
theorem dX12_valley_49 : decode cX12_valley 49 = .ok (.iconst 0, 1) := by decide +kernel
theorem dX12_valley_50 : decode cX12_valley 50 = .ok (.putfield 388, 3) := by decide +kernel
theorem dX12_valley_53 : decode cX12_valley 53 = .ok (.aload_n 0, 1) := by decide +kernel
theorem dX12_valley_54 : decode cX12_valley 54 = .ok (.iconst 0, 1) := by decide +kernel
theorem dX12_valley_55 : decode cX12_valley 55 = .ok (.putfield 355, 3) := by decide +kernel
theorem dX12_valley_58 : decode cX12_valley 58 = .ok (.aload_n 0, 1) := by decide +kernel
theorem dX12_valley_59 : decode cX12_valley 59 = .ok (.iconst 0, 1) := by decide +kernel
theorem dX12_valley_60 : decode cX12_valley 60 = .ok (.putfield 401, 3) := by decide +kernel
theorem dX12_valley_63 : decode cX12_valley 63 = .ok (.aload_n 0, 1) := by decide +kernel
theorem dX12_valley_64 : decode cX12_valley 64 = .ok (.iconst 0, 1) := by decide +kernel
theorem dX12_valley_65 : decode cX12_valley 65 = .ok (.putfield 407, 3) := by decide +kernel
theorem dX12_valley_68 : decode cX12_valley 68 = .ok (.aload_n 0, 1) := by decide +kernel
theorem dX12_valley_69 : decode cX12_valley 69 = .ok (.iconst 0, 1) := by decide +kernel
theorem dX12_valley_70 : decode cX12_valley 70 = .ok (.putfield 397, 3) := by decide +kernel
theorem dX12_valley_73 : decode cX12_valley 73 = .ok (.aload_n 0, 1) := by decide +kernel
theorem dX12_valley_74 : decode cX12_valley 74 = .ok (.iconst 0, 1) := by decide +kernel
theorem dX12_valley_75 : decode cX12_valley 75 = .ok (.putfield 404, 3) := by decide +kernel
theorem dX12_valley_78 : decode cX12_valley 78 = .ok (.iconst 0, 1) := by decide +kernel
theorem dX12_valley_79 : decode cX12_valley 79 = .ok (.istore_n 1, 1) := by decide +kernel
theorem dX12_valley_80 : decode cX12_valley 80 = .ok (.iload_n 1, 1) := by decide +kernel
theorem dX12_valley_81 : decode cX12_valley 81 = .ok (.bipush 64, 2) := by decide +kernel
theorem dX12_valley_83 : decode cX12_valley 83 = .ok (.if_icmp .ge 33, 3) := by decide +kernel
theorem dX12_valley_86 : decode cX12_valley 86 = .ok (.aload_n 0, 1) := by decide +kernel
theorem dX12_valley_87 : decode cX12_valley 87 = .ok (.getfield 57, 3) := by decide +kernel
theorem dX12_valley_90 : decode cX12_valley 90 = .ok (.iload_n 1, 1) := by decide +kernel
theorem dX12_valley_91 : decode cX12_valley 91 = .ok (.iload_n 1, 1) := by decide +kernel
theorem dX12_valley_92 : decode cX12_valley 92 = .ok (.bipush 8, 2) := by decide +kernel
theorem dX12_valley_94 : decode cX12_valley 94 = .ok (.idiv, 1) := by decide +kernel
theorem dX12_valley_95 : decode cX12_valley 95 = .ok (.iload_n 1, 1) := by decide +kernel
theorem dX12_valley_96 : decode cX12_valley 96 = .ok (.bipush 8, 2) := by decide +kernel
theorem dX12_valley_98 : decode cX12_valley 98 = .ok (.irem, 1) := by decide +kernel
theorem dX12_valley_99 : decode cX12_valley 99 = .ok (.if_icmp .ne 7, 3) := by decide +kernel
theorem dX12_valley_102 : decode cX12_valley 102 = .ok (.iconst 0, 1) := by decide +kernel
theorem dX12_valley_103 : decode cX12_valley 103 = .ok (.goto 6, 3) := by decide +kernel
theorem dX12_valley_106 : decode cX12_valley 106 = .ok (.sipush 999, 3) := by decide +kernel
theorem dX12_valley_109 : decode cX12_valley 109 = .ok (.iastore, 1) := by decide +kernel
theorem dX12_valley_110 : decode cX12_valley 110 = .ok (.iinc 1 1, 3) := by decide +kernel
theorem dX12_valley_113 : decode cX12_valley 113 = .ok (.goto (-33), 3) := by decide +kernel
theorem dX12_valley_116 : decode cX12_valley 116 = .ok (.aload_n 0, 1) := by decide +kernel
theorem dX12_valley_117 : decode cX12_valley 117 = .ok (.invokevirtual 302, 3) := by decide +kernel
theorem dX12_valley_120 : decode cX12_valley 120 = .ok (.aload_n 0, 1) := by decide +kernel
theorem dX12_valley_121 : decode cX12_valley 121 = .ok (.getfield 236, 3) := by decide +kernel
theorem dX12_valley_124 : decode cX12_valley 124 = .ok (.ifCond .ne 17, 3) := by decide +kernel
theorem dX12_valley_127 : decode cX12_valley 127 = .ok (.aload_n 0, 1) := by decide +kernel
theorem dX12_valley_128 : decode cX12_valley 128 = .ok (.getfield 223, 3) := by decide +kernel
theorem dX12_valley_131 : decode cX12_valley 131 = .ok (.ifCond .eq 10, 3) := by decide +kernel
theorem dX12_valley_134 : decode cX12_valley 134 = .ok (.aload_n 0, 1) := by decide +kernel
theorem dX12_valley_135 : decode cX12_valley 135 = .ok (.invokevirtual 428, 3) := by decide +kernel
theorem dX12_valley_138 : decode cX12_valley 138 = .ok (.goto (-18), 3) := by decide +kernel
theorem dX12_valley_141 : decode cX12_valley 141 = .ok (.aload_n 0, 1) := by decide +kernel
theorem dX12_valley_142 : decode cX12_valley 142 = .ok (.getfield 236, 3) := by decide +kernel
theorem dX12_valley_145 : decode cX12_valley 145 = .ok (.ifCond .le 5, 3) := by decide +kernel
theorem dX12_valley_148 : decode cX12_valley 148 = .ok (.iconst (-1), 1) := by decide +kernel
theorem dX12_valley_149 : decode cX12_valley 149 = .ok (.ireturn, 1) := by decide +kernel
theorem dX12_valley_150 : decode cX12_valley 150 = .ok (.aload_n 0, 1) := by decide +kernel
theorem dX12_valley_151 : decode cX12_valley 151 = .ok (.aload_n 0, 1) := by decide +kernel
theorem dX12_valley_152 : decode cX12_valley 152 = .ok (.getfield 371, 3) := by decide +kernel
theorem dX12_valley_155 : decode cX12_valley 155 = .ok (.putfield 431, 3) := by decide +kernel
theorem dX12_valley_158 : decode cX12_valley 158 = .ok (.aload_n 0, 1) := by decide +kernel
theorem dX12_valley_159 : decode cX12_valley 159 = .ok (.aload_n 0, 1) := by decide +kernel
theorem dX12_valley_160 : decode cX12_valley 160 = .ok (.getfield 385, 3) := by decide +kernel
theorem dX12_valley_163 : decode cX12_valley 163 = .ok (.putfield 434, 3) := by decide +kernel
theorem dX12_valley_166 : decode cX12_valley 166 = .ok (.aload_n 0, 1) := by decide +kernel
theorem dX12_valley_167 : decode cX12_valley 167 = .ok (.aload_n 0, 1) := by decide +kernel
theorem dX12_valley_168 : decode cX12_valley 168 = .ok (.getfield 388, 3) := by decide +kernel
theorem dX12_valley_171 : decode cX12_valley 171 = .ok (.putfield 437, 3) := by decide +kernel
theorem dX12_valley_174 : decode cX12_valley 174 = .ok (.aload_n 0, 1) := by decide +kernel
theorem dX12_valley_175 : decode cX12_valley 175 = .ok (.aload_n 0, 1) := by decide +kernel
theorem dX12_valley_176 : decode cX12_valley 176 = .ok (.getfield 355, 3) := by decide +kernel
theorem dX12_valley_179 : decode cX12_valley 179 = .ok (.putfield 440, 3) := by decide +kernel
theorem dX12_valley_182 : decode cX12_valley 182 = .ok (.aload_n 0, 1) := by decide +kernel
theorem dX12_valley_183 : decode cX12_valley 183 = .ok (.aload_n 0, 1) := by decide +kernel
theorem dX12_valley_184 : decode cX12_valley 184 = .ok (.getfield 401, 3) := by decide +kernel
theorem dX12_valley_187 : decode cX12_valley 187 = .ok (.putfield 443, 3) := by decide +kernel
theorem dX12_valley_190 : decode cX12_valley 190 = .ok (.aload_n 0, 1) := by decide +kernel
theorem dX12_valley_191 : decode cX12_valley 191 = .ok (.aload_n 0, 1) := by decide +kernel
theorem dX12_valley_192 : decode cX12_valley 192 = .ok (.getfield 407, 3) := by decide +kernel
theorem dX12_valley_195 : decode cX12_valley 195 = .ok (.putfield 446, 3) := by decide +kernel
theorem dX12_valley_198 : decode cX12_valley 198 = .ok (.aload_n 0, 1) := by decide +kernel
theorem dX12_valley_199 : decode cX12_valley 199 = .ok (.aload_n 0, 1) := by decide +kernel
theorem dX12_valley_200 : decode cX12_valley 200 = .ok (.getfield 339, 3) := by decide +kernel
theorem dX12_valley_203 : decode cX12_valley 203 = .ok (.putfield 449, 3) := by decide +kernel
theorem dX12_valley_206 : decode cX12_valley 206 = .ok (.iconst 0, 1) := by decide +kernel
theorem dX12_valley_207 : decode cX12_valley 207 = .ok (.istore_n 1, 1) := by decide +kernel
theorem dX12_valley_208 : decode cX12_valley 208 = .ok (.iload_n 1, 1) := by decide +kernel
theorem dX12_valley_209 : decode cX12_valley 209 = .ok (.bipush 8, 2) := by decide +kernel
theorem dX12_valley_211 : decode cX12_valley 211 = .ok (.if_icmp .ge 21, 3) := by decide +kernel
theorem dX12_valley_214 : decode cX12_valley 214 = .ok (.aload_n 0, 1) := by decide +kernel
theorem dX12_valley_215 : decode cX12_valley 215 = .ok (.getfield 66, 3) := by decide +kernel
theorem dX12_valley_218 : decode cX12_valley 218 = .ok (.iload_n 1, 1) := by decide +kernel
theorem dX12_valley_219 : decode cX12_valley 219 = .ok (.aload_n 0, 1) := by decide +kernel
theorem dX12_valley_220 : decode cX12_valley 220 = .ok (.getfield 54, 3) := by decide +kernel
theorem dX12_valley_223 : decode cX12_valley 223 = .ok (.iload_n 1, 1) := by decide +kernel
theorem dX12_valley_224 : decode cX12_valley 224 = .ok (.iaload, 1) := by decide +kernel
theorem dX12_valley_225 : decode cX12_valley 225 = .ok (.iastore, 1) := by decide +kernel
theorem dX12_valley_226 : decode cX12_valley 226 = .ok (.iinc 1 1, 3) := by decide +kernel
theorem dX12_valley_229 : decode cX12_valley 229 = .ok (.goto (-21), 3) := by decide +kernel
theorem dX12_valley_232 : decode cX12_valley 232 = .ok (.iconst 0, 1) := by decide +kernel
theorem dX12_valley_233 : decode cX12_valley 233 = .ok (.istore_n 1, 1) := by decide +kernel
theorem dX12_valley_234 : decode cX12_valley 234 = .ok (.iload_n 1, 1) := by decide +kernel
theorem dX12_valley_235 : decode cX12_valley 235 = .ok (.bipush 64, 2) := by decide +kernel
theorem dX12_valley_237 : decode cX12_valley 237 = .ok (.if_icmp .ge 21, 3) := by decide +kernel
theorem dX12_valley_240 : decode cX12_valley 240 = .ok (.aload_n 0, 1) := by decide +kernel
theorem dX12_valley_241 : decode cX12_valley 241 = .ok (.getfield 69, 3) := by decide +kernel
theorem dX12_valley_244 : decode cX12_valley 244 = .ok (.iload_n 1, 1) := by decide +kernel
theorem dX12_valley_245 : decode cX12_valley 245 = .ok (.aload_n 0, 1) := by decide +kernel
theorem dX12_valley_246 : decode cX12_valley 246 = .ok (.getfield 57, 3) := by decide +kernel
theorem dX12_valley_249 : decode cX12_valley 249 = .ok (.iload_n 1, 1) := by decide +kernel
theorem dX12_valley_250 : decode cX12_valley 250 = .ok (.iaload, 1) := by decide +kernel
theorem dX12_valley_251 : decode cX12_valley 251 = .ok (.iastore, 1) := by decide +kernel
theorem dX12_valley_252 : decode cX12_valley 252 = .ok (.iinc 1 1, 3) := by decide +kernel
theorem dX12_valley_255 : decode cX12_valley 255 = .ok (.goto (-21), 3) := by decide +kernel
theorem dX12_valley_258 : decode cX12_valley 258 = .ok (.iconst 0, 1) := by decide +kernel
theorem dX12_valley_259 : decode cX12_valley 259 = .ok (.istore_n 1, 1) := by decide +kernel
theorem dX12_valley_260 : decode cX12_valley 260 = .ok (.iload_n 1, 1) := by decide +kernel
theorem dX12_valley_261 : decode cX12_valley 261 = .ok (.bipush 50, 2) := by decide +kernel
theorem dX12_valley_263 : decode cX12_valley 263 = .ok (.if_icmp .ge 21, 3) := by decide +kernel
theorem dX12_valley_266 : decode cX12_valley 266 = .ok (.aload_n 0, 1) := by decide +kernel
theorem dX12_valley_267 : decode cX12_valley 267 = .ok (.getfield 75, 3) := by decide +kernel
theorem dX12_valley_270 : decode cX12_valley 270 = .ok (.iload_n 1, 1) := by decide +kernel
theorem dX12_valley_271 : decode cX12_valley 271 = .ok (.aload_n 0, 1) := by decide +kernel
theorem dX12_valley_272 : decode cX12_valley 272 = .ok (.getfield 60, 3) := by decide +kernel
theorem dX12_valley_275 : decode cX12_valley 275 = .ok (.iload_n 1, 1) := by decide +kernel
theorem dX12_valley_276 : decode cX12_valley 276 = .ok (.iaload, 1) := by decide +kernel
theorem dX12_valley_277 : decode cX12_valley 277 = .ok (.iastore, 1) := by decide +kernel
theorem dX12_valley_278 : decode cX12_valley 278 = .ok (.iinc 1 1, 3) := by decide +kernel
theorem dX12_valley_281 : decode cX12_valley 281 = .ok (.goto (-21), 3) := by decide +kernel
theorem dX12_valley_284 : decode cX12_valley 284 = .ok (.iconst 0, 1) := by decide +kernel
theorem dX12_valley_285 : decode cX12_valley 285 = .ok (.istore_n 1, 1) := by decide +kernel
theorem dX12_valley_286 : decode cX12_valley 286 = .ok (.iload_n 1, 1) := by decide +kernel
theorem dX12_valley_287 : decode cX12_valley 287 = .ok (.bipush 24, 2) := by decide +kernel
theorem dX12_valley_289 : decode cX12_valley 289 = .ok (.if_icmp .ge 21, 3) := by decide +kernel
theorem dX12_valley_292 : decode cX12_valley 292 = .ok (.aload_n 0, 1) := by decide +kernel
theorem dX12_valley_293 : decode cX12_valley 293 = .ok (.getfield 78, 3) := by decide +kernel
theorem dX12_valley_296 : decode cX12_valley 296 = .ok (.iload_n 1, 1) := by decide +kernel
theorem dX12_valley_297 : decode cX12_valley 297 = .ok (.aload_n 0, 1) := by decide +kernel
theorem dX12_valley_298 : decode cX12_valley 298 = .ok (.getfield 63, 3) := by decide +kernel
theorem dX12_valley_301 : decode cX12_valley 301 = .ok (.iload_n 1, 1) := by decide +kernel
theorem dX12_valley_302 : decode cX12_valley 302 = .ok (.iaload, 1) := by decide +kernel
theorem dX12_valley_303 : decode cX12_valley 303 = .ok (.iastore, 1) := by decide +kernel
theorem dX12_valley_304 : decode cX12_valley 304 = .ok (.iinc 1 1, 3) := by decide +kernel
theorem dX12_valley_307 : decode cX12_valley 307 = .ok (.goto (-21), 3) := by decide +kernel
theorem dX12_valley_310 : decode cX12_valley 310 = .ok (.iconst 0, 1) := by decide +kernel
theorem dX12_valley_311 : decode cX12_valley 311 = .ok (.istore_n 1, 1) := by decide +kernel
theorem dX12_valley_312 : decode cX12_valley 312 = .ok (.iload_n 1, 1) := by decide +kernel
theorem dX12_valley_313 : decode cX12_valley 313 = .ok (.aload_n 0, 1) := by decide +kernel
theorem dX12_valley_314 : decode cX12_valley 314 = .ok (.getfield 313, 3) := by decide +kernel
theorem dX12_valley_317 : decode cX12_valley 317 = .ok (.if_icmp .ge 33, 3) := by decide +kernel
theorem dX12_valley_320 : decode cX12_valley 320 = .ok (.aload_n 0, 1) := by decide +kernel
theorem dX12_valley_321 : decode cX12_valley 321 = .ok (.getfield 26, 3) := by decide +kernel
theorem dX12_valley_324 : decode cX12_valley 324 = .ok (.iload_n 1, 1) := by decide +kernel
theorem dX12_valley_325 : decode cX12_valley 325 = .ok (.aload_n 0, 1) := by decide +kernel
theorem dX12_valley_326 : decode cX12_valley 326 = .ok (.getfield 17, 3) := by decide +kernel
theorem dX12_valley_329 : decode cX12_valley 329 = .ok (.iload_n 1, 1) := by decide +kernel
theorem dX12_valley_330 : decode cX12_valley 330 = .ok (.iaload, 1) := by decide +kernel
theorem dX12_valley_331 : decode cX12_valley 331 = .ok (.iastore, 1) := by decide +kernel
theorem dX12_valley_332 : decode cX12_valley 332 = .ok (.aload_n 0, 1) := by decide +kernel
theorem dX12_valley_333 : decode cX12_valley 333 = .ok (.getfield 29, 3) := by decide +kernel
theorem dX12_valley_336 : decode cX12_valley 336 = .ok (.iload_n 1, 1) := by decide +kernel
theorem dX12_valley_337 : decode cX12_valley 337 = .ok (.aload_n 0, 1) := by decide +kernel
theorem dX12_valley_338 : decode cX12_valley 338 = .ok (.getfield 20, 3) := by decide +kernel
theorem dX12_valley_341 : decode cX12_valley 341 = .ok (.iload_n 1, 1) := by decide +kernel
theorem dX12_valley_342 : decode cX12_valley 342 = .ok (.iaload, 1) := by decide +kernel
theorem dX12_valley_343 : decode cX12_valley 343 = .ok (.iastore, 1) := by decide +kernel
theorem dX12_valley_344 : decode cX12_valley 344 = .ok (.iinc 1 1, 3) := by decide +kernel
theorem dX12_valley_347 : decode cX12_valley 347 = .ok (.goto (-35), 3) := by decide +kernel
theorem dX12_valley_350 : decode cX12_valley 350 = .ok (.iconst 0, 1) := by decide +kernel
theorem dX12_valley_351 : decode cX12_valley 351 = .ok (.istore_n 1, 1) := by decide +kernel
theorem dX12_valley_352 : decode cX12_valley 352 = .ok (.iload_n 1, 1) := by decide +kernel
theorem dX12_valley_353 : decode cX12_valley 353 = .ok (.aload_n 0, 1) := by decide +kernel
theorem dX12_valley_354 : decode cX12_valley 354 = .ok (.getfield 440, 3) := by decide +kernel
theorem dX12_valley_357 : decode cX12_valley 357 = .ok (.if_icmp .gt 21, 3) := by decide +kernel
theorem dX12_valley_360 : decode cX12_valley 360 = .ok (.aload_n 0, 1) := by decide +kernel
theorem dX12_valley_361 : decode cX12_valley 361 = .ok (.getfield 32, 3) := by decide +kernel
theorem dX12_valley_364 : decode cX12_valley 364 = .ok (.iload_n 1, 1) := by decide +kernel
theorem dX12_valley_365 : decode cX12_valley 365 = .ok (.aload_n 0, 1) := by decide +kernel
theorem dX12_valley_366 : decode cX12_valley 366 = .ok (.getfield 23, 3) := by decide +kernel
theorem dX12_valley_369 : decode cX12_valley 369 = .ok (.iload_n 1, 1) := by decide +kernel
theorem dX12_valley_370 : decode cX12_valley 370 = .ok (.iaload, 1) := by decide +kernel
theorem dX12_valley_371 : decode cX12_valley 371 = .ok (.iastore, 1) := by decide +kernel
theorem dX12_valley_372 : decode cX12_valley 372 = .ok (.iinc 1 1, 3) := by decide +kernel
theorem dX12_valley_375 : decode cX12_valley 375 = .ok (.goto (-23), 3) := by decide +kernel
theorem dX12_valley_378 : decode cX12_valley 378 = .ok (.aload_n 0, 1) := by decide +kernel
theorem dX12_valley_379 : decode cX12_valley 379 = .ok (.invokevirtual 193, 3) := by decide +kernel
theorem dX12_valley_382 : decode cX12_valley 382 = .ok (.aload_n 0, 1) := by decide +kernel
theorem dX12_valley_383 : decode cX12_valley 383 = .ok (.invokevirtual 452, 3) := by decide +kernel
theorem dX12_valley_386 : decode cX12_valley 386 = .ok (.aload_n 0, 1) := by decide +kernel
theorem dX12_valley_387 : decode cX12_valley 387 = .ok (.iconst 0, 1) := by decide +kernel
theorem dX12_valley_388 : decode cX12_valley 388 = .ok (.putfield 455, 3) := by decide +kernel
theorem dX12_valley_391 : decode cX12_valley 391 = .ok (.iconst 0, 1) := by decide +kernel
theorem dX12_valley_392 : decode cX12_valley 392 = .ok (.istore_n 1, 1) := by decide +kernel
theorem dX12_valley_393 : decode cX12_valley 393 = .ok (.iload_n 1, 1) := by decide +kernel
theorem dX12_valley_394 : decode cX12_valley 394 = .ok (.iconst 3, 1) := by decide +kernel
theorem dX12_valley_395 : decode cX12_valley 395 = .ok (.if_icmp .ge 16, 3) := by decide +kernel
theorem dX12_valley_398 : decode cX12_valley 398 = .ok (.aload_n 0, 1) := by decide +kernel
theorem dX12_valley_399 : decode cX12_valley 399 = .ok (.getfield 166, 3) := by decide +kernel
theorem dX12_valley_402 : decode cX12_valley 402 = .ok (.iload_n 1, 1) := by decide +kernel
theorem dX12_valley_403 : decode cX12_valley 403 = .ok (.iconst 0, 1) := by decide +kernel
theorem dX12_valley_404 : decode cX12_valley 404 = .ok (.bastore, 1) := by decide +kernel
theorem dX12_valley_405 : decode cX12_valley 405 = .ok (.iinc 1 1, 3) := by decide +kernel
theorem dX12_valley_408 : decode cX12_valley 408 = .ok (.goto (-15), 3) := by decide +kernel
theorem dX12_valley_411 : decode cX12_valley 411 = .ok (.aload_n 0, 1) := by decide +kernel
theorem dX12_valley_412 : decode cX12_valley 412 = .ok (.getfield 440, 3) := by decide +kernel
theorem dX12_valley_415 : decode cX12_valley 415 = .ok (.ireturn, 1) := by decide +kernel
theorem dX12_fault_0 : decode cX12_fault 0 = .ok (.iload_n 1, 1) := by decide +kernel
theorem dX12_fault_1 : decode cX12_fault 1 = .ok (.ifCond .ne 10, 3) := by decide +kernel
theorem dX12_fault_4 : decode cX12_fault 4 = .ok (.aload_n 0, 1) := by decide +kernel
theorem dX12_fault_5 : decode cX12_fault 5 = .ok (.getfield 236, 3) := by decide +kernel
theorem dX12_fault_8 : decode cX12_fault 8 = .ok (.goto 16, 3) := by decide +kernel
theorem dX12_fault_11 : decode cX12_fault 11 = .ok (.iload_n 1, 1) := by decide +kernel
theorem dX12_fault_12 : decode cX12_fault 12 = .ok (.iconst 1, 1) := by decide +kernel
theorem dX12_fault_13 : decode cX12_fault 13 = .ok (.if_icmp .ne 10, 3) := by decide +kernel
theorem dX12_fault_16 : decode cX12_fault 16 = .ok (.aload_n 0, 1) := by decide +kernel
theorem dX12_fault_17 : decode cX12_fault 17 = .ok (.getfield 13, 3) := by decide +kernel
theorem dX12_fault_20 : decode cX12_fault 20 = .ok (.goto 4, 3) := by decide +kernel
theorem dX12_fault_23 : decode cX12_fault 23 = .ok (.iconst (-1), 1) := by decide +kernel
theorem dX12_fault_24 : decode cX12_fault 24 = .ok (.ireturn, 1) := by decide +kernel
theorem dX12_layFar_0 : decode cX12_layFar 0 = .ok (.iconst 0, 1) := by decide +kernel
theorem dX12_layFar_1 : decode cX12_layFar 1 = .ok (.istore_n 1, 1) := by decide +kernel
theorem dX12_layFar_2 : decode cX12_layFar 2 = .ok (.iload_n 1, 1) := by decide +kernel
theorem dX12_layFar_3 : decode cX12_layFar 3 = .ok (.bipush 64, 2) := by decide +kernel
theorem dX12_layFar_5 : decode cX12_layFar 5 = .ok (.if_icmp .ge 49, 3) := by decide +kernel
theorem dX12_layFar_8 : decode cX12_layFar 8 = .ok (.aload_n 0, 1) := by decide +kernel
theorem dX12_layFar_9 : decode cX12_layFar 9 = .ok (.getfield 72, 3) := by decide +kernel
theorem dX12_layFar_12 : decode cX12_layFar 12 = .ok (.iload_n 1, 1) := by decide +kernel
theorem dX12_layFar_13 : decode cX12_layFar 13 = .ok (.iload_n 1, 1) := by decide +kernel
theorem dX12_layFar_14 : decode cX12_layFar 14 = .ok (.bipush 8, 2) := by decide +kernel
theorem dX12_layFar_16 : decode cX12_layFar 16 = .ok (.idiv, 1) := by decide +kernel
theorem dX12_layFar_17 : decode cX12_layFar 17 = .ok (.iload_n 1, 1) := by decide +kernel
theorem dX12_layFar_18 : decode cX12_layFar 18 = .ok (.bipush 8, 2) := by decide +kernel
theorem dX12_layFar_20 : decode cX12_layFar 20 = .ok (.irem, 1) := by decide +kernel
theorem dX12_layFar_21 : decode cX12_layFar 21 = .ok (.if_icmp .ne 7, 3) := by decide +kernel
theorem dX12_layFar_24 : decode cX12_layFar 24 = .ok (.iconst 0, 1) := by decide +kernel
theorem dX12_layFar_25 : decode cX12_layFar 25 = .ok (.goto 22, 3) := by decide +kernel
theorem dX12_layFar_28 : decode cX12_layFar 28 = .ok (.aload_n 0, 1) := by decide +kernel
theorem dX12_layFar_29 : decode cX12_layFar 29 = .ok (.getfield 431, 3) := by decide +kernel
theorem dX12_layFar_32 : decode cX12_layFar 32 = .ok (.ifCond .ne 9, 3) := by decide +kernel
theorem dX12_layFar_35 : decode cX12_layFar 35 = .ok (.sipush 999, 3) := by decide +kernel
theorem dX12_layFar_38 : decode cX12_layFar 38 = .ok (.goto 9, 3) := by decide +kernel
theorem dX12_layFar_41 : decode cX12_layFar 41 = .ok (.aload_n 0, 1) := by decide +kernel
theorem dX12_layFar_42 : decode cX12_layFar 42 = .ok (.getfield 69, 3) := by decide +kernel
theorem dX12_layFar_45 : decode cX12_layFar 45 = .ok (.iload_n 1, 1) := by decide +kernel
theorem dX12_layFar_46 : decode cX12_layFar 46 = .ok (.iaload, 1) := by decide +kernel
theorem dX12_layFar_47 : decode cX12_layFar 47 = .ok (.iastore, 1) := by decide +kernel
theorem dX12_layFar_48 : decode cX12_layFar 48 = .ok (.iinc 1 1, 3) := by decide +kernel
theorem dX12_layFar_51 : decode cX12_layFar 51 = .ok (.goto (-49), 3) := by decide +kernel
theorem dX12_layFar_54 : decode cX12_layFar 54 = .ok (.iconst 0, 1) := by decide +kernel
theorem dX12_layFar_55 : decode cX12_layFar 55 = .ok (.istore_n 1, 1) := by decide +kernel
theorem dX12_layFar_56 : decode cX12_layFar 56 = .ok (.iload_n 1, 1) := by decide +kernel
theorem dX12_layFar_57 : decode cX12_layFar 57 = .ok (.aload_n 0, 1) := by decide +kernel
theorem dX12_layFar_58 : decode cX12_layFar 58 = .ok (.getfield 431, 3) := by decide +kernel
theorem dX12_layFar_61 : decode cX12_layFar 61 = .ok (.if_icmp .ge 95, 3) := by decide +kernel
theorem dX12_layFar_64 : decode cX12_layFar 64 = .ok (.iconst 0, 1) := by decide +kernel
theorem dX12_layFar_65 : decode cX12_layFar 65 = .ok (.istore_n 2, 1) := by decide +kernel
theorem dX12_layFar_66 : decode cX12_layFar 66 = .ok (.iload_n 2, 1) := by decide +kernel
theorem dX12_layFar_67 : decode cX12_layFar 67 = .ok (.aload_n 0, 1) := by decide +kernel
theorem dX12_layFar_68 : decode cX12_layFar 68 = .ok (.getfield 431, 3) := by decide +kernel
theorem dX12_layFar_71 : decode cX12_layFar 71 = .ok (.if_icmp .ge 79, 3) := by decide +kernel
theorem dX12_layFar_74 : decode cX12_layFar 74 = .ok (.iconst 0, 1) := by decide +kernel
theorem dX12_layFar_75 : decode cX12_layFar 75 = .ok (.istore_n 3, 1) := by decide +kernel
theorem dX12_layFar_76 : decode cX12_layFar 76 = .ok (.iload_n 3, 1) := by decide +kernel
theorem dX12_layFar_77 : decode cX12_layFar 77 = .ok (.aload_n 0, 1) := by decide +kernel
theorem dX12_layFar_78 : decode cX12_layFar 78 = .ok (.getfield 431, 3) := by decide +kernel
theorem dX12_layFar_81 : decode cX12_layFar 81 = .ok (.if_icmp .ge 63, 3) := by decide +kernel
theorem dX12_layFar_84 : decode cX12_layFar 84 = .ok (.aload_n 0, 1) := by decide +kernel
theorem dX12_layFar_85 : decode cX12_layFar 85 = .ok (.getfield 72, 3) := by decide +kernel
theorem dX12_layFar_88 : decode cX12_layFar 88 = .ok (.bipush 8, 2) := by decide +kernel
theorem dX12_layFar_90 : decode cX12_layFar 90 = .ok (.iload_n 2, 1) := by decide +kernel
theorem dX12_layFar_91 : decode cX12_layFar 91 = .ok (.imul, 1) := by decide +kernel
theorem dX12_layFar_92 : decode cX12_layFar 92 = .ok (.iload_n 1, 1) := by decide +kernel
theorem dX12_layFar_93 : decode cX12_layFar 93 = .ok (.iadd, 1) := by decide +kernel
theorem dX12_layFar_94 : decode cX12_layFar 94 = .ok (.iaload, 1) := by decide +kernel
theorem dX12_layFar_95 : decode cX12_layFar 95 = .ok (.aload_n 0, 1) := by decide +kernel
theorem dX12_layFar_96 : decode cX12_layFar 96 = .ok (.getfield 72, 3) := by decide +kernel
theorem dX12_layFar_99 : decode cX12_layFar 99 = .ok (.bipush 8, 2) := by decide +kernel
theorem dX12_layFar_101 : decode cX12_layFar 101 = .ok (.iload_n 1, 1) := by decide +kernel
theorem dX12_layFar_102 : decode cX12_layFar 102 = .ok (.imul, 1) := by decide +kernel
theorem dX12_layFar_103 : decode cX12_layFar 103 = .ok (.iload_n 3, 1) := by decide +kernel
theorem dX12_layFar_104 : decode cX12_layFar 104 = .ok (.iadd, 1) := by decide +kernel
theorem dX12_layFar_105 : decode cX12_layFar 105 = .ok (.iaload, 1) := by decide +kernel
theorem dX12_layFar_106 : decode cX12_layFar 106 = .ok (.iadd, 1) := by decide +kernel
theorem dX12_layFar_107 : decode cX12_layFar 107 = .ok (.istore 4, 2) := by decide +kernel
theorem dX12_layFar_109 : decode cX12_layFar 109 = .ok (.iload 4, 2) := by decide +kernel
theorem dX12_layFar_111 : decode cX12_layFar 111 = .ok (.aload_n 0, 1) := by decide +kernel
theorem dX12_layFar_112 : decode cX12_layFar 112 = .ok (.getfield 72, 3) := by decide +kernel
theorem dX12_layFar_115 : decode cX12_layFar 115 = .ok (.bipush 8, 2) := by decide +kernel
theorem dX12_layFar_117 : decode cX12_layFar 117 = .ok (.iload_n 2, 1) := by decide +kernel
theorem dX12_layFar_118 : decode cX12_layFar 118 = .ok (.imul, 1) := by decide +kernel
theorem dX12_layFar_119 : decode cX12_layFar 119 = .ok (.iload_n 3, 1) := by decide +kernel
theorem dX12_layFar_120 : decode cX12_layFar 120 = .ok (.iadd, 1) := by decide +kernel
theorem dX12_layFar_121 : decode cX12_layFar 121 = .ok (.iaload, 1) := by decide +kernel
theorem dX12_layFar_122 : decode cX12_layFar 122 = .ok (.if_icmp .ge 16, 3) := by decide +kernel
theorem dX12_layFar_125 : decode cX12_layFar 125 = .ok (.aload_n 0, 1) := by decide +kernel
theorem dX12_layFar_126 : decode cX12_layFar 126 = .ok (.getfield 72, 3) := by decide +kernel
theorem dX12_layFar_129 : decode cX12_layFar 129 = .ok (.bipush 8, 2) := by decide +kernel
theorem dX12_layFar_131 : decode cX12_layFar 131 = .ok (.iload_n 2, 1) := by decide +kernel
theorem dX12_layFar_132 : decode cX12_layFar 132 = .ok (.imul, 1) := by decide +kernel
theorem dX12_layFar_133 : decode cX12_layFar 133 = .ok (.iload_n 3, 1) := by decide +kernel
theorem dX12_layFar_134 : decode cX12_layFar 134 = .ok (.iadd, 1) := by decide +kernel
theorem dX12_layFar_135 : decode cX12_layFar 135 = .ok (.iload 4, 2) := by decide +kernel
theorem dX12_layFar_137 : decode cX12_layFar 137 = .ok (.iastore, 1) := by decide +kernel
theorem dX12_layFar_138 : decode cX12_layFar 138 = .ok (.iinc 3 1, 3) := by decide +kernel
theorem dX12_layFar_141 : decode cX12_layFar 141 = .ok (.goto (-65), 3) := by decide +kernel
theorem dX12_layFar_144 : decode cX12_layFar 144 = .ok (.iinc 2 1, 3) := by decide +kernel
theorem dX12_layFar_147 : decode cX12_layFar 147 = .ok (.goto (-81), 3) := by decide +kernel
theorem dX12_layFar_150 : decode cX12_layFar 150 = .ok (.iinc 1 1, 3) := by decide +kernel
theorem dX12_layFar_153 : decode cX12_layFar 153 = .ok (.goto (-97), 3) := by decide +kernel
theorem dX12_layFar_156 : decode cX12_layFar 156 = .ok (.return_, 1) := by decide +kernel
theorem dX12_farOf_0 : decode cX12_farOf 0 = .ok (.aload_n 0, 1) := by decide +kernel
theorem dX12_farOf_1 : decode cX12_farOf 1 = .ok (.getfield 72, 3) := by decide +kernel
theorem dX12_farOf_4 : decode cX12_farOf 4 = .ok (.bipush 8, 2) := by decide +kernel
theorem dX12_farOf_6 : decode cX12_farOf 6 = .ok (.iload_n 1, 1) := by decide +kernel
theorem dX12_farOf_7 : decode cX12_farOf 7 = .ok (.imul, 1) := by decide +kernel
theorem dX12_farOf_8 : decode cX12_farOf 8 = .ok (.iload_n 2, 1) := by decide +kernel
theorem dX12_farOf_9 : decode cX12_farOf 9 = .ok (.iadd, 1) := by decide +kernel
theorem dX12_farOf_10 : decode cX12_farOf 10 = .ok (.iaload, 1) := by decide +kernel
theorem dX12_farOf_11 : decode cX12_farOf 11 = .ok (.ireturn, 1) := by decide +kernel
theorem dX12_isPlace_0 : decode cX12_isPlace 0 = .ok (.iload_n 1, 1) := by decide +kernel
theorem dX12_isPlace_1 : decode cX12_isPlace 1 = .ok (.ifCond .lt 15, 3) := by decide +kernel
theorem dX12_isPlace_4 : decode cX12_isPlace 4 = .ok (.iload_n 1, 1) := by decide +kernel
theorem dX12_isPlace_5 : decode cX12_isPlace 5 = .ok (.aload_n 0, 1) := by decide +kernel
theorem dX12_isPlace_6 : decode cX12_isPlace 6 = .ok (.getfield 431, 3) := by decide +kernel
theorem dX12_isPlace_9 : decode cX12_isPlace 9 = .ok (.if_icmp .ge 7, 3) := by decide +kernel
theorem dX12_isPlace_12 : decode cX12_isPlace 12 = .ok (.iconst 1, 1) := by decide +kernel
theorem dX12_isPlace_13 : decode cX12_isPlace 13 = .ok (.goto 4, 3) := by decide +kernel
theorem dX12_isPlace_16 : decode cX12_isPlace 16 = .ok (.iconst 0, 1) := by decide +kernel
theorem dX12_isPlace_17 : decode cX12_isPlace 17 = .ok (.ireturn, 1) := by decide +kernel
theorem dX12_isThing_0 : decode cX12_isThing 0 = .ok (.iload_n 1, 1) := by decide +kernel
theorem dX12_isThing_1 : decode cX12_isThing 1 = .ok (.ifCond .lt 15, 3) := by decide +kernel
theorem dX12_isThing_4 : decode cX12_isThing 4 = .ok (.iload_n 1, 1) := by decide +kernel
theorem dX12_isThing_5 : decode cX12_isThing 5 = .ok (.aload_n 0, 1) := by decide +kernel
theorem dX12_isThing_6 : decode cX12_isThing 6 = .ok (.getfield 437, 3) := by decide +kernel
theorem dX12_isThing_9 : decode cX12_isThing 9 = .ok (.if_icmp .ge 7, 3) := by decide +kernel
theorem dX12_isThing_12 : decode cX12_isThing 12 = .ok (.iconst 1, 1) := by decide +kernel
theorem dX12_isThing_13 : decode cX12_isThing 13 = .ok (.goto 4, 3) := by decide +kernel
theorem dX12_isThing_16 : decode cX12_isThing 16 = .ok (.iconst 0, 1) := by decide +kernel
theorem dX12_isThing_17 : decode cX12_isThing 17 = .ok (.ireturn, 1) := by decide +kernel
theorem dX12_isPerson_0 : decode cX12_isPerson 0 = .ok (.iload_n 1, 1) := by decide +kernel
theorem dX12_isPerson_1 : decode cX12_isPerson 1 = .ok (.ifCond .lt 15, 3) := by decide +kernel
theorem dX12_isPerson_4 : decode cX12_isPerson 4 = .ok (.iload_n 1, 1) := by decide +kernel
theorem dX12_isPerson_5 : decode cX12_isPerson 5 = .ok (.aload_n 0, 1) := by decide +kernel
theorem dX12_isPerson_6 : decode cX12_isPerson 6 = .ok (.getfield 440, 3) := by decide +kernel
theorem dX12_isPerson_9 : decode cX12_isPerson 9 = .ok (.if_icmp .ge 7, 3) := by decide +kernel
theorem dX12_isPerson_12 : decode cX12_isPerson 12 = .ok (.iconst 1, 1) := by decide +kernel
theorem dX12_isPerson_13 : decode cX12_isPerson 13 = .ok (.goto 4, 3) := by decide +kernel
theorem dX12_isPerson_16 : decode cX12_isPerson 16 = .ok (.iconst 0, 1) := by decide +kernel
theorem dX12_isPerson_17 : decode cX12_isPerson 17 = .ok (.ireturn, 1) := by decide +kernel
theorem dX12_far_0 : decode cX12_far 0 = .ok (.aload_n 0, 1) := by decide +kernel
theorem dX12_far_1 : decode cX12_far 1 = .ok (.iload_n 1, 1) := by decide +kernel
theorem dX12_far_2 : decode cX12_far 2 = .ok (.invokevirtual 458, 3) := by decide +kernel
theorem dX12_far_5 : decode cX12_far 5 = .ok (.ifCond .eq 20, 3) := by decide +kernel
theorem dX12_far_8 : decode cX12_far 8 = .ok (.aload_n 0, 1) := by decide +kernel
theorem dX12_far_9 : decode cX12_far 9 = .ok (.iload_n 2, 1) := by decide +kernel
theorem dX12_far_10 : decode cX12_far 10 = .ok (.invokevirtual 458, 3) := by decide +kernel
theorem dX12_far_13 : decode cX12_far 13 = .ok (.ifCond .eq 12, 3) := by decide +kernel
theorem dX12_far_16 : decode cX12_far 16 = .ok (.aload_n 0, 1) := by decide +kernel
theorem dX12_far_17 : decode cX12_far 17 = .ok (.iload_n 1, 1) := by decide +kernel
theorem dX12_far_18 : decode cX12_far 18 = .ok (.iload_n 2, 1) := by decide +kernel
theorem dX12_far_19 : decode cX12_far 19 = .ok (.invokevirtual 461, 3) := by decide +kernel
theorem dX12_far_22 : decode cX12_far 22 = .ok (.goto 4, 3) := by decide +kernel
theorem dX12_far_25 : decode cX12_far 25 = .ok (.iconst (-1), 1) := by decide +kernel
theorem dX12_far_26 : decode cX12_far 26 = .ok (.ireturn, 1) := by decide +kernel
theorem dX12_placeOf_0 : decode cX12_placeOf 0 = .ok (.aload_n 0, 1) := by decide +kernel
theorem dX12_placeOf_1 : decode cX12_placeOf 1 = .ok (.getfield 75, 3) := by decide +kernel
theorem dX12_placeOf_4 : decode cX12_placeOf 4 = .ok (.iconst 5, 1) := by decide +kernel
theorem dX12_placeOf_5 : decode cX12_placeOf 5 = .ok (.iload_n 1, 1) := by decide +kernel
theorem dX12_placeOf_6 : decode cX12_placeOf 6 = .ok (.imul, 1) := by decide +kernel
theorem dX12_placeOf_7 : decode cX12_placeOf 7 = .ok (.iaload, 1) := by decide +kernel
theorem dX12_placeOf_8 : decode cX12_placeOf 8 = .ok (.ireturn, 1) := by decide +kernel
theorem dX12_heavyOf_0 : decode cX12_heavyOf 0 = .ok (.aload_n 0, 1) := by decide +kernel
theorem dX12_heavyOf_1 : decode cX12_heavyOf 1 = .ok (.getfield 75, 3) := by decide +kernel
theorem dX12_heavyOf_4 : decode cX12_heavyOf 4 = .ok (.iconst 5, 1) := by decide +kernel
theorem dX12_heavyOf_5 : decode cX12_heavyOf 5 = .ok (.iload_n 1, 1) := by decide +kernel
theorem dX12_heavyOf_6 : decode cX12_heavyOf 6 = .ok (.imul, 1) := by decide +kernel
theorem dX12_heavyOf_7 : decode cX12_heavyOf 7 = .ok (.iconst 3, 1) := by decide +kernel
theorem dX12_heavyOf_8 : decode cX12_heavyOf 8 = .ok (.iadd, 1) := by decide +kernel
theorem dX12_heavyOf_9 : decode cX12_heavyOf 9 = .ok (.iaload, 1) := by decide +kernel
theorem dX12_heavyOf_10 : decode cX12_heavyOf 10 = .ok (.ireturn, 1) := by decide +kernel
theorem dX12_forceOf_0 : decode cX12_forceOf 0 = .ok (.aload_n 0, 1) := by decide +kernel
theorem dX12_forceOf_1 : decode cX12_forceOf 1 = .ok (.getfield 78, 3) := by decide +kernel
theorem dX12_forceOf_4 : decode cX12_forceOf 4 = .ok (.iconst 4, 1) := by decide +kernel
theorem dX12_forceOf_5 : decode cX12_forceOf 5 = .ok (.iload_n 1, 1) := by decide +kernel
theorem dX12_forceOf_6 : decode cX12_forceOf 6 = .ok (.imul, 1) := by decide +kernel
theorem dX12_forceOf_7 : decode cX12_forceOf 7 = .ok (.iconst 2, 1) := by decide +kernel
theorem dX12_forceOf_8 : decode cX12_forceOf 8 = .ok (.iadd, 1) := by decide +kernel
theorem dX12_forceOf_9 : decode cX12_forceOf 9 = .ok (.iaload, 1) := by decide +kernel
theorem dX12_forceOf_10 : decode cX12_forceOf 10 = .ok (.ireturn, 1) := by decide +kernel
theorem dX12_hardOf_0 : decode cX12_hardOf 0 = .ok (.aload_n 0, 1) := by decide +kernel
theorem dX12_hardOf_1 : decode cX12_hardOf 1 = .ok (.getfield 78, 3) := by decide +kernel
theorem dX12_hardOf_4 : decode cX12_hardOf 4 = .ok (.iconst 4, 1) := by decide +kernel
theorem dX12_hardOf_5 : decode cX12_hardOf 5 = .ok (.iload_n 1, 1) := by decide +kernel
theorem dX12_hardOf_6 : decode cX12_hardOf 6 = .ok (.imul, 1) := by decide +kernel
theorem dX12_hardOf_7 : decode cX12_hardOf 7 = .ok (.iconst 3, 1) := by decide +kernel
theorem dX12_hardOf_8 : decode cX12_hardOf 8 = .ok (.iadd, 1) := by decide +kernel
theorem dX12_hardOf_9 : decode cX12_hardOf 9 = .ok (.iaload, 1) := by decide +kernel
theorem dX12_hardOf_10 : decode cX12_hardOf 10 = .ok (.ireturn, 1) := by decide +kernel
theorem dX12_fresh_0 : decode cX12_fresh 0 = .ok (.iconst 0, 1) := by decide +kernel
theorem dX12_fresh_1 : decode cX12_fresh 1 = .ok (.istore_n 1, 1) := by decide +kernel
theorem dX12_fresh_2 : decode cX12_fresh 2 = .ok (.iload_n 1, 1) := by decide +kernel
theorem dX12_fresh_3 : decode cX12_fresh 3 = .ok (.bipush 10, 2) := by decide +kernel
theorem dX12_fresh_5 : decode cX12_fresh 5 = .ok (.if_icmp .ge 54, 3) := by decide +kernel
theorem dX12_fresh_8 : decode cX12_fresh 8 = .ok (.aload_n 0, 1) := by decide +kernel
theorem dX12_fresh_9 : decode cX12_fresh 9 = .ok (.getfield 81, 3) := by decide +kernel
theorem dX12_fresh_12 : decode cX12_fresh 12 = .ok (.iload_n 1, 1) := by decide +kernel
theorem dX12_fresh_13 : decode cX12_fresh 13 = .ok (.iconst (-1), 1) := by decide +kernel
theorem dX12_fresh_14 : decode cX12_fresh 14 = .ok (.iastore, 1) := by decide +kernel
theorem dX12_fresh_15 : decode cX12_fresh 15 = .ok (.aload_n 0, 1) := by decide +kernel
theorem dX12_fresh_16 : decode cX12_fresh 16 = .ok (.getfield 84, 3) := by decide +kernel
theorem dX12_fresh_19 : decode cX12_fresh 19 = .ok (.iload_n 1, 1) := by decide +kernel
theorem dX12_fresh_20 : decode cX12_fresh 20 = .ok (.bipush 100, 2) := by decide +kernel
theorem dX12_fresh_22 : decode cX12_fresh 22 = .ok (.iastore, 1) := by decide +kernel
theorem dX12_fresh_23 : decode cX12_fresh 23 = .ok (.aload_n 0, 1) := by decide +kernel
theorem dX12_fresh_24 : decode cX12_fresh 24 = .ok (.getfield 87, 3) := by decide +kernel
theorem dX12_fresh_27 : decode cX12_fresh 27 = .ok (.iload_n 1, 1) := by decide +kernel
theorem dX12_fresh_28 : decode cX12_fresh 28 = .ok (.iconst 0, 1) := by decide +kernel
theorem dX12_fresh_29 : decode cX12_fresh 29 = .ok (.iastore, 1) := by decide +kernel
theorem dX12_fresh_30 : decode cX12_fresh 30 = .ok (.aload_n 0, 1) := by decide +kernel
theorem dX12_fresh_31 : decode cX12_fresh 31 = .ok (.getfield 99, 3) := by decide +kernel
theorem dX12_fresh_34 : decode cX12_fresh 34 = .ok (.iload_n 1, 1) := by decide +kernel
theorem dX12_fresh_35 : decode cX12_fresh 35 = .ok (.iconst 0, 1) := by decide +kernel
theorem dX12_fresh_36 : decode cX12_fresh 36 = .ok (.bastore, 1) := by decide +kernel
theorem dX12_fresh_37 : decode cX12_fresh 37 = .ok (.aload_n 0, 1) := by decide +kernel
theorem dX12_fresh_38 : decode cX12_fresh 38 = .ok (.getfield 90, 3) := by decide +kernel
theorem dX12_fresh_41 : decode cX12_fresh 41 = .ok (.iload_n 1, 1) := by decide +kernel
theorem dX12_fresh_42 : decode cX12_fresh 42 = .ok (.aload_n 0, 1) := by decide +kernel
theorem dX12_fresh_43 : decode cX12_fresh 43 = .ok (.getfield 75, 3) := by decide +kernel
theorem dX12_fresh_46 : decode cX12_fresh 46 = .ok (.iconst 5, 1) := by decide +kernel
theorem dX12_fresh_47 : decode cX12_fresh 47 = .ok (.iload_n 1, 1) := by decide +kernel
theorem dX12_fresh_48 : decode cX12_fresh 48 = .ok (.imul, 1) := by decide +kernel
theorem dX12_fresh_49 : decode cX12_fresh 49 = .ok (.iconst 1, 1) := by decide +kernel
theorem dX12_fresh_50 : decode cX12_fresh 50 = .ok (.iadd, 1) := by decide +kernel
theorem dX12_fresh_51 : decode cX12_fresh 51 = .ok (.iaload, 1) := by decide +kernel
theorem dX12_fresh_52 : decode cX12_fresh 52 = .ok (.iastore, 1) := by decide +kernel
theorem dX12_fresh_53 : decode cX12_fresh 53 = .ok (.iinc 1 1, 3) := by decide +kernel
theorem dX12_fresh_56 : decode cX12_fresh 56 = .ok (.goto (-54), 3) := by decide +kernel
theorem dX12_fresh_59 : decode cX12_fresh 59 = .ok (.iconst 0, 1) := by decide +kernel
theorem dX12_fresh_60 : decode cX12_fresh 60 = .ok (.istore_n 1, 1) := by decide +kernel
theorem dX12_fresh_61 : decode cX12_fresh 61 = .ok (.iload_n 1, 1) := by decide +kernel
theorem dX12_fresh_62 : decode cX12_fresh 62 = .ok (.bipush 6, 2) := by decide +kernel
theorem dX12_fresh_64 : decode cX12_fresh 64 = .ok (.if_icmp .ge 30, 3) := by decide +kernel
theorem dX12_fresh_67 : decode cX12_fresh 67 = .ok (.aload_n 0, 1) := by decide +kernel
theorem dX12_fresh_68 : decode cX12_fresh 68 = .ok (.getfield 93, 3) := by decide +kernel
theorem dX12_fresh_71 : decode cX12_fresh 71 = .ok (.iload_n 1, 1) := by decide +kernel
theorem dX12_fresh_72 : decode cX12_fresh 72 = .ok (.aload_n 0, 1) := by decide +kernel
theorem dX12_fresh_73 : decode cX12_fresh 73 = .ok (.getfield 78, 3) := by decide +kernel
theorem dX12_fresh_76 : decode cX12_fresh 76 = .ok (.iconst 4, 1) := by decide +kernel
theorem dX12_fresh_77 : decode cX12_fresh 77 = .ok (.iload_n 1, 1) := by decide +kernel
theorem dX12_fresh_78 : decode cX12_fresh 78 = .ok (.imul, 1) := by decide +kernel
theorem dX12_fresh_79 : decode cX12_fresh 79 = .ok (.iaload, 1) := by decide +kernel
theorem dX12_fresh_80 : decode cX12_fresh 80 = .ok (.iastore, 1) := by decide +kernel
theorem dX12_fresh_81 : decode cX12_fresh 81 = .ok (.aload_n 0, 1) := by decide +kernel
theorem dX12_fresh_82 : decode cX12_fresh 82 = .ok (.getfield 96, 3) := by decide +kernel
theorem dX12_fresh_85 : decode cX12_fresh 85 = .ok (.iload_n 1, 1) := by decide +kernel
theorem dX12_fresh_86 : decode cX12_fresh 86 = .ok (.iconst 0, 1) := by decide +kernel
theorem dX12_fresh_87 : decode cX12_fresh 87 = .ok (.iastore, 1) := by decide +kernel
theorem dX12_fresh_88 : decode cX12_fresh 88 = .ok (.iinc 1 1, 3) := by decide +kernel
theorem dX12_fresh_91 : decode cX12_fresh 91 = .ok (.goto (-30), 3) := by decide +kernel
theorem dX12_fresh_94 : decode cX12_fresh 94 = .ok (.aload_n 0, 1) := by decide +kernel
theorem dX12_fresh_95 : decode cX12_fresh 95 = .ok (.iconst 0, 1) := by decide +kernel
theorem dX12_fresh_96 : decode cX12_fresh 96 = .ok (.putfield 464, 3) := by decide +kernel
theorem dX12_fresh_99 : decode cX12_fresh 99 = .ok (.aload_n 0, 1) := by decide +kernel
theorem dX12_fresh_100 : decode cX12_fresh 100 = .ok (.iconst 0, 1) := by decide +kernel
theorem dX12_fresh_101 : decode cX12_fresh 101 = .ok (.putfield 467, 3) := by decide +kernel
theorem dX12_fresh_104 : decode cX12_fresh 104 = .ok (.return_, 1) := by decide +kernel
theorem dX12_put_0 : decode cX12_put 0 = .ok (.iconst 0, 1) := by decide +kernel
theorem dX12_put_1 : decode cX12_put 1 = .ok (.istore_n 1, 1) := by decide +kernel
theorem dX12_put_2 : decode cX12_put 2 = .ok (.iload_n 1, 1) := by decide +kernel
theorem dX12_put_3 : decode cX12_put 3 = .ok (.bipush 10, 2) := by decide +kernel
theorem dX12_put_5 : decode cX12_put 5 = .ok (.if_icmp .ge 57, 3) := by decide +kernel
theorem dX12_put_8 : decode cX12_put 8 = .ok (.aload_n 0, 1) := by decide +kernel
theorem dX12_put_9 : decode cX12_put 9 = .ok (.getfield 109, 3) := by decide +kernel
theorem dX12_put_12 : decode cX12_put 12 = .ok (.iload_n 1, 1) := by decide +kernel
theorem dX12_put_13 : decode cX12_put 13 = .ok (.aload_n 0, 1) := by decide +kernel
theorem dX12_put_14 : decode cX12_put 14 = .ok (.getfield 81, 3) := by decide +kernel
theorem dX12_put_17 : decode cX12_put 17 = .ok (.iload_n 1, 1) := by decide +kernel
theorem dX12_put_18 : decode cX12_put 18 = .ok (.iaload, 1) := by decide +kernel
theorem dX12_put_19 : decode cX12_put 19 = .ok (.iastore, 1) := by decide +kernel
theorem dX12_put_20 : decode cX12_put 20 = .ok (.aload_n 0, 1) := by decide +kernel
theorem dX12_put_21 : decode cX12_put 21 = .ok (.getfield 112, 3) := by decide +kernel
theorem dX12_put_24 : decode cX12_put 24 = .ok (.iload_n 1, 1) := by decide +kernel
theorem dX12_put_25 : decode cX12_put 25 = .ok (.aload_n 0, 1) := by decide +kernel
theorem dX12_put_26 : decode cX12_put 26 = .ok (.getfield 84, 3) := by decide +kernel
theorem dX12_put_29 : decode cX12_put 29 = .ok (.iload_n 1, 1) := by decide +kernel
theorem dX12_put_30 : decode cX12_put 30 = .ok (.iaload, 1) := by decide +kernel
theorem dX12_put_31 : decode cX12_put 31 = .ok (.iastore, 1) := by decide +kernel
theorem dX12_put_32 : decode cX12_put 32 = .ok (.aload_n 0, 1) := by decide +kernel
theorem dX12_put_33 : decode cX12_put 33 = .ok (.getfield 115, 3) := by decide +kernel
theorem dX12_put_36 : decode cX12_put 36 = .ok (.iload_n 1, 1) := by decide +kernel
theorem dX12_put_37 : decode cX12_put 37 = .ok (.aload_n 0, 1) := by decide +kernel
theorem dX12_put_38 : decode cX12_put 38 = .ok (.getfield 87, 3) := by decide +kernel
theorem dX12_put_41 : decode cX12_put 41 = .ok (.iload_n 1, 1) := by decide +kernel
theorem dX12_put_42 : decode cX12_put 42 = .ok (.iaload, 1) := by decide +kernel
theorem dX12_put_43 : decode cX12_put 43 = .ok (.iastore, 1) := by decide +kernel
theorem dX12_put_44 : decode cX12_put 44 = .ok (.aload_n 0, 1) := by decide +kernel
theorem dX12_put_45 : decode cX12_put 45 = .ok (.getfield 124, 3) := by decide +kernel
theorem dX12_put_48 : decode cX12_put 48 = .ok (.iload_n 1, 1) := by decide +kernel
theorem dX12_put_49 : decode cX12_put 49 = .ok (.aload_n 0, 1) := by decide +kernel
theorem dX12_put_50 : decode cX12_put 50 = .ok (.getfield 99, 3) := by decide +kernel
theorem dX12_put_53 : decode cX12_put 53 = .ok (.iload_n 1, 1) := by decide +kernel
theorem dX12_put_54 : decode cX12_put 54 = .ok (.baload, 1) := by decide +kernel
theorem dX12_put_55 : decode cX12_put 55 = .ok (.bastore, 1) := by decide +kernel
theorem dX12_put_56 : decode cX12_put 56 = .ok (.iinc 1 1, 3) := by decide +kernel
theorem dX12_put_59 : decode cX12_put 59 = .ok (.goto (-57), 3) := by decide +kernel
theorem dX12_put_62 : decode cX12_put 62 = .ok (.iconst 0, 1) := by decide +kernel
theorem dX12_put_63 : decode cX12_put 63 = .ok (.istore_n 1, 1) := by decide +kernel
theorem dX12_put_64 : decode cX12_put 64 = .ok (.iload_n 1, 1) := by decide +kernel
theorem dX12_put_65 : decode cX12_put 65 = .ok (.bipush 6, 2) := by decide +kernel
theorem dX12_put_67 : decode cX12_put 67 = .ok (.if_icmp .ge 33, 3) := by decide +kernel
theorem dX12_put_70 : decode cX12_put 70 = .ok (.aload_n 0, 1) := by decide +kernel
theorem dX12_put_71 : decode cX12_put 71 = .ok (.getfield 118, 3) := by decide +kernel
theorem dX12_put_74 : decode cX12_put 74 = .ok (.iload_n 1, 1) := by decide +kernel
theorem dX12_put_75 : decode cX12_put 75 = .ok (.aload_n 0, 1) := by decide +kernel
theorem dX12_put_76 : decode cX12_put 76 = .ok (.getfield 93, 3) := by decide +kernel
theorem dX12_put_79 : decode cX12_put 79 = .ok (.iload_n 1, 1) := by decide +kernel
theorem dX12_put_80 : decode cX12_put 80 = .ok (.iaload, 1) := by decide +kernel
theorem dX12_put_81 : decode cX12_put 81 = .ok (.iastore, 1) := by decide +kernel
theorem dX12_put_82 : decode cX12_put 82 = .ok (.aload_n 0, 1) := by decide +kernel
theorem dX12_put_83 : decode cX12_put 83 = .ok (.getfield 121, 3) := by decide +kernel
theorem dX12_put_86 : decode cX12_put 86 = .ok (.iload_n 1, 1) := by decide +kernel
theorem dX12_put_87 : decode cX12_put 87 = .ok (.aload_n 0, 1) := by decide +kernel
theorem dX12_put_88 : decode cX12_put 88 = .ok (.getfield 96, 3) := by decide +kernel
theorem dX12_put_91 : decode cX12_put 91 = .ok (.iload_n 1, 1) := by decide +kernel
theorem dX12_put_92 : decode cX12_put 92 = .ok (.iaload, 1) := by decide +kernel
theorem dX12_put_93 : decode cX12_put 93 = .ok (.iastore, 1) := by decide +kernel
theorem dX12_put_94 : decode cX12_put 94 = .ok (.iinc 1 1, 3) := by decide +kernel
theorem dX12_put_97 : decode cX12_put 97 = .ok (.goto (-33), 3) := by decide +kernel
theorem dX12_put_100 : decode cX12_put 100 = .ok (.aload_n 0, 1) := by decide +kernel
theorem dX12_put_101 : decode cX12_put 101 = .ok (.aload_n 0, 1) := by decide +kernel
theorem dX12_put_102 : decode cX12_put 102 = .ok (.getfield 464, 3) := by decide +kernel
theorem dX12_put_105 : decode cX12_put 105 = .ok (.putfield 470, 3) := by decide +kernel
theorem dX12_put_108 : decode cX12_put 108 = .ok (.aload_n 0, 1) := by decide +kernel
theorem dX12_put_109 : decode cX12_put 109 = .ok (.aload_n 0, 1) := by decide +kernel
theorem dX12_put_110 : decode cX12_put 110 = .ok (.getfield 103, 3) := by decide +kernel
theorem dX12_put_113 : decode cX12_put 113 = .ok (.putfield 473, 3) := by decide +kernel
theorem dX12_put_116 : decode cX12_put 116 = .ok (.aload_n 0, 1) := by decide +kernel
theorem dX12_put_117 : decode cX12_put 117 = .ok (.aload_n 0, 1) := by decide +kernel
theorem dX12_put_118 : decode cX12_put 118 = .ok (.getfield 467, 3) := by decide +kernel
theorem dX12_put_121 : decode cX12_put 121 = .ok (.putfield 476, 3) := by decide +kernel
theorem dX12_put_124 : decode cX12_put 124 = .ok (.aload_n 0, 1) := by decide +kernel
theorem dX12_put_125 : decode cX12_put 125 = .ok (.iconst 1, 1) := by decide +kernel
theorem dX12_put_126 : decode cX12_put 126 = .ok (.putfield 479, 3) := by decide +kernel
theorem dX12_put_129 : decode cX12_put 129 = .ok (.return_, 1) := by decide +kernel
theorem dX12_bring_0 : decode cX12_bring 0 = .ok (.iconst 0, 1) := by decide +kernel
theorem dX12_bring_1 : decode cX12_bring 1 = .ok (.istore_n 1, 1) := by decide +kernel
theorem dX12_bring_2 : decode cX12_bring 2 = .ok (.iload_n 1, 1) := by decide +kernel
theorem dX12_bring_3 : decode cX12_bring 3 = .ok (.bipush 10, 2) := by decide +kernel
theorem dX12_bring_5 : decode cX12_bring 5 = .ok (.if_icmp .ge 57, 3) := by decide +kernel
theorem dX12_bring_8 : decode cX12_bring 8 = .ok (.aload_n 0, 1) := by decide +kernel
theorem dX12_bring_9 : decode cX12_bring 9 = .ok (.getfield 81, 3) := by decide +kernel
theorem dX12_bring_12 : decode cX12_bring 12 = .ok (.iload_n 1, 1) := by decide +kernel
theorem dX12_bring_13 : decode cX12_bring 13 = .ok (.aload_n 0, 1) := by decide +kernel
theorem dX12_bring_14 : decode cX12_bring 14 = .ok (.getfield 109, 3) := by decide +kernel
theorem dX12_bring_17 : decode cX12_bring 17 = .ok (.iload_n 1, 1) := by decide +kernel
theorem dX12_bring_18 : decode cX12_bring 18 = .ok (.iaload, 1) := by decide +kernel
theorem dX12_bring_19 : decode cX12_bring 19 = .ok (.iastore, 1) := by decide +kernel
theorem dX12_bring_20 : decode cX12_bring 20 = .ok (.aload_n 0, 1) := by decide +kernel
theorem dX12_bring_21 : decode cX12_bring 21 = .ok (.getfield 84, 3) := by decide +kernel
theorem dX12_bring_24 : decode cX12_bring 24 = .ok (.iload_n 1, 1) := by decide +kernel
theorem dX12_bring_25 : decode cX12_bring 25 = .ok (.aload_n 0, 1) := by decide +kernel
theorem dX12_bring_26 : decode cX12_bring 26 = .ok (.getfield 112, 3) := by decide +kernel
theorem dX12_bring_29 : decode cX12_bring 29 = .ok (.iload_n 1, 1) := by decide +kernel
theorem dX12_bring_30 : decode cX12_bring 30 = .ok (.iaload, 1) := by decide +kernel
theorem dX12_bring_31 : decode cX12_bring 31 = .ok (.iastore, 1) := by decide +kernel
theorem dX12_bring_32 : decode cX12_bring 32 = .ok (.aload_n 0, 1) := by decide +kernel
theorem dX12_bring_33 : decode cX12_bring 33 = .ok (.getfield 87, 3) := by decide +kernel
theorem dX12_bring_36 : decode cX12_bring 36 = .ok (.iload_n 1, 1) := by decide +kernel
theorem dX12_bring_37 : decode cX12_bring 37 = .ok (.aload_n 0, 1) := by decide +kernel
theorem dX12_bring_38 : decode cX12_bring 38 = .ok (.getfield 115, 3) := by decide +kernel
theorem dX12_bring_41 : decode cX12_bring 41 = .ok (.iload_n 1, 1) := by decide +kernel
theorem dX12_bring_42 : decode cX12_bring 42 = .ok (.iaload, 1) := by decide +kernel
theorem dX12_bring_43 : decode cX12_bring 43 = .ok (.iastore, 1) := by decide +kernel
theorem dX12_bring_44 : decode cX12_bring 44 = .ok (.aload_n 0, 1) := by decide +kernel
theorem dX12_bring_45 : decode cX12_bring 45 = .ok (.getfield 99, 3) := by decide +kernel
theorem dX12_bring_48 : decode cX12_bring 48 = .ok (.iload_n 1, 1) := by decide +kernel
theorem dX12_bring_49 : decode cX12_bring 49 = .ok (.aload_n 0, 1) := by decide +kernel
theorem dX12_bring_50 : decode cX12_bring 50 = .ok (.getfield 124, 3) := by decide +kernel
theorem dX12_bring_53 : decode cX12_bring 53 = .ok (.iload_n 1, 1) := by decide +kernel
theorem dX12_bring_54 : decode cX12_bring 54 = .ok (.baload, 1) := by decide +kernel
theorem dX12_bring_55 : decode cX12_bring 55 = .ok (.bastore, 1) := by decide +kernel
theorem dX12_bring_56 : decode cX12_bring 56 = .ok (.iinc 1 1, 3) := by decide +kernel
theorem dX12_bring_59 : decode cX12_bring 59 = .ok (.goto (-57), 3) := by decide +kernel
theorem dX12_bring_62 : decode cX12_bring 62 = .ok (.iconst 0, 1) := by decide +kernel
theorem dX12_bring_63 : decode cX12_bring 63 = .ok (.istore_n 1, 1) := by decide +kernel
theorem dX12_bring_64 : decode cX12_bring 64 = .ok (.iload_n 1, 1) := by decide +kernel
theorem dX12_bring_65 : decode cX12_bring 65 = .ok (.bipush 6, 2) := by decide +kernel
theorem dX12_bring_67 : decode cX12_bring 67 = .ok (.if_icmp .ge 33, 3) := by decide +kernel
theorem dX12_bring_70 : decode cX12_bring 70 = .ok (.aload_n 0, 1) := by decide +kernel
theorem dX12_bring_71 : decode cX12_bring 71 = .ok (.getfield 93, 3) := by decide +kernel
theorem dX12_bring_74 : decode cX12_bring 74 = .ok (.iload_n 1, 1) := by decide +kernel
theorem dX12_bring_75 : decode cX12_bring 75 = .ok (.aload_n 0, 1) := by decide +kernel
theorem dX12_bring_76 : decode cX12_bring 76 = .ok (.getfield 118, 3) := by decide +kernel
theorem dX12_bring_79 : decode cX12_bring 79 = .ok (.iload_n 1, 1) := by decide +kernel
theorem dX12_bring_80 : decode cX12_bring 80 = .ok (.iaload, 1) := by decide +kernel
theorem dX12_bring_81 : decode cX12_bring 81 = .ok (.iastore, 1) := by decide +kernel
theorem dX12_bring_82 : decode cX12_bring 82 = .ok (.aload_n 0, 1) := by decide +kernel
theorem dX12_bring_83 : decode cX12_bring 83 = .ok (.getfield 96, 3) := by decide +kernel
theorem dX12_bring_86 : decode cX12_bring 86 = .ok (.iload_n 1, 1) := by decide +kernel
theorem dX12_bring_87 : decode cX12_bring 87 = .ok (.aload_n 0, 1) := by decide +kernel
theorem dX12_bring_88 : decode cX12_bring 88 = .ok (.getfield 121, 3) := by decide +kernel
theorem dX12_bring_91 : decode cX12_bring 91 = .ok (.iload_n 1, 1) := by decide +kernel
theorem dX12_bring_92 : decode cX12_bring 92 = .ok (.iaload, 1) := by decide +kernel
theorem dX12_bring_93 : decode cX12_bring 93 = .ok (.iastore, 1) := by decide +kernel
theorem dX12_bring_94 : decode cX12_bring 94 = .ok (.iinc 1 1, 3) := by decide +kernel
theorem dX12_bring_97 : decode cX12_bring 97 = .ok (.goto (-33), 3) := by decide +kernel
theorem dX12_bring_100 : decode cX12_bring 100 = .ok (.aload_n 0, 1) := by decide +kernel
theorem dX12_bring_101 : decode cX12_bring 101 = .ok (.aload_n 0, 1) := by decide +kernel
theorem dX12_bring_102 : decode cX12_bring 102 = .ok (.getfield 470, 3) := by decide +kernel
theorem dX12_bring_105 : decode cX12_bring 105 = .ok (.putfield 464, 3) := by decide +kernel
theorem dX12_bring_108 : decode cX12_bring 108 = .ok (.aload_n 0, 1) := by decide +kernel
theorem dX12_bring_109 : decode cX12_bring 109 = .ok (.aload_n 0, 1) := by decide +kernel
theorem dX12_bring_110 : decode cX12_bring 110 = .ok (.getfield 473, 3) := by decide +kernel
theorem dX12_bring_113 : decode cX12_bring 113 = .ok (.putfield 103, 3) := by decide +kernel
theorem dX12_bring_116 : decode cX12_bring 116 = .ok (.aload_n 0, 1) := by decide +kernel
theorem dX12_bring_117 : decode cX12_bring 117 = .ok (.aload_n 0, 1) := by decide +kernel
theorem dX12_bring_118 : decode cX12_bring 118 = .ok (.getfield 476, 3) := by decide +kernel
theorem dX12_bring_121 : decode cX12_bring 121 = .ok (.putfield 467, 3) := by decide +kernel
theorem dX12_bring_124 : decode cX12_bring 124 = .ok (.aload_n 0, 1) := by decide +kernel
theorem dX12_bring_125 : decode cX12_bring 125 = .ok (.iconst 0, 1) := by decide +kernel
theorem dX12_bring_126 : decode cX12_bring 126 = .ok (.putfield 479, 3) := by decide +kernel
theorem dX12_bring_129 : decode cX12_bring 129 = .ok (.return_, 1) := by decide +kernel
theorem dX12_draw_0 : decode cX12_draw 0 = .ok (.aload_n 0, 1) := by decide +kernel
theorem dX12_draw_1 : decode cX12_draw 1 = .ok (.aload_n 0, 1) := by decide +kernel
theorem dX12_draw_2 : decode cX12_draw 2 = .ok (.getfield 103, 3) := by decide +kernel
theorem dX12_draw_5 : decode cX12_draw 5 = .ok (.ldc_w 482, 3) := by decide +kernel
theorem dX12_draw_8 : decode cX12_draw 8 = .ok (.imul, 1) := by decide +kernel
theorem dX12_draw_9 : decode cX12_draw 9 = .ok (.sipush 12345, 3) := by decide +kernel
theorem dX12_draw_12 : decode cX12_draw 12 = .ok (.iadd, 1) := by decide +kernel
theorem dX12_draw_13 : decode cX12_draw 13 = .ok (.putfield 103, 3) := by decide +kernel
theorem dX12_draw_16 : decode cX12_draw 16 = .ok (.aload_n 0, 1) := by decide +kernel
theorem dX12_draw_17 : decode cX12_draw 17 = .ok (.getfield 103, 3) := by decide +kernel
theorem dX12_draw_20 : decode cX12_draw 20 = .ok (.bipush 16, 2) := by decide +kernel
theorem dX12_draw_22 : decode cX12_draw 22 = .ok (.iushr, 1) := by decide +kernel
theorem dX12_draw_23 : decode cX12_draw 23 = .ok (.iload_n 1, 1) := by decide +kernel
theorem dX12_draw_24 : decode cX12_draw 24 = .ok (.irem, 1) := by decide +kernel
theorem dX12_draw_25 : decode cX12_draw 25 = .ok (.ireturn, 1) := by decide +kernel
theorem dX12_use_0 : decode cX12_use 0 = .ok (.iconst 0, 1) := by decide +kernel
theorem dX12_use_1 : decode cX12_use 1 = .ok (.istore_n 2, 1) := by decide +kernel
theorem dX12_use_2 : decode cX12_use 2 = .ok (.iload_n 2, 1) := by decide +kernel
theorem dX12_use_3 : decode cX12_use 3 = .ok (.aload_n 0, 1) := by decide +kernel
theorem dX12_use_4 : decode cX12_use 4 = .ok (.getfield 437, 3) := by decide +kernel
theorem dX12_use_7 : decode cX12_use 7 = .ok (.if_icmp .ge 121, 3) := by decide +kernel
theorem dX12_use_10 : decode cX12_use 10 = .ok (.aload_n 0, 1) := by decide +kernel
theorem dX12_use_11 : decode cX12_use 11 = .ok (.getfield 81, 3) := by decide +kernel
theorem dX12_use_14 : decode cX12_use 14 = .ok (.iload_n 2, 1) := by decide +kernel
theorem dX12_use_15 : decode cX12_use 15 = .ok (.iaload, 1) := by decide +kernel
theorem dX12_use_16 : decode cX12_use 16 = .ok (.iload_n 1, 1) := by decide +kernel
theorem dX12_use_17 : decode cX12_use 17 = .ok (.if_icmp .eq 6, 3) := by decide +kernel
theorem dX12_use_20 : decode cX12_use 20 = .ok (.goto 102, 3) := by decide +kernel
theorem dX12_use_23 : decode cX12_use 23 = .ok (.aload_n 0, 1) := by decide +kernel
theorem dX12_use_24 : decode cX12_use 24 = .ok (.getfield 96, 3) := by decide +kernel
theorem dX12_use_27 : decode cX12_use 27 = .ok (.iload_n 1, 1) := by decide +kernel
theorem dX12_use_28 : decode cX12_use 28 = .ok (.dup2, 1) := by decide +kernel
theorem dX12_use_29 : decode cX12_use 29 = .ok (.iaload, 1) := by decide +kernel
theorem dX12_use_30 : decode cX12_use 30 = .ok (.aload_n 0, 1) := by decide +kernel
theorem dX12_use_31 : decode cX12_use 31 = .ok (.getfield 90, 3) := by decide +kernel
theorem dX12_use_34 : decode cX12_use 34 = .ok (.iload_n 2, 1) := by decide +kernel
theorem dX12_use_35 : decode cX12_use 35 = .ok (.iaload, 1) := by decide +kernel
theorem dX12_use_36 : decode cX12_use 36 = .ok (.aload_n 0, 1) := by decide +kernel
theorem dX12_use_37 : decode cX12_use 37 = .ok (.getfield 84, 3) := by decide +kernel
theorem dX12_use_40 : decode cX12_use 40 = .ok (.iload_n 2, 1) := by decide +kernel
theorem dX12_use_41 : decode cX12_use 41 = .ok (.iaload, 1) := by decide +kernel
theorem dX12_use_42 : decode cX12_use 42 = .ok (.imul, 1) := by decide +kernel
theorem dX12_use_43 : decode cX12_use 43 = .ok (.aload_n 0, 1) := by decide +kernel
theorem dX12_use_44 : decode cX12_use 44 = .ok (.iload_n 1, 1) := by decide +kernel
theorem dX12_use_45 : decode cX12_use 45 = .ok (.invokevirtual 483, 3) := by decide +kernel
theorem dX12_use_48 : decode cX12_use 48 = .ok (.imul, 1) := by decide +kernel
theorem dX12_use_49 : decode cX12_use 49 = .ok (.bipush 100, 2) := by decide +kernel
theorem dX12_use_51 : decode cX12_use 51 = .ok (.idiv, 1) := by decide +kernel
theorem dX12_use_52 : decode cX12_use 52 = .ok (.iadd, 1) := by decide +kernel
theorem dX12_use_53 : decode cX12_use 53 = .ok (.iastore, 1) := by decide +kernel
theorem dX12_use_54 : decode cX12_use 54 = .ok (.aload_n 0, 1) := by decide +kernel
theorem dX12_use_55 : decode cX12_use 55 = .ok (.getfield 84, 3) := by decide +kernel
theorem dX12_use_58 : decode cX12_use 58 = .ok (.iload_n 2, 1) := by decide +kernel
theorem dX12_use_59 : decode cX12_use 59 = .ok (.aload_n 0, 1) := by decide +kernel
theorem dX12_use_60 : decode cX12_use 60 = .ok (.getfield 84, 3) := by decide +kernel
theorem dX12_use_63 : decode cX12_use 63 = .ok (.iload_n 2, 1) := by decide +kernel
theorem dX12_use_64 : decode cX12_use 64 = .ok (.iaload, 1) := by decide +kernel
theorem dX12_use_65 : decode cX12_use 65 = .ok (.aload_n 0, 1) := by decide +kernel
theorem dX12_use_66 : decode cX12_use 66 = .ok (.getfield 75, 3) := by decide +kernel
theorem dX12_use_69 : decode cX12_use 69 = .ok (.iconst 5, 1) := by decide +kernel
theorem dX12_use_70 : decode cX12_use 70 = .ok (.iload_n 2, 1) := by decide +kernel
theorem dX12_use_71 : decode cX12_use 71 = .ok (.imul, 1) := by decide +kernel
theorem dX12_use_72 : decode cX12_use 72 = .ok (.iconst 2, 1) := by decide +kernel
theorem dX12_use_73 : decode cX12_use 73 = .ok (.iadd, 1) := by decide +kernel
theorem dX12_use_74 : decode cX12_use 74 = .ok (.iaload, 1) := by decide +kernel
theorem dX12_use_75 : decode cX12_use 75 = .ok (.aload_n 0, 1) := by decide +kernel
theorem dX12_use_76 : decode cX12_use 76 = .ok (.iload_n 1, 1) := by decide +kernel
theorem dX12_use_77 : decode cX12_use 77 = .ok (.invokevirtual 483, 3) := by decide +kernel
theorem dX12_use_80 : decode cX12_use 80 = .ok (.invokestatic 486, 3) := by decide +kernel
theorem dX12_use_83 : decode cX12_use 83 = .ok (.iastore, 1) := by decide +kernel
theorem dX12_use_84 : decode cX12_use 84 = .ok (.aload_n 0, 1) := by decide +kernel
theorem dX12_use_85 : decode cX12_use 85 = .ok (.getfield 75, 3) := by decide +kernel
theorem dX12_use_88 : decode cX12_use 88 = .ok (.iconst 5, 1) := by decide +kernel
theorem dX12_use_89 : decode cX12_use 89 = .ok (.iload_n 2, 1) := by decide +kernel
theorem dX12_use_90 : decode cX12_use 90 = .ok (.imul, 1) := by decide +kernel
theorem dX12_use_91 : decode cX12_use 91 = .ok (.iconst 4, 1) := by decide +kernel
theorem dX12_use_92 : decode cX12_use 92 = .ok (.iadd, 1) := by decide +kernel
theorem dX12_use_93 : decode cX12_use 93 = .ok (.iaload, 1) := by decide +kernel
theorem dX12_use_94 : decode cX12_use 94 = .ok (.ifCond .eq 28, 3) := by decide +kernel
theorem dX12_use_97 : decode cX12_use 97 = .ok (.aload_n 0, 1) := by decide +kernel
theorem dX12_use_98 : decode cX12_use 98 = .ok (.iload_n 1, 1) := by decide +kernel
theorem dX12_use_99 : decode cX12_use 99 = .ok (.invokevirtual 483, 3) := by decide +kernel
theorem dX12_use_102 : decode cX12_use 102 = .ok (.ifCond .ne 6, 3) := by decide +kernel
theorem dX12_use_105 : decode cX12_use 105 = .ok (.goto 17, 3) := by decide +kernel
theorem dX12_use_108 : decode cX12_use 108 = .ok (.aload_n 0, 1) := by decide +kernel
theorem dX12_use_109 : decode cX12_use 109 = .ok (.getfield 99, 3) := by decide +kernel
theorem dX12_use_112 : decode cX12_use 112 = .ok (.iload_n 2, 1) := by decide +kernel
theorem dX12_use_113 : decode cX12_use 113 = .ok (.iconst 1, 1) := by decide +kernel
theorem dX12_use_114 : decode cX12_use 114 = .ok (.bastore, 1) := by decide +kernel
theorem dX12_use_115 : decode cX12_use 115 = .ok (.aload_n 0, 1) := by decide +kernel
theorem dX12_use_116 : decode cX12_use 116 = .ok (.getfield 81, 3) := by decide +kernel
theorem dX12_use_119 : decode cX12_use 119 = .ok (.iload_n 2, 1) := by decide +kernel
theorem dX12_use_120 : decode cX12_use 120 = .ok (.iconst (-1), 1) := by decide +kernel
theorem dX12_use_121 : decode cX12_use 121 = .ok (.iastore, 1) := by decide +kernel
theorem dX12_use_122 : decode cX12_use 122 = .ok (.iinc 2 1, 3) := by decide +kernel
theorem dX12_use_125 : decode cX12_use 125 = .ok (.goto (-123), 3) := by decide +kernel
theorem dX12_use_128 : decode cX12_use 128 = .ok (.return_, 1) := by decide +kernel
theorem dX12_lower_0 : decode cX12_lower 0 = .ok (.iload_n 0, 1) := by decide +kernel
theorem dX12_lower_1 : decode cX12_lower 1 = .ok (.iload_n 1, 1) := by decide +kernel
theorem dX12_lower_2 : decode cX12_lower 2 = .ok (.iload_n 2, 1) := by decide +kernel
theorem dX12_lower_3 : decode cX12_lower 3 = .ok (.imul, 1) := by decide +kernel
theorem dX12_lower_4 : decode cX12_lower 4 = .ok (.bipush 10, 2) := by decide +kernel
theorem dX12_lower_6 : decode cX12_lower 6 = .ok (.idiv, 1) := by decide +kernel
theorem dX12_lower_7 : decode cX12_lower 7 = .ok (.isub, 1) := by decide +kernel
theorem dX12_lower_8 : decode cX12_lower 8 = .ok (.istore_n 3, 1) := by decide +kernel
theorem dX12_lower_9 : decode cX12_lower 9 = .ok (.iload_n 3, 1) := by decide +kernel
theorem dX12_lower_10 : decode cX12_lower 10 = .ok (.ifCond .ge 7, 3) := by decide +kernel
theorem dX12_lower_13 : decode cX12_lower 13 = .ok (.iconst 0, 1) := by decide +kernel
theorem dX12_lower_14 : decode cX12_lower 14 = .ok (.goto 4, 3) := by decide +kernel
theorem dX12_lower_17 : decode cX12_lower 17 = .ok (.iload_n 3, 1) := by decide +kernel
theorem dX12_lower_18 : decode cX12_lower 18 = .ok (.ireturn, 1) := by decide +kernel
theorem dX12_mend_0 : decode cX12_mend 0 = .ok (.iconst (-1), 1) := by decide +kernel
theorem dX12_mend_1 : decode cX12_mend 1 = .ok (.istore_n 2, 1) := by decide +kernel
theorem dX12_mend_2 : decode cX12_mend 2 = .ok (.iconst 0, 1) := by decide +kernel
theorem dX12_mend_3 : decode cX12_mend 3 = .ok (.istore_n 3, 1) := by decide +kernel
theorem dX12_mend_4 : decode cX12_mend 4 = .ok (.iload_n 3, 1) := by decide +kernel
theorem dX12_mend_5 : decode cX12_mend 5 = .ok (.aload_n 0, 1) := by decide +kernel
theorem dX12_mend_6 : decode cX12_mend 6 = .ok (.getfield 437, 3) := by decide +kernel
theorem dX12_mend_9 : decode cX12_mend 9 = .ok (.if_icmp .ge 40, 3) := by decide +kernel
theorem dX12_mend_12 : decode cX12_mend 12 = .ok (.aload_n 0, 1) := by decide +kernel
theorem dX12_mend_13 : decode cX12_mend 13 = .ok (.getfield 81, 3) := by decide +kernel
theorem dX12_mend_16 : decode cX12_mend 16 = .ok (.iload_n 3, 1) := by decide +kernel
theorem dX12_mend_17 : decode cX12_mend 17 = .ok (.iaload, 1) := by decide +kernel
theorem dX12_mend_18 : decode cX12_mend 18 = .ok (.iload_n 1, 1) := by decide +kernel
theorem dX12_mend_19 : decode cX12_mend 19 = .ok (.if_icmp .ne 24, 3) := by decide +kernel
theorem dX12_mend_22 : decode cX12_mend 22 = .ok (.iload_n 2, 1) := by decide +kernel
theorem dX12_mend_23 : decode cX12_mend 23 = .ok (.ifCond .lt 18, 3) := by decide +kernel
theorem dX12_mend_26 : decode cX12_mend 26 = .ok (.aload_n 0, 1) := by decide +kernel
theorem dX12_mend_27 : decode cX12_mend 27 = .ok (.getfield 84, 3) := by decide +kernel
theorem dX12_mend_30 : decode cX12_mend 30 = .ok (.iload_n 3, 1) := by decide +kernel
theorem dX12_mend_31 : decode cX12_mend 31 = .ok (.iaload, 1) := by decide +kernel
theorem dX12_mend_32 : decode cX12_mend 32 = .ok (.aload_n 0, 1) := by decide +kernel
theorem dX12_mend_33 : decode cX12_mend 33 = .ok (.getfield 84, 3) := by decide +kernel
theorem dX12_mend_36 : decode cX12_mend 36 = .ok (.iload_n 2, 1) := by decide +kernel
theorem dX12_mend_37 : decode cX12_mend 37 = .ok (.iaload, 1) := by decide +kernel
theorem dX12_mend_38 : decode cX12_mend 38 = .ok (.if_icmp .ge 5, 3) := by decide +kernel
theorem dX12_mend_41 : decode cX12_mend 41 = .ok (.iload_n 3, 1) := by decide +kernel
theorem dX12_mend_42 : decode cX12_mend 42 = .ok (.istore_n 2, 1) := by decide +kernel
theorem dX12_mend_43 : decode cX12_mend 43 = .ok (.iinc 3 1, 3) := by decide +kernel
theorem dX12_mend_46 : decode cX12_mend 46 = .ok (.goto (-42), 3) := by decide +kernel
theorem dX12_mend_49 : decode cX12_mend 49 = .ok (.iload_n 2, 1) := by decide +kernel
theorem dX12_mend_50 : decode cX12_mend 50 = .ok (.ifCond .ge 4, 3) := by decide +kernel
theorem dX12_mend_53 : decode cX12_mend 53 = .ok (.return_, 1) := by decide +kernel
theorem dX12_mend_54 : decode cX12_mend 54 = .ok (.aload_n 0, 1) := by decide +kernel
theorem dX12_mend_55 : decode cX12_mend 55 = .ok (.getfield 84, 3) := by decide +kernel
theorem dX12_mend_58 : decode cX12_mend 58 = .ok (.iload_n 2, 1) := by decide +kernel
theorem dX12_mend_59 : decode cX12_mend 59 = .ok (.aload_n 0, 1) := by decide +kernel
theorem dX12_mend_60 : decode cX12_mend 60 = .ok (.getfield 84, 3) := by decide +kernel
theorem dX12_mend_63 : decode cX12_mend 63 = .ok (.iload_n 2, 1) := by decide +kernel
theorem dX12_mend_64 : decode cX12_mend 64 = .ok (.iaload, 1) := by decide +kernel
theorem dX12_mend_65 : decode cX12_mend 65 = .ok (.aload_n 0, 1) := by decide +kernel
theorem dX12_mend_66 : decode cX12_mend 66 = .ok (.getfield 78, 3) := by decide +kernel
theorem dX12_mend_69 : decode cX12_mend 69 = .ok (.iconst 4, 1) := by decide +kernel
theorem dX12_mend_70 : decode cX12_mend 70 = .ok (.iload_n 1, 1) := by decide +kernel
theorem dX12_mend_71 : decode cX12_mend 71 = .ok (.imul, 1) := by decide +kernel
theorem dX12_mend_72 : decode cX12_mend 72 = .ok (.iconst 1, 1) := by decide +kernel
theorem dX12_mend_73 : decode cX12_mend 73 = .ok (.iadd, 1) := by decide +kernel
theorem dX12_mend_74 : decode cX12_mend 74 = .ok (.iaload, 1) := by decide +kernel
theorem dX12_mend_75 : decode cX12_mend 75 = .ok (.iadd, 1) := by decide +kernel
theorem dX12_mend_76 : decode cX12_mend 76 = .ok (.bipush 100, 2) := by decide +kernel
theorem dX12_mend_78 : decode cX12_mend 78 = .ok (.if_icmp .le 8, 3) := by decide +kernel
theorem dX12_mend_81 : decode cX12_mend 81 = .ok (.bipush 100, 2) := by decide +kernel
theorem dX12_mend_83 : decode cX12_mend 83 = .ok (.goto 20, 3) := by decide +kernel
theorem dX12_mend_86 : decode cX12_mend 86 = .ok (.aload_n 0, 1) := by decide +kernel
theorem dX12_mend_87 : decode cX12_mend 87 = .ok (.getfield 84, 3) := by decide +kernel
theorem dX12_mend_90 : decode cX12_mend 90 = .ok (.iload_n 2, 1) := by decide +kernel
theorem dX12_mend_91 : decode cX12_mend 91 = .ok (.iaload, 1) := by decide +kernel
theorem dX12_mend_92 : decode cX12_mend 92 = .ok (.aload_n 0, 1) := by decide +kernel
theorem dX12_mend_93 : decode cX12_mend 93 = .ok (.getfield 78, 3) := by decide +kernel
theorem dX12_mend_96 : decode cX12_mend 96 = .ok (.iconst 4, 1) := by decide +kernel
theorem dX12_mend_97 : decode cX12_mend 97 = .ok (.iload_n 1, 1) := by decide +kernel
theorem dX12_mend_98 : decode cX12_mend 98 = .ok (.imul, 1) := by decide +kernel
theorem dX12_mend_99 : decode cX12_mend 99 = .ok (.iconst 1, 1) := by decide +kernel
theorem dX12_mend_100 : decode cX12_mend 100 = .ok (.iadd, 1) := by decide +kernel
theorem dX12_mend_101 : decode cX12_mend 101 = .ok (.iaload, 1) := by decide +kernel
theorem dX12_mend_102 : decode cX12_mend 102 = .ok (.iadd, 1) := by decide +kernel
theorem dX12_mend_103 : decode cX12_mend 103 = .ok (.iastore, 1) := by decide +kernel
theorem dX12_mend_104 : decode cX12_mend 104 = .ok (.return_, 1) := by decide +kernel
theorem dX12_useAndMend_0 : decode cX12_useAndMend 0 = .ok (.iconst 0, 1) := by decide +kernel
theorem dX12_useAndMend_1 : decode cX12_useAndMend 1 = .ok (.istore_n 1, 1) := by decide +kernel
theorem dX12_useAndMend_2 : decode cX12_useAndMend 2 = .ok (.iload_n 1, 1) := by decide +kernel
theorem dX12_useAndMend_3 : decode cX12_useAndMend 3 = .ok (.aload_n 0, 1) := by decide +kernel
theorem dX12_useAndMend_4 : decode cX12_useAndMend 4 = .ok (.getfield 440, 3) := by decide +kernel
theorem dX12_useAndMend_7 : decode cX12_useAndMend 7 = .ok (.if_icmp .ge 14, 3) := by decide +kernel
theorem dX12_useAndMend_10 : decode cX12_useAndMend 10 = .ok (.aload_n 0, 1) := by decide +kernel
theorem dX12_useAndMend_11 : decode cX12_useAndMend 11 = .ok (.iload_n 1, 1) := by decide +kernel
theorem dX12_useAndMend_12 : decode cX12_useAndMend 12 = .ok (.invokevirtual 490, 3) := by decide +kernel
theorem dX12_useAndMend_15 : decode cX12_useAndMend 15 = .ok (.iinc 1 1, 3) := by decide +kernel
theorem dX12_useAndMend_18 : decode cX12_useAndMend 18 = .ok (.goto (-16), 3) := by decide +kernel
theorem dX12_useAndMend_21 : decode cX12_useAndMend 21 = .ok (.iconst 0, 1) := by decide +kernel
theorem dX12_useAndMend_22 : decode cX12_useAndMend 22 = .ok (.istore_n 1, 1) := by decide +kernel
theorem dX12_useAndMend_23 : decode cX12_useAndMend 23 = .ok (.iload_n 1, 1) := by decide +kernel
theorem dX12_useAndMend_24 : decode cX12_useAndMend 24 = .ok (.aload_n 0, 1) := by decide +kernel
theorem dX12_useAndMend_25 : decode cX12_useAndMend 25 = .ok (.getfield 440, 3) := by decide +kernel
theorem dX12_useAndMend_28 : decode cX12_useAndMend 28 = .ok (.if_icmp .ge 14, 3) := by decide +kernel
theorem dX12_useAndMend_31 : decode cX12_useAndMend 31 = .ok (.aload_n 0, 1) := by decide +kernel
theorem dX12_useAndMend_32 : decode cX12_useAndMend 32 = .ok (.iload_n 1, 1) := by decide +kernel
theorem dX12_useAndMend_33 : decode cX12_useAndMend 33 = .ok (.invokevirtual 493, 3) := by decide +kernel
theorem dX12_useAndMend_36 : decode cX12_useAndMend 36 = .ok (.iinc 1 1, 3) := by decide +kernel
theorem dX12_useAndMend_39 : decode cX12_useAndMend 39 = .ok (.goto (-16), 3) := by decide +kernel
theorem dX12_useAndMend_42 : decode cX12_useAndMend 42 = .ok (.return_, 1) := by decide +kernel
theorem dX12_beginNoons_0 : decode cX12_beginNoons 0 = .ok (.iconst 0, 1) := by decide +kernel
theorem dX12_beginNoons_1 : decode cX12_beginNoons 1 = .ok (.istore_n 2, 1) := by decide +kernel
theorem dX12_beginNoons_2 : decode cX12_beginNoons 2 = .ok (.iload_n 2, 1) := by decide +kernel
theorem dX12_beginNoons_3 : decode cX12_beginNoons 3 = .ok (.bipush 10, 2) := by decide +kernel
theorem dX12_beginNoons_5 : decode cX12_beginNoons 5 = .ok (.if_icmp .ge 33, 3) := by decide +kernel
theorem dX12_beginNoons_8 : decode cX12_beginNoons 8 = .ok (.aload_n 0, 1) := by decide +kernel
theorem dX12_beginNoons_9 : decode cX12_beginNoons 9 = .ok (.getfield 127, 3) := by decide +kernel
theorem dX12_beginNoons_12 : decode cX12_beginNoons 12 = .ok (.iload_n 2, 1) := by decide +kernel
theorem dX12_beginNoons_13 : decode cX12_beginNoons 13 = .ok (.aload_n 0, 1) := by decide +kernel
theorem dX12_beginNoons_14 : decode cX12_beginNoons 14 = .ok (.getfield 81, 3) := by decide +kernel
theorem dX12_beginNoons_17 : decode cX12_beginNoons 17 = .ok (.iload_n 2, 1) := by decide +kernel
theorem dX12_beginNoons_18 : decode cX12_beginNoons 18 = .ok (.iaload, 1) := by decide +kernel
theorem dX12_beginNoons_19 : decode cX12_beginNoons 19 = .ok (.iastore, 1) := by decide +kernel
theorem dX12_beginNoons_20 : decode cX12_beginNoons 20 = .ok (.aload_n 0, 1) := by decide +kernel
theorem dX12_beginNoons_21 : decode cX12_beginNoons 21 = .ok (.getfield 130, 3) := by decide +kernel
theorem dX12_beginNoons_24 : decode cX12_beginNoons 24 = .ok (.iload_n 2, 1) := by decide +kernel
theorem dX12_beginNoons_25 : decode cX12_beginNoons 25 = .ok (.aload_n 0, 1) := by decide +kernel
theorem dX12_beginNoons_26 : decode cX12_beginNoons 26 = .ok (.getfield 87, 3) := by decide +kernel
theorem dX12_beginNoons_29 : decode cX12_beginNoons 29 = .ok (.iload_n 2, 1) := by decide +kernel
theorem dX12_beginNoons_30 : decode cX12_beginNoons 30 = .ok (.iaload, 1) := by decide +kernel
theorem dX12_beginNoons_31 : decode cX12_beginNoons 31 = .ok (.iastore, 1) := by decide +kernel
theorem dX12_beginNoons_32 : decode cX12_beginNoons 32 = .ok (.iinc 2 1, 3) := by decide +kernel
theorem dX12_beginNoons_35 : decode cX12_beginNoons 35 = .ok (.goto (-33), 3) := by decide +kernel
theorem dX12_beginNoons_38 : decode cX12_beginNoons 38 = .ok (.aload_n 0, 1) := by decide +kernel
theorem dX12_beginNoons_39 : decode cX12_beginNoons 39 = .ok (.iload_n 1, 1) := by decide +kernel
theorem dX12_beginNoons_40 : decode cX12_beginNoons 40 = .ok (.putfield 496, 3) := by decide +kernel
theorem dX12_beginNoons_43 : decode cX12_beginNoons 43 = .ok (.return_, 1) := by decide +kernel
theorem dX12_worked_0 : decode cX12_worked 0 = .ok (.iload_n 0, 1) := by decide +kernel
theorem dX12_worked_1 : decode cX12_worked 1 = .ok (.tableswitch 116 20 27 #[47, 61, 116, 75, 86, 97, 108, 112], 47) := by decide +kernel
theorem dX12_worked_48 : decode cX12_worked 48 = .ok (.iload_n 1, 1) := by decide +kernel
theorem dX12_worked_49 : decode cX12_worked 49 = .ok (.ifCond .ne 7, 3) := by decide +kernel
theorem dX12_worked_52 : decode cX12_worked 52 = .ok (.iload_n 2, 1) := by decide +kernel
theorem dX12_worked_53 : decode cX12_worked 53 = .ok (.ifCond .eq 7, 3) := by decide +kernel
theorem dX12_worked_56 : decode cX12_worked 56 = .ok (.iconst 1, 1) := by decide +kernel
theorem dX12_worked_57 : decode cX12_worked 57 = .ok (.goto 4, 3) := by decide +kernel
theorem dX12_worked_60 : decode cX12_worked 60 = .ok (.iconst 0, 1) := by decide +kernel
theorem dX12_worked_61 : decode cX12_worked 61 = .ok (.ireturn, 1) := by decide +kernel
theorem dX12_worked_62 : decode cX12_worked 62 = .ok (.iload_n 1, 1) := by decide +kernel
theorem dX12_worked_63 : decode cX12_worked 63 = .ok (.ifCond .eq 11, 3) := by decide +kernel
theorem dX12_worked_66 : decode cX12_worked 66 = .ok (.iload_n 2, 1) := by decide +kernel
theorem dX12_worked_67 : decode cX12_worked 67 = .ok (.ifCond .eq 7, 3) := by decide +kernel
theorem dX12_worked_70 : decode cX12_worked 70 = .ok (.iconst 1, 1) := by decide +kernel
theorem dX12_worked_71 : decode cX12_worked 71 = .ok (.goto 4, 3) := by decide +kernel
theorem dX12_worked_74 : decode cX12_worked 74 = .ok (.iconst 0, 1) := by decide +kernel
theorem dX12_worked_75 : decode cX12_worked 75 = .ok (.ireturn, 1) := by decide +kernel
theorem dX12_worked_76 : decode cX12_worked 76 = .ok (.iload_n 1, 1) := by decide +kernel
theorem dX12_worked_77 : decode cX12_worked 77 = .ok (.iload_n 2, 1) := by decide +kernel
theorem dX12_worked_78 : decode cX12_worked 78 = .ok (.if_icmp .ne 7, 3) := by decide +kernel
theorem dX12_worked_81 : decode cX12_worked 81 = .ok (.iconst 1, 1) := by decide +kernel
theorem dX12_worked_82 : decode cX12_worked 82 = .ok (.goto 4, 3) := by decide +kernel
theorem dX12_worked_85 : decode cX12_worked 85 = .ok (.iconst 0, 1) := by decide +kernel
theorem dX12_worked_86 : decode cX12_worked 86 = .ok (.ireturn, 1) := by decide +kernel
theorem dX12_worked_87 : decode cX12_worked 87 = .ok (.iload_n 1, 1) := by decide +kernel
theorem dX12_worked_88 : decode cX12_worked 88 = .ok (.iload_n 2, 1) := by decide +kernel
theorem dX12_worked_89 : decode cX12_worked 89 = .ok (.if_icmp .ge 7, 3) := by decide +kernel
theorem dX12_worked_92 : decode cX12_worked 92 = .ok (.iconst 1, 1) := by decide +kernel
theorem dX12_worked_93 : decode cX12_worked 93 = .ok (.goto 4, 3) := by decide +kernel
theorem dX12_worked_96 : decode cX12_worked 96 = .ok (.iconst 0, 1) := by decide +kernel
theorem dX12_worked_97 : decode cX12_worked 97 = .ok (.ireturn, 1) := by decide +kernel
theorem dX12_worked_98 : decode cX12_worked 98 = .ok (.iload_n 1, 1) := by decide +kernel
theorem dX12_worked_99 : decode cX12_worked 99 = .ok (.iload_n 2, 1) := by decide +kernel
theorem dX12_worked_100 : decode cX12_worked 100 = .ok (.if_icmp .le 7, 3) := by decide +kernel
theorem dX12_worked_103 : decode cX12_worked 103 = .ok (.iconst 1, 1) := by decide +kernel
theorem dX12_worked_104 : decode cX12_worked 104 = .ok (.goto 4, 3) := by decide +kernel
theorem dX12_worked_107 : decode cX12_worked 107 = .ok (.iconst 0, 1) := by decide +kernel
theorem dX12_worked_108 : decode cX12_worked 108 = .ok (.ireturn, 1) := by decide +kernel
theorem dX12_worked_109 : decode cX12_worked 109 = .ok (.iload_n 1, 1) := by decide +kernel
theorem dX12_worked_110 : decode cX12_worked 110 = .ok (.iload_n 2, 1) := by decide +kernel
theorem dX12_worked_111 : decode cX12_worked 111 = .ok (.iadd, 1) := by decide +kernel
theorem dX12_worked_112 : decode cX12_worked 112 = .ok (.ireturn, 1) := by decide +kernel
theorem dX12_worked_113 : decode cX12_worked 113 = .ok (.iload_n 1, 1) := by decide +kernel
theorem dX12_worked_114 : decode cX12_worked 114 = .ok (.iload_n 2, 1) := by decide +kernel
theorem dX12_worked_115 : decode cX12_worked 115 = .ok (.isub, 1) := by decide +kernel
theorem dX12_worked_116 : decode cX12_worked 116 = .ok (.ireturn, 1) := by decide +kernel
theorem dX12_worked_117 : decode cX12_worked 117 = .ok (.iload_n 1, 1) := by decide +kernel
theorem dX12_worked_118 : decode cX12_worked 118 = .ok (.iload_n 2, 1) := by decide +kernel
theorem dX12_worked_119 : decode cX12_worked 119 = .ok (.imul, 1) := by decide +kernel
theorem dX12_worked_120 : decode cX12_worked 120 = .ok (.ireturn, 1) := by decide +kernel
theorem dX12_asksOf_0 : decode cX12_asksOf 0 = .ok (.aload_n 0, 1) := by decide +kernel
theorem dX12_asksOf_1 : decode cX12_asksOf 1 = .ok (.getfield 41, 3) := by decide +kernel
theorem dX12_asksOf_4 : decode cX12_asksOf 4 = .ok (.iconst 1, 1) := by decide +kernel
theorem dX12_asksOf_5 : decode cX12_asksOf 5 = .ok (.aload_n 0, 1) := by decide +kernel
theorem dX12_asksOf_6 : decode cX12_asksOf 6 = .ok (.getfield 90, 3) := by decide +kernel
theorem dX12_asksOf_9 : decode cX12_asksOf 9 = .ok (.iload_n 2, 1) := by decide +kernel
theorem dX12_asksOf_10 : decode cX12_asksOf 10 = .ok (.iaload, 1) := by decide +kernel
theorem dX12_asksOf_11 : decode cX12_asksOf 11 = .ok (.iastore, 1) := by decide +kernel
theorem dX12_asksOf_12 : decode cX12_asksOf 12 = .ok (.aload_n 0, 1) := by decide +kernel
theorem dX12_asksOf_13 : decode cX12_asksOf 13 = .ok (.getfield 41, 3) := by decide +kernel
theorem dX12_asksOf_16 : decode cX12_asksOf 16 = .ok (.iconst 2, 1) := by decide +kernel
theorem dX12_asksOf_17 : decode cX12_asksOf 17 = .ok (.aload_n 0, 1) := by decide +kernel
theorem dX12_asksOf_18 : decode cX12_asksOf 18 = .ok (.getfield 84, 3) := by decide +kernel
theorem dX12_asksOf_21 : decode cX12_asksOf 21 = .ok (.iload_n 2, 1) := by decide +kernel
theorem dX12_asksOf_22 : decode cX12_asksOf 22 = .ok (.iaload, 1) := by decide +kernel
theorem dX12_asksOf_23 : decode cX12_asksOf 23 = .ok (.iastore, 1) := by decide +kernel
theorem dX12_asksOf_24 : decode cX12_asksOf 24 = .ok (.aload_n 0, 1) := by decide +kernel
theorem dX12_asksOf_25 : decode cX12_asksOf 25 = .ok (.getfield 41, 3) := by decide +kernel
theorem dX12_asksOf_28 : decode cX12_asksOf 28 = .ok (.iconst 3, 1) := by decide +kernel
theorem dX12_asksOf_29 : decode cX12_asksOf 29 = .ok (.aload_n 0, 1) := by decide +kernel
theorem dX12_asksOf_30 : decode cX12_asksOf 30 = .ok (.iload_n 2, 1) := by decide +kernel
theorem dX12_asksOf_31 : decode cX12_asksOf 31 = .ok (.invokevirtual 499, 3) := by decide +kernel
theorem dX12_asksOf_34 : decode cX12_asksOf 34 = .ok (.iastore, 1) := by decide +kernel
theorem dX12_asksOf_35 : decode cX12_asksOf 35 = .ok (.aload_n 0, 1) := by decide +kernel
theorem dX12_asksOf_36 : decode cX12_asksOf 36 = .ok (.getfield 41, 3) := by decide +kernel
theorem dX12_asksOf_39 : decode cX12_asksOf 39 = .ok (.iconst 4, 1) := by decide +kernel
theorem dX12_asksOf_40 : decode cX12_asksOf 40 = .ok (.aload_n 0, 1) := by decide +kernel
theorem dX12_asksOf_41 : decode cX12_asksOf 41 = .ok (.iload_n 3, 1) := by decide +kernel
theorem dX12_asksOf_42 : decode cX12_asksOf 42 = .ok (.aload_n 0, 1) := by decide +kernel
theorem dX12_asksOf_43 : decode cX12_asksOf 43 = .ok (.iload_n 2, 1) := by decide +kernel
theorem dX12_asksOf_44 : decode cX12_asksOf 44 = .ok (.invokevirtual 502, 3) := by decide +kernel
theorem dX12_asksOf_47 : decode cX12_asksOf 47 = .ok (.invokevirtual 461, 3) := by decide +kernel
theorem dX12_asksOf_50 : decode cX12_asksOf 50 = .ok (.iastore, 1) := by decide +kernel
theorem dX12_asksOf_51 : decode cX12_asksOf 51 = .ok (.aload_n 0, 1) := by decide +kernel
theorem dX12_asksOf_52 : decode cX12_asksOf 52 = .ok (.getfield 41, 3) := by decide +kernel
theorem dX12_asksOf_55 : decode cX12_asksOf 55 = .ok (.iconst 5, 1) := by decide +kernel
theorem dX12_asksOf_56 : decode cX12_asksOf 56 = .ok (.aload_n 0, 1) := by decide +kernel
theorem dX12_asksOf_57 : decode cX12_asksOf 57 = .ok (.getfield 127, 3) := by decide +kernel
theorem dX12_asksOf_60 : decode cX12_asksOf 60 = .ok (.iload_n 2, 1) := by decide +kernel
theorem dX12_asksOf_61 : decode cX12_asksOf 61 = .ok (.iaload, 1) := by decide +kernel
theorem dX12_asksOf_62 : decode cX12_asksOf 62 = .ok (.iload_n 1, 1) := by decide +kernel
theorem dX12_asksOf_63 : decode cX12_asksOf 63 = .ok (.if_icmp .ne 7, 3) := by decide +kernel
theorem dX12_asksOf_66 : decode cX12_asksOf 66 = .ok (.iconst 1, 1) := by decide +kernel
theorem dX12_asksOf_67 : decode cX12_asksOf 67 = .ok (.goto 4, 3) := by decide +kernel
theorem dX12_asksOf_70 : decode cX12_asksOf 70 = .ok (.iconst 0, 1) := by decide +kernel
theorem dX12_asksOf_71 : decode cX12_asksOf 71 = .ok (.iastore, 1) := by decide +kernel
theorem dX12_asksOf_72 : decode cX12_asksOf 72 = .ok (.aload_n 0, 1) := by decide +kernel
theorem dX12_asksOf_73 : decode cX12_asksOf 73 = .ok (.getfield 41, 3) := by decide +kernel
theorem dX12_asksOf_76 : decode cX12_asksOf 76 = .ok (.bipush 6, 2) := by decide +kernel
theorem dX12_asksOf_78 : decode cX12_asksOf 78 = .ok (.aload_n 0, 1) := by decide +kernel
theorem dX12_asksOf_79 : decode cX12_asksOf 79 = .ok (.getfield 127, 3) := by decide +kernel
theorem dX12_asksOf_82 : decode cX12_asksOf 82 = .ok (.iload_n 2, 1) := by decide +kernel
theorem dX12_asksOf_83 : decode cX12_asksOf 83 = .ok (.iaload, 1) := by decide +kernel
theorem dX12_asksOf_84 : decode cX12_asksOf 84 = .ok (.ifCond .lt 7, 3) := by decide +kernel
theorem dX12_asksOf_87 : decode cX12_asksOf 87 = .ok (.iconst 1, 1) := by decide +kernel
theorem dX12_asksOf_88 : decode cX12_asksOf 88 = .ok (.goto 4, 3) := by decide +kernel
theorem dX12_asksOf_91 : decode cX12_asksOf 91 = .ok (.iconst 0, 1) := by decide +kernel
theorem dX12_asksOf_92 : decode cX12_asksOf 92 = .ok (.iastore, 1) := by decide +kernel
theorem dX12_asksOf_93 : decode cX12_asksOf 93 = .ok (.aload_n 0, 1) := by decide +kernel
theorem dX12_asksOf_94 : decode cX12_asksOf 94 = .ok (.getfield 41, 3) := by decide +kernel
theorem dX12_asksOf_97 : decode cX12_asksOf 97 = .ok (.bipush 7, 2) := by decide +kernel
theorem dX12_asksOf_99 : decode cX12_asksOf 99 = .ok (.aload_n 0, 1) := by decide +kernel
theorem dX12_asksOf_100 : decode cX12_asksOf 100 = .ok (.getfield 130, 3) := by decide +kernel
theorem dX12_asksOf_103 : decode cX12_asksOf 103 = .ok (.iload_n 2, 1) := by decide +kernel
theorem dX12_asksOf_104 : decode cX12_asksOf 104 = .ok (.iaload, 1) := by decide +kernel
theorem dX12_asksOf_105 : decode cX12_asksOf 105 = .ok (.iastore, 1) := by decide +kernel
theorem dX12_asksOf_106 : decode cX12_asksOf 106 = .ok (.aload_n 0, 1) := by decide +kernel
theorem dX12_asksOf_107 : decode cX12_asksOf 107 = .ok (.getfield 41, 3) := by decide +kernel
theorem dX12_asksOf_110 : decode cX12_asksOf 110 = .ok (.bipush 8, 2) := by decide +kernel
theorem dX12_asksOf_112 : decode cX12_asksOf 112 = .ok (.aload_n 0, 1) := by decide +kernel
theorem dX12_asksOf_113 : decode cX12_asksOf 113 = .ok (.getfield 496, 3) := by decide +kernel
theorem dX12_asksOf_116 : decode cX12_asksOf 116 = .ok (.iastore, 1) := by decide +kernel
theorem dX12_asksOf_117 : decode cX12_asksOf 117 = .ok (.aload_n 0, 1) := by decide +kernel
theorem dX12_asksOf_118 : decode cX12_asksOf 118 = .ok (.getfield 41, 3) := by decide +kernel
theorem dX12_asksOf_121 : decode cX12_asksOf 121 = .ok (.bipush 9, 2) := by decide +kernel
theorem dX12_asksOf_123 : decode cX12_asksOf 123 = .ok (.aload_n 0, 1) := by decide +kernel
theorem dX12_asksOf_124 : decode cX12_asksOf 124 = .ok (.getfield 78, 3) := by decide +kernel
theorem dX12_asksOf_127 : decode cX12_asksOf 127 = .ok (.iconst 4, 1) := by decide +kernel
theorem dX12_asksOf_128 : decode cX12_asksOf 128 = .ok (.iload_n 1, 1) := by decide +kernel
theorem dX12_asksOf_129 : decode cX12_asksOf 129 = .ok (.imul, 1) := by decide +kernel
theorem dX12_asksOf_130 : decode cX12_asksOf 130 = .ok (.iconst 1, 1) := by decide +kernel
theorem dX12_asksOf_131 : decode cX12_asksOf 131 = .ok (.iadd, 1) := by decide +kernel
theorem dX12_asksOf_132 : decode cX12_asksOf 132 = .ok (.iaload, 1) := by decide +kernel
theorem dX12_asksOf_133 : decode cX12_asksOf 133 = .ok (.iastore, 1) := by decide +kernel
theorem dX12_asksOf_134 : decode cX12_asksOf 134 = .ok (.aload_n 0, 1) := by decide +kernel
theorem dX12_asksOf_135 : decode cX12_asksOf 135 = .ok (.getfield 41, 3) := by decide +kernel
theorem dX12_asksOf_138 : decode cX12_asksOf 138 = .ok (.bipush 10, 2) := by decide +kernel
theorem dX12_asksOf_140 : decode cX12_asksOf 140 = .ok (.aload_n 0, 1) := by decide +kernel
theorem dX12_asksOf_141 : decode cX12_asksOf 141 = .ok (.iload_n 1, 1) := by decide +kernel
theorem dX12_asksOf_142 : decode cX12_asksOf 142 = .ok (.invokevirtual 505, 3) := by decide +kernel
theorem dX12_asksOf_145 : decode cX12_asksOf 145 = .ok (.iastore, 1) := by decide +kernel
theorem dX12_asksOf_146 : decode cX12_asksOf 146 = .ok (.aload_n 0, 1) := by decide +kernel
theorem dX12_asksOf_147 : decode cX12_asksOf 147 = .ok (.getfield 41, 3) := by decide +kernel
theorem dX12_asksOf_150 : decode cX12_asksOf 150 = .ok (.bipush 11, 2) := by decide +kernel
theorem dX12_asksOf_152 : decode cX12_asksOf 152 = .ok (.aload_n 0, 1) := by decide +kernel
theorem dX12_asksOf_153 : decode cX12_asksOf 153 = .ok (.getfield 66, 3) := by decide +kernel
theorem dX12_asksOf_156 : decode cX12_asksOf 156 = .ok (.aload_n 0, 1) := by decide +kernel
theorem dX12_asksOf_157 : decode cX12_asksOf 157 = .ok (.iload_n 2, 1) := by decide +kernel
theorem dX12_asksOf_158 : decode cX12_asksOf 158 = .ok (.invokevirtual 502, 3) := by decide +kernel
theorem dX12_asksOf_161 : decode cX12_asksOf 161 = .ok (.iaload, 1) := by decide +kernel
theorem dX12_asksOf_162 : decode cX12_asksOf 162 = .ok (.iastore, 1) := by decide +kernel
theorem dX12_asksOf_163 : decode cX12_asksOf 163 = .ok (.iconst 0, 1) := by decide +kernel
theorem dX12_asksOf_164 : decode cX12_asksOf 164 = .ok (.istore 4, 2) := by decide +kernel
theorem dX12_asksOf_166 : decode cX12_asksOf 166 = .ok (.aload_n 0, 1) := by decide +kernel
theorem dX12_asksOf_167 : decode cX12_asksOf 167 = .ok (.getfield 32, 3) := by decide +kernel
theorem dX12_asksOf_170 : decode cX12_asksOf 170 = .ok (.iload_n 1, 1) := by decide +kernel
theorem dX12_asksOf_171 : decode cX12_asksOf 171 = .ok (.iaload, 1) := by decide +kernel
theorem dX12_asksOf_172 : decode cX12_asksOf 172 = .ok (.istore 5, 2) := by decide +kernel
theorem dX12_asksOf_174 : decode cX12_asksOf 174 = .ok (.iload 5, 2) := by decide +kernel
theorem dX12_asksOf_176 : decode cX12_asksOf 176 = .ok (.aload_n 0, 1) := by decide +kernel
theorem dX12_asksOf_177 : decode cX12_asksOf 177 = .ok (.getfield 32, 3) := by decide +kernel
theorem dX12_asksOf_180 : decode cX12_asksOf 180 = .ok (.iload_n 1, 1) := by decide +kernel
theorem dX12_asksOf_181 : decode cX12_asksOf 181 = .ok (.iconst 1, 1) := by decide +kernel
theorem dX12_asksOf_182 : decode cX12_asksOf 182 = .ok (.iadd, 1) := by decide +kernel
theorem dX12_asksOf_183 : decode cX12_asksOf 183 = .ok (.iaload, 1) := by decide +kernel
theorem dX12_asksOf_184 : decode cX12_asksOf 184 = .ok (.if_icmp .ge 145, 3) := by decide +kernel
theorem dX12_asksOf_187 : decode cX12_asksOf 187 = .ok (.aload_n 0, 1) := by decide +kernel
theorem dX12_asksOf_188 : decode cX12_asksOf 188 = .ok (.getfield 26, 3) := by decide +kernel
theorem dX12_asksOf_191 : decode cX12_asksOf 191 = .ok (.iload 5, 2) := by decide +kernel
theorem dX12_asksOf_193 : decode cX12_asksOf 193 = .ok (.iaload, 1) := by decide +kernel
theorem dX12_asksOf_194 : decode cX12_asksOf 194 = .ok (.bipush 20, 2) := by decide +kernel
theorem dX12_asksOf_196 : decode cX12_asksOf 196 = .ok (.if_icmp .ge 48, 3) := by decide +kernel
theorem dX12_asksOf_199 : decode cX12_asksOf 199 = .ok (.aload_n 0, 1) := by decide +kernel
theorem dX12_asksOf_200 : decode cX12_asksOf 200 = .ok (.getfield 38, 3) := by decide +kernel
theorem dX12_asksOf_203 : decode cX12_asksOf 203 = .ok (.iload 4, 2) := by decide +kernel
theorem dX12_asksOf_205 : decode cX12_asksOf 205 = .ok (.aload_n 0, 1) := by decide +kernel
theorem dX12_asksOf_206 : decode cX12_asksOf 206 = .ok (.getfield 26, 3) := by decide +kernel
theorem dX12_asksOf_209 : decode cX12_asksOf 209 = .ok (.iload 5, 2) := by decide +kernel
theorem dX12_asksOf_211 : decode cX12_asksOf 211 = .ok (.iaload, 1) := by decide +kernel
theorem dX12_asksOf_212 : decode cX12_asksOf 212 = .ok (.ifCond .ne 13, 3) := by decide +kernel
theorem dX12_asksOf_215 : decode cX12_asksOf 215 = .ok (.aload_n 0, 1) := by decide +kernel
theorem dX12_asksOf_216 : decode cX12_asksOf 216 = .ok (.getfield 29, 3) := by decide +kernel
theorem dX12_asksOf_219 : decode cX12_asksOf 219 = .ok (.iload 5, 2) := by decide +kernel
theorem dX12_asksOf_221 : decode cX12_asksOf 221 = .ok (.iaload, 1) := by decide +kernel
theorem dX12_asksOf_222 : decode cX12_asksOf 222 = .ok (.goto 15, 3) := by decide +kernel
theorem dX12_asksOf_225 : decode cX12_asksOf 225 = .ok (.aload_n 0, 1) := by decide +kernel
theorem dX12_asksOf_226 : decode cX12_asksOf 226 = .ok (.getfield 41, 3) := by decide +kernel
theorem dX12_asksOf_229 : decode cX12_asksOf 229 = .ok (.aload_n 0, 1) := by decide +kernel
theorem dX12_asksOf_230 : decode cX12_asksOf 230 = .ok (.getfield 26, 3) := by decide +kernel
theorem dX12_asksOf_233 : decode cX12_asksOf 233 = .ok (.iload 5, 2) := by decide +kernel
theorem dX12_asksOf_235 : decode cX12_asksOf 235 = .ok (.iaload, 1) := by decide +kernel
theorem dX12_asksOf_236 : decode cX12_asksOf 236 = .ok (.iaload, 1) := by decide +kernel
theorem dX12_asksOf_237 : decode cX12_asksOf 237 = .ok (.iastore, 1) := by decide +kernel
theorem dX12_asksOf_238 : decode cX12_asksOf 238 = .ok (.iinc 4 1, 3) := by decide +kernel
theorem dX12_asksOf_241 : decode cX12_asksOf 241 = .ok (.goto 82, 3) := by decide +kernel
theorem dX12_asksOf_244 : decode cX12_asksOf 244 = .ok (.aload_n 0, 1) := by decide +kernel
theorem dX12_asksOf_245 : decode cX12_asksOf 245 = .ok (.getfield 26, 3) := by decide +kernel
theorem dX12_asksOf_248 : decode cX12_asksOf 248 = .ok (.iload 5, 2) := by decide +kernel
theorem dX12_asksOf_250 : decode cX12_asksOf 250 = .ok (.iaload, 1) := by decide +kernel
theorem dX12_asksOf_251 : decode cX12_asksOf 251 = .ok (.bipush 22, 2) := by decide +kernel
theorem dX12_asksOf_253 : decode cX12_asksOf 253 = .ok (.if_icmp .ne 32, 3) := by decide +kernel
theorem dX12_asksOf_256 : decode cX12_asksOf 256 = .ok (.aload_n 0, 1) := by decide +kernel
theorem dX12_asksOf_257 : decode cX12_asksOf 257 = .ok (.getfield 38, 3) := by decide +kernel
theorem dX12_asksOf_260 : decode cX12_asksOf 260 = .ok (.iload 4, 2) := by decide +kernel
theorem dX12_asksOf_262 : decode cX12_asksOf 262 = .ok (.iconst 1, 1) := by decide +kernel
theorem dX12_asksOf_263 : decode cX12_asksOf 263 = .ok (.isub, 1) := by decide +kernel
theorem dX12_asksOf_264 : decode cX12_asksOf 264 = .ok (.aload_n 0, 1) := by decide +kernel
theorem dX12_asksOf_265 : decode cX12_asksOf 265 = .ok (.getfield 38, 3) := by decide +kernel
theorem dX12_asksOf_268 : decode cX12_asksOf 268 = .ok (.iload 4, 2) := by decide +kernel
theorem dX12_asksOf_270 : decode cX12_asksOf 270 = .ok (.iconst 1, 1) := by decide +kernel
theorem dX12_asksOf_271 : decode cX12_asksOf 271 = .ok (.isub, 1) := by decide +kernel
theorem dX12_asksOf_272 : decode cX12_asksOf 272 = .ok (.iaload, 1) := by decide +kernel
theorem dX12_asksOf_273 : decode cX12_asksOf 273 = .ok (.ifCond .ne 7, 3) := by decide +kernel
theorem dX12_asksOf_276 : decode cX12_asksOf 276 = .ok (.iconst 1, 1) := by decide +kernel
theorem dX12_asksOf_277 : decode cX12_asksOf 277 = .ok (.goto 4, 3) := by decide +kernel
theorem dX12_asksOf_280 : decode cX12_asksOf 280 = .ok (.iconst 0, 1) := by decide +kernel
theorem dX12_asksOf_281 : decode cX12_asksOf 281 = .ok (.iastore, 1) := by decide +kernel
theorem dX12_asksOf_282 : decode cX12_asksOf 282 = .ok (.goto 41, 3) := by decide +kernel
theorem dX12_asksOf_285 : decode cX12_asksOf 285 = .ok (.iinc 4 (-1), 3) := by decide +kernel
theorem dX12_asksOf_288 : decode cX12_asksOf 288 = .ok (.aload_n 0, 1) := by decide +kernel
theorem dX12_asksOf_289 : decode cX12_asksOf 289 = .ok (.getfield 38, 3) := by decide +kernel
theorem dX12_asksOf_292 : decode cX12_asksOf 292 = .ok (.iload 4, 2) := by decide +kernel
theorem dX12_asksOf_294 : decode cX12_asksOf 294 = .ok (.iconst 1, 1) := by decide +kernel
theorem dX12_asksOf_295 : decode cX12_asksOf 295 = .ok (.isub, 1) := by decide +kernel
theorem dX12_asksOf_296 : decode cX12_asksOf 296 = .ok (.aload_n 0, 1) := by decide +kernel
theorem dX12_asksOf_297 : decode cX12_asksOf 297 = .ok (.getfield 26, 3) := by decide +kernel
theorem dX12_asksOf_300 : decode cX12_asksOf 300 = .ok (.iload 5, 2) := by decide +kernel
theorem dX12_asksOf_302 : decode cX12_asksOf 302 = .ok (.iaload, 1) := by decide +kernel
theorem dX12_asksOf_303 : decode cX12_asksOf 303 = .ok (.aload_n 0, 1) := by decide +kernel
theorem dX12_asksOf_304 : decode cX12_asksOf 304 = .ok (.getfield 38, 3) := by decide +kernel
theorem dX12_asksOf_307 : decode cX12_asksOf 307 = .ok (.iload 4, 2) := by decide +kernel
theorem dX12_asksOf_309 : decode cX12_asksOf 309 = .ok (.iconst 1, 1) := by decide +kernel
theorem dX12_asksOf_310 : decode cX12_asksOf 310 = .ok (.isub, 1) := by decide +kernel
theorem dX12_asksOf_311 : decode cX12_asksOf 311 = .ok (.iaload, 1) := by decide +kernel
theorem dX12_asksOf_312 : decode cX12_asksOf 312 = .ok (.aload_n 0, 1) := by decide +kernel
theorem dX12_asksOf_313 : decode cX12_asksOf 313 = .ok (.getfield 38, 3) := by decide +kernel
theorem dX12_asksOf_316 : decode cX12_asksOf 316 = .ok (.iload 4, 2) := by decide +kernel
theorem dX12_asksOf_318 : decode cX12_asksOf 318 = .ok (.iaload, 1) := by decide +kernel
theorem dX12_asksOf_319 : decode cX12_asksOf 319 = .ok (.invokestatic 508, 3) := by decide +kernel
theorem dX12_asksOf_322 : decode cX12_asksOf 322 = .ok (.iastore, 1) := by decide +kernel
theorem dX12_asksOf_323 : decode cX12_asksOf 323 = .ok (.iinc 5 1, 3) := by decide +kernel
theorem dX12_asksOf_326 : decode cX12_asksOf 326 = .ok (.goto (-152), 3) := by decide +kernel
theorem dX12_asksOf_329 : decode cX12_asksOf 329 = .ok (.aload_n 0, 1) := by decide +kernel
theorem dX12_asksOf_330 : decode cX12_asksOf 330 = .ok (.getfield 38, 3) := by decide +kernel
theorem dX12_asksOf_333 : decode cX12_asksOf 333 = .ok (.iconst 0, 1) := by decide +kernel
theorem dX12_asksOf_334 : decode cX12_asksOf 334 = .ok (.iaload, 1) := by decide +kernel
theorem dX12_asksOf_335 : decode cX12_asksOf 335 = .ok (.ireturn, 1) := by decide +kernel
theorem dX12_aimOf_0 : decode cX12_aimOf 0 = .ok (.iconst (-1), 1) := by decide +kernel
theorem dX12_aimOf_1 : decode cX12_aimOf 1 = .ok (.istore 5, 2) := by decide +kernel
theorem dX12_aimOf_3 : decode cX12_aimOf 3 = .ok (.iconst 0, 1) := by decide +kernel
theorem dX12_aimOf_4 : decode cX12_aimOf 4 = .ok (.istore 6, 2) := by decide +kernel
theorem dX12_aimOf_6 : decode cX12_aimOf 6 = .ok (.iconst 0, 1) := by decide +kernel
theorem dX12_aimOf_7 : decode cX12_aimOf 7 = .ok (.istore 7, 2) := by decide +kernel
theorem dX12_aimOf_9 : decode cX12_aimOf 9 = .ok (.iload 7, 2) := by decide +kernel
theorem dX12_aimOf_11 : decode cX12_aimOf 11 = .ok (.aload_n 0, 1) := by decide +kernel
theorem dX12_aimOf_12 : decode cX12_aimOf 12 = .ok (.getfield 437, 3) := by decide +kernel
theorem dX12_aimOf_15 : decode cX12_aimOf 15 = .ok (.if_icmp .ge 129, 3) := by decide +kernel
theorem dX12_aimOf_18 : decode cX12_aimOf 18 = .ok (.aload_n 0, 1) := by decide +kernel
theorem dX12_aimOf_19 : decode cX12_aimOf 19 = .ok (.getfield 66, 3) := by decide +kernel
theorem dX12_aimOf_22 : decode cX12_aimOf 22 = .ok (.aload_n 0, 1) := by decide +kernel
theorem dX12_aimOf_23 : decode cX12_aimOf 23 = .ok (.iload 7, 2) := by decide +kernel
theorem dX12_aimOf_25 : decode cX12_aimOf 25 = .ok (.invokevirtual 502, 3) := by decide +kernel
theorem dX12_aimOf_28 : decode cX12_aimOf 28 = .ok (.iaload, 1) := by decide +kernel
theorem dX12_aimOf_29 : decode cX12_aimOf 29 = .ok (.istore 8, 2) := by decide +kernel
theorem dX12_aimOf_31 : decode cX12_aimOf 31 = .ok (.aload_n 0, 1) := by decide +kernel
theorem dX12_aimOf_32 : decode cX12_aimOf 32 = .ok (.getfield 99, 3) := by decide +kernel
theorem dX12_aimOf_35 : decode cX12_aimOf 35 = .ok (.iload 7, 2) := by decide +kernel
theorem dX12_aimOf_37 : decode cX12_aimOf 37 = .ok (.baload, 1) := by decide +kernel
theorem dX12_aimOf_38 : decode cX12_aimOf 38 = .ok (.ifCond .ne 60, 3) := by decide +kernel
theorem dX12_aimOf_41 : decode cX12_aimOf 41 = .ok (.iload_n 3, 1) := by decide +kernel
theorem dX12_aimOf_42 : decode cX12_aimOf 42 = .ok (.ifCond .ge 28, 3) := by decide +kernel
theorem dX12_aimOf_45 : decode cX12_aimOf 45 = .ok (.aload_n 0, 1) := by decide +kernel
theorem dX12_aimOf_46 : decode cX12_aimOf 46 = .ok (.iload_n 2, 1) := by decide +kernel
theorem dX12_aimOf_47 : decode cX12_aimOf 47 = .ok (.aload_n 0, 1) := by decide +kernel
theorem dX12_aimOf_48 : decode cX12_aimOf 48 = .ok (.iload 7, 2) := by decide +kernel
theorem dX12_aimOf_50 : decode cX12_aimOf 50 = .ok (.invokevirtual 502, 3) := by decide +kernel
theorem dX12_aimOf_53 : decode cX12_aimOf 53 = .ok (.invokevirtual 461, 3) := by decide +kernel
theorem dX12_aimOf_56 : decode cX12_aimOf 56 = .ok (.bipush 60, 2) := by decide +kernel
theorem dX12_aimOf_58 : decode cX12_aimOf 58 = .ok (.iload 8, 2) := by decide +kernel
theorem dX12_aimOf_60 : decode cX12_aimOf 60 = .ok (.iadd, 1) := by decide +kernel
theorem dX12_aimOf_61 : decode cX12_aimOf 61 = .ok (.iload 4, 2) := by decide +kernel
theorem dX12_aimOf_63 : decode cX12_aimOf 63 = .ok (.iadd, 1) := by decide +kernel
theorem dX12_aimOf_64 : decode cX12_aimOf 64 = .ok (.if_icmp .gt 34, 3) := by decide +kernel
theorem dX12_aimOf_67 : decode cX12_aimOf 67 = .ok (.goto 27, 3) := by decide +kernel
theorem dX12_aimOf_70 : decode cX12_aimOf 70 = .ok (.iload 8, 2) := by decide +kernel
theorem dX12_aimOf_72 : decode cX12_aimOf 72 = .ok (.iload_n 3, 1) := by decide +kernel
theorem dX12_aimOf_73 : decode cX12_aimOf 73 = .ok (.if_icmp .le 25, 3) := by decide +kernel
theorem dX12_aimOf_76 : decode cX12_aimOf 76 = .ok (.aload_n 0, 1) := by decide +kernel
theorem dX12_aimOf_77 : decode cX12_aimOf 77 = .ok (.iload_n 2, 1) := by decide +kernel
theorem dX12_aimOf_78 : decode cX12_aimOf 78 = .ok (.aload_n 0, 1) := by decide +kernel
theorem dX12_aimOf_79 : decode cX12_aimOf 79 = .ok (.iload 7, 2) := by decide +kernel
theorem dX12_aimOf_81 : decode cX12_aimOf 81 = .ok (.invokevirtual 502, 3) := by decide +kernel
theorem dX12_aimOf_84 : decode cX12_aimOf 84 = .ok (.invokevirtual 461, 3) := by decide +kernel
theorem dX12_aimOf_87 : decode cX12_aimOf 87 = .ok (.iload 8, 2) := by decide +kernel
theorem dX12_aimOf_89 : decode cX12_aimOf 89 = .ok (.iload_n 3, 1) := by decide +kernel
theorem dX12_aimOf_90 : decode cX12_aimOf 90 = .ok (.isub, 1) := by decide +kernel
theorem dX12_aimOf_91 : decode cX12_aimOf 91 = .ok (.if_icmp .gt 7, 3) := by decide +kernel
theorem dX12_aimOf_94 : decode cX12_aimOf 94 = .ok (.iconst 1, 1) := by decide +kernel
theorem dX12_aimOf_95 : decode cX12_aimOf 95 = .ok (.goto 4, 3) := by decide +kernel
theorem dX12_aimOf_98 : decode cX12_aimOf 98 = .ok (.iconst 0, 1) := by decide +kernel
theorem dX12_aimOf_99 : decode cX12_aimOf 99 = .ok (.istore 9, 2) := by decide +kernel
theorem dX12_aimOf_101 : decode cX12_aimOf 101 = .ok (.iload 9, 2) := by decide +kernel
theorem dX12_aimOf_103 : decode cX12_aimOf 103 = .ok (.ifCond .eq 14, 3) := by decide +kernel
theorem dX12_aimOf_106 : decode cX12_aimOf 106 = .ok (.aload_n 0, 1) := by decide +kernel
theorem dX12_aimOf_107 : decode cX12_aimOf 107 = .ok (.iload_n 1, 1) := by decide +kernel
theorem dX12_aimOf_108 : decode cX12_aimOf 108 = .ok (.iload 7, 2) := by decide +kernel
theorem dX12_aimOf_110 : decode cX12_aimOf 110 = .ok (.iload_n 2, 1) := by decide +kernel
theorem dX12_aimOf_111 : decode cX12_aimOf 111 = .ok (.invokevirtual 511, 3) := by decide +kernel
theorem dX12_aimOf_114 : decode cX12_aimOf 114 = .ok (.goto 4, 3) := by decide +kernel
theorem dX12_aimOf_117 : decode cX12_aimOf 117 = .ok (.iconst 0, 1) := by decide +kernel
theorem dX12_aimOf_118 : decode cX12_aimOf 118 = .ok (.istore 10, 2) := by decide +kernel
theorem dX12_aimOf_120 : decode cX12_aimOf 120 = .ok (.iload 10, 2) := by decide +kernel
theorem dX12_aimOf_122 : decode cX12_aimOf 122 = .ok (.iload 6, 2) := by decide +kernel
theorem dX12_aimOf_124 : decode cX12_aimOf 124 = .ok (.if_icmp .gt 6, 3) := by decide +kernel
theorem dX12_aimOf_127 : decode cX12_aimOf 127 = .ok (.goto 11, 3) := by decide +kernel
theorem dX12_aimOf_130 : decode cX12_aimOf 130 = .ok (.iload 10, 2) := by decide +kernel
theorem dX12_aimOf_132 : decode cX12_aimOf 132 = .ok (.istore 6, 2) := by decide +kernel
theorem dX12_aimOf_134 : decode cX12_aimOf 134 = .ok (.iload 7, 2) := by decide +kernel
theorem dX12_aimOf_136 : decode cX12_aimOf 136 = .ok (.istore 5, 2) := by decide +kernel
theorem dX12_aimOf_138 : decode cX12_aimOf 138 = .ok (.iinc 7 1, 3) := by decide +kernel
theorem dX12_aimOf_141 : decode cX12_aimOf 141 = .ok (.goto (-132), 3) := by decide +kernel
theorem dX12_aimOf_144 : decode cX12_aimOf 144 = .ok (.iload 5, 2) := by decide +kernel
theorem dX12_aimOf_146 : decode cX12_aimOf 146 = .ok (.ireturn, 1) := by decide +kernel
theorem dX12_goTo_0 : decode cX12_goTo 0 = .ok (.aload_n 0, 1) := by decide +kernel
theorem dX12_goTo_1 : decode cX12_goTo 1 = .ok (.getfield 133, 3) := by decide +kernel
theorem dX12_goTo_4 : decode cX12_goTo 4 = .ok (.iload_n 1, 1) := by decide +kernel
theorem dX12_goTo_5 : decode cX12_goTo 5 = .ok (.aload_n 0, 1) := by decide +kernel
theorem dX12_goTo_6 : decode cX12_goTo 6 = .ok (.iload_n 1, 1) := by decide +kernel
theorem dX12_goTo_7 : decode cX12_goTo 7 = .ok (.aload_n 0, 1) := by decide +kernel
theorem dX12_goTo_8 : decode cX12_goTo 8 = .ok (.getfield 93, 3) := by decide +kernel
theorem dX12_goTo_11 : decode cX12_goTo 11 = .ok (.iload_n 1, 1) := by decide +kernel
theorem dX12_goTo_12 : decode cX12_goTo 12 = .ok (.iaload, 1) := by decide +kernel
theorem dX12_goTo_13 : decode cX12_goTo 13 = .ok (.iload_n 2, 1) := by decide +kernel
theorem dX12_goTo_14 : decode cX12_goTo 14 = .ok (.iload_n 3, 1) := by decide +kernel
theorem dX12_goTo_15 : decode cX12_goTo 15 = .ok (.invokevirtual 514, 3) := by decide +kernel
theorem dX12_goTo_18 : decode cX12_goTo 18 = .ok (.iastore, 1) := by decide +kernel
theorem dX12_goTo_19 : decode cX12_goTo 19 = .ok (.aload_n 0, 1) := by decide +kernel
theorem dX12_goTo_20 : decode cX12_goTo 20 = .ok (.getfield 136, 3) := by decide +kernel
theorem dX12_goTo_23 : decode cX12_goTo 23 = .ok (.iload_n 1, 1) := by decide +kernel
theorem dX12_goTo_24 : decode cX12_goTo 24 = .ok (.aload_n 0, 1) := by decide +kernel
theorem dX12_goTo_25 : decode cX12_goTo 25 = .ok (.getfield 133, 3) := by decide +kernel
theorem dX12_goTo_28 : decode cX12_goTo 28 = .ok (.iload_n 1, 1) := by decide +kernel
theorem dX12_goTo_29 : decode cX12_goTo 29 = .ok (.iaload, 1) := by decide +kernel
theorem dX12_goTo_30 : decode cX12_goTo 30 = .ok (.ifCond .ge 7, 3) := by decide +kernel
theorem dX12_goTo_33 : decode cX12_goTo 33 = .ok (.iconst 0, 1) := by decide +kernel
theorem dX12_goTo_34 : decode cX12_goTo 34 = .ok (.goto 23, 3) := by decide +kernel
theorem dX12_goTo_37 : decode cX12_goTo 37 = .ok (.aload_n 0, 1) := by decide +kernel
theorem dX12_goTo_38 : decode cX12_goTo 38 = .ok (.aload_n 0, 1) := by decide +kernel
theorem dX12_goTo_39 : decode cX12_goTo 39 = .ok (.getfield 93, 3) := by decide +kernel
theorem dX12_goTo_42 : decode cX12_goTo 42 = .ok (.iload_n 1, 1) := by decide +kernel
theorem dX12_goTo_43 : decode cX12_goTo 43 = .ok (.iaload, 1) := by decide +kernel
theorem dX12_goTo_44 : decode cX12_goTo 44 = .ok (.aload_n 0, 1) := by decide +kernel
theorem dX12_goTo_45 : decode cX12_goTo 45 = .ok (.aload_n 0, 1) := by decide +kernel
theorem dX12_goTo_46 : decode cX12_goTo 46 = .ok (.getfield 133, 3) := by decide +kernel
theorem dX12_goTo_49 : decode cX12_goTo 49 = .ok (.iload_n 1, 1) := by decide +kernel
theorem dX12_goTo_50 : decode cX12_goTo 50 = .ok (.iaload, 1) := by decide +kernel
theorem dX12_goTo_51 : decode cX12_goTo 51 = .ok (.invokevirtual 502, 3) := by decide +kernel
theorem dX12_goTo_54 : decode cX12_goTo 54 = .ok (.invokevirtual 461, 3) := by decide +kernel
theorem dX12_goTo_57 : decode cX12_goTo 57 = .ok (.iastore, 1) := by decide +kernel
theorem dX12_goTo_58 : decode cX12_goTo 58 = .ok (.return_, 1) := by decide +kernel
theorem dX12_takersOf_0 : decode cX12_takersOf 0 = .ok (.iconst 0, 1) := by decide +kernel
theorem dX12_takersOf_1 : decode cX12_takersOf 1 = .ok (.istore_n 2, 1) := by decide +kernel
theorem dX12_takersOf_2 : decode cX12_takersOf 2 = .ok (.iconst 0, 1) := by decide +kernel
theorem dX12_takersOf_3 : decode cX12_takersOf 3 = .ok (.istore_n 3, 1) := by decide +kernel
theorem dX12_takersOf_4 : decode cX12_takersOf 4 = .ok (.iload_n 3, 1) := by decide +kernel
theorem dX12_takersOf_5 : decode cX12_takersOf 5 = .ok (.aload_n 0, 1) := by decide +kernel
theorem dX12_takersOf_6 : decode cX12_takersOf 6 = .ok (.getfield 440, 3) := by decide +kernel
theorem dX12_takersOf_9 : decode cX12_takersOf 9 = .ok (.if_icmp .ge 42, 3) := by decide +kernel
theorem dX12_takersOf_12 : decode cX12_takersOf 12 = .ok (.iload_n 2, 1) := by decide +kernel
theorem dX12_takersOf_13 : decode cX12_takersOf 13 = .ok (.aload_n 0, 1) := by decide +kernel
theorem dX12_takersOf_14 : decode cX12_takersOf 14 = .ok (.getfield 133, 3) := by decide +kernel
theorem dX12_takersOf_17 : decode cX12_takersOf 17 = .ok (.iload_n 3, 1) := by decide +kernel
theorem dX12_takersOf_18 : decode cX12_takersOf 18 = .ok (.iaload, 1) := by decide +kernel
theorem dX12_takersOf_19 : decode cX12_takersOf 19 = .ok (.iload_n 1, 1) := by decide +kernel
theorem dX12_takersOf_20 : decode cX12_takersOf 20 = .ok (.if_icmp .ne 22, 3) := by decide +kernel
theorem dX12_takersOf_23 : decode cX12_takersOf 23 = .ok (.aload_n 0, 1) := by decide +kernel
theorem dX12_takersOf_24 : decode cX12_takersOf 24 = .ok (.iload_n 3, 1) := by decide +kernel
theorem dX12_takersOf_25 : decode cX12_takersOf 25 = .ok (.invokevirtual 505, 3) := by decide +kernel
theorem dX12_takersOf_28 : decode cX12_takersOf 28 = .ok (.aload_n 0, 1) := by decide +kernel
theorem dX12_takersOf_29 : decode cX12_takersOf 29 = .ok (.iload_n 1, 1) := by decide +kernel
theorem dX12_takersOf_30 : decode cX12_takersOf 30 = .ok (.invokevirtual 499, 3) := by decide +kernel
theorem dX12_takersOf_33 : decode cX12_takersOf 33 = .ok (.if_icmp .lt 9, 3) := by decide +kernel
theorem dX12_takersOf_36 : decode cX12_takersOf 36 = .ok (.iconst 1, 1) := by decide +kernel
theorem dX12_takersOf_37 : decode cX12_takersOf 37 = .ok (.iload_n 3, 1) := by decide +kernel
theorem dX12_takersOf_38 : decode cX12_takersOf 38 = .ok (.ishl, 1) := by decide +kernel
theorem dX12_takersOf_39 : decode cX12_takersOf 39 = .ok (.goto 4, 3) := by decide +kernel
theorem dX12_takersOf_42 : decode cX12_takersOf 42 = .ok (.iconst 0, 1) := by decide +kernel
theorem dX12_takersOf_43 : decode cX12_takersOf 43 = .ok (.ior, 1) := by decide +kernel
theorem dX12_takersOf_44 : decode cX12_takersOf 44 = .ok (.istore_n 2, 1) := by decide +kernel
theorem dX12_takersOf_45 : decode cX12_takersOf 45 = .ok (.iinc 3 1, 3) := by decide +kernel
theorem dX12_takersOf_48 : decode cX12_takersOf 48 = .ok (.goto (-44), 3) := by decide +kernel
theorem dX12_takersOf_51 : decode cX12_takersOf 51 = .ok (.iload_n 2, 1) := by decide +kernel
theorem dX12_takersOf_52 : decode cX12_takersOf 52 = .ok (.ireturn, 1) := by decide +kernel
theorem dX12_standersOf_0 : decode cX12_standersOf 0 = .ok (.iconst 0, 1) := by decide +kernel
theorem dX12_standersOf_1 : decode cX12_standersOf 1 = .ok (.istore_n 2, 1) := by decide +kernel
theorem dX12_standersOf_2 : decode cX12_standersOf 2 = .ok (.iconst 0, 1) := by decide +kernel
theorem dX12_standersOf_3 : decode cX12_standersOf 3 = .ok (.istore_n 3, 1) := by decide +kernel
theorem dX12_standersOf_4 : decode cX12_standersOf 4 = .ok (.iload_n 3, 1) := by decide +kernel
theorem dX12_standersOf_5 : decode cX12_standersOf 5 = .ok (.aload_n 0, 1) := by decide +kernel
theorem dX12_standersOf_6 : decode cX12_standersOf 6 = .ok (.getfield 440, 3) := by decide +kernel
theorem dX12_standersOf_9 : decode cX12_standersOf 9 = .ok (.if_icmp .ge 29, 3) := by decide +kernel
theorem dX12_standersOf_12 : decode cX12_standersOf 12 = .ok (.iload_n 2, 1) := by decide +kernel
theorem dX12_standersOf_13 : decode cX12_standersOf 13 = .ok (.aload_n 0, 1) := by decide +kernel
theorem dX12_standersOf_14 : decode cX12_standersOf 14 = .ok (.getfield 133, 3) := by decide +kernel
theorem dX12_standersOf_17 : decode cX12_standersOf 17 = .ok (.iload_n 3, 1) := by decide +kernel
theorem dX12_standersOf_18 : decode cX12_standersOf 18 = .ok (.iaload, 1) := by decide +kernel
theorem dX12_standersOf_19 : decode cX12_standersOf 19 = .ok (.iload_n 1, 1) := by decide +kernel
theorem dX12_standersOf_20 : decode cX12_standersOf 20 = .ok (.if_icmp .ne 9, 3) := by decide +kernel
theorem dX12_standersOf_23 : decode cX12_standersOf 23 = .ok (.iconst 1, 1) := by decide +kernel
theorem dX12_standersOf_24 : decode cX12_standersOf 24 = .ok (.iload_n 3, 1) := by decide +kernel
theorem dX12_standersOf_25 : decode cX12_standersOf 25 = .ok (.ishl, 1) := by decide +kernel
theorem dX12_standersOf_26 : decode cX12_standersOf 26 = .ok (.goto 4, 3) := by decide +kernel
theorem dX12_standersOf_29 : decode cX12_standersOf 29 = .ok (.iconst 0, 1) := by decide +kernel
theorem dX12_standersOf_30 : decode cX12_standersOf 30 = .ok (.ior, 1) := by decide +kernel
theorem dX12_standersOf_31 : decode cX12_standersOf 31 = .ok (.istore_n 2, 1) := by decide +kernel
theorem dX12_standersOf_32 : decode cX12_standersOf 32 = .ok (.iinc 3 1, 3) := by decide +kernel
theorem dX12_standersOf_35 : decode cX12_standersOf 35 = .ok (.goto (-31), 3) := by decide +kernel
theorem dX12_standersOf_38 : decode cX12_standersOf 38 = .ok (.iload_n 2, 1) := by decide +kernel
theorem dX12_standersOf_39 : decode cX12_standersOf 39 = .ok (.ireturn, 1) := by decide +kernel
theorem dX12_ones_0 : decode cX12_ones 0 = .ok (.iconst 0, 1) := by decide +kernel
theorem dX12_ones_1 : decode cX12_ones 1 = .ok (.istore_n 1, 1) := by decide +kernel
theorem dX12_ones_2 : decode cX12_ones 2 = .ok (.iconst 0, 1) := by decide +kernel
theorem dX12_ones_3 : decode cX12_ones 3 = .ok (.istore_n 2, 1) := by decide +kernel
theorem dX12_ones_4 : decode cX12_ones 4 = .ok (.iload_n 2, 1) := by decide +kernel
theorem dX12_ones_5 : decode cX12_ones 5 = .ok (.bipush 16, 2) := by decide +kernel
theorem dX12_ones_7 : decode cX12_ones 7 = .ok (.if_icmp .ge 17, 3) := by decide +kernel
theorem dX12_ones_10 : decode cX12_ones 10 = .ok (.iload_n 1, 1) := by decide +kernel
theorem dX12_ones_11 : decode cX12_ones 11 = .ok (.iload_n 0, 1) := by decide +kernel
theorem dX12_ones_12 : decode cX12_ones 12 = .ok (.iload_n 2, 1) := by decide +kernel
theorem dX12_ones_13 : decode cX12_ones 13 = .ok (.ishr, 1) := by decide +kernel
theorem dX12_ones_14 : decode cX12_ones 14 = .ok (.iconst 1, 1) := by decide +kernel
theorem dX12_ones_15 : decode cX12_ones 15 = .ok (.iand, 1) := by decide +kernel
theorem dX12_ones_16 : decode cX12_ones 16 = .ok (.iadd, 1) := by decide +kernel
theorem dX12_ones_17 : decode cX12_ones 17 = .ok (.istore_n 1, 1) := by decide +kernel
theorem dX12_ones_18 : decode cX12_ones 18 = .ok (.iinc 2 1, 3) := by decide +kernel
theorem dX12_ones_21 : decode cX12_ones 21 = .ok (.goto (-17), 3) := by decide +kernel
theorem dX12_ones_24 : decode cX12_ones 24 = .ok (.iload_n 1, 1) := by decide +kernel
theorem dX12_ones_25 : decode cX12_ones 25 = .ok (.ireturn, 1) := by decide +kernel
theorem dX12_firstBy_0 : decode cX12_firstBy 0 = .ok (.iconst (-1), 1) := by decide +kernel
theorem dX12_firstBy_1 : decode cX12_firstBy 1 = .ok (.istore_n 3, 1) := by decide +kernel
theorem dX12_firstBy_2 : decode cX12_firstBy 2 = .ok (.iconst 0, 1) := by decide +kernel
theorem dX12_firstBy_3 : decode cX12_firstBy 3 = .ok (.istore 4, 2) := by decide +kernel
theorem dX12_firstBy_5 : decode cX12_firstBy 5 = .ok (.iload 4, 2) := by decide +kernel
theorem dX12_firstBy_7 : decode cX12_firstBy 7 = .ok (.aload_n 0, 1) := by decide +kernel
theorem dX12_firstBy_8 : decode cX12_firstBy 8 = .ok (.getfield 440, 3) := by decide +kernel
theorem dX12_firstBy_11 : decode cX12_firstBy 11 = .ok (.if_icmp .ge 81, 3) := by decide +kernel
theorem dX12_firstBy_14 : decode cX12_firstBy 14 = .ok (.iload_n 1, 1) := by decide +kernel
theorem dX12_firstBy_15 : decode cX12_firstBy 15 = .ok (.iload 4, 2) := by decide +kernel
theorem dX12_firstBy_17 : decode cX12_firstBy 17 = .ok (.ishr, 1) := by decide +kernel
theorem dX12_firstBy_18 : decode cX12_firstBy 18 = .ok (.iconst 1, 1) := by decide +kernel
theorem dX12_firstBy_19 : decode cX12_firstBy 19 = .ok (.iand, 1) := by decide +kernel
theorem dX12_firstBy_20 : decode cX12_firstBy 20 = .ok (.ifCond .ne 6, 3) := by decide +kernel
theorem dX12_firstBy_23 : decode cX12_firstBy 23 = .ok (.goto 63, 3) := by decide +kernel
theorem dX12_firstBy_26 : decode cX12_firstBy 26 = .ok (.iload_n 3, 1) := by decide +kernel
theorem dX12_firstBy_27 : decode cX12_firstBy 27 = .ok (.ifCond .lt 40, 3) := by decide +kernel
theorem dX12_firstBy_30 : decode cX12_firstBy 30 = .ok (.iload_n 2, 1) := by decide +kernel
theorem dX12_firstBy_31 : decode cX12_firstBy 31 = .ok (.ifCond .ne 22, 3) := by decide +kernel
theorem dX12_firstBy_34 : decode cX12_firstBy 34 = .ok (.aload_n 0, 1) := by decide +kernel
theorem dX12_firstBy_35 : decode cX12_firstBy 35 = .ok (.getfield 136, 3) := by decide +kernel
theorem dX12_firstBy_38 : decode cX12_firstBy 38 = .ok (.iload 4, 2) := by decide +kernel
theorem dX12_firstBy_40 : decode cX12_firstBy 40 = .ok (.iaload, 1) := by decide +kernel
theorem dX12_firstBy_41 : decode cX12_firstBy 41 = .ok (.aload_n 0, 1) := by decide +kernel
theorem dX12_firstBy_42 : decode cX12_firstBy 42 = .ok (.getfield 136, 3) := by decide +kernel
theorem dX12_firstBy_45 : decode cX12_firstBy 45 = .ok (.iload_n 3, 1) := by decide +kernel
theorem dX12_firstBy_46 : decode cX12_firstBy 46 = .ok (.iaload, 1) := by decide +kernel
theorem dX12_firstBy_47 : decode cX12_firstBy 47 = .ok (.if_icmp .ge 24, 3) := by decide +kernel
theorem dX12_firstBy_50 : decode cX12_firstBy 50 = .ok (.goto 17, 3) := by decide +kernel
theorem dX12_firstBy_53 : decode cX12_firstBy 53 = .ok (.aload_n 0, 1) := by decide +kernel
theorem dX12_firstBy_54 : decode cX12_firstBy 54 = .ok (.iload 4, 2) := by decide +kernel
theorem dX12_firstBy_56 : decode cX12_firstBy 56 = .ok (.invokevirtual 505, 3) := by decide +kernel
theorem dX12_firstBy_59 : decode cX12_firstBy 59 = .ok (.aload_n 0, 1) := by decide +kernel
theorem dX12_firstBy_60 : decode cX12_firstBy 60 = .ok (.iload_n 3, 1) := by decide +kernel
theorem dX12_firstBy_61 : decode cX12_firstBy 61 = .ok (.invokevirtual 505, 3) := by decide +kernel
theorem dX12_firstBy_64 : decode cX12_firstBy 64 = .ok (.if_icmp .le 7, 3) := by decide +kernel
theorem dX12_firstBy_67 : decode cX12_firstBy 67 = .ok (.iconst 1, 1) := by decide +kernel
theorem dX12_firstBy_68 : decode cX12_firstBy 68 = .ok (.goto 4, 3) := by decide +kernel
theorem dX12_firstBy_71 : decode cX12_firstBy 71 = .ok (.iconst 0, 1) := by decide +kernel
theorem dX12_firstBy_72 : decode cX12_firstBy 72 = .ok (.istore 5, 2) := by decide +kernel
theorem dX12_firstBy_74 : decode cX12_firstBy 74 = .ok (.iload 5, 2) := by decide +kernel
theorem dX12_firstBy_76 : decode cX12_firstBy 76 = .ok (.ifCond .eq 8, 3) := by decide +kernel
theorem dX12_firstBy_79 : decode cX12_firstBy 79 = .ok (.iload 4, 2) := by decide +kernel
theorem dX12_firstBy_81 : decode cX12_firstBy 81 = .ok (.goto 4, 3) := by decide +kernel
theorem dX12_firstBy_84 : decode cX12_firstBy 84 = .ok (.iload_n 3, 1) := by decide +kernel
theorem dX12_firstBy_85 : decode cX12_firstBy 85 = .ok (.istore_n 3, 1) := by decide +kernel
theorem dX12_firstBy_86 : decode cX12_firstBy 86 = .ok (.iinc 4 1, 3) := by decide +kernel
theorem dX12_firstBy_89 : decode cX12_firstBy 89 = .ok (.goto (-84), 3) := by decide +kernel
theorem dX12_firstBy_92 : decode cX12_firstBy 92 = .ok (.iload_n 3, 1) := by decide +kernel
theorem dX12_firstBy_93 : decode cX12_firstBy 93 = .ok (.ireturn, 1) := by decide +kernel
theorem dX12_nth_0 : decode cX12_nth 0 = .ok (.iconst 0, 1) := by decide +kernel
theorem dX12_nth_1 : decode cX12_nth 1 = .ok (.istore_n 2, 1) := by decide +kernel
theorem dX12_nth_2 : decode cX12_nth 2 = .ok (.iload_n 1, 1) := by decide +kernel
theorem dX12_nth_3 : decode cX12_nth 3 = .ok (.istore_n 3, 1) := by decide +kernel
theorem dX12_nth_4 : decode cX12_nth 4 = .ok (.iload_n 0, 1) := by decide +kernel
theorem dX12_nth_5 : decode cX12_nth 5 = .ok (.iload_n 2, 1) := by decide +kernel
theorem dX12_nth_6 : decode cX12_nth 6 = .ok (.ishr, 1) := by decide +kernel
theorem dX12_nth_7 : decode cX12_nth 7 = .ok (.iconst 1, 1) := by decide +kernel
theorem dX12_nth_8 : decode cX12_nth 8 = .ok (.iand, 1) := by decide +kernel
theorem dX12_nth_9 : decode cX12_nth 9 = .ok (.ifCond .eq 7, 3) := by decide +kernel
theorem dX12_nth_12 : decode cX12_nth 12 = .ok (.iload_n 3, 1) := by decide +kernel
theorem dX12_nth_13 : decode cX12_nth 13 = .ok (.ifCond .le 17, 3) := by decide +kernel
theorem dX12_nth_16 : decode cX12_nth 16 = .ok (.iload_n 3, 1) := by decide +kernel
theorem dX12_nth_17 : decode cX12_nth 17 = .ok (.iload_n 0, 1) := by decide +kernel
theorem dX12_nth_18 : decode cX12_nth 18 = .ok (.iload_n 2, 1) := by decide +kernel
theorem dX12_nth_19 : decode cX12_nth 19 = .ok (.ishr, 1) := by decide +kernel
theorem dX12_nth_20 : decode cX12_nth 20 = .ok (.iconst 1, 1) := by decide +kernel
theorem dX12_nth_21 : decode cX12_nth 21 = .ok (.iand, 1) := by decide +kernel
theorem dX12_nth_22 : decode cX12_nth 22 = .ok (.isub, 1) := by decide +kernel
theorem dX12_nth_23 : decode cX12_nth 23 = .ok (.istore_n 3, 1) := by decide +kernel
theorem dX12_nth_24 : decode cX12_nth 24 = .ok (.iinc 2 1, 3) := by decide +kernel
theorem dX12_nth_27 : decode cX12_nth 27 = .ok (.goto (-23), 3) := by decide +kernel
theorem dX12_nth_30 : decode cX12_nth 30 = .ok (.iload_n 2, 1) := by decide +kernel
theorem dX12_nth_31 : decode cX12_nth 31 = .ok (.ireturn, 1) := by decide +kernel
theorem dX12_giveBy_0 : decode cX12_giveBy 0 = .ok (.aload_n 0, 1) := by decide +kernel
theorem dX12_giveBy_1 : decode cX12_giveBy 1 = .ok (.getfield 87, 3) := by decide +kernel
theorem dX12_giveBy_4 : decode cX12_giveBy 4 = .ok (.iload_n 1, 1) := by decide +kernel
theorem dX12_giveBy_5 : decode cX12_giveBy 5 = .ok (.aload_n 0, 1) := by decide +kernel
theorem dX12_giveBy_6 : decode cX12_giveBy 6 = .ok (.iload_n 1, 1) := by decide +kernel
theorem dX12_giveBy_7 : decode cX12_giveBy 7 = .ok (.invokevirtual 518, 3) := by decide +kernel
theorem dX12_giveBy_10 : decode cX12_giveBy 10 = .ok (.invokestatic 521, 3) := by decide +kernel
theorem dX12_giveBy_13 : decode cX12_giveBy 13 = .ok (.iastore, 1) := by decide +kernel
theorem dX12_giveBy_14 : decode cX12_giveBy 14 = .ok (.aload_n 0, 1) := by decide +kernel
theorem dX12_giveBy_15 : decode cX12_giveBy 15 = .ok (.iload_n 1, 1) := by decide +kernel
theorem dX12_giveBy_16 : decode cX12_giveBy 16 = .ok (.invokevirtual 524, 3) := by decide +kernel
theorem dX12_giveBy_19 : decode cX12_giveBy 19 = .ok (.istore_n 3, 1) := by decide +kernel
theorem dX12_giveBy_20 : decode cX12_giveBy 20 = .ok (.aload_n 0, 1) := by decide +kernel
theorem dX12_giveBy_21 : decode cX12_giveBy 21 = .ok (.getfield 87, 3) := by decide +kernel
theorem dX12_giveBy_24 : decode cX12_giveBy 24 = .ok (.iload_n 1, 1) := by decide +kernel
theorem dX12_giveBy_25 : decode cX12_giveBy 25 = .ok (.iaload, 1) := by decide +kernel
theorem dX12_giveBy_26 : decode cX12_giveBy 26 = .ok (.ifCond .ne 18, 3) := by decide +kernel
theorem dX12_giveBy_29 : decode cX12_giveBy 29 = .ok (.aload_n 0, 1) := by decide +kernel
theorem dX12_giveBy_30 : decode cX12_giveBy 30 = .ok (.iload_n 1, 1) := by decide +kernel
theorem dX12_giveBy_31 : decode cX12_giveBy 31 = .ok (.invokevirtual 499, 3) := by decide +kernel
theorem dX12_giveBy_34 : decode cX12_giveBy 34 = .ok (.ifCond .ne 10, 3) := by decide +kernel
theorem dX12_giveBy_37 : decode cX12_giveBy 37 = .ok (.aload_n 0, 1) := by decide +kernel
theorem dX12_giveBy_38 : decode cX12_giveBy 38 = .ok (.getfield 81, 3) := by decide +kernel
theorem dX12_giveBy_41 : decode cX12_giveBy 41 = .ok (.iload_n 1, 1) := by decide +kernel
theorem dX12_giveBy_42 : decode cX12_giveBy 42 = .ok (.iconst (-1), 1) := by decide +kernel
theorem dX12_giveBy_43 : decode cX12_giveBy 43 = .ok (.iastore, 1) := by decide +kernel
theorem dX12_giveBy_44 : decode cX12_giveBy 44 = .ok (.iload_n 3, 1) := by decide +kernel
theorem dX12_giveBy_45 : decode cX12_giveBy 45 = .ok (.ifCond .ne 4, 3) := by decide +kernel
theorem dX12_giveBy_48 : decode cX12_giveBy 48 = .ok (.return_, 1) := by decide +kernel
theorem dX12_giveBy_49 : decode cX12_giveBy 49 = .ok (.iload_n 3, 1) := by decide +kernel
theorem dX12_giveBy_50 : decode cX12_giveBy 50 = .ok (.invokestatic 521, 3) := by decide +kernel
theorem dX12_giveBy_53 : decode cX12_giveBy 53 = .ok (.istore 4, 2) := by decide +kernel
theorem dX12_giveBy_55 : decode cX12_giveBy 55 = .ok (.aload_n 0, 1) := by decide +kernel
theorem dX12_giveBy_56 : decode cX12_giveBy 56 = .ok (.getfield 81, 3) := by decide +kernel
theorem dX12_giveBy_59 : decode cX12_giveBy 59 = .ok (.iload_n 1, 1) := by decide +kernel
theorem dX12_giveBy_60 : decode cX12_giveBy 60 = .ok (.iload_n 2, 1) := by decide +kernel
theorem dX12_giveBy_61 : decode cX12_giveBy 61 = .ok (.iconst 2, 1) := by decide +kernel
theorem dX12_giveBy_62 : decode cX12_giveBy 62 = .ok (.if_icmp .eq 12, 3) := by decide +kernel
theorem dX12_giveBy_65 : decode cX12_giveBy 65 = .ok (.aload_n 0, 1) := by decide +kernel
theorem dX12_giveBy_66 : decode cX12_giveBy 66 = .ok (.iload_n 3, 1) := by decide +kernel
theorem dX12_giveBy_67 : decode cX12_giveBy 67 = .ok (.iload_n 2, 1) := by decide +kernel
theorem dX12_giveBy_68 : decode cX12_giveBy 68 = .ok (.invokevirtual 527, 3) := by decide +kernel
theorem dX12_giveBy_71 : decode cX12_giveBy 71 = .ok (.goto 27, 3) := by decide +kernel
theorem dX12_giveBy_74 : decode cX12_giveBy 74 = .ok (.iload 4, 2) := by decide +kernel
theorem dX12_giveBy_76 : decode cX12_giveBy 76 = .ok (.iconst 1, 1) := by decide +kernel
theorem dX12_giveBy_77 : decode cX12_giveBy 77 = .ok (.if_icmp .ne 11, 3) := by decide +kernel
theorem dX12_giveBy_80 : decode cX12_giveBy 80 = .ok (.iload_n 3, 1) := by decide +kernel
theorem dX12_giveBy_81 : decode cX12_giveBy 81 = .ok (.iconst 0, 1) := by decide +kernel
theorem dX12_giveBy_82 : decode cX12_giveBy 82 = .ok (.invokestatic 530, 3) := by decide +kernel
theorem dX12_giveBy_85 : decode cX12_giveBy 85 = .ok (.goto 13, 3) := by decide +kernel
theorem dX12_giveBy_88 : decode cX12_giveBy 88 = .ok (.iload_n 3, 1) := by decide +kernel
theorem dX12_giveBy_89 : decode cX12_giveBy 89 = .ok (.aload_n 0, 1) := by decide +kernel
theorem dX12_giveBy_90 : decode cX12_giveBy 90 = .ok (.iload 4, 2) := by decide +kernel
theorem dX12_giveBy_92 : decode cX12_giveBy 92 = .ok (.invokevirtual 533, 3) := by decide +kernel
theorem dX12_giveBy_95 : decode cX12_giveBy 95 = .ok (.invokestatic 530, 3) := by decide +kernel
theorem dX12_giveBy_98 : decode cX12_giveBy 98 = .ok (.iastore, 1) := by decide +kernel
theorem dX12_giveBy_99 : decode cX12_giveBy 99 = .ok (.return_, 1) := by decide +kernel
theorem dX12_noonOf_0 : decode cX12_noonOf 0 = .ok (.iconst 0, 1) := by decide +kernel
theorem dX12_noonOf_1 : decode cX12_noonOf 1 = .ok (.istore_n 3, 1) := by decide +kernel
theorem dX12_noonOf_2 : decode cX12_noonOf 2 = .ok (.iload_n 3, 1) := by decide +kernel
theorem dX12_noonOf_3 : decode cX12_noonOf 3 = .ok (.aload_n 0, 1) := by decide +kernel
theorem dX12_noonOf_4 : decode cX12_noonOf 4 = .ok (.getfield 437, 3) := by decide +kernel
theorem dX12_noonOf_7 : decode cX12_noonOf 7 = .ok (.if_icmp .ge 53, 3) := by decide +kernel
theorem dX12_noonOf_10 : decode cX12_noonOf 10 = .ok (.aload_n 0, 1) := by decide +kernel
theorem dX12_noonOf_11 : decode cX12_noonOf 11 = .ok (.iload_n 3, 1) := by decide +kernel
theorem dX12_noonOf_12 : decode cX12_noonOf 12 = .ok (.invokevirtual 502, 3) := by decide +kernel
theorem dX12_noonOf_15 : decode cX12_noonOf 15 = .ok (.iload_n 1, 1) := by decide +kernel
theorem dX12_noonOf_16 : decode cX12_noonOf 16 = .ok (.if_icmp .ne 38, 3) := by decide +kernel
theorem dX12_noonOf_19 : decode cX12_noonOf 19 = .ok (.aload_n 0, 1) := by decide +kernel
theorem dX12_noonOf_20 : decode cX12_noonOf 20 = .ok (.getfield 99, 3) := by decide +kernel
theorem dX12_noonOf_23 : decode cX12_noonOf 23 = .ok (.iload_n 3, 1) := by decide +kernel
theorem dX12_noonOf_24 : decode cX12_noonOf 24 = .ok (.baload, 1) := by decide +kernel
theorem dX12_noonOf_25 : decode cX12_noonOf 25 = .ok (.ifCond .eq 6, 3) := by decide +kernel
theorem dX12_noonOf_28 : decode cX12_noonOf 28 = .ok (.goto 26, 3) := by decide +kernel
theorem dX12_noonOf_31 : decode cX12_noonOf 31 = .ok (.iload_n 3, 1) := by decide +kernel
theorem dX12_noonOf_32 : decode cX12_noonOf 32 = .ok (.aload_n 0, 1) := by decide +kernel
theorem dX12_noonOf_33 : decode cX12_noonOf 33 = .ok (.getfield 139, 3) := by decide +kernel
theorem dX12_noonOf_36 : decode cX12_noonOf 36 = .ok (.if_icmp .ne 12, 3) := by decide +kernel
theorem dX12_noonOf_39 : decode cX12_noonOf 39 = .ok (.aload_n 0, 1) := by decide +kernel
theorem dX12_noonOf_40 : decode cX12_noonOf 40 = .ok (.aload_n 0, 1) := by decide +kernel
theorem dX12_noonOf_41 : decode cX12_noonOf 41 = .ok (.iload_n 3, 1) := by decide +kernel
theorem dX12_noonOf_42 : decode cX12_noonOf 42 = .ok (.invokevirtual 524, 3) := by decide +kernel
theorem dX12_noonOf_45 : decode cX12_noonOf 45 = .ok (.putfield 536, 3) := by decide +kernel
theorem dX12_noonOf_48 : decode cX12_noonOf 48 = .ok (.aload_n 0, 1) := by decide +kernel
theorem dX12_noonOf_49 : decode cX12_noonOf 49 = .ok (.iload_n 3, 1) := by decide +kernel
theorem dX12_noonOf_50 : decode cX12_noonOf 50 = .ok (.iload_n 2, 1) := by decide +kernel
theorem dX12_noonOf_51 : decode cX12_noonOf 51 = .ok (.invokevirtual 539, 3) := by decide +kernel
theorem dX12_noonOf_54 : decode cX12_noonOf 54 = .ok (.iinc 3 1, 3) := by decide +kernel
theorem dX12_noonOf_57 : decode cX12_noonOf 57 = .ok (.goto (-55), 3) := by decide +kernel
theorem dX12_noonOf_60 : decode cX12_noonOf 60 = .ok (.iconst 0, 1) := by decide +kernel
theorem dX12_noonOf_61 : decode cX12_noonOf 61 = .ok (.istore_n 3, 1) := by decide +kernel
theorem dX12_noonOf_62 : decode cX12_noonOf 62 = .ok (.iload_n 3, 1) := by decide +kernel
theorem dX12_noonOf_63 : decode cX12_noonOf 63 = .ok (.aload_n 0, 1) := by decide +kernel
theorem dX12_noonOf_64 : decode cX12_noonOf 64 = .ok (.getfield 440, 3) := by decide +kernel
theorem dX12_noonOf_67 : decode cX12_noonOf 67 = .ok (.if_icmp .ge 54, 3) := by decide +kernel
theorem dX12_noonOf_70 : decode cX12_noonOf 70 = .ok (.aload_n 0, 1) := by decide +kernel
theorem dX12_noonOf_71 : decode cX12_noonOf 71 = .ok (.getfield 133, 3) := by decide +kernel
theorem dX12_noonOf_74 : decode cX12_noonOf 74 = .ok (.iload_n 3, 1) := by decide +kernel
theorem dX12_noonOf_75 : decode cX12_noonOf 75 = .ok (.iaload, 1) := by decide +kernel
theorem dX12_noonOf_76 : decode cX12_noonOf 76 = .ok (.ifCond .lt 39, 3) := by decide +kernel
theorem dX12_noonOf_79 : decode cX12_noonOf 79 = .ok (.aload_n 0, 1) := by decide +kernel
theorem dX12_noonOf_80 : decode cX12_noonOf 80 = .ok (.aload_n 0, 1) := by decide +kernel
theorem dX12_noonOf_81 : decode cX12_noonOf 81 = .ok (.getfield 133, 3) := by decide +kernel
theorem dX12_noonOf_84 : decode cX12_noonOf 84 = .ok (.iload_n 3, 1) := by decide +kernel
theorem dX12_noonOf_85 : decode cX12_noonOf 85 = .ok (.iaload, 1) := by decide +kernel
theorem dX12_noonOf_86 : decode cX12_noonOf 86 = .ok (.invokevirtual 502, 3) := by decide +kernel
theorem dX12_noonOf_89 : decode cX12_noonOf 89 = .ok (.iload_n 1, 1) := by decide +kernel
theorem dX12_noonOf_90 : decode cX12_noonOf 90 = .ok (.if_icmp .eq 6, 3) := by decide +kernel
theorem dX12_noonOf_93 : decode cX12_noonOf 93 = .ok (.goto 22, 3) := by decide +kernel
theorem dX12_noonOf_96 : decode cX12_noonOf 96 = .ok (.aload_n 0, 1) := by decide +kernel
theorem dX12_noonOf_97 : decode cX12_noonOf 97 = .ok (.getfield 93, 3) := by decide +kernel
theorem dX12_noonOf_100 : decode cX12_noonOf 100 = .ok (.iload_n 3, 1) := by decide +kernel
theorem dX12_noonOf_101 : decode cX12_noonOf 101 = .ok (.iload_n 1, 1) := by decide +kernel
theorem dX12_noonOf_102 : decode cX12_noonOf 102 = .ok (.iastore, 1) := by decide +kernel
theorem dX12_noonOf_103 : decode cX12_noonOf 103 = .ok (.aload_n 0, 1) := by decide +kernel
theorem dX12_noonOf_104 : decode cX12_noonOf 104 = .ok (.iload_n 3, 1) := by decide +kernel
theorem dX12_noonOf_105 : decode cX12_noonOf 105 = .ok (.aload_n 0, 1) := by decide +kernel
theorem dX12_noonOf_106 : decode cX12_noonOf 106 = .ok (.getfield 66, 3) := by decide +kernel
theorem dX12_noonOf_109 : decode cX12_noonOf 109 = .ok (.iload_n 1, 1) := by decide +kernel
theorem dX12_noonOf_110 : decode cX12_noonOf 110 = .ok (.iaload, 1) := by decide +kernel
theorem dX12_noonOf_111 : decode cX12_noonOf 111 = .ok (.iconst 0, 1) := by decide +kernel
theorem dX12_noonOf_112 : decode cX12_noonOf 112 = .ok (.invokevirtual 542, 3) := by decide +kernel
theorem dX12_noonOf_115 : decode cX12_noonOf 115 = .ok (.iinc 3 1, 3) := by decide +kernel
theorem dX12_noonOf_118 : decode cX12_noonOf 118 = .ok (.goto (-56), 3) := by decide +kernel
theorem dX12_noonOf_121 : decode cX12_noonOf 121 = .ok (.return_, 1) := by decide +kernel
theorem dX12_doNoons_0 : decode cX12_doNoons 0 = .ok (.aload_n 0, 1) := by decide +kernel
theorem dX12_doNoons_1 : decode cX12_doNoons 1 = .ok (.aload_n 0, 1) := by decide +kernel
theorem dX12_doNoons_2 : decode cX12_doNoons 2 = .ok (.getfield 464, 3) := by decide +kernel
theorem dX12_doNoons_5 : decode cX12_doNoons 5 = .ok (.invokevirtual 546, 3) := by decide +kernel
theorem dX12_doNoons_8 : decode cX12_doNoons 8 = .ok (.iconst 0, 1) := by decide +kernel
theorem dX12_doNoons_9 : decode cX12_doNoons 9 = .ok (.istore_n 3, 1) := by decide +kernel
theorem dX12_doNoons_10 : decode cX12_doNoons 10 = .ok (.iload_n 3, 1) := by decide +kernel
theorem dX12_doNoons_11 : decode cX12_doNoons 11 = .ok (.aload_n 0, 1) := by decide +kernel
theorem dX12_doNoons_12 : decode cX12_doNoons 12 = .ok (.getfield 440, 3) := by decide +kernel
theorem dX12_doNoons_15 : decode cX12_doNoons 15 = .ok (.if_icmp .ge 25, 3) := by decide +kernel
theorem dX12_doNoons_18 : decode cX12_doNoons 18 = .ok (.aload_n 0, 1) := by decide +kernel
theorem dX12_doNoons_19 : decode cX12_doNoons 19 = .ok (.iload_n 3, 1) := by decide +kernel
theorem dX12_doNoons_20 : decode cX12_doNoons 20 = .ok (.iconst (-1), 1) := by decide +kernel
theorem dX12_doNoons_21 : decode cX12_doNoons 21 = .ok (.iload_n 2, 1) := by decide +kernel
theorem dX12_doNoons_22 : decode cX12_doNoons 22 = .ok (.ifCond .eq 8, 3) := by decide +kernel
theorem dX12_doNoons_25 : decode cX12_doNoons 25 = .ok (.bipush 10, 2) := by decide +kernel
theorem dX12_doNoons_27 : decode cX12_doNoons 27 = .ok (.goto 4, 3) := by decide +kernel
theorem dX12_doNoons_30 : decode cX12_doNoons 30 = .ok (.iconst 0, 1) := by decide +kernel
theorem dX12_doNoons_31 : decode cX12_doNoons 31 = .ok (.invokevirtual 542, 3) := by decide +kernel
theorem dX12_doNoons_34 : decode cX12_doNoons 34 = .ok (.iinc 3 1, 3) := by decide +kernel
theorem dX12_doNoons_37 : decode cX12_doNoons 37 = .ok (.goto (-27), 3) := by decide +kernel
theorem dX12_doNoons_40 : decode cX12_doNoons 40 = .ok (.iconst 0, 1) := by decide +kernel
theorem dX12_doNoons_41 : decode cX12_doNoons 41 = .ok (.istore_n 3, 1) := by decide +kernel
theorem dX12_doNoons_42 : decode cX12_doNoons 42 = .ok (.iload_n 3, 1) := by decide +kernel
theorem dX12_doNoons_43 : decode cX12_doNoons 43 = .ok (.bipush 60, 2) := by decide +kernel
theorem dX12_doNoons_45 : decode cX12_doNoons 45 = .ok (.if_icmp .ge 45, 3) := by decide +kernel
theorem dX12_doNoons_48 : decode cX12_doNoons 48 = .ok (.iconst 0, 1) := by decide +kernel
theorem dX12_doNoons_49 : decode cX12_doNoons 49 = .ok (.istore 4, 2) := by decide +kernel
theorem dX12_doNoons_51 : decode cX12_doNoons 51 = .ok (.iload 4, 2) := by decide +kernel
theorem dX12_doNoons_53 : decode cX12_doNoons 53 = .ok (.aload_n 0, 1) := by decide +kernel
theorem dX12_doNoons_54 : decode cX12_doNoons 54 = .ok (.getfield 431, 3) := by decide +kernel
theorem dX12_doNoons_57 : decode cX12_doNoons 57 = .ok (.if_icmp .ge 27, 3) := by decide +kernel
theorem dX12_doNoons_60 : decode cX12_doNoons 60 = .ok (.aload_n 0, 1) := by decide +kernel
theorem dX12_doNoons_61 : decode cX12_doNoons 61 = .ok (.getfield 66, 3) := by decide +kernel
theorem dX12_doNoons_64 : decode cX12_doNoons 64 = .ok (.iload 4, 2) := by decide +kernel
theorem dX12_doNoons_66 : decode cX12_doNoons 66 = .ok (.iaload, 1) := by decide +kernel
theorem dX12_doNoons_67 : decode cX12_doNoons 67 = .ok (.iload_n 3, 1) := by decide +kernel
theorem dX12_doNoons_68 : decode cX12_doNoons 68 = .ok (.if_icmp .ne 10, 3) := by decide +kernel
theorem dX12_doNoons_71 : decode cX12_doNoons 71 = .ok (.aload_n 0, 1) := by decide +kernel
theorem dX12_doNoons_72 : decode cX12_doNoons 72 = .ok (.iload 4, 2) := by decide +kernel
theorem dX12_doNoons_74 : decode cX12_doNoons 74 = .ok (.iload_n 1, 1) := by decide +kernel
theorem dX12_doNoons_75 : decode cX12_doNoons 75 = .ok (.invokevirtual 549, 3) := by decide +kernel
theorem dX12_doNoons_78 : decode cX12_doNoons 78 = .ok (.iinc 4 1, 3) := by decide +kernel
theorem dX12_doNoons_81 : decode cX12_doNoons 81 = .ok (.goto (-30), 3) := by decide +kernel
theorem dX12_doNoons_84 : decode cX12_doNoons 84 = .ok (.iinc 3 1, 3) := by decide +kernel
theorem dX12_doNoons_87 : decode cX12_doNoons 87 = .ok (.goto (-45), 3) := by decide +kernel
theorem dX12_doNoons_90 : decode cX12_doNoons 90 = .ok (.return_, 1) := by decide +kernel
theorem dX12_doDay_0 : decode cX12_doDay 0 = .ok (.aload_n 0, 1) := by decide +kernel
theorem dX12_doDay_1 : decode cX12_doDay 1 = .ok (.dup, 1) := by decide +kernel
theorem dX12_doDay_2 : decode cX12_doDay 2 = .ok (.getfield 464, 3) := by decide +kernel
theorem dX12_doDay_5 : decode cX12_doDay 5 = .ok (.iconst 1, 1) := by decide +kernel
theorem dX12_doDay_6 : decode cX12_doDay 6 = .ok (.iadd, 1) := by decide +kernel
theorem dX12_doDay_7 : decode cX12_doDay 7 = .ok (.putfield 464, 3) := by decide +kernel
theorem dX12_doDay_10 : decode cX12_doDay 10 = .ok (.aload_n 0, 1) := by decide +kernel
theorem dX12_doDay_11 : decode cX12_doDay 11 = .ok (.invokevirtual 552, 3) := by decide +kernel
theorem dX12_doDay_14 : decode cX12_doDay 14 = .ok (.iload_n 1, 1) := by decide +kernel
theorem dX12_doDay_15 : decode cX12_doDay 15 = .ok (.iconst 3, 1) := by decide +kernel
theorem dX12_doDay_16 : decode cX12_doDay 16 = .ok (.if_icmp .ne 4, 3) := by decide +kernel
theorem dX12_doDay_19 : decode cX12_doDay 19 = .ok (.return_, 1) := by decide +kernel
theorem dX12_doDay_20 : decode cX12_doDay 20 = .ok (.aload_n 0, 1) := by decide +kernel
theorem dX12_doDay_21 : decode cX12_doDay 21 = .ok (.getfield 446, 3) := by decide +kernel
theorem dX12_doDay_24 : decode cX12_doDay 24 = .ok (.ifCond .le 20, 3) := by decide +kernel
theorem dX12_doDay_27 : decode cX12_doDay 27 = .ok (.aload_n 0, 1) := by decide +kernel
theorem dX12_doDay_28 : decode cX12_doDay 28 = .ok (.bipush 100, 2) := by decide +kernel
theorem dX12_doDay_30 : decode cX12_doDay 30 = .ok (.invokevirtual 533, 3) := by decide +kernel
theorem dX12_doDay_33 : decode cX12_doDay 33 = .ok (.aload_n 0, 1) := by decide +kernel
theorem dX12_doDay_34 : decode cX12_doDay 34 = .ok (.getfield 446, 3) := by decide +kernel
theorem dX12_doDay_37 : decode cX12_doDay 37 = .ok (.if_icmp .ge 7, 3) := by decide +kernel
theorem dX12_doDay_40 : decode cX12_doDay 40 = .ok (.iconst 1, 1) := by decide +kernel
theorem dX12_doDay_41 : decode cX12_doDay 41 = .ok (.goto 4, 3) := by decide +kernel
theorem dX12_doDay_44 : decode cX12_doDay 44 = .ok (.iconst 0, 1) := by decide +kernel
theorem dX12_doDay_45 : decode cX12_doDay 45 = .ok (.istore_n 2, 1) := by decide +kernel
theorem dX12_doDay_46 : decode cX12_doDay 46 = .ok (.aload_n 0, 1) := by decide +kernel
theorem dX12_doDay_47 : decode cX12_doDay 47 = .ok (.dup, 1) := by decide +kernel
theorem dX12_doDay_48 : decode cX12_doDay 48 = .ok (.getfield 467, 3) := by decide +kernel
theorem dX12_doDay_51 : decode cX12_doDay 51 = .ok (.iload_n 2, 1) := by decide +kernel
theorem dX12_doDay_52 : decode cX12_doDay 52 = .ok (.ifCond .eq 7, 3) := by decide +kernel
theorem dX12_doDay_55 : decode cX12_doDay 55 = .ok (.iconst 1, 1) := by decide +kernel
theorem dX12_doDay_56 : decode cX12_doDay 56 = .ok (.goto 4, 3) := by decide +kernel
theorem dX12_doDay_59 : decode cX12_doDay 59 = .ok (.iconst 0, 1) := by decide +kernel
theorem dX12_doDay_60 : decode cX12_doDay 60 = .ok (.iadd, 1) := by decide +kernel
theorem dX12_doDay_61 : decode cX12_doDay 61 = .ok (.putfield 467, 3) := by decide +kernel
theorem dX12_doDay_64 : decode cX12_doDay 64 = .ok (.aload_n 0, 1) := by decide +kernel
theorem dX12_doDay_65 : decode cX12_doDay 65 = .ok (.iload_n 1, 1) := by decide +kernel
theorem dX12_doDay_66 : decode cX12_doDay 66 = .ok (.iload_n 2, 1) := by decide +kernel
theorem dX12_doDay_67 : decode cX12_doDay 67 = .ok (.invokevirtual 555, 3) := by decide +kernel
theorem dX12_doDay_70 : decode cX12_doDay 70 = .ok (.iconst 0, 1) := by decide +kernel
theorem dX12_doDay_71 : decode cX12_doDay 71 = .ok (.istore_n 3, 1) := by decide +kernel
theorem dX12_doDay_72 : decode cX12_doDay 72 = .ok (.iload_n 3, 1) := by decide +kernel
theorem dX12_doDay_73 : decode cX12_doDay 73 = .ok (.bipush 10, 2) := by decide +kernel
theorem dX12_doDay_75 : decode cX12_doDay 75 = .ok (.if_icmp .ge 45, 3) := by decide +kernel
theorem dX12_doDay_78 : decode cX12_doDay 78 = .ok (.aload_n 0, 1) := by decide +kernel
theorem dX12_doDay_79 : decode cX12_doDay 79 = .ok (.getfield 479, 3) := by decide +kernel
theorem dX12_doDay_82 : decode cX12_doDay 82 = .ok (.ifCond .ne 38, 3) := by decide +kernel
theorem dX12_doDay_85 : decode cX12_doDay 85 = .ok (.aload_n 0, 1) := by decide +kernel
theorem dX12_doDay_86 : decode cX12_doDay 86 = .ok (.getfield 464, 3) := by decide +kernel
theorem dX12_doDay_89 : decode cX12_doDay 89 = .ok (.bipush 60, 2) := by decide +kernel
theorem dX12_doDay_91 : decode cX12_doDay 91 = .ok (.if_icmp .gt 29, 3) := by decide +kernel
theorem dX12_doDay_94 : decode cX12_doDay 94 = .ok (.aload_n 0, 1) := by decide +kernel
theorem dX12_doDay_95 : decode cX12_doDay 95 = .ok (.getfield 106, 3) := by decide +kernel
theorem dX12_doDay_98 : decode cX12_doDay 98 = .ok (.bipush 10, 2) := by decide +kernel
theorem dX12_doDay_100 : decode cX12_doDay 100 = .ok (.aload_n 0, 1) := by decide +kernel
theorem dX12_doDay_101 : decode cX12_doDay 101 = .ok (.getfield 464, 3) := by decide +kernel
theorem dX12_doDay_104 : decode cX12_doDay 104 = .ok (.imul, 1) := by decide +kernel
theorem dX12_doDay_105 : decode cX12_doDay 105 = .ok (.iload_n 3, 1) := by decide +kernel
theorem dX12_doDay_106 : decode cX12_doDay 106 = .ok (.iadd, 1) := by decide +kernel
theorem dX12_doDay_107 : decode cX12_doDay 107 = .ok (.aload_n 0, 1) := by decide +kernel
theorem dX12_doDay_108 : decode cX12_doDay 108 = .ok (.getfield 81, 3) := by decide +kernel
theorem dX12_doDay_111 : decode cX12_doDay 111 = .ok (.iload_n 3, 1) := by decide +kernel
theorem dX12_doDay_112 : decode cX12_doDay 112 = .ok (.iaload, 1) := by decide +kernel
theorem dX12_doDay_113 : decode cX12_doDay 113 = .ok (.iastore, 1) := by decide +kernel
theorem dX12_doDay_114 : decode cX12_doDay 114 = .ok (.iinc 3 1, 3) := by decide +kernel
theorem dX12_doDay_117 : decode cX12_doDay 117 = .ok (.goto (-45), 3) := by decide +kernel
theorem dX12_doDay_120 : decode cX12_doDay 120 = .ok (.return_, 1) := by decide +kernel
theorem dX12_allMade_0 : decode cX12_allMade 0 = .ok (.iconst 0, 1) := by decide +kernel
theorem dX12_allMade_1 : decode cX12_allMade 1 = .ok (.istore_n 1, 1) := by decide +kernel
theorem dX12_allMade_2 : decode cX12_allMade 2 = .ok (.iconst 0, 1) := by decide +kernel
theorem dX12_allMade_3 : decode cX12_allMade 3 = .ok (.istore_n 2, 1) := by decide +kernel
theorem dX12_allMade_4 : decode cX12_allMade 4 = .ok (.iload_n 2, 1) := by decide +kernel
theorem dX12_allMade_5 : decode cX12_allMade 5 = .ok (.aload_n 0, 1) := by decide +kernel
theorem dX12_allMade_6 : decode cX12_allMade 6 = .ok (.getfield 440, 3) := by decide +kernel
