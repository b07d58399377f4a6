/-! THE LAW: its instructions, 3 -/
theorem dl_210 : decode code 210 = .ok (.iload 4, 2) := by decide +kernel
theorem dl_212 : decode code 212 = .ok (.iconst 1, 1) := by decide +kernel
theorem dl_213 : decode code 213 = .ok (.iadd, 1) := by decide +kernel
theorem dl_214 : decode code 214 = .ok (.iaload, 1) := by decide +kernel
theorem dl_215 : decode code 215 = .ok (.aload_n 0, 1) := by decide +kernel
theorem dl_216 : decode code 216 = .ok (.iload 4, 2) := by decide +kernel
theorem dl_218 : decode code 218 = .ok (.iconst 2, 1) := by decide +kernel
theorem dl_219 : decode code 219 = .ok (.iadd, 1) := by decide +kernel
theorem dl_220 : decode code 220 = .ok (.iaload, 1) := by decide +kernel
theorem dl_221 : decode code 221 = .ok (.aload_n 0, 1) := by decide +kernel
theorem dl_222 : decode code 222 = .ok (.iload 4, 2) := by decide +kernel
theorem dl_224 : decode code 224 = .ok (.iconst 3, 1) := by decide +kernel
theorem dl_225 : decode code 225 = .ok (.iadd, 1) := by decide +kernel
theorem dl_226 : decode code 226 = .ok (.iaload, 1) := by decide +kernel
theorem dl_227 : decode code 227 = .ok (.aload_n 3, 1) := by decide +kernel
theorem dl_228 : decode code 228 = .ok (.invokestatic 66, 3) := by decide +kernel
theorem dl_231 : decode code 231 = .ok (.istore 5, 2) := by decide +kernel
theorem dl_233 : decode code 233 = .ok (.aload_n 2, 1) := by decide +kernel
theorem dl_234 : decode code 234 = .ok (.aload_n 0, 1) := by decide +kernel
theorem dl_235 : decode code 235 = .ok (.iload 4, 2) := by decide +kernel
theorem dl_237 : decode code 237 = .ok (.iconst 1, 1) := by decide +kernel
theorem dl_238 : decode code 238 = .ok (.iadd, 1) := by decide +kernel
theorem dl_239 : decode code 239 = .ok (.iaload, 1) := by decide +kernel
theorem dl_240 : decode code 240 = .ok (.aload_n 0, 1) := by decide +kernel
theorem dl_241 : decode code 241 = .ok (.iload 4, 2) := by decide +kernel
theorem dl_243 : decode code 243 = .ok (.iconst 2, 1) := by decide +kernel
theorem dl_244 : decode code 244 = .ok (.iadd, 1) := by decide +kernel
theorem dl_245 : decode code 245 = .ok (.iaload, 1) := by decide +kernel
theorem dl_246 : decode code 246 = .ok (.aload_n 0, 1) := by decide +kernel
theorem dl_247 : decode code 247 = .ok (.iload 4, 2) := by decide +kernel
theorem dl_249 : decode code 249 = .ok (.iconst 3, 1) := by decide +kernel
theorem dl_250 : decode code 250 = .ok (.iadd, 1) := by decide +kernel
theorem dl_251 : decode code 251 = .ok (.iaload, 1) := by decide +kernel
theorem dl_252 : decode code 252 = .ok (.invokevirtual 69, 3) := by decide +kernel
theorem dl_255 : decode code 255 = .ok (.istore 6, 2) := by decide +kernel
theorem dl_257 : decode code 257 = .ok (.aload_n 2, 1) := by decide +kernel
theorem dl_258 : decode code 258 = .ok (.invokevirtual 63, 3) := by decide +kernel
theorem dl_261 : decode code 261 = .ok (.iload 5, 2) := by decide +kernel
theorem dl_263 : decode code 263 = .ok (.if_icmp .eq 5, 3) := by decide +kernel
theorem dl_266 : decode code 266 = .ok (.iconst 0, 1) := by decide +kernel
theorem dl_267 : decode code 267 = .ok (.ireturn, 1) := by decide +kernel
theorem dl_268 : decode code 268 = .ok (.iload 5, 2) := by decide +kernel
theorem dl_270 : decode code 270 = .ok (.ifCond .ne 15, 3) := by decide +kernel
theorem dl_273 : decode code 273 = .ok (.aload_n 3, 1) := by decide +kernel
theorem dl_274 : decode code 274 = .ok (.iconst 0, 1) := by decide +kernel
theorem dl_275 : decode code 275 = .ok (.laload, 1) := by decide +kernel
theorem dl_276 : decode code 276 = .ok (.iload 6, 2) := by decide +kernel
theorem dl_278 : decode code 278 = .ok (.i2l, 1) := by decide +kernel
theorem dl_279 : decode code 279 = .ok (.lcmp, 1) := by decide +kernel
theorem dl_280 : decode code 280 = .ok (.ifCond .eq 5, 3) := by decide +kernel
