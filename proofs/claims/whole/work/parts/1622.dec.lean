/-! the law's instructions -/
theorem dw_203 : decode code 203 = .ok (.aload_n 2, 1) := by decide +kernel
theorem dw_204 : decode code 204 = .ok (.invokevirtual 50, 3) := by decide +kernel
theorem dw_207 : decode code 207 = .ok (.iload 5, 2) := by decide +kernel
theorem dw_209 : decode code 209 = .ok (.if_icmp .eq 5, 3) := by decide +kernel
theorem dw_212 : decode code 212 = .ok (.iconst 0, 1) := by decide +kernel
theorem dw_213 : decode code 213 = .ok (.ireturn, 1) := by decide +kernel
theorem dw_214 : decode code 214 = .ok (.iload 5, 2) := by decide +kernel
theorem dw_216 : decode code 216 = .ok (.ifCond .ne 15, 3) := by decide +kernel
theorem dw_219 : decode code 219 = .ok (.aload_n 3, 1) := by decide +kernel
theorem dw_220 : decode code 220 = .ok (.iconst 0, 1) := by decide +kernel
theorem dw_221 : decode code 221 = .ok (.laload, 1) := by decide +kernel
theorem dw_222 : decode code 222 = .ok (.iload 6, 2) := by decide +kernel
theorem dw_224 : decode code 224 = .ok (.i2l, 1) := by decide +kernel
theorem dw_225 : decode code 225 = .ok (.lcmp, 1) := by decide +kernel
theorem dw_226 : decode code 226 = .ok (.ifCond .eq 5, 3) := by decide +kernel
theorem dw_229 : decode code 229 = .ok (.iconst 0, 1) := by decide +kernel
theorem dw_230 : decode code 230 = .ok (.ireturn, 1) := by decide +kernel
theorem dw_231 : decode code 231 = .ok (.goto 284, 3) := by decide +kernel
theorem dw_234 : decode code 234 = .ok (.aload_n 1, 1) := by decide +kernel
theorem dw_235 : decode code 235 = .ok (.invokevirtual 53, 3) := by decide +kernel
theorem dw_238 : decode code 238 = .ok (.aload_n 2, 1) := by decide +kernel
theorem dw_239 : decode code 239 = .ok (.invokevirtual 56, 3) := by decide +kernel
theorem dw_242 : decode code 242 = .ok (.if_icmp .eq 273, 3) := by decide +kernel
theorem dw_245 : decode code 245 = .ok (.iconst 0, 1) := by decide +kernel
theorem dw_246 : decode code 246 = .ok (.ireturn, 1) := by decide +kernel
theorem dw_247 : decode code 247 = .ok (.aload_n 1, 1) := by decide +kernel
theorem dw_248 : decode code 248 = .ok (.aload_n 0, 1) := by decide +kernel
theorem dw_249 : decode code 249 = .ok (.iload 4, 2) := by decide +kernel
theorem dw_251 : decode code 251 = .ok (.iconst 1, 1) := by decide +kernel
theorem dw_252 : decode code 252 = .ok (.iadd, 1) := by decide +kernel
theorem dw_253 : decode code 253 = .ok (.iaload, 1) := by decide +kernel
theorem dw_254 : decode code 254 = .ok (.invokevirtual 57, 3) := by decide +kernel
theorem dw_257 : decode code 257 = .ok (.aload_n 2, 1) := by decide +kernel
theorem dw_258 : decode code 258 = .ok (.aload_n 0, 1) := by decide +kernel
theorem dw_259 : decode code 259 = .ok (.iload 4, 2) := by decide +kernel
theorem dw_261 : decode code 261 = .ok (.iconst 1, 1) := by decide +kernel
theorem dw_262 : decode code 262 = .ok (.iadd, 1) := by decide +kernel
theorem dw_263 : decode code 263 = .ok (.iaload, 1) := by decide +kernel
theorem dw_264 : decode code 264 = .ok (.invokevirtual 60, 3) := by decide +kernel
theorem dw_267 : decode code 267 = .ok (.if_icmp .eq 248, 3) := by decide +kernel
theorem dw_270 : decode code 270 = .ok (.iconst 0, 1) := by decide +kernel
theorem dw_271 : decode code 271 = .ok (.ireturn, 1) := by decide +kernel
theorem dw_272 : decode code 272 = .ok (.aload_n 1, 1) := by decide +kernel
theorem dw_273 : decode code 273 = .ok (.aload_n 0, 1) := by decide +kernel
theorem dw_274 : decode code 274 = .ok (.iload 4, 2) := by decide +kernel
theorem dw_276 : decode code 276 = .ok (.iconst 1, 1) := by decide +kernel
theorem dw_277 : decode code 277 = .ok (.iadd, 1) := by decide +kernel
theorem dw_278 : decode code 278 = .ok (.iaload, 1) := by decide +kernel
theorem dw_279 : decode code 279 = .ok (.invokevirtual 61, 3) := by decide +kernel
theorem dw_282 : decode code 282 = .ok (.aload_n 2, 1) := by decide +kernel
