theorem dL_law_0 : decode cL_law 0 = .ok (.new 7, 3) ∧ 0 + 3 = 3 := ⟨by decide +kernel, rfl⟩
theorem dL_law_3 : decode cL_law 3 = .ok (.dup, 1) ∧ 3 + 1 = 4 := ⟨by decide +kernel, rfl⟩
theorem dL_law_4 : decode cL_law 4 = .ok (.invokespecial 9, 3) ∧ 4 + 3 = 7 := ⟨by decide +kernel, rfl⟩
theorem dL_law_7 : decode cL_law 7 = .ok (.astore_n 1, 1) ∧ 7 + 1 = 8 := ⟨by decide +kernel, rfl⟩
theorem dL_law_8 : decode cL_law 8 = .ok (.new 10, 3) ∧ 8 + 3 = 11 := ⟨by decide +kernel, rfl⟩
theorem dL_law_11 : decode cL_law 11 = .ok (.dup, 1) ∧ 11 + 1 = 12 := ⟨by decide +kernel, rfl⟩
theorem dL_law_12 : decode cL_law 12 = .ok (.invokespecial 12, 3) ∧ 12 + 3 = 15 := ⟨by decide +kernel, rfl⟩
theorem dL_law_15 : decode cL_law 15 = .ok (.astore_n 2, 1) ∧ 15 + 1 = 16 := ⟨by decide +kernel, rfl⟩
theorem dL_law_16 : decode cL_law 16 = .ok (.iconst 0, 1) ∧ 16 + 1 = 17 := ⟨by decide +kernel, rfl⟩
theorem dL_law_17 : decode cL_law 17 = .ok (.istore_n 3, 1) ∧ 17 + 1 = 18 := ⟨by decide +kernel, rfl⟩
theorem dL_law_18 : decode cL_law 18 = .ok (.iload_n 3, 1) ∧ 18 + 1 = 19 := ⟨by decide +kernel, rfl⟩
theorem dL_law_19 : decode cL_law 19 = .ok (.aload_n 0, 1) ∧ 19 + 1 = 20 := ⟨by decide +kernel, rfl⟩
theorem dL_law_20 : decode cL_law 20 = .ok (.arraylength, 1) ∧ 20 + 1 = 21 := ⟨by decide +kernel, rfl⟩
theorem dL_law_21 : decode cL_law 21 = .ok (.iconst 5, 1) ∧ 21 + 1 = 22 := ⟨by decide +kernel, rfl⟩
theorem dL_law_22 : decode cL_law 22 = .ok (.isub, 1) ∧ 22 + 1 = 23 := ⟨by decide +kernel, rfl⟩
theorem dL_law_23 : decode cL_law 23 = .ok (.if_icmp .gt 1130, 3) ∧ 23 + 3 = 26 ∧ ((23 : Nat) : Int) + 1130 = ((1153 : Nat) : Int) := ⟨by decide +kernel, rfl, rfl⟩
theorem dL_law_26 : decode cL_law 26 = .ok (.aload_n 0, 1) ∧ 26 + 1 = 27 := ⟨by decide +kernel, rfl⟩
theorem dL_law_27 : decode cL_law 27 = .ok (.iload_n 3, 1) ∧ 27 + 1 = 28 := ⟨by decide +kernel, rfl⟩
theorem dL_law_28 : decode cL_law 28 = .ok (.iaload, 1) ∧ 28 + 1 = 29 := ⟨by decide +kernel, rfl⟩
theorem dL_law_29 : decode cL_law 29 = .ok (.bipush 63, 2) ∧ 29 + 2 = 31 := ⟨by decide +kernel, rfl⟩
theorem dL_law_31 : decode cL_law 31 = .ok (.iand, 1) ∧ 31 + 1 = 32 := ⟨by decide +kernel, rfl⟩
theorem dL_law_32 : decode cL_law 32 = .ok (.tableswitch 1115 0 33 #[152, 205, 238, 271, 304, 337, 370, 393, 416, 439, 472, 515, 548, 571, 624, 647, 670, 693, 726, 759, 783, 816, 839, 862, 885, 908, 931, 954, 967, 980, 1013, 1036, 1069, 1092], 152) := by decide +kernel
theorem dL_law_184 : decode cL_law 184 = .ok (.aload_n 1, 1) ∧ 184 + 1 = 185 := ⟨by decide +kernel, rfl⟩
theorem dL_law_185 : decode cL_law 185 = .ok (.aload_n 0, 1) ∧ 185 + 1 = 186 := ⟨by decide +kernel, rfl⟩
theorem dL_law_186 : decode cL_law 186 = .ok (.iload_n 3, 1) ∧ 186 + 1 = 187 := ⟨by decide +kernel, rfl⟩
theorem dL_law_187 : decode cL_law 187 = .ok (.iconst 1, 1) ∧ 187 + 1 = 188 := ⟨by decide +kernel, rfl⟩
theorem dL_law_188 : decode cL_law 188 = .ok (.iadd, 1) ∧ 188 + 1 = 189 := ⟨by decide +kernel, rfl⟩
theorem dL_law_189 : decode cL_law 189 = .ok (.iaload, 1) ∧ 189 + 1 = 190 := ⟨by decide +kernel, rfl⟩
theorem dL_law_190 : decode cL_law 190 = .ok (.aload_n 0, 1) ∧ 190 + 1 = 191 := ⟨by decide +kernel, rfl⟩
theorem dL_law_191 : decode cL_law 191 = .ok (.iload_n 3, 1) ∧ 191 + 1 = 192 := ⟨by decide +kernel, rfl⟩
theorem dL_law_192 : decode cL_law 192 = .ok (.iconst 2, 1) ∧ 192 + 1 = 193 := ⟨by decide +kernel, rfl⟩
theorem dL_law_193 : decode cL_law 193 = .ok (.iadd, 1) ∧ 193 + 1 = 194 := ⟨by decide +kernel, rfl⟩
theorem dL_law_194 : decode cL_law 194 = .ok (.iaload, 1) ∧ 194 + 1 = 195 := ⟨by decide +kernel, rfl⟩
theorem dL_law_195 : decode cL_law 195 = .ok (.aload_n 0, 1) ∧ 195 + 1 = 196 := ⟨by decide +kernel, rfl⟩
theorem dL_law_196 : decode cL_law 196 = .ok (.iload_n 3, 1) ∧ 196 + 1 = 197 := ⟨by decide +kernel, rfl⟩
theorem dL_law_197 : decode cL_law 197 = .ok (.iconst 3, 1) ∧ 197 + 1 = 198 := ⟨by decide +kernel, rfl⟩
theorem dL_law_198 : decode cL_law 198 = .ok (.iadd, 1) ∧ 198 + 1 = 199 := ⟨by decide +kernel, rfl⟩
theorem dL_law_199 : decode cL_law 199 = .ok (.iaload, 1) ∧ 199 + 1 = 200 := ⟨by decide +kernel, rfl⟩
theorem dL_law_200 : decode cL_law 200 = .ok (.aload_n 0, 1) ∧ 200 + 1 = 201 := ⟨by decide +kernel, rfl⟩
theorem dL_law_201 : decode cL_law 201 = .ok (.iload_n 3, 1) ∧ 201 + 1 = 202 := ⟨by decide +kernel, rfl⟩
theorem dL_law_202 : decode cL_law 202 = .ok (.iconst 4, 1) ∧ 202 + 1 = 203 := ⟨by decide +kernel, rfl⟩
theorem dL_law_203 : decode cL_law 203 = .ok (.iadd, 1) ∧ 203 + 1 = 204 := ⟨by decide +kernel, rfl⟩
theorem dL_law_204 : decode cL_law 204 = .ok (.iaload, 1) ∧ 204 + 1 = 205 := ⟨by decide +kernel, rfl⟩
theorem dL_law_205 : decode cL_law 205 = .ok (.invokevirtual 13, 3) ∧ 205 + 3 = 208 := ⟨by decide +kernel, rfl⟩
theorem dL_law_208 : decode cL_law 208 = .ok (.aload_n 2, 1) ∧ 208 + 1 = 209 := ⟨by decide +kernel, rfl⟩
theorem dL_law_209 : decode cL_law 209 = .ok (.aload_n 0, 1) ∧ 209 + 1 = 210 := ⟨by decide +kernel, rfl⟩
theorem dL_law_210 : decode cL_law 210 = .ok (.iload_n 3, 1) ∧ 210 + 1 = 211 := ⟨by decide +kernel, rfl⟩
theorem dL_law_211 : decode cL_law 211 = .ok (.iconst 1, 1) ∧ 211 + 1 = 212 := ⟨by decide +kernel, rfl⟩
theorem dL_law_212 : decode cL_law 212 = .ok (.iadd, 1) ∧ 212 + 1 = 213 := ⟨by decide +kernel, rfl⟩
theorem dL_law_213 : decode cL_law 213 = .ok (.iaload, 1) ∧ 213 + 1 = 214 := ⟨by decide +kernel, rfl⟩
theorem dL_law_214 : decode cL_law 214 = .ok (.aload_n 0, 1) ∧ 214 + 1 = 215 := ⟨by decide +kernel, rfl⟩
theorem dL_law_215 : decode cL_law 215 = .ok (.iload_n 3, 1) ∧ 215 + 1 = 216 := ⟨by decide +kernel, rfl⟩
theorem dL_law_216 : decode cL_law 216 = .ok (.iconst 2, 1) ∧ 216 + 1 = 217 := ⟨by decide +kernel, rfl⟩
theorem dL_law_217 : decode cL_law 217 = .ok (.iadd, 1) ∧ 217 + 1 = 218 := ⟨by decide +kernel, rfl⟩
theorem dL_law_218 : decode cL_law 218 = .ok (.iaload, 1) ∧ 218 + 1 = 219 := ⟨by decide +kernel, rfl⟩
theorem dL_law_219 : decode cL_law 219 = .ok (.aload_n 0, 1) ∧ 219 + 1 = 220 := ⟨by decide +kernel, rfl⟩
theorem dL_law_220 : decode cL_law 220 = .ok (.iload_n 3, 1) ∧ 220 + 1 = 221 := ⟨by decide +kernel, rfl⟩
theorem dL_law_221 : decode cL_law 221 = .ok (.iconst 3, 1) ∧ 221 + 1 = 222 := ⟨by decide +kernel, rfl⟩
theorem dL_law_222 : decode cL_law 222 = .ok (.iadd, 1) ∧ 222 + 1 = 223 := ⟨by decide +kernel, rfl⟩
theorem dL_law_223 : decode cL_law 223 = .ok (.iaload, 1) ∧ 223 + 1 = 224 := ⟨by decide +kernel, rfl⟩
theorem dL_law_224 : decode cL_law 224 = .ok (.aload_n 0, 1) ∧ 224 + 1 = 225 := ⟨by decide +kernel, rfl⟩
theorem dL_law_225 : decode cL_law 225 = .ok (.iload_n 3, 1) ∧ 225 + 1 = 226 := ⟨by decide +kernel, rfl⟩
theorem dL_law_226 : decode cL_law 226 = .ok (.iconst 4, 1) ∧ 226 + 1 = 227 := ⟨by decide +kernel, rfl⟩
theorem dL_law_227 : decode cL_law 227 = .ok (.iadd, 1) ∧ 227 + 1 = 228 := ⟨by decide +kernel, rfl⟩
theorem dL_law_228 : decode cL_law 228 = .ok (.iaload, 1) ∧ 228 + 1 = 229 := ⟨by decide +kernel, rfl⟩
theorem dL_law_229 : decode cL_law 229 = .ok (.invokevirtual 17, 3) ∧ 229 + 3 = 232 := ⟨by decide +kernel, rfl⟩
theorem dL_law_232 : decode cL_law 232 = .ok (.if_icmp .eq 915, 3) ∧ 232 + 3 = 235 ∧ ((232 : Nat) : Int) + 915 = ((1147 : Nat) : Int) := ⟨by decide +kernel, rfl, rfl⟩
theorem dL_law_235 : decode cL_law 235 = .ok (.iconst 0, 1) ∧ 235 + 1 = 236 := ⟨by decide +kernel, rfl⟩
theorem dL_law_236 : decode cL_law 236 = .ok (.ireturn, 1) ∧ 236 + 1 = 237 := ⟨by decide +kernel, rfl⟩
theorem dL_law_237 : decode cL_law 237 = .ok (.aload_n 1, 1) ∧ 237 + 1 = 238 := ⟨by decide +kernel, rfl⟩
theorem dL_law_238 : decode cL_law 238 = .ok (.aload_n 0, 1) ∧ 238 + 1 = 239 := ⟨by decide +kernel, rfl⟩
theorem dL_law_239 : decode cL_law 239 = .ok (.iload_n 3, 1) ∧ 239 + 1 = 240 := ⟨by decide +kernel, rfl⟩
theorem dL_law_240 : decode cL_law 240 = .ok (.iconst 1, 1) ∧ 240 + 1 = 241 := ⟨by decide +kernel, rfl⟩
theorem dL_law_241 : decode cL_law 241 = .ok (.iadd, 1) ∧ 241 + 1 = 242 := ⟨by decide +kernel, rfl⟩
theorem dL_law_242 : decode cL_law 242 = .ok (.iaload, 1) ∧ 242 + 1 = 243 := ⟨by decide +kernel, rfl⟩
theorem dL_law_243 : decode cL_law 243 = .ok (.aload_n 0, 1) ∧ 243 + 1 = 244 := ⟨by decide +kernel, rfl⟩
theorem dL_law_244 : decode cL_law 244 = .ok (.iload_n 3, 1) ∧ 244 + 1 = 245 := ⟨by decide +kernel, rfl⟩
theorem dL_law_245 : decode cL_law 245 = .ok (.iconst 2, 1) ∧ 245 + 1 = 246 := ⟨by decide +kernel, rfl⟩
theorem dL_law_246 : decode cL_law 246 = .ok (.iadd, 1) ∧ 246 + 1 = 247 := ⟨by decide +kernel, rfl⟩
theorem dL_law_247 : decode cL_law 247 = .ok (.iaload, 1) ∧ 247 + 1 = 248 := ⟨by decide +kernel, rfl⟩
theorem dL_law_248 : decode cL_law 248 = .ok (.invokevirtual 18, 3) ∧ 248 + 3 = 251 := ⟨by decide +kernel, rfl⟩
theorem dL_law_251 : decode cL_law 251 = .ok (.aload_n 2, 1) ∧ 251 + 1 = 252 := ⟨by decide +kernel, rfl⟩
theorem dL_law_252 : decode cL_law 252 = .ok (.aload_n 0, 1) ∧ 252 + 1 = 253 := ⟨by decide +kernel, rfl⟩
theorem dL_law_253 : decode cL_law 253 = .ok (.iload_n 3, 1) ∧ 253 + 1 = 254 := ⟨by decide +kernel, rfl⟩
theorem dL_law_254 : decode cL_law 254 = .ok (.iconst 1, 1) ∧ 254 + 1 = 255 := ⟨by decide +kernel, rfl⟩
theorem dL_law_255 : decode cL_law 255 = .ok (.iadd, 1) ∧ 255 + 1 = 256 := ⟨by decide +kernel, rfl⟩
theorem dL_law_256 : decode cL_law 256 = .ok (.iaload, 1) ∧ 256 + 1 = 257 := ⟨by decide +kernel, rfl⟩
theorem dL_law_257 : decode cL_law 257 = .ok (.aload_n 0, 1) ∧ 257 + 1 = 258 := ⟨by decide +kernel, rfl⟩
theorem dL_law_258 : decode cL_law 258 = .ok (.iload_n 3, 1) ∧ 258 + 1 = 259 := ⟨by decide +kernel, rfl⟩
theorem dL_law_259 : decode cL_law 259 = .ok (.iconst 2, 1) ∧ 259 + 1 = 260 := ⟨by decide +kernel, rfl⟩
theorem dL_law_260 : decode cL_law 260 = .ok (.iadd, 1) ∧ 260 + 1 = 261 := ⟨by decide +kernel, rfl⟩
theorem dL_law_261 : decode cL_law 261 = .ok (.iaload, 1) ∧ 261 + 1 = 262 := ⟨by decide +kernel, rfl⟩
theorem dL_law_262 : decode cL_law 262 = .ok (.invokevirtual 22, 3) ∧ 262 + 3 = 265 := ⟨by decide +kernel, rfl⟩
theorem dL_law_265 : decode cL_law 265 = .ok (.if_icmp .eq 882, 3) ∧ 265 + 3 = 268 ∧ ((265 : Nat) : Int) + 882 = ((1147 : Nat) : Int) := ⟨by decide +kernel, rfl, rfl⟩
theorem dL_law_268 : decode cL_law 268 = .ok (.iconst 0, 1) ∧ 268 + 1 = 269 := ⟨by decide +kernel, rfl⟩
theorem dL_law_269 : decode cL_law 269 = .ok (.ireturn, 1) ∧ 269 + 1 = 270 := ⟨by decide +kernel, rfl⟩
theorem dL_law_270 : decode cL_law 270 = .ok (.aload_n 1, 1) ∧ 270 + 1 = 271 := ⟨by decide +kernel, rfl⟩
theorem dL_law_271 : decode cL_law 271 = .ok (.aload_n 0, 1) ∧ 271 + 1 = 272 := ⟨by decide +kernel, rfl⟩
theorem dL_law_272 : decode cL_law 272 = .ok (.iload_n 3, 1) ∧ 272 + 1 = 273 := ⟨by decide +kernel, rfl⟩
theorem dL_law_273 : decode cL_law 273 = .ok (.iconst 1, 1) ∧ 273 + 1 = 274 := ⟨by decide +kernel, rfl⟩
theorem dL_law_274 : decode cL_law 274 = .ok (.iadd, 1) ∧ 274 + 1 = 275 := ⟨by decide +kernel, rfl⟩
theorem dL_law_275 : decode cL_law 275 = .ok (.iaload, 1) ∧ 275 + 1 = 276 := ⟨by decide +kernel, rfl⟩
theorem dL_law_276 : decode cL_law 276 = .ok (.aload_n 0, 1) ∧ 276 + 1 = 277 := ⟨by decide +kernel, rfl⟩
theorem dL_law_277 : decode cL_law 277 = .ok (.iload_n 3, 1) ∧ 277 + 1 = 278 := ⟨by decide +kernel, rfl⟩
theorem dL_law_278 : decode cL_law 278 = .ok (.iconst 2, 1) ∧ 278 + 1 = 279 := ⟨by decide +kernel, rfl⟩
theorem dL_law_279 : decode cL_law 279 = .ok (.iadd, 1) ∧ 279 + 1 = 280 := ⟨by decide +kernel, rfl⟩
theorem dL_law_280 : decode cL_law 280 = .ok (.iaload, 1) ∧ 280 + 1 = 281 := ⟨by decide +kernel, rfl⟩
theorem dL_law_281 : decode cL_law 281 = .ok (.invokevirtual 23, 3) ∧ 281 + 3 = 284 := ⟨by decide +kernel, rfl⟩
theorem dL_law_284 : decode cL_law 284 = .ok (.aload_n 2, 1) ∧ 284 + 1 = 285 := ⟨by decide +kernel, rfl⟩
theorem dL_law_285 : decode cL_law 285 = .ok (.aload_n 0, 1) ∧ 285 + 1 = 286 := ⟨by decide +kernel, rfl⟩
theorem dL_law_286 : decode cL_law 286 = .ok (.iload_n 3, 1) ∧ 286 + 1 = 287 := ⟨by decide +kernel, rfl⟩
theorem dL_law_287 : decode cL_law 287 = .ok (.iconst 1, 1) ∧ 287 + 1 = 288 := ⟨by decide +kernel, rfl⟩
theorem dL_law_288 : decode cL_law 288 = .ok (.iadd, 1) ∧ 288 + 1 = 289 := ⟨by decide +kernel, rfl⟩
theorem dL_law_289 : decode cL_law 289 = .ok (.iaload, 1) ∧ 289 + 1 = 290 := ⟨by decide +kernel, rfl⟩
theorem dL_law_290 : decode cL_law 290 = .ok (.aload_n 0, 1) ∧ 290 + 1 = 291 := ⟨by decide +kernel, rfl⟩
theorem dL_law_291 : decode cL_law 291 = .ok (.iload_n 3, 1) ∧ 291 + 1 = 292 := ⟨by decide +kernel, rfl⟩
theorem dL_law_292 : decode cL_law 292 = .ok (.iconst 2, 1) ∧ 292 + 1 = 293 := ⟨by decide +kernel, rfl⟩
theorem dL_law_293 : decode cL_law 293 = .ok (.iadd, 1) ∧ 293 + 1 = 294 := ⟨by decide +kernel, rfl⟩
theorem dL_law_294 : decode cL_law 294 = .ok (.iaload, 1) ∧ 294 + 1 = 295 := ⟨by decide +kernel, rfl⟩
theorem dL_law_295 : decode cL_law 295 = .ok (.invokevirtual 26, 3) ∧ 295 + 3 = 298 := ⟨by decide +kernel, rfl⟩
theorem dL_law_298 : decode cL_law 298 = .ok (.if_icmp .eq 849, 3) ∧ 298 + 3 = 301 ∧ ((298 : Nat) : Int) + 849 = ((1147 : Nat) : Int) := ⟨by decide +kernel, rfl, rfl⟩
theorem dL_law_301 : decode cL_law 301 = .ok (.iconst 0, 1) ∧ 301 + 1 = 302 := ⟨by decide +kernel, rfl⟩
theorem dL_law_302 : decode cL_law 302 = .ok (.ireturn, 1) ∧ 302 + 1 = 303 := ⟨by decide +kernel, rfl⟩
theorem dL_law_303 : decode cL_law 303 = .ok (.aload_n 1, 1) ∧ 303 + 1 = 304 := ⟨by decide +kernel, rfl⟩
theorem dL_law_304 : decode cL_law 304 = .ok (.aload_n 0, 1) ∧ 304 + 1 = 305 := ⟨by decide +kernel, rfl⟩
theorem dL_law_305 : decode cL_law 305 = .ok (.iload_n 3, 1) ∧ 305 + 1 = 306 := ⟨by decide +kernel, rfl⟩
theorem dL_law_306 : decode cL_law 306 = .ok (.iconst 1, 1) ∧ 306 + 1 = 307 := ⟨by decide +kernel, rfl⟩
theorem dL_law_307 : decode cL_law 307 = .ok (.iadd, 1) ∧ 307 + 1 = 308 := ⟨by decide +kernel, rfl⟩
theorem dL_law_308 : decode cL_law 308 = .ok (.iaload, 1) ∧ 308 + 1 = 309 := ⟨by decide +kernel, rfl⟩
theorem dL_law_309 : decode cL_law 309 = .ok (.aload_n 0, 1) ∧ 309 + 1 = 310 := ⟨by decide +kernel, rfl⟩
theorem dL_law_310 : decode cL_law 310 = .ok (.iload_n 3, 1) ∧ 310 + 1 = 311 := ⟨by decide +kernel, rfl⟩
theorem dL_law_311 : decode cL_law 311 = .ok (.iconst 2, 1) ∧ 311 + 1 = 312 := ⟨by decide +kernel, rfl⟩
theorem dL_law_312 : decode cL_law 312 = .ok (.iadd, 1) ∧ 312 + 1 = 313 := ⟨by decide +kernel, rfl⟩
theorem dL_law_313 : decode cL_law 313 = .ok (.iaload, 1) ∧ 313 + 1 = 314 := ⟨by decide +kernel, rfl⟩
theorem dL_law_314 : decode cL_law 314 = .ok (.invokevirtual 27, 3) ∧ 314 + 3 = 317 := ⟨by decide +kernel, rfl⟩
theorem dL_law_317 : decode cL_law 317 = .ok (.aload_n 2, 1) ∧ 317 + 1 = 318 := ⟨by decide +kernel, rfl⟩
theorem dL_law_318 : decode cL_law 318 = .ok (.aload_n 0, 1) ∧ 318 + 1 = 319 := ⟨by decide +kernel, rfl⟩
theorem dL_law_319 : decode cL_law 319 = .ok (.iload_n 3, 1) ∧ 319 + 1 = 320 := ⟨by decide +kernel, rfl⟩
theorem dL_law_320 : decode cL_law 320 = .ok (.iconst 1, 1) ∧ 320 + 1 = 321 := ⟨by decide +kernel, rfl⟩
theorem dL_law_321 : decode cL_law 321 = .ok (.iadd, 1) ∧ 321 + 1 = 322 := ⟨by decide +kernel, rfl⟩
theorem dL_law_322 : decode cL_law 322 = .ok (.iaload, 1) ∧ 322 + 1 = 323 := ⟨by decide +kernel, rfl⟩
theorem dL_law_323 : decode cL_law 323 = .ok (.aload_n 0, 1) ∧ 323 + 1 = 324 := ⟨by decide +kernel, rfl⟩
theorem dL_law_324 : decode cL_law 324 = .ok (.iload_n 3, 1) ∧ 324 + 1 = 325 := ⟨by decide +kernel, rfl⟩
theorem dL_law_325 : decode cL_law 325 = .ok (.iconst 2, 1) ∧ 325 + 1 = 326 := ⟨by decide +kernel, rfl⟩
theorem dL_law_326 : decode cL_law 326 = .ok (.iadd, 1) ∧ 326 + 1 = 327 := ⟨by decide +kernel, rfl⟩
theorem dL_law_327 : decode cL_law 327 = .ok (.iaload, 1) ∧ 327 + 1 = 328 := ⟨by decide +kernel, rfl⟩
theorem dL_law_328 : decode cL_law 328 = .ok (.invokevirtual 30, 3) ∧ 328 + 3 = 331 := ⟨by decide +kernel, rfl⟩
theorem dL_law_331 : decode cL_law 331 = .ok (.if_icmp .eq 816, 3) ∧ 331 + 3 = 334 ∧ ((331 : Nat) : Int) + 816 = ((1147 : Nat) : Int) := ⟨by decide +kernel, rfl, rfl⟩
theorem dL_law_334 : decode cL_law 334 = .ok (.iconst 0, 1) ∧ 334 + 1 = 335 := ⟨by decide +kernel, rfl⟩
theorem dL_law_335 : decode cL_law 335 = .ok (.ireturn, 1) ∧ 335 + 1 = 336 := ⟨by decide +kernel, rfl⟩
theorem dL_law_336 : decode cL_law 336 = .ok (.aload_n 1, 1) ∧ 336 + 1 = 337 := ⟨by decide +kernel, rfl⟩
theorem dL_law_337 : decode cL_law 337 = .ok (.aload_n 0, 1) ∧ 337 + 1 = 338 := ⟨by decide +kernel, rfl⟩
theorem dL_law_338 : decode cL_law 338 = .ok (.iload_n 3, 1) ∧ 338 + 1 = 339 := ⟨by decide +kernel, rfl⟩
theorem dL_law_339 : decode cL_law 339 = .ok (.iconst 1, 1) ∧ 339 + 1 = 340 := ⟨by decide +kernel, rfl⟩
theorem dL_law_340 : decode cL_law 340 = .ok (.iadd, 1) ∧ 340 + 1 = 341 := ⟨by decide +kernel, rfl⟩
theorem dL_law_341 : decode cL_law 341 = .ok (.iaload, 1) ∧ 341 + 1 = 342 := ⟨by decide +kernel, rfl⟩
theorem dL_law_342 : decode cL_law 342 = .ok (.aload_n 0, 1) ∧ 342 + 1 = 343 := ⟨by decide +kernel, rfl⟩
theorem dL_law_343 : decode cL_law 343 = .ok (.iload_n 3, 1) ∧ 343 + 1 = 344 := ⟨by decide +kernel, rfl⟩
theorem dL_law_344 : decode cL_law 344 = .ok (.iconst 2, 1) ∧ 344 + 1 = 345 := ⟨by decide +kernel, rfl⟩
theorem dL_law_345 : decode cL_law 345 = .ok (.iadd, 1) ∧ 345 + 1 = 346 := ⟨by decide +kernel, rfl⟩
theorem dL_law_346 : decode cL_law 346 = .ok (.iaload, 1) ∧ 346 + 1 = 347 := ⟨by decide +kernel, rfl⟩
theorem dL_law_347 : decode cL_law 347 = .ok (.invokevirtual 31, 3) ∧ 347 + 3 = 350 := ⟨by decide +kernel, rfl⟩
theorem dL_law_350 : decode cL_law 350 = .ok (.aload_n 2, 1) ∧ 350 + 1 = 351 := ⟨by decide +kernel, rfl⟩
theorem dL_law_351 : decode cL_law 351 = .ok (.aload_n 0, 1) ∧ 351 + 1 = 352 := ⟨by decide +kernel, rfl⟩
theorem dL_law_352 : decode cL_law 352 = .ok (.iload_n 3, 1) ∧ 352 + 1 = 353 := ⟨by decide +kernel, rfl⟩
theorem dL_law_353 : decode cL_law 353 = .ok (.iconst 1, 1) ∧ 353 + 1 = 354 := ⟨by decide +kernel, rfl⟩
theorem dL_law_354 : decode cL_law 354 = .ok (.iadd, 1) ∧ 354 + 1 = 355 := ⟨by decide +kernel, rfl⟩
theorem dL_law_355 : decode cL_law 355 = .ok (.iaload, 1) ∧ 355 + 1 = 356 := ⟨by decide +kernel, rfl⟩
theorem dL_law_356 : decode cL_law 356 = .ok (.aload_n 0, 1) ∧ 356 + 1 = 357 := ⟨by decide +kernel, rfl⟩
theorem dL_law_357 : decode cL_law 357 = .ok (.iload_n 3, 1) ∧ 357 + 1 = 358 := ⟨by decide +kernel, rfl⟩
theorem dL_law_358 : decode cL_law 358 = .ok (.iconst 2, 1) ∧ 358 + 1 = 359 := ⟨by decide +kernel, rfl⟩
theorem dL_law_359 : decode cL_law 359 = .ok (.iadd, 1) ∧ 359 + 1 = 360 := ⟨by decide +kernel, rfl⟩
theorem dL_law_360 : decode cL_law 360 = .ok (.iaload, 1) ∧ 360 + 1 = 361 := ⟨by decide +kernel, rfl⟩
theorem dL_law_361 : decode cL_law 361 = .ok (.invokevirtual 34, 3) ∧ 361 + 3 = 364 := ⟨by decide +kernel, rfl⟩
theorem dL_law_364 : decode cL_law 364 = .ok (.if_icmp .eq 783, 3) ∧ 364 + 3 = 367 ∧ ((364 : Nat) : Int) + 783 = ((1147 : Nat) : Int) := ⟨by decide +kernel, rfl, rfl⟩
theorem dL_law_367 : decode cL_law 367 = .ok (.iconst 0, 1) ∧ 367 + 1 = 368 := ⟨by decide +kernel, rfl⟩
theorem dL_law_368 : decode cL_law 368 = .ok (.ireturn, 1) ∧ 368 + 1 = 369 := ⟨by decide +kernel, rfl⟩
theorem dL_law_369 : decode cL_law 369 = .ok (.aload_n 1, 1) ∧ 369 + 1 = 370 := ⟨by decide +kernel, rfl⟩
theorem dL_law_370 : decode cL_law 370 = .ok (.aload_n 0, 1) ∧ 370 + 1 = 371 := ⟨by decide +kernel, rfl⟩
theorem dL_law_371 : decode cL_law 371 = .ok (.iload_n 3, 1) ∧ 371 + 1 = 372 := ⟨by decide +kernel, rfl⟩
theorem dL_law_372 : decode cL_law 372 = .ok (.iconst 1, 1) ∧ 372 + 1 = 373 := ⟨by decide +kernel, rfl⟩
theorem dL_law_373 : decode cL_law 373 = .ok (.iadd, 1) ∧ 373 + 1 = 374 := ⟨by decide +kernel, rfl⟩
theorem dL_law_374 : decode cL_law 374 = .ok (.iaload, 1) ∧ 374 + 1 = 375 := ⟨by decide +kernel, rfl⟩
theorem dL_law_375 : decode cL_law 375 = .ok (.aload_n 0, 1) ∧ 375 + 1 = 376 := ⟨by decide +kernel, rfl⟩
theorem dL_law_376 : decode cL_law 376 = .ok (.iload_n 3, 1) ∧ 376 + 1 = 377 := ⟨by decide +kernel, rfl⟩
theorem dL_law_377 : decode cL_law 377 = .ok (.iconst 2, 1) ∧ 377 + 1 = 378 := ⟨by decide +kernel, rfl⟩
theorem dL_law_378 : decode cL_law 378 = .ok (.iadd, 1) ∧ 378 + 1 = 379 := ⟨by decide +kernel, rfl⟩
theorem dL_law_379 : decode cL_law 379 = .ok (.iaload, 1) ∧ 379 + 1 = 380 := ⟨by decide +kernel, rfl⟩
theorem dL_law_380 : decode cL_law 380 = .ok (.invokevirtual 35, 3) ∧ 380 + 3 = 383 := ⟨by decide +kernel, rfl⟩
theorem dL_law_383 : decode cL_law 383 = .ok (.aload_n 2, 1) ∧ 383 + 1 = 384 := ⟨by decide +kernel, rfl⟩
theorem dL_law_384 : decode cL_law 384 = .ok (.aload_n 0, 1) ∧ 384 + 1 = 385 := ⟨by decide +kernel, rfl⟩
theorem dL_law_385 : decode cL_law 385 = .ok (.iload_n 3, 1) ∧ 385 + 1 = 386 := ⟨by decide +kernel, rfl⟩
theorem dL_law_386 : decode cL_law 386 = .ok (.iconst 1, 1) ∧ 386 + 1 = 387 := ⟨by decide +kernel, rfl⟩
theorem dL_law_387 : decode cL_law 387 = .ok (.iadd, 1) ∧ 387 + 1 = 388 := ⟨by decide +kernel, rfl⟩
theorem dL_law_388 : decode cL_law 388 = .ok (.iaload, 1) ∧ 388 + 1 = 389 := ⟨by decide +kernel, rfl⟩
theorem dL_law_389 : decode cL_law 389 = .ok (.aload_n 0, 1) ∧ 389 + 1 = 390 := ⟨by decide +kernel, rfl⟩
theorem dL_law_390 : decode cL_law 390 = .ok (.iload_n 3, 1) ∧ 390 + 1 = 391 := ⟨by decide +kernel, rfl⟩
theorem dL_law_391 : decode cL_law 391 = .ok (.iconst 2, 1) ∧ 391 + 1 = 392 := ⟨by decide +kernel, rfl⟩
theorem dL_law_392 : decode cL_law 392 = .ok (.iadd, 1) ∧ 392 + 1 = 393 := ⟨by decide +kernel, rfl⟩
theorem dL_law_393 : decode cL_law 393 = .ok (.iaload, 1) ∧ 393 + 1 = 394 := ⟨by decide +kernel, rfl⟩
theorem dL_law_394 : decode cL_law 394 = .ok (.invokevirtual 38, 3) ∧ 394 + 3 = 397 := ⟨by decide +kernel, rfl⟩
theorem dL_law_397 : decode cL_law 397 = .ok (.if_icmp .eq 750, 3) ∧ 397 + 3 = 400 ∧ ((397 : Nat) : Int) + 750 = ((1147 : Nat) : Int) := ⟨by decide +kernel, rfl, rfl⟩
theorem dL_law_400 : decode cL_law 400 = .ok (.iconst 0, 1) ∧ 400 + 1 = 401 := ⟨by decide +kernel, rfl⟩
theorem dL_law_401 : decode cL_law 401 = .ok (.ireturn, 1) ∧ 401 + 1 = 402 := ⟨by decide +kernel, rfl⟩
theorem dL_law_402 : decode cL_law 402 = .ok (.aload_n 1, 1) ∧ 402 + 1 = 403 := ⟨by decide +kernel, rfl⟩
theorem dL_law_403 : decode cL_law 403 = .ok (.aload_n 0, 1) ∧ 403 + 1 = 404 := ⟨by decide +kernel, rfl⟩
theorem dL_law_404 : decode cL_law 404 = .ok (.iload_n 3, 1) ∧ 404 + 1 = 405 := ⟨by decide +kernel, rfl⟩
theorem dL_law_405 : decode cL_law 405 = .ok (.iconst 1, 1) ∧ 405 + 1 = 406 := ⟨by decide +kernel, rfl⟩
theorem dL_law_406 : decode cL_law 406 = .ok (.iadd, 1) ∧ 406 + 1 = 407 := ⟨by decide +kernel, rfl⟩
theorem dL_law_407 : decode cL_law 407 = .ok (.iaload, 1) ∧ 407 + 1 = 408 := ⟨by decide +kernel, rfl⟩
theorem dL_law_408 : decode cL_law 408 = .ok (.invokevirtual 39, 3) ∧ 408 + 3 = 411 := ⟨by decide +kernel, rfl⟩
theorem dL_law_411 : decode cL_law 411 = .ok (.aload_n 2, 1) ∧ 411 + 1 = 412 := ⟨by decide +kernel, rfl⟩
theorem dL_law_412 : decode cL_law 412 = .ok (.aload_n 0, 1) ∧ 412 + 1 = 413 := ⟨by decide +kernel, rfl⟩
theorem dL_law_413 : decode cL_law 413 = .ok (.iload_n 3, 1) ∧ 413 + 1 = 414 := ⟨by decide +kernel, rfl⟩
theorem dL_law_414 : decode cL_law 414 = .ok (.iconst 1, 1) ∧ 414 + 1 = 415 := ⟨by decide +kernel, rfl⟩
theorem dL_law_415 : decode cL_law 415 = .ok (.iadd, 1) ∧ 415 + 1 = 416 := ⟨by decide +kernel, rfl⟩
theorem dL_law_416 : decode cL_law 416 = .ok (.iaload, 1) ∧ 416 + 1 = 417 := ⟨by decide +kernel, rfl⟩
theorem dL_law_417 : decode cL_law 417 = .ok (.invokevirtual 43, 3) ∧ 417 + 3 = 420 := ⟨by decide +kernel, rfl⟩
theorem dL_law_420 : decode cL_law 420 = .ok (.if_icmp .eq 727, 3) ∧ 420 + 3 = 423 ∧ ((420 : Nat) : Int) + 727 = ((1147 : Nat) : Int) := ⟨by decide +kernel, rfl, rfl⟩
theorem dL_law_423 : decode cL_law 423 = .ok (.iconst 0, 1) ∧ 423 + 1 = 424 := ⟨by decide +kernel, rfl⟩
theorem dL_law_424 : decode cL_law 424 = .ok (.ireturn, 1) ∧ 424 + 1 = 425 := ⟨by decide +kernel, rfl⟩
theorem dL_law_425 : decode cL_law 425 = .ok (.aload_n 1, 1) ∧ 425 + 1 = 426 := ⟨by decide +kernel, rfl⟩
theorem dL_law_426 : decode cL_law 426 = .ok (.aload_n 0, 1) ∧ 426 + 1 = 427 := ⟨by decide +kernel, rfl⟩
theorem dL_law_427 : decode cL_law 427 = .ok (.iload_n 3, 1) ∧ 427 + 1 = 428 := ⟨by decide +kernel, rfl⟩
theorem dL_law_428 : decode cL_law 428 = .ok (.iconst 1, 1) ∧ 428 + 1 = 429 := ⟨by decide +kernel, rfl⟩
theorem dL_law_429 : decode cL_law 429 = .ok (.iadd, 1) ∧ 429 + 1 = 430 := ⟨by decide +kernel, rfl⟩
theorem dL_law_430 : decode cL_law 430 = .ok (.iaload, 1) ∧ 430 + 1 = 431 := ⟨by decide +kernel, rfl⟩
theorem dL_law_431 : decode cL_law 431 = .ok (.invokevirtual 44, 3) ∧ 431 + 3 = 434 := ⟨by decide +kernel, rfl⟩
theorem dL_law_434 : decode cL_law 434 = .ok (.aload_n 2, 1) ∧ 434 + 1 = 435 := ⟨by decide +kernel, rfl⟩
theorem dL_law_435 : decode cL_law 435 = .ok (.aload_n 0, 1) ∧ 435 + 1 = 436 := ⟨by decide +kernel, rfl⟩
theorem dL_law_436 : decode cL_law 436 = .ok (.iload_n 3, 1) ∧ 436 + 1 = 437 := ⟨by decide +kernel, rfl⟩
theorem dL_law_437 : decode cL_law 437 = .ok (.iconst 1, 1) ∧ 437 + 1 = 438 := ⟨by decide +kernel, rfl⟩
theorem dL_law_438 : decode cL_law 438 = .ok (.iadd, 1) ∧ 438 + 1 = 439 := ⟨by decide +kernel, rfl⟩
theorem dL_law_439 : decode cL_law 439 = .ok (.iaload, 1) ∧ 439 + 1 = 440 := ⟨by decide +kernel, rfl⟩
theorem dL_law_440 : decode cL_law 440 = .ok (.invokevirtual 47, 3) ∧ 440 + 3 = 443 := ⟨by decide +kernel, rfl⟩
theorem dL_law_443 : decode cL_law 443 = .ok (.if_icmp .eq 704, 3) ∧ 443 + 3 = 446 ∧ ((443 : Nat) : Int) + 704 = ((1147 : Nat) : Int) := ⟨by decide +kernel, rfl, rfl⟩
theorem dL_law_446 : decode cL_law 446 = .ok (.iconst 0, 1) ∧ 446 + 1 = 447 := ⟨by decide +kernel, rfl⟩
theorem dL_law_447 : decode cL_law 447 = .ok (.ireturn, 1) ∧ 447 + 1 = 448 := ⟨by decide +kernel, rfl⟩
theorem dL_law_448 : decode cL_law 448 = .ok (.aload_n 1, 1) ∧ 448 + 1 = 449 := ⟨by decide +kernel, rfl⟩
theorem dL_law_449 : decode cL_law 449 = .ok (.aload_n 0, 1) ∧ 449 + 1 = 450 := ⟨by decide +kernel, rfl⟩
theorem dL_law_450 : decode cL_law 450 = .ok (.iload_n 3, 1) ∧ 450 + 1 = 451 := ⟨by decide +kernel, rfl⟩
theorem dL_law_451 : decode cL_law 451 = .ok (.iconst 1, 1) ∧ 451 + 1 = 452 := ⟨by decide +kernel, rfl⟩
theorem dL_law_452 : decode cL_law 452 = .ok (.iadd, 1) ∧ 452 + 1 = 453 := ⟨by decide +kernel, rfl⟩
theorem dL_law_453 : decode cL_law 453 = .ok (.iaload, 1) ∧ 453 + 1 = 454 := ⟨by decide +kernel, rfl⟩
theorem dL_law_454 : decode cL_law 454 = .ok (.invokevirtual 48, 3) ∧ 454 + 3 = 457 := ⟨by decide +kernel, rfl⟩
theorem dL_law_457 : decode cL_law 457 = .ok (.aload_n 2, 1) ∧ 457 + 1 = 458 := ⟨by decide +kernel, rfl⟩
theorem dL_law_458 : decode cL_law 458 = .ok (.aload_n 0, 1) ∧ 458 + 1 = 459 := ⟨by decide +kernel, rfl⟩
theorem dL_law_459 : decode cL_law 459 = .ok (.iload_n 3, 1) ∧ 459 + 1 = 460 := ⟨by decide +kernel, rfl⟩
theorem dL_law_460 : decode cL_law 460 = .ok (.iconst 1, 1) ∧ 460 + 1 = 461 := ⟨by decide +kernel, rfl⟩
theorem dL_law_461 : decode cL_law 461 = .ok (.iadd, 1) ∧ 461 + 1 = 462 := ⟨by decide +kernel, rfl⟩
theorem dL_law_462 : decode cL_law 462 = .ok (.iaload, 1) ∧ 462 + 1 = 463 := ⟨by decide +kernel, rfl⟩
theorem dL_law_463 : decode cL_law 463 = .ok (.invokevirtual 51, 3) ∧ 463 + 3 = 466 := ⟨by decide +kernel, rfl⟩
theorem dL_law_466 : decode cL_law 466 = .ok (.if_icmp .eq 681, 3) ∧ 466 + 3 = 469 ∧ ((466 : Nat) : Int) + 681 = ((1147 : Nat) : Int) := ⟨by decide +kernel, rfl, rfl⟩
theorem dL_law_469 : decode cL_law 469 = .ok (.iconst 0, 1) ∧ 469 + 1 = 470 := ⟨by decide +kernel, rfl⟩
theorem dL_law_470 : decode cL_law 470 = .ok (.ireturn, 1) ∧ 470 + 1 = 471 := ⟨by decide +kernel, rfl⟩
theorem dL_law_471 : decode cL_law 471 = .ok (.aload_n 1, 1) ∧ 471 + 1 = 472 := ⟨by decide +kernel, rfl⟩
theorem dL_law_472 : decode cL_law 472 = .ok (.aload_n 0, 1) ∧ 472 + 1 = 473 := ⟨by decide +kernel, rfl⟩
theorem dL_law_473 : decode cL_law 473 = .ok (.iload_n 3, 1) ∧ 473 + 1 = 474 := ⟨by decide +kernel, rfl⟩
theorem dL_law_474 : decode cL_law 474 = .ok (.iconst 1, 1) ∧ 474 + 1 = 475 := ⟨by decide +kernel, rfl⟩
theorem dL_law_475 : decode cL_law 475 = .ok (.iadd, 1) ∧ 475 + 1 = 476 := ⟨by decide +kernel, rfl⟩
theorem dL_law_476 : decode cL_law 476 = .ok (.iaload, 1) ∧ 476 + 1 = 477 := ⟨by decide +kernel, rfl⟩
theorem dL_law_477 : decode cL_law 477 = .ok (.aload_n 0, 1) ∧ 477 + 1 = 478 := ⟨by decide +kernel, rfl⟩
theorem dL_law_478 : decode cL_law 478 = .ok (.iload_n 3, 1) ∧ 478 + 1 = 479 := ⟨by decide +kernel, rfl⟩
theorem dL_law_479 : decode cL_law 479 = .ok (.iconst 2, 1) ∧ 479 + 1 = 480 := ⟨by decide +kernel, rfl⟩
theorem dL_law_480 : decode cL_law 480 = .ok (.iadd, 1) ∧ 480 + 1 = 481 := ⟨by decide +kernel, rfl⟩
theorem dL_law_481 : decode cL_law 481 = .ok (.iaload, 1) ∧ 481 + 1 = 482 := ⟨by decide +kernel, rfl⟩
theorem dL_law_482 : decode cL_law 482 = .ok (.invokevirtual 52, 3) ∧ 482 + 3 = 485 := ⟨by decide +kernel, rfl⟩
theorem dL_law_485 : decode cL_law 485 = .ok (.aload_n 2, 1) ∧ 485 + 1 = 486 := ⟨by decide +kernel, rfl⟩
theorem dL_law_486 : decode cL_law 486 = .ok (.aload_n 0, 1) ∧ 486 + 1 = 487 := ⟨by decide +kernel, rfl⟩
theorem dL_law_487 : decode cL_law 487 = .ok (.iload_n 3, 1) ∧ 487 + 1 = 488 := ⟨by decide +kernel, rfl⟩
theorem dL_law_488 : decode cL_law 488 = .ok (.iconst 1, 1) ∧ 488 + 1 = 489 := ⟨by decide +kernel, rfl⟩
theorem dL_law_489 : decode cL_law 489 = .ok (.iadd, 1) ∧ 489 + 1 = 490 := ⟨by decide +kernel, rfl⟩
theorem dL_law_490 : decode cL_law 490 = .ok (.iaload, 1) ∧ 490 + 1 = 491 := ⟨by decide +kernel, rfl⟩
theorem dL_law_491 : decode cL_law 491 = .ok (.aload_n 0, 1) ∧ 491 + 1 = 492 := ⟨by decide +kernel, rfl⟩
theorem dL_law_492 : decode cL_law 492 = .ok (.iload_n 3, 1) ∧ 492 + 1 = 493 := ⟨by decide +kernel, rfl⟩
theorem dL_law_493 : decode cL_law 493 = .ok (.iconst 2, 1) ∧ 493 + 1 = 494 := ⟨by decide +kernel, rfl⟩
theorem dL_law_494 : decode cL_law 494 = .ok (.iadd, 1) ∧ 494 + 1 = 495 := ⟨by decide +kernel, rfl⟩
theorem dL_law_495 : decode cL_law 495 = .ok (.iaload, 1) ∧ 495 + 1 = 496 := ⟨by decide +kernel, rfl⟩
theorem dL_law_496 : decode cL_law 496 = .ok (.invokevirtual 55, 3) ∧ 496 + 3 = 499 := ⟨by decide +kernel, rfl⟩
theorem dL_law_499 : decode cL_law 499 = .ok (.if_icmp .eq 648, 3) ∧ 499 + 3 = 502 ∧ ((499 : Nat) : Int) + 648 = ((1147 : Nat) : Int) := ⟨by decide +kernel, rfl, rfl⟩
theorem dL_law_502 : decode cL_law 502 = .ok (.iconst 0, 1) ∧ 502 + 1 = 503 := ⟨by decide +kernel, rfl⟩
theorem dL_law_503 : decode cL_law 503 = .ok (.ireturn, 1) ∧ 503 + 1 = 504 := ⟨by decide +kernel, rfl⟩
theorem dL_law_504 : decode cL_law 504 = .ok (.aload_n 1, 1) ∧ 504 + 1 = 505 := ⟨by decide +kernel, rfl⟩
theorem dL_law_505 : decode cL_law 505 = .ok (.aload_n 0, 1) ∧ 505 + 1 = 506 := ⟨by decide +kernel, rfl⟩
theorem dL_law_506 : decode cL_law 506 = .ok (.iload_n 3, 1) ∧ 506 + 1 = 507 := ⟨by decide +kernel, rfl⟩
theorem dL_law_507 : decode cL_law 507 = .ok (.iconst 1, 1) ∧ 507 + 1 = 508 := ⟨by decide +kernel, rfl⟩
theorem dL_law_508 : decode cL_law 508 = .ok (.iadd, 1) ∧ 508 + 1 = 509 := ⟨by decide +kernel, rfl⟩
theorem dL_law_509 : decode cL_law 509 = .ok (.iaload, 1) ∧ 509 + 1 = 510 := ⟨by decide +kernel, rfl⟩
theorem dL_law_510 : decode cL_law 510 = .ok (.aload_n 0, 1) ∧ 510 + 1 = 511 := ⟨by decide +kernel, rfl⟩
theorem dL_law_511 : decode cL_law 511 = .ok (.iload_n 3, 1) ∧ 511 + 1 = 512 := ⟨by decide +kernel, rfl⟩
theorem dL_law_512 : decode cL_law 512 = .ok (.iconst 2, 1) ∧ 512 + 1 = 513 := ⟨by decide +kernel, rfl⟩
theorem dL_law_513 : decode cL_law 513 = .ok (.iadd, 1) ∧ 513 + 1 = 514 := ⟨by decide +kernel, rfl⟩
theorem dL_law_514 : decode cL_law 514 = .ok (.iaload, 1) ∧ 514 + 1 = 515 := ⟨by decide +kernel, rfl⟩
theorem dL_law_515 : decode cL_law 515 = .ok (.aload_n 0, 1) ∧ 515 + 1 = 516 := ⟨by decide +kernel, rfl⟩
theorem dL_law_516 : decode cL_law 516 = .ok (.iload_n 3, 1) ∧ 516 + 1 = 517 := ⟨by decide +kernel, rfl⟩
theorem dL_law_517 : decode cL_law 517 = .ok (.iconst 3, 1) ∧ 517 + 1 = 518 := ⟨by decide +kernel, rfl⟩
theorem dL_law_518 : decode cL_law 518 = .ok (.iadd, 1) ∧ 518 + 1 = 519 := ⟨by decide +kernel, rfl⟩
theorem dL_law_519 : decode cL_law 519 = .ok (.iaload, 1) ∧ 519 + 1 = 520 := ⟨by decide +kernel, rfl⟩
theorem dL_law_520 : decode cL_law 520 = .ok (.invokevirtual 56, 3) ∧ 520 + 3 = 523 := ⟨by decide +kernel, rfl⟩
theorem dL_law_523 : decode cL_law 523 = .ok (.aload_n 2, 1) ∧ 523 + 1 = 524 := ⟨by decide +kernel, rfl⟩
theorem dL_law_524 : decode cL_law 524 = .ok (.aload_n 0, 1) ∧ 524 + 1 = 525 := ⟨by decide +kernel, rfl⟩
theorem dL_law_525 : decode cL_law 525 = .ok (.iload_n 3, 1) ∧ 525 + 1 = 526 := ⟨by decide +kernel, rfl⟩
theorem dL_law_526 : decode cL_law 526 = .ok (.iconst 1, 1) ∧ 526 + 1 = 527 := ⟨by decide +kernel, rfl⟩
theorem dL_law_527 : decode cL_law 527 = .ok (.iadd, 1) ∧ 527 + 1 = 528 := ⟨by decide +kernel, rfl⟩
theorem dL_law_528 : decode cL_law 528 = .ok (.iaload, 1) ∧ 528 + 1 = 529 := ⟨by decide +kernel, rfl⟩
theorem dL_law_529 : decode cL_law 529 = .ok (.aload_n 0, 1) ∧ 529 + 1 = 530 := ⟨by decide +kernel, rfl⟩
theorem dL_law_530 : decode cL_law 530 = .ok (.iload_n 3, 1) ∧ 530 + 1 = 531 := ⟨by decide +kernel, rfl⟩
theorem dL_law_531 : decode cL_law 531 = .ok (.iconst 2, 1) ∧ 531 + 1 = 532 := ⟨by decide +kernel, rfl⟩
theorem dL_law_532 : decode cL_law 532 = .ok (.iadd, 1) ∧ 532 + 1 = 533 := ⟨by decide +kernel, rfl⟩
theorem dL_law_533 : decode cL_law 533 = .ok (.iaload, 1) ∧ 533 + 1 = 534 := ⟨by decide +kernel, rfl⟩
theorem dL_law_534 : decode cL_law 534 = .ok (.aload_n 0, 1) ∧ 534 + 1 = 535 := ⟨by decide +kernel, rfl⟩
theorem dL_law_535 : decode cL_law 535 = .ok (.iload_n 3, 1) ∧ 535 + 1 = 536 := ⟨by decide +kernel, rfl⟩
theorem dL_law_536 : decode cL_law 536 = .ok (.iconst 3, 1) ∧ 536 + 1 = 537 := ⟨by decide +kernel, rfl⟩
theorem dL_law_537 : decode cL_law 537 = .ok (.iadd, 1) ∧ 537 + 1 = 538 := ⟨by decide +kernel, rfl⟩
theorem dL_law_538 : decode cL_law 538 = .ok (.iaload, 1) ∧ 538 + 1 = 539 := ⟨by decide +kernel, rfl⟩
theorem dL_law_539 : decode cL_law 539 = .ok (.invokevirtual 60, 3) ∧ 539 + 3 = 542 := ⟨by decide +kernel, rfl⟩
theorem dL_law_542 : decode cL_law 542 = .ok (.if_icmp .eq 605, 3) ∧ 542 + 3 = 545 ∧ ((542 : Nat) : Int) + 605 = ((1147 : Nat) : Int) := ⟨by decide +kernel, rfl, rfl⟩
theorem dL_law_545 : decode cL_law 545 = .ok (.iconst 0, 1) ∧ 545 + 1 = 546 := ⟨by decide +kernel, rfl⟩
theorem dL_law_546 : decode cL_law 546 = .ok (.ireturn, 1) ∧ 546 + 1 = 547 := ⟨by decide +kernel, rfl⟩
theorem dL_law_547 : decode cL_law 547 = .ok (.aload_n 1, 1) ∧ 547 + 1 = 548 := ⟨by decide +kernel, rfl⟩
theorem dL_law_548 : decode cL_law 548 = .ok (.aload_n 0, 1) ∧ 548 + 1 = 549 := ⟨by decide +kernel, rfl⟩
theorem dL_law_549 : decode cL_law 549 = .ok (.iload_n 3, 1) ∧ 549 + 1 = 550 := ⟨by decide +kernel, rfl⟩
theorem dL_law_550 : decode cL_law 550 = .ok (.iconst 1, 1) ∧ 550 + 1 = 551 := ⟨by decide +kernel, rfl⟩
theorem dL_law_551 : decode cL_law 551 = .ok (.iadd, 1) ∧ 551 + 1 = 552 := ⟨by decide +kernel, rfl⟩
theorem dL_law_552 : decode cL_law 552 = .ok (.iaload, 1) ∧ 552 + 1 = 553 := ⟨by decide +kernel, rfl⟩
theorem dL_law_553 : decode cL_law 553 = .ok (.aload_n 0, 1) ∧ 553 + 1 = 554 := ⟨by decide +kernel, rfl⟩
theorem dL_law_554 : decode cL_law 554 = .ok (.iload_n 3, 1) ∧ 554 + 1 = 555 := ⟨by decide +kernel, rfl⟩
theorem dL_law_555 : decode cL_law 555 = .ok (.iconst 2, 1) ∧ 555 + 1 = 556 := ⟨by decide +kernel, rfl⟩
theorem dL_law_556 : decode cL_law 556 = .ok (.iadd, 1) ∧ 556 + 1 = 557 := ⟨by decide +kernel, rfl⟩
theorem dL_law_557 : decode cL_law 557 = .ok (.iaload, 1) ∧ 557 + 1 = 558 := ⟨by decide +kernel, rfl⟩
theorem dL_law_558 : decode cL_law 558 = .ok (.invokevirtual 61, 3) ∧ 558 + 3 = 561 := ⟨by decide +kernel, rfl⟩
theorem dL_law_561 : decode cL_law 561 = .ok (.aload_n 2, 1) ∧ 561 + 1 = 562 := ⟨by decide +kernel, rfl⟩
theorem dL_law_562 : decode cL_law 562 = .ok (.aload_n 0, 1) ∧ 562 + 1 = 563 := ⟨by decide +kernel, rfl⟩
theorem dL_law_563 : decode cL_law 563 = .ok (.iload_n 3, 1) ∧ 563 + 1 = 564 := ⟨by decide +kernel, rfl⟩
theorem dL_law_564 : decode cL_law 564 = .ok (.iconst 1, 1) ∧ 564 + 1 = 565 := ⟨by decide +kernel, rfl⟩
theorem dL_law_565 : decode cL_law 565 = .ok (.iadd, 1) ∧ 565 + 1 = 566 := ⟨by decide +kernel, rfl⟩
theorem dL_law_566 : decode cL_law 566 = .ok (.iaload, 1) ∧ 566 + 1 = 567 := ⟨by decide +kernel, rfl⟩
theorem dL_law_567 : decode cL_law 567 = .ok (.aload_n 0, 1) ∧ 567 + 1 = 568 := ⟨by decide +kernel, rfl⟩
theorem dL_law_568 : decode cL_law 568 = .ok (.iload_n 3, 1) ∧ 568 + 1 = 569 := ⟨by decide +kernel, rfl⟩
theorem dL_law_569 : decode cL_law 569 = .ok (.iconst 2, 1) ∧ 569 + 1 = 570 := ⟨by decide +kernel, rfl⟩
theorem dL_law_570 : decode cL_law 570 = .ok (.iadd, 1) ∧ 570 + 1 = 571 := ⟨by decide +kernel, rfl⟩
theorem dL_law_571 : decode cL_law 571 = .ok (.iaload, 1) ∧ 571 + 1 = 572 := ⟨by decide +kernel, rfl⟩
theorem dL_law_572 : decode cL_law 572 = .ok (.invokevirtual 64, 3) ∧ 572 + 3 = 575 := ⟨by decide +kernel, rfl⟩
theorem dL_law_575 : decode cL_law 575 = .ok (.if_icmp .eq 572, 3) ∧ 575 + 3 = 578 ∧ ((575 : Nat) : Int) + 572 = ((1147 : Nat) : Int) := ⟨by decide +kernel, rfl, rfl⟩
theorem dL_law_578 : decode cL_law 578 = .ok (.iconst 0, 1) ∧ 578 + 1 = 579 := ⟨by decide +kernel, rfl⟩
theorem dL_law_579 : decode cL_law 579 = .ok (.ireturn, 1) ∧ 579 + 1 = 580 := ⟨by decide +kernel, rfl⟩
theorem dL_law_580 : decode cL_law 580 = .ok (.aload_n 1, 1) ∧ 580 + 1 = 581 := ⟨by decide +kernel, rfl⟩
theorem dL_law_581 : decode cL_law 581 = .ok (.aload_n 0, 1) ∧ 581 + 1 = 582 := ⟨by decide +kernel, rfl⟩
theorem dL_law_582 : decode cL_law 582 = .ok (.iload_n 3, 1) ∧ 582 + 1 = 583 := ⟨by decide +kernel, rfl⟩
theorem dL_law_583 : decode cL_law 583 = .ok (.iconst 1, 1) ∧ 583 + 1 = 584 := ⟨by decide +kernel, rfl⟩
theorem dL_law_584 : decode cL_law 584 = .ok (.iadd, 1) ∧ 584 + 1 = 585 := ⟨by decide +kernel, rfl⟩
theorem dL_law_585 : decode cL_law 585 = .ok (.iaload, 1) ∧ 585 + 1 = 586 := ⟨by decide +kernel, rfl⟩
theorem dL_law_586 : decode cL_law 586 = .ok (.invokevirtual 65, 3) ∧ 586 + 3 = 589 := ⟨by decide +kernel, rfl⟩
theorem dL_law_589 : decode cL_law 589 = .ok (.aload_n 2, 1) ∧ 589 + 1 = 590 := ⟨by decide +kernel, rfl⟩
theorem dL_law_590 : decode cL_law 590 = .ok (.aload_n 0, 1) ∧ 590 + 1 = 591 := ⟨by decide +kernel, rfl⟩
theorem dL_law_591 : decode cL_law 591 = .ok (.iload_n 3, 1) ∧ 591 + 1 = 592 := ⟨by decide +kernel, rfl⟩
theorem dL_law_592 : decode cL_law 592 = .ok (.iconst 1, 1) ∧ 592 + 1 = 593 := ⟨by decide +kernel, rfl⟩
theorem dL_law_593 : decode cL_law 593 = .ok (.iadd, 1) ∧ 593 + 1 = 594 := ⟨by decide +kernel, rfl⟩
theorem dL_law_594 : decode cL_law 594 = .ok (.iaload, 1) ∧ 594 + 1 = 595 := ⟨by decide +kernel, rfl⟩
theorem dL_law_595 : decode cL_law 595 = .ok (.invokevirtual 68, 3) ∧ 595 + 3 = 598 := ⟨by decide +kernel, rfl⟩
theorem dL_law_598 : decode cL_law 598 = .ok (.if_icmp .eq 549, 3) ∧ 598 + 3 = 601 ∧ ((598 : Nat) : Int) + 549 = ((1147 : Nat) : Int) := ⟨by decide +kernel, rfl, rfl⟩
theorem dL_law_601 : decode cL_law 601 = .ok (.iconst 0, 1) ∧ 601 + 1 = 602 := ⟨by decide +kernel, rfl⟩
theorem dL_law_602 : decode cL_law 602 = .ok (.ireturn, 1) ∧ 602 + 1 = 603 := ⟨by decide +kernel, rfl⟩
theorem dL_law_603 : decode cL_law 603 = .ok (.aload_n 1, 1) ∧ 603 + 1 = 604 := ⟨by decide +kernel, rfl⟩
theorem dL_law_604 : decode cL_law 604 = .ok (.aload_n 0, 1) ∧ 604 + 1 = 605 := ⟨by decide +kernel, rfl⟩
theorem dL_law_605 : decode cL_law 605 = .ok (.iload_n 3, 1) ∧ 605 + 1 = 606 := ⟨by decide +kernel, rfl⟩
theorem dL_law_606 : decode cL_law 606 = .ok (.iconst 1, 1) ∧ 606 + 1 = 607 := ⟨by decide +kernel, rfl⟩
theorem dL_law_607 : decode cL_law 607 = .ok (.iadd, 1) ∧ 607 + 1 = 608 := ⟨by decide +kernel, rfl⟩
theorem dL_law_608 : decode cL_law 608 = .ok (.iaload, 1) ∧ 608 + 1 = 609 := ⟨by decide +kernel, rfl⟩
theorem dL_law_609 : decode cL_law 609 = .ok (.aload_n 0, 1) ∧ 609 + 1 = 610 := ⟨by decide +kernel, rfl⟩
theorem dL_law_610 : decode cL_law 610 = .ok (.iload_n 3, 1) ∧ 610 + 1 = 611 := ⟨by decide +kernel, rfl⟩
theorem dL_law_611 : decode cL_law 611 = .ok (.iconst 2, 1) ∧ 611 + 1 = 612 := ⟨by decide +kernel, rfl⟩
theorem dL_law_612 : decode cL_law 612 = .ok (.iadd, 1) ∧ 612 + 1 = 613 := ⟨by decide +kernel, rfl⟩
theorem dL_law_613 : decode cL_law 613 = .ok (.iaload, 1) ∧ 613 + 1 = 614 := ⟨by decide +kernel, rfl⟩
theorem dL_law_614 : decode cL_law 614 = .ok (.aload_n 0, 1) ∧ 614 + 1 = 615 := ⟨by decide +kernel, rfl⟩
theorem dL_law_615 : decode cL_law 615 = .ok (.iload_n 3, 1) ∧ 615 + 1 = 616 := ⟨by decide +kernel, rfl⟩
theorem dL_law_616 : decode cL_law 616 = .ok (.iconst 3, 1) ∧ 616 + 1 = 617 := ⟨by decide +kernel, rfl⟩
theorem dL_law_617 : decode cL_law 617 = .ok (.iadd, 1) ∧ 617 + 1 = 618 := ⟨by decide +kernel, rfl⟩
theorem dL_law_618 : decode cL_law 618 = .ok (.iaload, 1) ∧ 618 + 1 = 619 := ⟨by decide +kernel, rfl⟩
theorem dL_law_619 : decode cL_law 619 = .ok (.aload_n 0, 1) ∧ 619 + 1 = 620 := ⟨by decide +kernel, rfl⟩
theorem dL_law_620 : decode cL_law 620 = .ok (.iload_n 3, 1) ∧ 620 + 1 = 621 := ⟨by decide +kernel, rfl⟩
theorem dL_law_621 : decode cL_law 621 = .ok (.iconst 4, 1) ∧ 621 + 1 = 622 := ⟨by decide +kernel, rfl⟩
theorem dL_law_622 : decode cL_law 622 = .ok (.iadd, 1) ∧ 622 + 1 = 623 := ⟨by decide +kernel, rfl⟩
theorem dL_law_623 : decode cL_law 623 = .ok (.iaload, 1) ∧ 623 + 1 = 624 := ⟨by decide +kernel, rfl⟩
theorem dL_law_624 : decode cL_law 624 = .ok (.invokevirtual 69, 3) ∧ 624 + 3 = 627 := ⟨by decide +kernel, rfl⟩
theorem dL_law_627 : decode cL_law 627 = .ok (.aload_n 2, 1) ∧ 627 + 1 = 628 := ⟨by decide +kernel, rfl⟩
theorem dL_law_628 : decode cL_law 628 = .ok (.aload_n 0, 1) ∧ 628 + 1 = 629 := ⟨by decide +kernel, rfl⟩
theorem dL_law_629 : decode cL_law 629 = .ok (.iload_n 3, 1) ∧ 629 + 1 = 630 := ⟨by decide +kernel, rfl⟩
theorem dL_law_630 : decode cL_law 630 = .ok (.iconst 1, 1) ∧ 630 + 1 = 631 := ⟨by decide +kernel, rfl⟩
theorem dL_law_631 : decode cL_law 631 = .ok (.iadd, 1) ∧ 631 + 1 = 632 := ⟨by decide +kernel, rfl⟩
theorem dL_law_632 : decode cL_law 632 = .ok (.iaload, 1) ∧ 632 + 1 = 633 := ⟨by decide +kernel, rfl⟩
theorem dL_law_633 : decode cL_law 633 = .ok (.aload_n 0, 1) ∧ 633 + 1 = 634 := ⟨by decide +kernel, rfl⟩
theorem dL_law_634 : decode cL_law 634 = .ok (.iload_n 3, 1) ∧ 634 + 1 = 635 := ⟨by decide +kernel, rfl⟩
theorem dL_law_635 : decode cL_law 635 = .ok (.iconst 2, 1) ∧ 635 + 1 = 636 := ⟨by decide +kernel, rfl⟩
theorem dL_law_636 : decode cL_law 636 = .ok (.iadd, 1) ∧ 636 + 1 = 637 := ⟨by decide +kernel, rfl⟩
theorem dL_law_637 : decode cL_law 637 = .ok (.iaload, 1) ∧ 637 + 1 = 638 := ⟨by decide +kernel, rfl⟩
theorem dL_law_638 : decode cL_law 638 = .ok (.aload_n 0, 1) ∧ 638 + 1 = 639 := ⟨by decide +kernel, rfl⟩
theorem dL_law_639 : decode cL_law 639 = .ok (.iload_n 3, 1) ∧ 639 + 1 = 640 := ⟨by decide +kernel, rfl⟩
theorem dL_law_640 : decode cL_law 640 = .ok (.iconst 3, 1) ∧ 640 + 1 = 641 := ⟨by decide +kernel, rfl⟩
theorem dL_law_641 : decode cL_law 641 = .ok (.iadd, 1) ∧ 641 + 1 = 642 := ⟨by decide +kernel, rfl⟩
theorem dL_law_642 : decode cL_law 642 = .ok (.iaload, 1) ∧ 642 + 1 = 643 := ⟨by decide +kernel, rfl⟩
theorem dL_law_643 : decode cL_law 643 = .ok (.aload_n 0, 1) ∧ 643 + 1 = 644 := ⟨by decide +kernel, rfl⟩
theorem dL_law_644 : decode cL_law 644 = .ok (.iload_n 3, 1) ∧ 644 + 1 = 645 := ⟨by decide +kernel, rfl⟩
theorem dL_law_645 : decode cL_law 645 = .ok (.iconst 4, 1) ∧ 645 + 1 = 646 := ⟨by decide +kernel, rfl⟩
theorem dL_law_646 : decode cL_law 646 = .ok (.iadd, 1) ∧ 646 + 1 = 647 := ⟨by decide +kernel, rfl⟩
theorem dL_law_647 : decode cL_law 647 = .ok (.iaload, 1) ∧ 647 + 1 = 648 := ⟨by decide +kernel, rfl⟩
theorem dL_law_648 : decode cL_law 648 = .ok (.invokevirtual 72, 3) ∧ 648 + 3 = 651 := ⟨by decide +kernel, rfl⟩
theorem dL_law_651 : decode cL_law 651 = .ok (.if_icmp .eq 496, 3) ∧ 651 + 3 = 654 ∧ ((651 : Nat) : Int) + 496 = ((1147 : Nat) : Int) := ⟨by decide +kernel, rfl, rfl⟩
theorem dL_law_654 : decode cL_law 654 = .ok (.iconst 0, 1) ∧ 654 + 1 = 655 := ⟨by decide +kernel, rfl⟩
theorem dL_law_655 : decode cL_law 655 = .ok (.ireturn, 1) ∧ 655 + 1 = 656 := ⟨by decide +kernel, rfl⟩
theorem dL_law_656 : decode cL_law 656 = .ok (.aload_n 1, 1) ∧ 656 + 1 = 657 := ⟨by decide +kernel, rfl⟩
theorem dL_law_657 : decode cL_law 657 = .ok (.aload_n 0, 1) ∧ 657 + 1 = 658 := ⟨by decide +kernel, rfl⟩
theorem dL_law_658 : decode cL_law 658 = .ok (.iload_n 3, 1) ∧ 658 + 1 = 659 := ⟨by decide +kernel, rfl⟩
theorem dL_law_659 : decode cL_law 659 = .ok (.iconst 1, 1) ∧ 659 + 1 = 660 := ⟨by decide +kernel, rfl⟩
theorem dL_law_660 : decode cL_law 660 = .ok (.iadd, 1) ∧ 660 + 1 = 661 := ⟨by decide +kernel, rfl⟩
theorem dL_law_661 : decode cL_law 661 = .ok (.iaload, 1) ∧ 661 + 1 = 662 := ⟨by decide +kernel, rfl⟩
theorem dL_law_662 : decode cL_law 662 = .ok (.invokevirtual 73, 3) ∧ 662 + 3 = 665 := ⟨by decide +kernel, rfl⟩
theorem dL_law_665 : decode cL_law 665 = .ok (.aload_n 2, 1) ∧ 665 + 1 = 666 := ⟨by decide +kernel, rfl⟩
theorem dL_law_666 : decode cL_law 666 = .ok (.aload_n 0, 1) ∧ 666 + 1 = 667 := ⟨by decide +kernel, rfl⟩
theorem dL_law_667 : decode cL_law 667 = .ok (.iload_n 3, 1) ∧ 667 + 1 = 668 := ⟨by decide +kernel, rfl⟩
theorem dL_law_668 : decode cL_law 668 = .ok (.iconst 1, 1) ∧ 668 + 1 = 669 := ⟨by decide +kernel, rfl⟩
theorem dL_law_669 : decode cL_law 669 = .ok (.iadd, 1) ∧ 669 + 1 = 670 := ⟨by decide +kernel, rfl⟩
theorem dL_law_670 : decode cL_law 670 = .ok (.iaload, 1) ∧ 670 + 1 = 671 := ⟨by decide +kernel, rfl⟩
theorem dL_law_671 : decode cL_law 671 = .ok (.invokevirtual 76, 3) ∧ 671 + 3 = 674 := ⟨by decide +kernel, rfl⟩
theorem dL_law_674 : decode cL_law 674 = .ok (.if_icmp .eq 473, 3) ∧ 674 + 3 = 677 ∧ ((674 : Nat) : Int) + 473 = ((1147 : Nat) : Int) := ⟨by decide +kernel, rfl, rfl⟩
theorem dL_law_677 : decode cL_law 677 = .ok (.iconst 0, 1) ∧ 677 + 1 = 678 := ⟨by decide +kernel, rfl⟩
theorem dL_law_678 : decode cL_law 678 = .ok (.ireturn, 1) ∧ 678 + 1 = 679 := ⟨by decide +kernel, rfl⟩
theorem dL_law_679 : decode cL_law 679 = .ok (.aload_n 1, 1) ∧ 679 + 1 = 680 := ⟨by decide +kernel, rfl⟩
theorem dL_law_680 : decode cL_law 680 = .ok (.aload_n 0, 1) ∧ 680 + 1 = 681 := ⟨by decide +kernel, rfl⟩
theorem dL_law_681 : decode cL_law 681 = .ok (.iload_n 3, 1) ∧ 681 + 1 = 682 := ⟨by decide +kernel, rfl⟩
theorem dL_law_682 : decode cL_law 682 = .ok (.iconst 1, 1) ∧ 682 + 1 = 683 := ⟨by decide +kernel, rfl⟩
theorem dL_law_683 : decode cL_law 683 = .ok (.iadd, 1) ∧ 683 + 1 = 684 := ⟨by decide +kernel, rfl⟩
theorem dL_law_684 : decode cL_law 684 = .ok (.iaload, 1) ∧ 684 + 1 = 685 := ⟨by decide +kernel, rfl⟩
theorem dL_law_685 : decode cL_law 685 = .ok (.invokevirtual 77, 3) ∧ 685 + 3 = 688 := ⟨by decide +kernel, rfl⟩
theorem dL_law_688 : decode cL_law 688 = .ok (.aload_n 2, 1) ∧ 688 + 1 = 689 := ⟨by decide +kernel, rfl⟩
theorem dL_law_689 : decode cL_law 689 = .ok (.aload_n 0, 1) ∧ 689 + 1 = 690 := ⟨by decide +kernel, rfl⟩
theorem dL_law_690 : decode cL_law 690 = .ok (.iload_n 3, 1) ∧ 690 + 1 = 691 := ⟨by decide +kernel, rfl⟩
theorem dL_law_691 : decode cL_law 691 = .ok (.iconst 1, 1) ∧ 691 + 1 = 692 := ⟨by decide +kernel, rfl⟩
theorem dL_law_692 : decode cL_law 692 = .ok (.iadd, 1) ∧ 692 + 1 = 693 := ⟨by decide +kernel, rfl⟩
theorem dL_law_693 : decode cL_law 693 = .ok (.iaload, 1) ∧ 693 + 1 = 694 := ⟨by decide +kernel, rfl⟩
theorem dL_law_694 : decode cL_law 694 = .ok (.invokevirtual 80, 3) ∧ 694 + 3 = 697 := ⟨by decide +kernel, rfl⟩
theorem dL_law_697 : decode cL_law 697 = .ok (.if_icmp .eq 450, 3) ∧ 697 + 3 = 700 ∧ ((697 : Nat) : Int) + 450 = ((1147 : Nat) : Int) := ⟨by decide +kernel, rfl, rfl⟩
theorem dL_law_700 : decode cL_law 700 = .ok (.iconst 0, 1) ∧ 700 + 1 = 701 := ⟨by decide +kernel, rfl⟩
theorem dL_law_701 : decode cL_law 701 = .ok (.ireturn, 1) ∧ 701 + 1 = 702 := ⟨by decide +kernel, rfl⟩
theorem dL_law_702 : decode cL_law 702 = .ok (.aload_n 1, 1) ∧ 702 + 1 = 703 := ⟨by decide +kernel, rfl⟩
theorem dL_law_703 : decode cL_law 703 = .ok (.aload_n 0, 1) ∧ 703 + 1 = 704 := ⟨by decide +kernel, rfl⟩
theorem dL_law_704 : decode cL_law 704 = .ok (.iload_n 3, 1) ∧ 704 + 1 = 705 := ⟨by decide +kernel, rfl⟩
theorem dL_law_705 : decode cL_law 705 = .ok (.iconst 1, 1) ∧ 705 + 1 = 706 := ⟨by decide +kernel, rfl⟩
theorem dL_law_706 : decode cL_law 706 = .ok (.iadd, 1) ∧ 706 + 1 = 707 := ⟨by decide +kernel, rfl⟩
theorem dL_law_707 : decode cL_law 707 = .ok (.iaload, 1) ∧ 707 + 1 = 708 := ⟨by decide +kernel, rfl⟩
theorem dL_law_708 : decode cL_law 708 = .ok (.invokevirtual 81, 3) ∧ 708 + 3 = 711 := ⟨by decide +kernel, rfl⟩
theorem dL_law_711 : decode cL_law 711 = .ok (.aload_n 2, 1) ∧ 711 + 1 = 712 := ⟨by decide +kernel, rfl⟩
theorem dL_law_712 : decode cL_law 712 = .ok (.aload_n 0, 1) ∧ 712 + 1 = 713 := ⟨by decide +kernel, rfl⟩
theorem dL_law_713 : decode cL_law 713 = .ok (.iload_n 3, 1) ∧ 713 + 1 = 714 := ⟨by decide +kernel, rfl⟩
theorem dL_law_714 : decode cL_law 714 = .ok (.iconst 1, 1) ∧ 714 + 1 = 715 := ⟨by decide +kernel, rfl⟩
theorem dL_law_715 : decode cL_law 715 = .ok (.iadd, 1) ∧ 715 + 1 = 716 := ⟨by decide +kernel, rfl⟩
theorem dL_law_716 : decode cL_law 716 = .ok (.iaload, 1) ∧ 716 + 1 = 717 := ⟨by decide +kernel, rfl⟩
theorem dL_law_717 : decode cL_law 717 = .ok (.invokevirtual 84, 3) ∧ 717 + 3 = 720 := ⟨by decide +kernel, rfl⟩
theorem dL_law_720 : decode cL_law 720 = .ok (.if_icmp .eq 427, 3) ∧ 720 + 3 = 723 ∧ ((720 : Nat) : Int) + 427 = ((1147 : Nat) : Int) := ⟨by decide +kernel, rfl, rfl⟩
theorem dL_law_723 : decode cL_law 723 = .ok (.iconst 0, 1) ∧ 723 + 1 = 724 := ⟨by decide +kernel, rfl⟩
theorem dL_law_724 : decode cL_law 724 = .ok (.ireturn, 1) ∧ 724 + 1 = 725 := ⟨by decide +kernel, rfl⟩
theorem dL_law_725 : decode cL_law 725 = .ok (.aload_n 1, 1) ∧ 725 + 1 = 726 := ⟨by decide +kernel, rfl⟩
theorem dL_law_726 : decode cL_law 726 = .ok (.aload_n 0, 1) ∧ 726 + 1 = 727 := ⟨by decide +kernel, rfl⟩
theorem dL_law_727 : decode cL_law 727 = .ok (.iload_n 3, 1) ∧ 727 + 1 = 728 := ⟨by decide +kernel, rfl⟩
theorem dL_law_728 : decode cL_law 728 = .ok (.iconst 1, 1) ∧ 728 + 1 = 729 := ⟨by decide +kernel, rfl⟩
theorem dL_law_729 : decode cL_law 729 = .ok (.iadd, 1) ∧ 729 + 1 = 730 := ⟨by decide +kernel, rfl⟩
theorem dL_law_730 : decode cL_law 730 = .ok (.iaload, 1) ∧ 730 + 1 = 731 := ⟨by decide +kernel, rfl⟩
theorem dL_law_731 : decode cL_law 731 = .ok (.aload_n 0, 1) ∧ 731 + 1 = 732 := ⟨by decide +kernel, rfl⟩
theorem dL_law_732 : decode cL_law 732 = .ok (.iload_n 3, 1) ∧ 732 + 1 = 733 := ⟨by decide +kernel, rfl⟩
theorem dL_law_733 : decode cL_law 733 = .ok (.iconst 2, 1) ∧ 733 + 1 = 734 := ⟨by decide +kernel, rfl⟩
theorem dL_law_734 : decode cL_law 734 = .ok (.iadd, 1) ∧ 734 + 1 = 735 := ⟨by decide +kernel, rfl⟩
theorem dL_law_735 : decode cL_law 735 = .ok (.iaload, 1) ∧ 735 + 1 = 736 := ⟨by decide +kernel, rfl⟩
theorem dL_law_736 : decode cL_law 736 = .ok (.invokevirtual 85, 3) ∧ 736 + 3 = 739 := ⟨by decide +kernel, rfl⟩
theorem dL_law_739 : decode cL_law 739 = .ok (.aload_n 2, 1) ∧ 739 + 1 = 740 := ⟨by decide +kernel, rfl⟩
theorem dL_law_740 : decode cL_law 740 = .ok (.aload_n 0, 1) ∧ 740 + 1 = 741 := ⟨by decide +kernel, rfl⟩
theorem dL_law_741 : decode cL_law 741 = .ok (.iload_n 3, 1) ∧ 741 + 1 = 742 := ⟨by decide +kernel, rfl⟩
theorem dL_law_742 : decode cL_law 742 = .ok (.iconst 1, 1) ∧ 742 + 1 = 743 := ⟨by decide +kernel, rfl⟩
theorem dL_law_743 : decode cL_law 743 = .ok (.iadd, 1) ∧ 743 + 1 = 744 := ⟨by decide +kernel, rfl⟩
theorem dL_law_744 : decode cL_law 744 = .ok (.iaload, 1) ∧ 744 + 1 = 745 := ⟨by decide +kernel, rfl⟩
theorem dL_law_745 : decode cL_law 745 = .ok (.aload_n 0, 1) ∧ 745 + 1 = 746 := ⟨by decide +kernel, rfl⟩
theorem dL_law_746 : decode cL_law 746 = .ok (.iload_n 3, 1) ∧ 746 + 1 = 747 := ⟨by decide +kernel, rfl⟩
theorem dL_law_747 : decode cL_law 747 = .ok (.iconst 2, 1) ∧ 747 + 1 = 748 := ⟨by decide +kernel, rfl⟩
theorem dL_law_748 : decode cL_law 748 = .ok (.iadd, 1) ∧ 748 + 1 = 749 := ⟨by decide +kernel, rfl⟩
theorem dL_law_749 : decode cL_law 749 = .ok (.iaload, 1) ∧ 749 + 1 = 750 := ⟨by decide +kernel, rfl⟩
theorem dL_law_750 : decode cL_law 750 = .ok (.invokevirtual 88, 3) ∧ 750 + 3 = 753 := ⟨by decide +kernel, rfl⟩
theorem dL_law_753 : decode cL_law 753 = .ok (.if_icmp .eq 394, 3) ∧ 753 + 3 = 756 ∧ ((753 : Nat) : Int) + 394 = ((1147 : Nat) : Int) := ⟨by decide +kernel, rfl, rfl⟩
theorem dL_law_756 : decode cL_law 756 = .ok (.iconst 0, 1) ∧ 756 + 1 = 757 := ⟨by decide +kernel, rfl⟩
theorem dL_law_757 : decode cL_law 757 = .ok (.ireturn, 1) ∧ 757 + 1 = 758 := ⟨by decide +kernel, rfl⟩
theorem dL_law_758 : decode cL_law 758 = .ok (.aload_n 1, 1) ∧ 758 + 1 = 759 := ⟨by decide +kernel, rfl⟩
theorem dL_law_759 : decode cL_law 759 = .ok (.aload_n 0, 1) ∧ 759 + 1 = 760 := ⟨by decide +kernel, rfl⟩
theorem dL_law_760 : decode cL_law 760 = .ok (.iload_n 3, 1) ∧ 760 + 1 = 761 := ⟨by decide +kernel, rfl⟩
theorem dL_law_761 : decode cL_law 761 = .ok (.iconst 1, 1) ∧ 761 + 1 = 762 := ⟨by decide +kernel, rfl⟩
theorem dL_law_762 : decode cL_law 762 = .ok (.iadd, 1) ∧ 762 + 1 = 763 := ⟨by decide +kernel, rfl⟩
theorem dL_law_763 : decode cL_law 763 = .ok (.iaload, 1) ∧ 763 + 1 = 764 := ⟨by decide +kernel, rfl⟩
theorem dL_law_764 : decode cL_law 764 = .ok (.aload_n 0, 1) ∧ 764 + 1 = 765 := ⟨by decide +kernel, rfl⟩
theorem dL_law_765 : decode cL_law 765 = .ok (.iload_n 3, 1) ∧ 765 + 1 = 766 := ⟨by decide +kernel, rfl⟩
theorem dL_law_766 : decode cL_law 766 = .ok (.iconst 2, 1) ∧ 766 + 1 = 767 := ⟨by decide +kernel, rfl⟩
theorem dL_law_767 : decode cL_law 767 = .ok (.iadd, 1) ∧ 767 + 1 = 768 := ⟨by decide +kernel, rfl⟩
theorem dL_law_768 : decode cL_law 768 = .ok (.iaload, 1) ∧ 768 + 1 = 769 := ⟨by decide +kernel, rfl⟩
theorem dL_law_769 : decode cL_law 769 = .ok (.invokevirtual 89, 3) ∧ 769 + 3 = 772 := ⟨by decide +kernel, rfl⟩
theorem dL_law_772 : decode cL_law 772 = .ok (.aload_n 2, 1) ∧ 772 + 1 = 773 := ⟨by decide +kernel, rfl⟩
theorem dL_law_773 : decode cL_law 773 = .ok (.aload_n 0, 1) ∧ 773 + 1 = 774 := ⟨by decide +kernel, rfl⟩
theorem dL_law_774 : decode cL_law 774 = .ok (.iload_n 3, 1) ∧ 774 + 1 = 775 := ⟨by decide +kernel, rfl⟩
theorem dL_law_775 : decode cL_law 775 = .ok (.iconst 1, 1) ∧ 775 + 1 = 776 := ⟨by decide +kernel, rfl⟩
theorem dL_law_776 : decode cL_law 776 = .ok (.iadd, 1) ∧ 776 + 1 = 777 := ⟨by decide +kernel, rfl⟩
theorem dL_law_777 : decode cL_law 777 = .ok (.iaload, 1) ∧ 777 + 1 = 778 := ⟨by decide +kernel, rfl⟩
theorem dL_law_778 : decode cL_law 778 = .ok (.aload_n 0, 1) ∧ 778 + 1 = 779 := ⟨by decide +kernel, rfl⟩
theorem dL_law_779 : decode cL_law 779 = .ok (.iload_n 3, 1) ∧ 779 + 1 = 780 := ⟨by decide +kernel, rfl⟩
theorem dL_law_780 : decode cL_law 780 = .ok (.iconst 2, 1) ∧ 780 + 1 = 781 := ⟨by decide +kernel, rfl⟩
theorem dL_law_781 : decode cL_law 781 = .ok (.iadd, 1) ∧ 781 + 1 = 782 := ⟨by decide +kernel, rfl⟩
theorem dL_law_782 : decode cL_law 782 = .ok (.iaload, 1) ∧ 782 + 1 = 783 := ⟨by decide +kernel, rfl⟩
theorem dL_law_783 : decode cL_law 783 = .ok (.invokevirtual 92, 3) ∧ 783 + 3 = 786 := ⟨by decide +kernel, rfl⟩
theorem dL_law_786 : decode cL_law 786 = .ok (.if_icmp .eq 361, 3) ∧ 786 + 3 = 789 ∧ ((786 : Nat) : Int) + 361 = ((1147 : Nat) : Int) := ⟨by decide +kernel, rfl, rfl⟩
theorem dL_law_789 : decode cL_law 789 = .ok (.iconst 0, 1) ∧ 789 + 1 = 790 := ⟨by decide +kernel, rfl⟩
theorem dL_law_790 : decode cL_law 790 = .ok (.ireturn, 1) ∧ 790 + 1 = 791 := ⟨by decide +kernel, rfl⟩
theorem dL_law_791 : decode cL_law 791 = .ok (.aload_n 1, 1) ∧ 791 + 1 = 792 := ⟨by decide +kernel, rfl⟩
theorem dL_law_792 : decode cL_law 792 = .ok (.aload_n 0, 1) ∧ 792 + 1 = 793 := ⟨by decide +kernel, rfl⟩
theorem dL_law_793 : decode cL_law 793 = .ok (.iload_n 3, 1) ∧ 793 + 1 = 794 := ⟨by decide +kernel, rfl⟩
theorem dL_law_794 : decode cL_law 794 = .ok (.iconst 1, 1) ∧ 794 + 1 = 795 := ⟨by decide +kernel, rfl⟩
theorem dL_law_795 : decode cL_law 795 = .ok (.iadd, 1) ∧ 795 + 1 = 796 := ⟨by decide +kernel, rfl⟩
theorem dL_law_796 : decode cL_law 796 = .ok (.iaload, 1) ∧ 796 + 1 = 797 := ⟨by decide +kernel, rfl⟩
theorem dL_law_797 : decode cL_law 797 = .ok (.invokevirtual 93, 3) ∧ 797 + 3 = 800 := ⟨by decide +kernel, rfl⟩
theorem dL_law_800 : decode cL_law 800 = .ok (.aload_n 2, 1) ∧ 800 + 1 = 801 := ⟨by decide +kernel, rfl⟩
theorem dL_law_801 : decode cL_law 801 = .ok (.aload_n 0, 1) ∧ 801 + 1 = 802 := ⟨by decide +kernel, rfl⟩
theorem dL_law_802 : decode cL_law 802 = .ok (.iload_n 3, 1) ∧ 802 + 1 = 803 := ⟨by decide +kernel, rfl⟩
theorem dL_law_803 : decode cL_law 803 = .ok (.iconst 1, 1) ∧ 803 + 1 = 804 := ⟨by decide +kernel, rfl⟩
theorem dL_law_804 : decode cL_law 804 = .ok (.iadd, 1) ∧ 804 + 1 = 805 := ⟨by decide +kernel, rfl⟩
theorem dL_law_805 : decode cL_law 805 = .ok (.iaload, 1) ∧ 805 + 1 = 806 := ⟨by decide +kernel, rfl⟩
theorem dL_law_806 : decode cL_law 806 = .ok (.invokevirtual 97, 3) ∧ 806 + 3 = 809 := ⟨by decide +kernel, rfl⟩
theorem dL_law_809 : decode cL_law 809 = .ok (.lcmp, 1) ∧ 809 + 1 = 810 := ⟨by decide +kernel, rfl⟩
theorem dL_law_810 : decode cL_law 810 = .ok (.ifCond .eq 337, 3) ∧ 810 + 3 = 813 ∧ ((810 : Nat) : Int) + 337 = ((1147 : Nat) : Int) := ⟨by decide +kernel, rfl, rfl⟩
theorem dL_law_813 : decode cL_law 813 = .ok (.iconst 0, 1) ∧ 813 + 1 = 814 := ⟨by decide +kernel, rfl⟩
theorem dL_law_814 : decode cL_law 814 = .ok (.ireturn, 1) ∧ 814 + 1 = 815 := ⟨by decide +kernel, rfl⟩
theorem dL_law_815 : decode cL_law 815 = .ok (.aload_n 1, 1) ∧ 815 + 1 = 816 := ⟨by decide +kernel, rfl⟩
theorem dL_law_816 : decode cL_law 816 = .ok (.aload_n 0, 1) ∧ 816 + 1 = 817 := ⟨by decide +kernel, rfl⟩
theorem dL_law_817 : decode cL_law 817 = .ok (.iload_n 3, 1) ∧ 817 + 1 = 818 := ⟨by decide +kernel, rfl⟩
theorem dL_law_818 : decode cL_law 818 = .ok (.iconst 1, 1) ∧ 818 + 1 = 819 := ⟨by decide +kernel, rfl⟩
theorem dL_law_819 : decode cL_law 819 = .ok (.iadd, 1) ∧ 819 + 1 = 820 := ⟨by decide +kernel, rfl⟩
theorem dL_law_820 : decode cL_law 820 = .ok (.iaload, 1) ∧ 820 + 1 = 821 := ⟨by decide +kernel, rfl⟩
theorem dL_law_821 : decode cL_law 821 = .ok (.aload_n 0, 1) ∧ 821 + 1 = 822 := ⟨by decide +kernel, rfl⟩
theorem dL_law_822 : decode cL_law 822 = .ok (.iload_n 3, 1) ∧ 822 + 1 = 823 := ⟨by decide +kernel, rfl⟩
theorem dL_law_823 : decode cL_law 823 = .ok (.iconst 2, 1) ∧ 823 + 1 = 824 := ⟨by decide +kernel, rfl⟩
theorem dL_law_824 : decode cL_law 824 = .ok (.iadd, 1) ∧ 824 + 1 = 825 := ⟨by decide +kernel, rfl⟩
theorem dL_law_825 : decode cL_law 825 = .ok (.iaload, 1) ∧ 825 + 1 = 826 := ⟨by decide +kernel, rfl⟩
theorem dL_law_826 : decode cL_law 826 = .ok (.invokevirtual 98, 3) ∧ 826 + 3 = 829 := ⟨by decide +kernel, rfl⟩
theorem dL_law_829 : decode cL_law 829 = .ok (.aload_n 2, 1) ∧ 829 + 1 = 830 := ⟨by decide +kernel, rfl⟩
theorem dL_law_830 : decode cL_law 830 = .ok (.aload_n 0, 1) ∧ 830 + 1 = 831 := ⟨by decide +kernel, rfl⟩
theorem dL_law_831 : decode cL_law 831 = .ok (.iload_n 3, 1) ∧ 831 + 1 = 832 := ⟨by decide +kernel, rfl⟩
theorem dL_law_832 : decode cL_law 832 = .ok (.iconst 1, 1) ∧ 832 + 1 = 833 := ⟨by decide +kernel, rfl⟩
theorem dL_law_833 : decode cL_law 833 = .ok (.iadd, 1) ∧ 833 + 1 = 834 := ⟨by decide +kernel, rfl⟩
theorem dL_law_834 : decode cL_law 834 = .ok (.iaload, 1) ∧ 834 + 1 = 835 := ⟨by decide +kernel, rfl⟩
theorem dL_law_835 : decode cL_law 835 = .ok (.aload_n 0, 1) ∧ 835 + 1 = 836 := ⟨by decide +kernel, rfl⟩
theorem dL_law_836 : decode cL_law 836 = .ok (.iload_n 3, 1) ∧ 836 + 1 = 837 := ⟨by decide +kernel, rfl⟩
theorem dL_law_837 : decode cL_law 837 = .ok (.iconst 2, 1) ∧ 837 + 1 = 838 := ⟨by decide +kernel, rfl⟩
theorem dL_law_838 : decode cL_law 838 = .ok (.iadd, 1) ∧ 838 + 1 = 839 := ⟨by decide +kernel, rfl⟩
theorem dL_law_839 : decode cL_law 839 = .ok (.iaload, 1) ∧ 839 + 1 = 840 := ⟨by decide +kernel, rfl⟩
theorem dL_law_840 : decode cL_law 840 = .ok (.invokevirtual 101, 3) ∧ 840 + 3 = 843 := ⟨by decide +kernel, rfl⟩
theorem dL_law_843 : decode cL_law 843 = .ok (.if_icmp .eq 304, 3) ∧ 843 + 3 = 846 ∧ ((843 : Nat) : Int) + 304 = ((1147 : Nat) : Int) := ⟨by decide +kernel, rfl, rfl⟩
theorem dL_law_846 : decode cL_law 846 = .ok (.iconst 0, 1) ∧ 846 + 1 = 847 := ⟨by decide +kernel, rfl⟩
theorem dL_law_847 : decode cL_law 847 = .ok (.ireturn, 1) ∧ 847 + 1 = 848 := ⟨by decide +kernel, rfl⟩
theorem dL_law_848 : decode cL_law 848 = .ok (.aload_n 1, 1) ∧ 848 + 1 = 849 := ⟨by decide +kernel, rfl⟩
theorem dL_law_849 : decode cL_law 849 = .ok (.aload_n 0, 1) ∧ 849 + 1 = 850 := ⟨by decide +kernel, rfl⟩
theorem dL_law_850 : decode cL_law 850 = .ok (.iload_n 3, 1) ∧ 850 + 1 = 851 := ⟨by decide +kernel, rfl⟩
theorem dL_law_851 : decode cL_law 851 = .ok (.iconst 1, 1) ∧ 851 + 1 = 852 := ⟨by decide +kernel, rfl⟩
theorem dL_law_852 : decode cL_law 852 = .ok (.iadd, 1) ∧ 852 + 1 = 853 := ⟨by decide +kernel, rfl⟩
theorem dL_law_853 : decode cL_law 853 = .ok (.iaload, 1) ∧ 853 + 1 = 854 := ⟨by decide +kernel, rfl⟩
theorem dL_law_854 : decode cL_law 854 = .ok (.invokevirtual 102, 3) ∧ 854 + 3 = 857 := ⟨by decide +kernel, rfl⟩
theorem dL_law_857 : decode cL_law 857 = .ok (.aload_n 2, 1) ∧ 857 + 1 = 858 := ⟨by decide +kernel, rfl⟩
theorem dL_law_858 : decode cL_law 858 = .ok (.aload_n 0, 1) ∧ 858 + 1 = 859 := ⟨by decide +kernel, rfl⟩
theorem dL_law_859 : decode cL_law 859 = .ok (.iload_n 3, 1) ∧ 859 + 1 = 860 := ⟨by decide +kernel, rfl⟩
theorem dL_law_860 : decode cL_law 860 = .ok (.iconst 1, 1) ∧ 860 + 1 = 861 := ⟨by decide +kernel, rfl⟩
theorem dL_law_861 : decode cL_law 861 = .ok (.iadd, 1) ∧ 861 + 1 = 862 := ⟨by decide +kernel, rfl⟩
theorem dL_law_862 : decode cL_law 862 = .ok (.iaload, 1) ∧ 862 + 1 = 863 := ⟨by decide +kernel, rfl⟩
theorem dL_law_863 : decode cL_law 863 = .ok (.invokevirtual 105, 3) ∧ 863 + 3 = 866 := ⟨by decide +kernel, rfl⟩
theorem dL_law_866 : decode cL_law 866 = .ok (.if_icmp .eq 281, 3) ∧ 866 + 3 = 869 ∧ ((866 : Nat) : Int) + 281 = ((1147 : Nat) : Int) := ⟨by decide +kernel, rfl, rfl⟩
theorem dL_law_869 : decode cL_law 869 = .ok (.iconst 0, 1) ∧ 869 + 1 = 870 := ⟨by decide +kernel, rfl⟩
theorem dL_law_870 : decode cL_law 870 = .ok (.ireturn, 1) ∧ 870 + 1 = 871 := ⟨by decide +kernel, rfl⟩
theorem dL_law_871 : decode cL_law 871 = .ok (.aload_n 1, 1) ∧ 871 + 1 = 872 := ⟨by decide +kernel, rfl⟩
theorem dL_law_872 : decode cL_law 872 = .ok (.aload_n 0, 1) ∧ 872 + 1 = 873 := ⟨by decide +kernel, rfl⟩
theorem dL_law_873 : decode cL_law 873 = .ok (.iload_n 3, 1) ∧ 873 + 1 = 874 := ⟨by decide +kernel, rfl⟩
theorem dL_law_874 : decode cL_law 874 = .ok (.iconst 1, 1) ∧ 874 + 1 = 875 := ⟨by decide +kernel, rfl⟩
theorem dL_law_875 : decode cL_law 875 = .ok (.iadd, 1) ∧ 875 + 1 = 876 := ⟨by decide +kernel, rfl⟩
theorem dL_law_876 : decode cL_law 876 = .ok (.iaload, 1) ∧ 876 + 1 = 877 := ⟨by decide +kernel, rfl⟩
theorem dL_law_877 : decode cL_law 877 = .ok (.invokevirtual 106, 3) ∧ 877 + 3 = 880 := ⟨by decide +kernel, rfl⟩
theorem dL_law_880 : decode cL_law 880 = .ok (.aload_n 2, 1) ∧ 880 + 1 = 881 := ⟨by decide +kernel, rfl⟩
theorem dL_law_881 : decode cL_law 881 = .ok (.aload_n 0, 1) ∧ 881 + 1 = 882 := ⟨by decide +kernel, rfl⟩
theorem dL_law_882 : decode cL_law 882 = .ok (.iload_n 3, 1) ∧ 882 + 1 = 883 := ⟨by decide +kernel, rfl⟩
theorem dL_law_883 : decode cL_law 883 = .ok (.iconst 1, 1) ∧ 883 + 1 = 884 := ⟨by decide +kernel, rfl⟩
theorem dL_law_884 : decode cL_law 884 = .ok (.iadd, 1) ∧ 884 + 1 = 885 := ⟨by decide +kernel, rfl⟩
theorem dL_law_885 : decode cL_law 885 = .ok (.iaload, 1) ∧ 885 + 1 = 886 := ⟨by decide +kernel, rfl⟩
theorem dL_law_886 : decode cL_law 886 = .ok (.invokevirtual 109, 3) ∧ 886 + 3 = 889 := ⟨by decide +kernel, rfl⟩
theorem dL_law_889 : decode cL_law 889 = .ok (.if_icmp .eq 258, 3) ∧ 889 + 3 = 892 ∧ ((889 : Nat) : Int) + 258 = ((1147 : Nat) : Int) := ⟨by decide +kernel, rfl, rfl⟩
theorem dL_law_892 : decode cL_law 892 = .ok (.iconst 0, 1) ∧ 892 + 1 = 893 := ⟨by decide +kernel, rfl⟩
theorem dL_law_893 : decode cL_law 893 = .ok (.ireturn, 1) ∧ 893 + 1 = 894 := ⟨by decide +kernel, rfl⟩
theorem dL_law_894 : decode cL_law 894 = .ok (.aload_n 1, 1) ∧ 894 + 1 = 895 := ⟨by decide +kernel, rfl⟩
theorem dL_law_895 : decode cL_law 895 = .ok (.aload_n 0, 1) ∧ 895 + 1 = 896 := ⟨by decide +kernel, rfl⟩
theorem dL_law_896 : decode cL_law 896 = .ok (.iload_n 3, 1) ∧ 896 + 1 = 897 := ⟨by decide +kernel, rfl⟩
theorem dL_law_897 : decode cL_law 897 = .ok (.iconst 1, 1) ∧ 897 + 1 = 898 := ⟨by decide +kernel, rfl⟩
theorem dL_law_898 : decode cL_law 898 = .ok (.iadd, 1) ∧ 898 + 1 = 899 := ⟨by decide +kernel, rfl⟩
theorem dL_law_899 : decode cL_law 899 = .ok (.iaload, 1) ∧ 899 + 1 = 900 := ⟨by decide +kernel, rfl⟩
theorem dL_law_900 : decode cL_law 900 = .ok (.invokevirtual 110, 3) ∧ 900 + 3 = 903 := ⟨by decide +kernel, rfl⟩
theorem dL_law_903 : decode cL_law 903 = .ok (.aload_n 2, 1) ∧ 903 + 1 = 904 := ⟨by decide +kernel, rfl⟩
theorem dL_law_904 : decode cL_law 904 = .ok (.aload_n 0, 1) ∧ 904 + 1 = 905 := ⟨by decide +kernel, rfl⟩
theorem dL_law_905 : decode cL_law 905 = .ok (.iload_n 3, 1) ∧ 905 + 1 = 906 := ⟨by decide +kernel, rfl⟩
theorem dL_law_906 : decode cL_law 906 = .ok (.iconst 1, 1) ∧ 906 + 1 = 907 := ⟨by decide +kernel, rfl⟩
theorem dL_law_907 : decode cL_law 907 = .ok (.iadd, 1) ∧ 907 + 1 = 908 := ⟨by decide +kernel, rfl⟩
theorem dL_law_908 : decode cL_law 908 = .ok (.iaload, 1) ∧ 908 + 1 = 909 := ⟨by decide +kernel, rfl⟩
theorem dL_law_909 : decode cL_law 909 = .ok (.invokevirtual 113, 3) ∧ 909 + 3 = 912 := ⟨by decide +kernel, rfl⟩
theorem dL_law_912 : decode cL_law 912 = .ok (.if_icmp .eq 235, 3) ∧ 912 + 3 = 915 ∧ ((912 : Nat) : Int) + 235 = ((1147 : Nat) : Int) := ⟨by decide +kernel, rfl, rfl⟩
theorem dL_law_915 : decode cL_law 915 = .ok (.iconst 0, 1) ∧ 915 + 1 = 916 := ⟨by decide +kernel, rfl⟩
theorem dL_law_916 : decode cL_law 916 = .ok (.ireturn, 1) ∧ 916 + 1 = 917 := ⟨by decide +kernel, rfl⟩
theorem dL_law_917 : decode cL_law 917 = .ok (.aload_n 1, 1) ∧ 917 + 1 = 918 := ⟨by decide +kernel, rfl⟩
theorem dL_law_918 : decode cL_law 918 = .ok (.aload_n 0, 1) ∧ 918 + 1 = 919 := ⟨by decide +kernel, rfl⟩
theorem dL_law_919 : decode cL_law 919 = .ok (.iload_n 3, 1) ∧ 919 + 1 = 920 := ⟨by decide +kernel, rfl⟩
theorem dL_law_920 : decode cL_law 920 = .ok (.iconst 1, 1) ∧ 920 + 1 = 921 := ⟨by decide +kernel, rfl⟩
theorem dL_law_921 : decode cL_law 921 = .ok (.iadd, 1) ∧ 921 + 1 = 922 := ⟨by decide +kernel, rfl⟩
theorem dL_law_922 : decode cL_law 922 = .ok (.iaload, 1) ∧ 922 + 1 = 923 := ⟨by decide +kernel, rfl⟩
theorem dL_law_923 : decode cL_law 923 = .ok (.invokevirtual 114, 3) ∧ 923 + 3 = 926 := ⟨by decide +kernel, rfl⟩
theorem dL_law_926 : decode cL_law 926 = .ok (.aload_n 2, 1) ∧ 926 + 1 = 927 := ⟨by decide +kernel, rfl⟩
theorem dL_law_927 : decode cL_law 927 = .ok (.aload_n 0, 1) ∧ 927 + 1 = 928 := ⟨by decide +kernel, rfl⟩
theorem dL_law_928 : decode cL_law 928 = .ok (.iload_n 3, 1) ∧ 928 + 1 = 929 := ⟨by decide +kernel, rfl⟩
theorem dL_law_929 : decode cL_law 929 = .ok (.iconst 1, 1) ∧ 929 + 1 = 930 := ⟨by decide +kernel, rfl⟩
theorem dL_law_930 : decode cL_law 930 = .ok (.iadd, 1) ∧ 930 + 1 = 931 := ⟨by decide +kernel, rfl⟩
theorem dL_law_931 : decode cL_law 931 = .ok (.iaload, 1) ∧ 931 + 1 = 932 := ⟨by decide +kernel, rfl⟩
theorem dL_law_932 : decode cL_law 932 = .ok (.invokevirtual 117, 3) ∧ 932 + 3 = 935 := ⟨by decide +kernel, rfl⟩
theorem dL_law_935 : decode cL_law 935 = .ok (.if_icmp .eq 212, 3) ∧ 935 + 3 = 938 ∧ ((935 : Nat) : Int) + 212 = ((1147 : Nat) : Int) := ⟨by decide +kernel, rfl, rfl⟩
theorem dL_law_938 : decode cL_law 938 = .ok (.iconst 0, 1) ∧ 938 + 1 = 939 := ⟨by decide +kernel, rfl⟩
theorem dL_law_939 : decode cL_law 939 = .ok (.ireturn, 1) ∧ 939 + 1 = 940 := ⟨by decide +kernel, rfl⟩
theorem dL_law_940 : decode cL_law 940 = .ok (.aload_n 1, 1) ∧ 940 + 1 = 941 := ⟨by decide +kernel, rfl⟩
theorem dL_law_941 : decode cL_law 941 = .ok (.aload_n 0, 1) ∧ 941 + 1 = 942 := ⟨by decide +kernel, rfl⟩
theorem dL_law_942 : decode cL_law 942 = .ok (.iload_n 3, 1) ∧ 942 + 1 = 943 := ⟨by decide +kernel, rfl⟩
theorem dL_law_943 : decode cL_law 943 = .ok (.iconst 1, 1) ∧ 943 + 1 = 944 := ⟨by decide +kernel, rfl⟩
theorem dL_law_944 : decode cL_law 944 = .ok (.iadd, 1) ∧ 944 + 1 = 945 := ⟨by decide +kernel, rfl⟩
theorem dL_law_945 : decode cL_law 945 = .ok (.iaload, 1) ∧ 945 + 1 = 946 := ⟨by decide +kernel, rfl⟩
theorem dL_law_946 : decode cL_law 946 = .ok (.invokevirtual 118, 3) ∧ 946 + 3 = 949 := ⟨by decide +kernel, rfl⟩
theorem dL_law_949 : decode cL_law 949 = .ok (.aload_n 2, 1) ∧ 949 + 1 = 950 := ⟨by decide +kernel, rfl⟩
theorem dL_law_950 : decode cL_law 950 = .ok (.aload_n 0, 1) ∧ 950 + 1 = 951 := ⟨by decide +kernel, rfl⟩
theorem dL_law_951 : decode cL_law 951 = .ok (.iload_n 3, 1) ∧ 951 + 1 = 952 := ⟨by decide +kernel, rfl⟩
theorem dL_law_952 : decode cL_law 952 = .ok (.iconst 1, 1) ∧ 952 + 1 = 953 := ⟨by decide +kernel, rfl⟩
theorem dL_law_953 : decode cL_law 953 = .ok (.iadd, 1) ∧ 953 + 1 = 954 := ⟨by decide +kernel, rfl⟩
theorem dL_law_954 : decode cL_law 954 = .ok (.iaload, 1) ∧ 954 + 1 = 955 := ⟨by decide +kernel, rfl⟩
theorem dL_law_955 : decode cL_law 955 = .ok (.invokevirtual 121, 3) ∧ 955 + 3 = 958 := ⟨by decide +kernel, rfl⟩
theorem dL_law_958 : decode cL_law 958 = .ok (.if_icmp .eq 189, 3) ∧ 958 + 3 = 961 ∧ ((958 : Nat) : Int) + 189 = ((1147 : Nat) : Int) := ⟨by decide +kernel, rfl, rfl⟩
theorem dL_law_961 : decode cL_law 961 = .ok (.iconst 0, 1) ∧ 961 + 1 = 962 := ⟨by decide +kernel, rfl⟩
theorem dL_law_962 : decode cL_law 962 = .ok (.ireturn, 1) ∧ 962 + 1 = 963 := ⟨by decide +kernel, rfl⟩
theorem dL_law_963 : decode cL_law 963 = .ok (.aload_n 1, 1) ∧ 963 + 1 = 964 := ⟨by decide +kernel, rfl⟩
theorem dL_law_964 : decode cL_law 964 = .ok (.aload_n 0, 1) ∧ 964 + 1 = 965 := ⟨by decide +kernel, rfl⟩
theorem dL_law_965 : decode cL_law 965 = .ok (.iload_n 3, 1) ∧ 965 + 1 = 966 := ⟨by decide +kernel, rfl⟩
theorem dL_law_966 : decode cL_law 966 = .ok (.iconst 1, 1) ∧ 966 + 1 = 967 := ⟨by decide +kernel, rfl⟩
theorem dL_law_967 : decode cL_law 967 = .ok (.iadd, 1) ∧ 967 + 1 = 968 := ⟨by decide +kernel, rfl⟩
theorem dL_law_968 : decode cL_law 968 = .ok (.iaload, 1) ∧ 968 + 1 = 969 := ⟨by decide +kernel, rfl⟩
theorem dL_law_969 : decode cL_law 969 = .ok (.invokevirtual 122, 3) ∧ 969 + 3 = 972 := ⟨by decide +kernel, rfl⟩
theorem dL_law_972 : decode cL_law 972 = .ok (.aload_n 2, 1) ∧ 972 + 1 = 973 := ⟨by decide +kernel, rfl⟩
theorem dL_law_973 : decode cL_law 973 = .ok (.aload_n 0, 1) ∧ 973 + 1 = 974 := ⟨by decide +kernel, rfl⟩
theorem dL_law_974 : decode cL_law 974 = .ok (.iload_n 3, 1) ∧ 974 + 1 = 975 := ⟨by decide +kernel, rfl⟩
theorem dL_law_975 : decode cL_law 975 = .ok (.iconst 1, 1) ∧ 975 + 1 = 976 := ⟨by decide +kernel, rfl⟩
theorem dL_law_976 : decode cL_law 976 = .ok (.iadd, 1) ∧ 976 + 1 = 977 := ⟨by decide +kernel, rfl⟩
theorem dL_law_977 : decode cL_law 977 = .ok (.iaload, 1) ∧ 977 + 1 = 978 := ⟨by decide +kernel, rfl⟩
theorem dL_law_978 : decode cL_law 978 = .ok (.invokevirtual 125, 3) ∧ 978 + 3 = 981 := ⟨by decide +kernel, rfl⟩
theorem dL_law_981 : decode cL_law 981 = .ok (.if_icmp .eq 166, 3) ∧ 981 + 3 = 984 ∧ ((981 : Nat) : Int) + 166 = ((1147 : Nat) : Int) := ⟨by decide +kernel, rfl, rfl⟩
theorem dL_law_984 : decode cL_law 984 = .ok (.iconst 0, 1) ∧ 984 + 1 = 985 := ⟨by decide +kernel, rfl⟩
theorem dL_law_985 : decode cL_law 985 = .ok (.ireturn, 1) ∧ 985 + 1 = 986 := ⟨by decide +kernel, rfl⟩
theorem dL_law_986 : decode cL_law 986 = .ok (.aload_n 1, 1) ∧ 986 + 1 = 987 := ⟨by decide +kernel, rfl⟩
theorem dL_law_987 : decode cL_law 987 = .ok (.invokevirtual 126, 3) ∧ 987 + 3 = 990 := ⟨by decide +kernel, rfl⟩
theorem dL_law_990 : decode cL_law 990 = .ok (.aload_n 2, 1) ∧ 990 + 1 = 991 := ⟨by decide +kernel, rfl⟩
theorem dL_law_991 : decode cL_law 991 = .ok (.invokevirtual 130, 3) ∧ 991 + 3 = 994 := ⟨by decide +kernel, rfl⟩
theorem dL_law_994 : decode cL_law 994 = .ok (.if_icmp .eq 153, 3) ∧ 994 + 3 = 997 ∧ ((994 : Nat) : Int) + 153 = ((1147 : Nat) : Int) := ⟨by decide +kernel, rfl, rfl⟩
theorem dL_law_997 : decode cL_law 997 = .ok (.iconst 0, 1) ∧ 997 + 1 = 998 := ⟨by decide +kernel, rfl⟩
theorem dL_law_998 : decode cL_law 998 = .ok (.ireturn, 1) ∧ 998 + 1 = 999 := ⟨by decide +kernel, rfl⟩
theorem dL_law_999 : decode cL_law 999 = .ok (.aload_n 1, 1) ∧ 999 + 1 = 1000 := ⟨by decide +kernel, rfl⟩
theorem dL_law_1000 : decode cL_law 1000 = .ok (.invokevirtual 131, 3) ∧ 1000 + 3 = 1003 := ⟨by decide +kernel, rfl⟩
theorem dL_law_1003 : decode cL_law 1003 = .ok (.aload_n 2, 1) ∧ 1003 + 1 = 1004 := ⟨by decide +kernel, rfl⟩
theorem dL_law_1004 : decode cL_law 1004 = .ok (.invokevirtual 134, 3) ∧ 1004 + 3 = 1007 := ⟨by decide +kernel, rfl⟩
theorem dL_law_1007 : decode cL_law 1007 = .ok (.if_icmp .eq 140, 3) ∧ 1007 + 3 = 1010 ∧ ((1007 : Nat) : Int) + 140 = ((1147 : Nat) : Int) := ⟨by decide +kernel, rfl, rfl⟩
theorem dL_law_1010 : decode cL_law 1010 = .ok (.iconst 0, 1) ∧ 1010 + 1 = 1011 := ⟨by decide +kernel, rfl⟩
theorem dL_law_1011 : decode cL_law 1011 = .ok (.ireturn, 1) ∧ 1011 + 1 = 1012 := ⟨by decide +kernel, rfl⟩
theorem dL_law_1012 : decode cL_law 1012 = .ok (.aload_n 1, 1) ∧ 1012 + 1 = 1013 := ⟨by decide +kernel, rfl⟩
theorem dL_law_1013 : decode cL_law 1013 = .ok (.aload_n 0, 1) ∧ 1013 + 1 = 1014 := ⟨by decide +kernel, rfl⟩
theorem dL_law_1014 : decode cL_law 1014 = .ok (.iload_n 3, 1) ∧ 1014 + 1 = 1015 := ⟨by decide +kernel, rfl⟩
theorem dL_law_1015 : decode cL_law 1015 = .ok (.iconst 1, 1) ∧ 1015 + 1 = 1016 := ⟨by decide +kernel, rfl⟩
theorem dL_law_1016 : decode cL_law 1016 = .ok (.iadd, 1) ∧ 1016 + 1 = 1017 := ⟨by decide +kernel, rfl⟩
theorem dL_law_1017 : decode cL_law 1017 = .ok (.iaload, 1) ∧ 1017 + 1 = 1018 := ⟨by decide +kernel, rfl⟩
theorem dL_law_1018 : decode cL_law 1018 = .ok (.aload_n 0, 1) ∧ 1018 + 1 = 1019 := ⟨by decide +kernel, rfl⟩
theorem dL_law_1019 : decode cL_law 1019 = .ok (.iload_n 3, 1) ∧ 1019 + 1 = 1020 := ⟨by decide +kernel, rfl⟩
theorem dL_law_1020 : decode cL_law 1020 = .ok (.iconst 2, 1) ∧ 1020 + 1 = 1021 := ⟨by decide +kernel, rfl⟩
theorem dL_law_1021 : decode cL_law 1021 = .ok (.iadd, 1) ∧ 1021 + 1 = 1022 := ⟨by decide +kernel, rfl⟩
theorem dL_law_1022 : decode cL_law 1022 = .ok (.iaload, 1) ∧ 1022 + 1 = 1023 := ⟨by decide +kernel, rfl⟩
theorem dL_law_1023 : decode cL_law 1023 = .ok (.invokevirtual 135, 3) ∧ 1023 + 3 = 1026 := ⟨by decide +kernel, rfl⟩
theorem dL_law_1026 : decode cL_law 1026 = .ok (.aload_n 2, 1) ∧ 1026 + 1 = 1027 := ⟨by decide +kernel, rfl⟩
theorem dL_law_1027 : decode cL_law 1027 = .ok (.aload_n 0, 1) ∧ 1027 + 1 = 1028 := ⟨by decide +kernel, rfl⟩
theorem dL_law_1028 : decode cL_law 1028 = .ok (.iload_n 3, 1) ∧ 1028 + 1 = 1029 := ⟨by decide +kernel, rfl⟩
theorem dL_law_1029 : decode cL_law 1029 = .ok (.iconst 1, 1) ∧ 1029 + 1 = 1030 := ⟨by decide +kernel, rfl⟩
theorem dL_law_1030 : decode cL_law 1030 = .ok (.iadd, 1) ∧ 1030 + 1 = 1031 := ⟨by decide +kernel, rfl⟩
theorem dL_law_1031 : decode cL_law 1031 = .ok (.iaload, 1) ∧ 1031 + 1 = 1032 := ⟨by decide +kernel, rfl⟩
theorem dL_law_1032 : decode cL_law 1032 = .ok (.aload_n 0, 1) ∧ 1032 + 1 = 1033 := ⟨by decide +kernel, rfl⟩
theorem dL_law_1033 : decode cL_law 1033 = .ok (.iload_n 3, 1) ∧ 1033 + 1 = 1034 := ⟨by decide +kernel, rfl⟩
theorem dL_law_1034 : decode cL_law 1034 = .ok (.iconst 2, 1) ∧ 1034 + 1 = 1035 := ⟨by decide +kernel, rfl⟩
theorem dL_law_1035 : decode cL_law 1035 = .ok (.iadd, 1) ∧ 1035 + 1 = 1036 := ⟨by decide +kernel, rfl⟩
theorem dL_law_1036 : decode cL_law 1036 = .ok (.iaload, 1) ∧ 1036 + 1 = 1037 := ⟨by decide +kernel, rfl⟩
theorem dL_law_1037 : decode cL_law 1037 = .ok (.invokevirtual 138, 3) ∧ 1037 + 3 = 1040 := ⟨by decide +kernel, rfl⟩
theorem dL_law_1040 : decode cL_law 1040 = .ok (.if_icmp .eq 107, 3) ∧ 1040 + 3 = 1043 ∧ ((1040 : Nat) : Int) + 107 = ((1147 : Nat) : Int) := ⟨by decide +kernel, rfl, rfl⟩
theorem dL_law_1043 : decode cL_law 1043 = .ok (.iconst 0, 1) ∧ 1043 + 1 = 1044 := ⟨by decide +kernel, rfl⟩
theorem dL_law_1044 : decode cL_law 1044 = .ok (.ireturn, 1) ∧ 1044 + 1 = 1045 := ⟨by decide +kernel, rfl⟩
theorem dL_law_1045 : decode cL_law 1045 = .ok (.aload_n 1, 1) ∧ 1045 + 1 = 1046 := ⟨by decide +kernel, rfl⟩
theorem dL_law_1046 : decode cL_law 1046 = .ok (.aload_n 0, 1) ∧ 1046 + 1 = 1047 := ⟨by decide +kernel, rfl⟩
theorem dL_law_1047 : decode cL_law 1047 = .ok (.iload_n 3, 1) ∧ 1047 + 1 = 1048 := ⟨by decide +kernel, rfl⟩
theorem dL_law_1048 : decode cL_law 1048 = .ok (.iconst 1, 1) ∧ 1048 + 1 = 1049 := ⟨by decide +kernel, rfl⟩
theorem dL_law_1049 : decode cL_law 1049 = .ok (.iadd, 1) ∧ 1049 + 1 = 1050 := ⟨by decide +kernel, rfl⟩
theorem dL_law_1050 : decode cL_law 1050 = .ok (.iaload, 1) ∧ 1050 + 1 = 1051 := ⟨by decide +kernel, rfl⟩
theorem dL_law_1051 : decode cL_law 1051 = .ok (.invokevirtual 139, 3) ∧ 1051 + 3 = 1054 := ⟨by decide +kernel, rfl⟩
theorem dL_law_1054 : decode cL_law 1054 = .ok (.aload_n 2, 1) ∧ 1054 + 1 = 1055 := ⟨by decide +kernel, rfl⟩
theorem dL_law_1055 : decode cL_law 1055 = .ok (.aload_n 0, 1) ∧ 1055 + 1 = 1056 := ⟨by decide +kernel, rfl⟩
theorem dL_law_1056 : decode cL_law 1056 = .ok (.iload_n 3, 1) ∧ 1056 + 1 = 1057 := ⟨by decide +kernel, rfl⟩
theorem dL_law_1057 : decode cL_law 1057 = .ok (.iconst 1, 1) ∧ 1057 + 1 = 1058 := ⟨by decide +kernel, rfl⟩
theorem dL_law_1058 : decode cL_law 1058 = .ok (.iadd, 1) ∧ 1058 + 1 = 1059 := ⟨by decide +kernel, rfl⟩
theorem dL_law_1059 : decode cL_law 1059 = .ok (.iaload, 1) ∧ 1059 + 1 = 1060 := ⟨by decide +kernel, rfl⟩
theorem dL_law_1060 : decode cL_law 1060 = .ok (.invokevirtual 142, 3) ∧ 1060 + 3 = 1063 := ⟨by decide +kernel, rfl⟩
theorem dL_law_1063 : decode cL_law 1063 = .ok (.if_icmp .eq 84, 3) ∧ 1063 + 3 = 1066 ∧ ((1063 : Nat) : Int) + 84 = ((1147 : Nat) : Int) := ⟨by decide +kernel, rfl, rfl⟩
theorem dL_law_1066 : decode cL_law 1066 = .ok (.iconst 0, 1) ∧ 1066 + 1 = 1067 := ⟨by decide +kernel, rfl⟩
theorem dL_law_1067 : decode cL_law 1067 = .ok (.ireturn, 1) ∧ 1067 + 1 = 1068 := ⟨by decide +kernel, rfl⟩
theorem dL_law_1068 : decode cL_law 1068 = .ok (.aload_n 1, 1) ∧ 1068 + 1 = 1069 := ⟨by decide +kernel, rfl⟩
theorem dL_law_1069 : decode cL_law 1069 = .ok (.aload_n 0, 1) ∧ 1069 + 1 = 1070 := ⟨by decide +kernel, rfl⟩
theorem dL_law_1070 : decode cL_law 1070 = .ok (.iload_n 3, 1) ∧ 1070 + 1 = 1071 := ⟨by decide +kernel, rfl⟩
theorem dL_law_1071 : decode cL_law 1071 = .ok (.iconst 1, 1) ∧ 1071 + 1 = 1072 := ⟨by decide +kernel, rfl⟩
theorem dL_law_1072 : decode cL_law 1072 = .ok (.iadd, 1) ∧ 1072 + 1 = 1073 := ⟨by decide +kernel, rfl⟩
theorem dL_law_1073 : decode cL_law 1073 = .ok (.iaload, 1) ∧ 1073 + 1 = 1074 := ⟨by decide +kernel, rfl⟩
theorem dL_law_1074 : decode cL_law 1074 = .ok (.aload_n 0, 1) ∧ 1074 + 1 = 1075 := ⟨by decide +kernel, rfl⟩
theorem dL_law_1075 : decode cL_law 1075 = .ok (.iload_n 3, 1) ∧ 1075 + 1 = 1076 := ⟨by decide +kernel, rfl⟩
theorem dL_law_1076 : decode cL_law 1076 = .ok (.iconst 2, 1) ∧ 1076 + 1 = 1077 := ⟨by decide +kernel, rfl⟩
theorem dL_law_1077 : decode cL_law 1077 = .ok (.iadd, 1) ∧ 1077 + 1 = 1078 := ⟨by decide +kernel, rfl⟩
theorem dL_law_1078 : decode cL_law 1078 = .ok (.iaload, 1) ∧ 1078 + 1 = 1079 := ⟨by decide +kernel, rfl⟩
theorem dL_law_1079 : decode cL_law 1079 = .ok (.invokevirtual 143, 3) ∧ 1079 + 3 = 1082 := ⟨by decide +kernel, rfl⟩
theorem dL_law_1082 : decode cL_law 1082 = .ok (.aload_n 2, 1) ∧ 1082 + 1 = 1083 := ⟨by decide +kernel, rfl⟩
theorem dL_law_1083 : decode cL_law 1083 = .ok (.aload_n 0, 1) ∧ 1083 + 1 = 1084 := ⟨by decide +kernel, rfl⟩
theorem dL_law_1084 : decode cL_law 1084 = .ok (.iload_n 3, 1) ∧ 1084 + 1 = 1085 := ⟨by decide +kernel, rfl⟩
theorem dL_law_1085 : decode cL_law 1085 = .ok (.iconst 1, 1) ∧ 1085 + 1 = 1086 := ⟨by decide +kernel, rfl⟩
theorem dL_law_1086 : decode cL_law 1086 = .ok (.iadd, 1) ∧ 1086 + 1 = 1087 := ⟨by decide +kernel, rfl⟩
theorem dL_law_1087 : decode cL_law 1087 = .ok (.iaload, 1) ∧ 1087 + 1 = 1088 := ⟨by decide +kernel, rfl⟩
theorem dL_law_1088 : decode cL_law 1088 = .ok (.aload_n 0, 1) ∧ 1088 + 1 = 1089 := ⟨by decide +kernel, rfl⟩
theorem dL_law_1089 : decode cL_law 1089 = .ok (.iload_n 3, 1) ∧ 1089 + 1 = 1090 := ⟨by decide +kernel, rfl⟩
theorem dL_law_1090 : decode cL_law 1090 = .ok (.iconst 2, 1) ∧ 1090 + 1 = 1091 := ⟨by decide +kernel, rfl⟩
theorem dL_law_1091 : decode cL_law 1091 = .ok (.iadd, 1) ∧ 1091 + 1 = 1092 := ⟨by decide +kernel, rfl⟩
theorem dL_law_1092 : decode cL_law 1092 = .ok (.iaload, 1) ∧ 1092 + 1 = 1093 := ⟨by decide +kernel, rfl⟩
theorem dL_law_1093 : decode cL_law 1093 = .ok (.invokevirtual 146, 3) ∧ 1093 + 3 = 1096 := ⟨by decide +kernel, rfl⟩
theorem dL_law_1096 : decode cL_law 1096 = .ok (.if_icmp .eq 51, 3) ∧ 1096 + 3 = 1099 ∧ ((1096 : Nat) : Int) + 51 = ((1147 : Nat) : Int) := ⟨by decide +kernel, rfl, rfl⟩
theorem dL_law_1099 : decode cL_law 1099 = .ok (.iconst 0, 1) ∧ 1099 + 1 = 1100 := ⟨by decide +kernel, rfl⟩
theorem dL_law_1100 : decode cL_law 1100 = .ok (.ireturn, 1) ∧ 1100 + 1 = 1101 := ⟨by decide +kernel, rfl⟩
theorem dL_law_1101 : decode cL_law 1101 = .ok (.aload_n 1, 1) ∧ 1101 + 1 = 1102 := ⟨by decide +kernel, rfl⟩
theorem dL_law_1102 : decode cL_law 1102 = .ok (.aload_n 0, 1) ∧ 1102 + 1 = 1103 := ⟨by decide +kernel, rfl⟩
theorem dL_law_1103 : decode cL_law 1103 = .ok (.iload_n 3, 1) ∧ 1103 + 1 = 1104 := ⟨by decide +kernel, rfl⟩
theorem dL_law_1104 : decode cL_law 1104 = .ok (.iconst 1, 1) ∧ 1104 + 1 = 1105 := ⟨by decide +kernel, rfl⟩
theorem dL_law_1105 : decode cL_law 1105 = .ok (.iadd, 1) ∧ 1105 + 1 = 1106 := ⟨by decide +kernel, rfl⟩
theorem dL_law_1106 : decode cL_law 1106 = .ok (.iaload, 1) ∧ 1106 + 1 = 1107 := ⟨by decide +kernel, rfl⟩
theorem dL_law_1107 : decode cL_law 1107 = .ok (.invokevirtual 147, 3) ∧ 1107 + 3 = 1110 := ⟨by decide +kernel, rfl⟩
theorem dL_law_1110 : decode cL_law 1110 = .ok (.aload_n 2, 1) ∧ 1110 + 1 = 1111 := ⟨by decide +kernel, rfl⟩
theorem dL_law_1111 : decode cL_law 1111 = .ok (.aload_n 0, 1) ∧ 1111 + 1 = 1112 := ⟨by decide +kernel, rfl⟩
theorem dL_law_1112 : decode cL_law 1112 = .ok (.iload_n 3, 1) ∧ 1112 + 1 = 1113 := ⟨by decide +kernel, rfl⟩
theorem dL_law_1113 : decode cL_law 1113 = .ok (.iconst 1, 1) ∧ 1113 + 1 = 1114 := ⟨by decide +kernel, rfl⟩
theorem dL_law_1114 : decode cL_law 1114 = .ok (.iadd, 1) ∧ 1114 + 1 = 1115 := ⟨by decide +kernel, rfl⟩
theorem dL_law_1115 : decode cL_law 1115 = .ok (.iaload, 1) ∧ 1115 + 1 = 1116 := ⟨by decide +kernel, rfl⟩
theorem dL_law_1116 : decode cL_law 1116 = .ok (.invokevirtual 150, 3) ∧ 1116 + 3 = 1119 := ⟨by decide +kernel, rfl⟩
theorem dL_law_1119 : decode cL_law 1119 = .ok (.if_icmp .eq 28, 3) ∧ 1119 + 3 = 1122 ∧ ((1119 : Nat) : Int) + 28 = ((1147 : Nat) : Int) := ⟨by decide +kernel, rfl, rfl⟩
theorem dL_law_1122 : decode cL_law 1122 = .ok (.iconst 0, 1) ∧ 1122 + 1 = 1123 := ⟨by decide +kernel, rfl⟩
theorem dL_law_1123 : decode cL_law 1123 = .ok (.ireturn, 1) ∧ 1123 + 1 = 1124 := ⟨by decide +kernel, rfl⟩
theorem dL_law_1124 : decode cL_law 1124 = .ok (.aload_n 1, 1) ∧ 1124 + 1 = 1125 := ⟨by decide +kernel, rfl⟩
theorem dL_law_1125 : decode cL_law 1125 = .ok (.aload_n 0, 1) ∧ 1125 + 1 = 1126 := ⟨by decide +kernel, rfl⟩
theorem dL_law_1126 : decode cL_law 1126 = .ok (.iload_n 3, 1) ∧ 1126 + 1 = 1127 := ⟨by decide +kernel, rfl⟩
theorem dL_law_1127 : decode cL_law 1127 = .ok (.iconst 1, 1) ∧ 1127 + 1 = 1128 := ⟨by decide +kernel, rfl⟩
theorem dL_law_1128 : decode cL_law 1128 = .ok (.iadd, 1) ∧ 1128 + 1 = 1129 := ⟨by decide +kernel, rfl⟩
theorem dL_law_1129 : decode cL_law 1129 = .ok (.iaload, 1) ∧ 1129 + 1 = 1130 := ⟨by decide +kernel, rfl⟩
theorem dL_law_1130 : decode cL_law 1130 = .ok (.invokevirtual 151, 3) ∧ 1130 + 3 = 1133 := ⟨by decide +kernel, rfl⟩
theorem dL_law_1133 : decode cL_law 1133 = .ok (.aload_n 2, 1) ∧ 1133 + 1 = 1134 := ⟨by decide +kernel, rfl⟩
theorem dL_law_1134 : decode cL_law 1134 = .ok (.aload_n 0, 1) ∧ 1134 + 1 = 1135 := ⟨by decide +kernel, rfl⟩
theorem dL_law_1135 : decode cL_law 1135 = .ok (.iload_n 3, 1) ∧ 1135 + 1 = 1136 := ⟨by decide +kernel, rfl⟩
theorem dL_law_1136 : decode cL_law 1136 = .ok (.iconst 1, 1) ∧ 1136 + 1 = 1137 := ⟨by decide +kernel, rfl⟩
theorem dL_law_1137 : decode cL_law 1137 = .ok (.iadd, 1) ∧ 1137 + 1 = 1138 := ⟨by decide +kernel, rfl⟩
theorem dL_law_1138 : decode cL_law 1138 = .ok (.iaload, 1) ∧ 1138 + 1 = 1139 := ⟨by decide +kernel, rfl⟩
theorem dL_law_1139 : decode cL_law 1139 = .ok (.invokevirtual 154, 3) ∧ 1139 + 3 = 1142 := ⟨by decide +kernel, rfl⟩
theorem dL_law_1142 : decode cL_law 1142 = .ok (.if_icmp .eq 5, 3) ∧ 1142 + 3 = 1145 ∧ ((1142 : Nat) : Int) + 5 = ((1147 : Nat) : Int) := ⟨by decide +kernel, rfl, rfl⟩
theorem dL_law_1145 : decode cL_law 1145 = .ok (.iconst 0, 1) ∧ 1145 + 1 = 1146 := ⟨by decide +kernel, rfl⟩
theorem dL_law_1146 : decode cL_law 1146 = .ok (.ireturn, 1) ∧ 1146 + 1 = 1147 := ⟨by decide +kernel, rfl⟩
theorem dL_law_1147 : decode cL_law 1147 = .ok (.iinc 3 5, 3) ∧ 1147 + 3 = 1150 := ⟨by decide +kernel, rfl⟩
theorem dL_law_1150 : decode cL_law 1150 = .ok (.goto (-1132), 3) ∧ ((1150 : Nat) : Int) + (-1132) = ((18 : Nat) : Int) := ⟨by decide +kernel, rfl⟩
theorem dL_law_1153 : decode cL_law 1153 = .ok (.iconst 1, 1) ∧ 1153 + 1 = 1154 := ⟨by decide +kernel, rfl⟩
theorem dL_law_1154 : decode cL_law 1154 = .ok (.ireturn, 1) ∧ 1154 + 1 = 1155 := ⟨by decide +kernel, rfl⟩
