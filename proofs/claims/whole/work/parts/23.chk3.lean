theorem pk_227_0 : (List.range 40).all (fun j => pt_chk 227 (0 + j)) = true := by decide +kernel
theorem pkm_227 (pc : Nat) (h : pc < 40) : pt_chk 227 pc = true := by
  exact pk_use pk_227_0 (by omega) (by omega)
theorem pk_228_0 : (List.range 80).all (fun j => pt_chk 228 (0 + j)) = true := by decide +kernel
theorem pk_228_1 : (List.range 71).all (fun j => pt_chk 228 (80 + j)) = true := by decide +kernel
theorem pkm_228 (pc : Nat) (h : pc < 151) : pt_chk 228 pc = true := by
  by_cases h0 : pc < 80
  · exact pk_use pk_228_0 (by omega) (by omega)
  exact pk_use pk_228_1 (by omega) (by omega)
theorem pk_229_0 : (List.range 80).all (fun j => pt_chk 229 (0 + j)) = true := by decide +kernel
theorem pk_229_1 : (List.range 3).all (fun j => pt_chk 229 (80 + j)) = true := by decide +kernel
theorem pkm_229 (pc : Nat) (h : pc < 83) : pt_chk 229 pc = true := by
  by_cases h0 : pc < 80
  · exact pk_use pk_229_0 (by omega) (by omega)
  exact pk_use pk_229_1 (by omega) (by omega)
theorem pk_230_0 : (List.range 35).all (fun j => pt_chk 230 (0 + j)) = true := by decide +kernel
theorem pkm_230 (pc : Nat) (h : pc < 35) : pt_chk 230 pc = true := by
  exact pk_use pk_230_0 (by omega) (by omega)
theorem pk_231_0 : (List.range 31).all (fun j => pt_chk 231 (0 + j)) = true := by decide +kernel
theorem pkm_231 (pc : Nat) (h : pc < 31) : pt_chk 231 pc = true := by
  exact pk_use pk_231_0 (by omega) (by omega)
theorem pk_232_0 : (List.range 26).all (fun j => pt_chk 232 (0 + j)) = true := by decide +kernel
theorem pkm_232 (pc : Nat) (h : pc < 26) : pt_chk 232 pc = true := by
  exact pk_use pk_232_0 (by omega) (by omega)
theorem pk_233_0 : (List.range 26).all (fun j => pt_chk 233 (0 + j)) = true := by decide +kernel
theorem pkm_233 (pc : Nat) (h : pc < 26) : pt_chk 233 pc = true := by
  exact pk_use pk_233_0 (by omega) (by omega)
theorem pk_234_0 : (List.range 45).all (fun j => pt_chk 234 (0 + j)) = true := by decide +kernel
theorem pkm_234 (pc : Nat) (h : pc < 45) : pt_chk 234 pc = true := by
  exact pk_use pk_234_0 (by omega) (by omega)
theorem pk_235_0 : (List.range 62).all (fun j => pt_chk 235 (0 + j)) = true := by decide +kernel
theorem pkm_235 (pc : Nat) (h : pc < 62) : pt_chk 235 pc = true := by
  exact pk_use pk_235_0 (by omega) (by omega)
theorem pk_236_0 : (List.range 28).all (fun j => pt_chk 236 (0 + j)) = true := by decide +kernel
theorem pkm_236 (pc : Nat) (h : pc < 28) : pt_chk 236 pc = true := by
  exact pk_use pk_236_0 (by omega) (by omega)
theorem pk_237_0 : (List.range 80).all (fun j => pt_chk 237 (0 + j)) = true := by decide +kernel
theorem pk_237_1 : (List.range 41).all (fun j => pt_chk 237 (80 + j)) = true := by decide +kernel
theorem pkm_237 (pc : Nat) (h : pc < 121) : pt_chk 237 pc = true := by
  by_cases h0 : pc < 80
  · exact pk_use pk_237_0 (by omega) (by omega)
  exact pk_use pk_237_1 (by omega) (by omega)
theorem pk_238_0 : (List.range 80).all (fun j => pt_chk 238 (0 + j)) = true := by decide +kernel
theorem pk_238_1 : (List.range 26).all (fun j => pt_chk 238 (80 + j)) = true := by decide +kernel
theorem pkm_238 (pc : Nat) (h : pc < 106) : pt_chk 238 pc = true := by
  by_cases h0 : pc < 80
  · exact pk_use pk_238_0 (by omega) (by omega)
  exact pk_use pk_238_1 (by omega) (by omega)
theorem pk_239_0 : (List.range 80).all (fun j => pt_chk 239 (0 + j)) = true := by decide +kernel
theorem pk_239_1 : (List.range 35).all (fun j => pt_chk 239 (80 + j)) = true := by decide +kernel
theorem pkm_239 (pc : Nat) (h : pc < 115) : pt_chk 239 pc = true := by
  by_cases h0 : pc < 80
  · exact pk_use pk_239_0 (by omega) (by omega)
  exact pk_use pk_239_1 (by omega) (by omega)
theorem pk_240_0 : (List.range 80).all (fun j => pt_chk 240 (0 + j)) = true := by decide +kernel
theorem pk_240_1 : (List.range 63).all (fun j => pt_chk 240 (80 + j)) = true := by decide +kernel
theorem pkm_240 (pc : Nat) (h : pc < 143) : pt_chk 240 pc = true := by
  by_cases h0 : pc < 80
  · exact pk_use pk_240_0 (by omega) (by omega)
  exact pk_use pk_240_1 (by omega) (by omega)
theorem pk_241_0 : (List.range 80).all (fun j => pt_chk 241 (0 + j)) = true := by decide +kernel
theorem pk_241_1 : (List.range 16).all (fun j => pt_chk 241 (80 + j)) = true := by decide +kernel
theorem pkm_241 (pc : Nat) (h : pc < 96) : pt_chk 241 pc = true := by
  by_cases h0 : pc < 80
  · exact pk_use pk_241_0 (by omega) (by omega)
  exact pk_use pk_241_1 (by omega) (by omega)
theorem pk_242_0 : (List.range 42).all (fun j => pt_chk 242 (0 + j)) = true := by decide +kernel
theorem pkm_242 (pc : Nat) (h : pc < 42) : pt_chk 242 pc = true := by
  exact pk_use pk_242_0 (by omega) (by omega)
theorem pk_243_0 : (List.range 80).all (fun j => pt_chk 243 (0 + j)) = true := by decide +kernel
theorem pk_243_1 : (List.range 53).all (fun j => pt_chk 243 (80 + j)) = true := by decide +kernel
theorem pkm_243 (pc : Nat) (h : pc < 133) : pt_chk 243 pc = true := by
  by_cases h0 : pc < 80
  · exact pk_use pk_243_0 (by omega) (by omega)
  exact pk_use pk_243_1 (by omega) (by omega)
theorem pk_244_0 : (List.range 80).all (fun j => pt_chk 244 (0 + j)) = true := by decide +kernel
theorem pk_244_1 : (List.range 80).all (fun j => pt_chk 244 (80 + j)) = true := by decide +kernel
theorem pk_244_2 : (List.range 48).all (fun j => pt_chk 244 (160 + j)) = true := by decide +kernel
theorem pkm_244 (pc : Nat) (h : pc < 208) : pt_chk 244 pc = true := by
  by_cases h0 : pc < 80
  · exact pk_use pk_244_0 (by omega) (by omega)
  by_cases h1 : pc < 160
  · exact pk_use pk_244_1 (by omega) (by omega)
  exact pk_use pk_244_2 (by omega) (by omega)
theorem pk_245_0 : (List.range 80).all (fun j => pt_chk 245 (0 + j)) = true := by decide +kernel
theorem pk_245_1 : (List.range 11).all (fun j => pt_chk 245 (80 + j)) = true := by decide +kernel
theorem pkm_245 (pc : Nat) (h : pc < 91) : pt_chk 245 pc = true := by
  by_cases h0 : pc < 80
  · exact pk_use pk_245_0 (by omega) (by omega)
  exact pk_use pk_245_1 (by omega) (by omega)
theorem pk_246_0 : (List.range 67).all (fun j => pt_chk 246 (0 + j)) = true := by decide +kernel
theorem pkm_246 (pc : Nat) (h : pc < 67) : pt_chk 246 pc = true := by
  exact pk_use pk_246_0 (by omega) (by omega)
theorem pk_247_0 : (List.range 80).all (fun j => pt_chk 247 (0 + j)) = true := by decide +kernel
theorem pk_247_1 : (List.range 32).all (fun j => pt_chk 247 (80 + j)) = true := by decide +kernel
theorem pkm_247 (pc : Nat) (h : pc < 112) : pt_chk 247 pc = true := by
  by_cases h0 : pc < 80
  · exact pk_use pk_247_0 (by omega) (by omega)
  exact pk_use pk_247_1 (by omega) (by omega)
theorem pk_248_0 : (List.range 80).all (fun j => pt_chk 248 (0 + j)) = true := by decide +kernel
theorem pk_248_1 : (List.range 2).all (fun j => pt_chk 248 (80 + j)) = true := by decide +kernel
theorem pkm_248 (pc : Nat) (h : pc < 82) : pt_chk 248 pc = true := by
  by_cases h0 : pc < 80
  · exact pk_use pk_248_0 (by omega) (by omega)
  exact pk_use pk_248_1 (by omega) (by omega)
theorem pk_249_0 : (List.range 80).all (fun j => pt_chk 249 (0 + j)) = true := by decide +kernel
theorem pk_249_1 : (List.range 80).all (fun j => pt_chk 249 (80 + j)) = true := by decide +kernel
theorem pk_249_2 : (List.range 34).all (fun j => pt_chk 249 (160 + j)) = true := by decide +kernel
theorem pkm_249 (pc : Nat) (h : pc < 194) : pt_chk 249 pc = true := by
  by_cases h0 : pc < 80
  · exact pk_use pk_249_0 (by omega) (by omega)
  by_cases h1 : pc < 160
  · exact pk_use pk_249_1 (by omega) (by omega)
  exact pk_use pk_249_2 (by omega) (by omega)
theorem pk_250_0 : (List.range 80).all (fun j => pt_chk 250 (0 + j)) = true := by decide +kernel
theorem pk_250_1 : (List.range 1).all (fun j => pt_chk 250 (80 + j)) = true := by decide +kernel
theorem pkm_250 (pc : Nat) (h : pc < 81) : pt_chk 250 pc = true := by
  by_cases h0 : pc < 80
  · exact pk_use pk_250_0 (by omega) (by omega)
  exact pk_use pk_250_1 (by omega) (by omega)
theorem pk_251_0 : (List.range 19).all (fun j => pt_chk 251 (0 + j)) = true := by decide +kernel
theorem pkm_251 (pc : Nat) (h : pc < 19) : pt_chk 251 pc = true := by
  exact pk_use pk_251_0 (by omega) (by omega)
theorem pk_252_0 : (List.range 25).all (fun j => pt_chk 252 (0 + j)) = true := by decide +kernel
theorem pkm_252 (pc : Nat) (h : pc < 25) : pt_chk 252 pc = true := by
  exact pk_use pk_252_0 (by omega) (by omega)
theorem pk_253_0 : (List.range 30).all (fun j => pt_chk 253 (0 + j)) = true := by decide +kernel
theorem pkm_253 (pc : Nat) (h : pc < 30) : pt_chk 253 pc = true := by
  exact pk_use pk_253_0 (by omega) (by omega)
theorem pk_254_0 : (List.range 30).all (fun j => pt_chk 254 (0 + j)) = true := by decide +kernel
theorem pkm_254 (pc : Nat) (h : pc < 30) : pt_chk 254 pc = true := by
  exact pk_use pk_254_0 (by omega) (by omega)
theorem pk_255_0 : (List.range 65).all (fun j => pt_chk 255 (0 + j)) = true := by decide +kernel
theorem pkm_255 (pc : Nat) (h : pc < 65) : pt_chk 255 pc = true := by
  exact pk_use pk_255_0 (by omega) (by omega)
theorem pk_256_0 : (List.range 80).all (fun j => pt_chk 256 (0 + j)) = true := by decide +kernel
theorem pk_256_1 : (List.range 54).all (fun j => pt_chk 256 (80 + j)) = true := by decide +kernel
theorem pkm_256 (pc : Nat) (h : pc < 134) : pt_chk 256 pc = true := by
  by_cases h0 : pc < 80
  · exact pk_use pk_256_0 (by omega) (by omega)
  exact pk_use pk_256_1 (by omega) (by omega)
theorem pk_257_0 : (List.range 80).all (fun j => pt_chk 257 (0 + j)) = true := by decide +kernel
theorem pk_257_1 : (List.range 80).all (fun j => pt_chk 257 (80 + j)) = true := by decide +kernel
theorem pk_257_2 : (List.range 80).all (fun j => pt_chk 257 (160 + j)) = true := by decide +kernel
theorem pk_257_3 : (List.range 32).all (fun j => pt_chk 257 (240 + j)) = true := by decide +kernel
theorem pkm_257 (pc : Nat) (h : pc < 272) : pt_chk 257 pc = true := by
  by_cases h0 : pc < 80
  · exact pk_use pk_257_0 (by omega) (by omega)
  by_cases h1 : pc < 160
  · exact pk_use pk_257_1 (by omega) (by omega)
  by_cases h2 : pc < 240
  · exact pk_use pk_257_2 (by omega) (by omega)
  exact pk_use pk_257_3 (by omega) (by omega)
theorem pk_258_0 : (List.range 13).all (fun j => pt_chk 258 (0 + j)) = true := by decide +kernel
theorem pkm_258 (pc : Nat) (h : pc < 13) : pt_chk 258 pc = true := by
  exact pk_use pk_258_0 (by omega) (by omega)
theorem pk_259_0 : (List.range 80).all (fun j => pt_chk 259 (0 + j)) = true := by decide +kernel
theorem pk_259_1 : (List.range 68).all (fun j => pt_chk 259 (80 + j)) = true := by decide +kernel
theorem pkm_259 (pc : Nat) (h : pc < 148) : pt_chk 259 pc = true := by
  by_cases h0 : pc < 80
  · exact pk_use pk_259_0 (by omega) (by omega)
  exact pk_use pk_259_1 (by omega) (by omega)
theorem pk_260_0 : (List.range 53).all (fun j => pt_chk 260 (0 + j)) = true := by decide +kernel
theorem pkm_260 (pc : Nat) (h : pc < 53) : pt_chk 260 pc = true := by
  exact pk_use pk_260_0 (by omega) (by omega)
theorem pk_261_0 : (List.range 80).all (fun j => pt_chk 261 (0 + j)) = true := by decide +kernel
theorem pk_261_1 : (List.range 80).all (fun j => pt_chk 261 (80 + j)) = true := by decide +kernel
theorem pk_261_2 : (List.range 80).all (fun j => pt_chk 261 (160 + j)) = true := by decide +kernel
theorem pk_261_3 : (List.range 44).all (fun j => pt_chk 261 (240 + j)) = true := by decide +kernel
theorem pkm_261 (pc : Nat) (h : pc < 284) : pt_chk 261 pc = true := by
  by_cases h0 : pc < 80
  · exact pk_use pk_261_0 (by omega) (by omega)
  by_cases h1 : pc < 160
  · exact pk_use pk_261_1 (by omega) (by omega)
  by_cases h2 : pc < 240
  · exact pk_use pk_261_2 (by omega) (by omega)
  exact pk_use pk_261_3 (by omega) (by omega)
theorem pk_262_0 : (List.range 62).all (fun j => pt_chk 262 (0 + j)) = true := by decide +kernel
theorem pkm_262 (pc : Nat) (h : pc < 62) : pt_chk 262 pc = true := by
  exact pk_use pk_262_0 (by omega) (by omega)
theorem pk_263_0 : (List.range 80).all (fun j => pt_chk 263 (0 + j)) = true := by decide +kernel
theorem pk_263_1 : (List.range 80).all (fun j => pt_chk 263 (80 + j)) = true := by decide +kernel
theorem pk_263_2 : (List.range 80).all (fun j => pt_chk 263 (160 + j)) = true := by decide +kernel
theorem pk_263_3 : (List.range 37).all (fun j => pt_chk 263 (240 + j)) = true := by decide +kernel
theorem pkm_263 (pc : Nat) (h : pc < 277) : pt_chk 263 pc = true := by
  by_cases h0 : pc < 80
  · exact pk_use pk_263_0 (by omega) (by omega)
  by_cases h1 : pc < 160
  · exact pk_use pk_263_1 (by omega) (by omega)
  by_cases h2 : pc < 240
  · exact pk_use pk_263_2 (by omega) (by omega)
  exact pk_use pk_263_3 (by omega) (by omega)
theorem pk_264_0 : (List.range 80).all (fun j => pt_chk 264 (0 + j)) = true := by decide +kernel
theorem pk_264_1 : (List.range 71).all (fun j => pt_chk 264 (80 + j)) = true := by decide +kernel
theorem pkm_264 (pc : Nat) (h : pc < 151) : pt_chk 264 pc = true := by
  by_cases h0 : pc < 80
  · exact pk_use pk_264_0 (by omega) (by omega)
  exact pk_use pk_264_1 (by omega) (by omega)
theorem pk_265_0 : (List.range 80).all (fun j => pt_chk 265 (0 + j)) = true := by decide +kernel
theorem pk_265_1 : (List.range 80).all (fun j => pt_chk 265 (80 + j)) = true := by decide +kernel
theorem pk_265_2 : (List.range 80).all (fun j => pt_chk 265 (160 + j)) = true := by decide +kernel
theorem pk_265_3 : (List.range 80).all (fun j => pt_chk 265 (240 + j)) = true := by decide +kernel
theorem pk_265_4 : (List.range 80).all (fun j => pt_chk 265 (320 + j)) = true := by decide +kernel
theorem pk_265_5 : (List.range 7).all (fun j => pt_chk 265 (400 + j)) = true := by decide +kernel
theorem pkm_265 (pc : Nat) (h : pc < 407) : pt_chk 265 pc = true := by
  by_cases h0 : pc < 80
  · exact pk_use pk_265_0 (by omega) (by omega)
  by_cases h1 : pc < 160
  · exact pk_use pk_265_1 (by omega) (by omega)
  by_cases h2 : pc < 240
  · exact pk_use pk_265_2 (by omega) (by omega)
  by_cases h3 : pc < 320
  · exact pk_use pk_265_3 (by omega) (by omega)
  by_cases h4 : pc < 400
  · exact pk_use pk_265_4 (by omega) (by omega)
  exact pk_use pk_265_5 (by omega) (by omega)
theorem pk_266_0 : (List.range 80).all (fun j => pt_chk 266 (0 + j)) = true := by decide +kernel
theorem pk_266_1 : (List.range 53).all (fun j => pt_chk 266 (80 + j)) = true := by decide +kernel
theorem pkm_266 (pc : Nat) (h : pc < 133) : pt_chk 266 pc = true := by
  by_cases h0 : pc < 80
  · exact pk_use pk_266_0 (by omega) (by omega)
  exact pk_use pk_266_1 (by omega) (by omega)
theorem pk_267_0 : (List.range 55).all (fun j => pt_chk 267 (0 + j)) = true := by decide +kernel
theorem pkm_267 (pc : Nat) (h : pc < 55) : pt_chk 267 pc = true := by
  exact pk_use pk_267_0 (by omega) (by omega)
theorem pk_268_0 : (List.range 80).all (fun j => pt_chk 268 (0 + j)) = true := by decide +kernel
theorem pk_268_1 : (List.range 54).all (fun j => pt_chk 268 (80 + j)) = true := by decide +kernel
theorem pkm_268 (pc : Nat) (h : pc < 134) : pt_chk 268 pc = true := by
  by_cases h0 : pc < 80
  · exact pk_use pk_268_0 (by omega) (by omega)
  exact pk_use pk_268_1 (by omega) (by omega)
theorem pk_269_0 : (List.range 75).all (fun j => pt_chk 269 (0 + j)) = true := by decide +kernel
theorem pkm_269 (pc : Nat) (h : pc < 75) : pt_chk 269 pc = true := by
  exact pk_use pk_269_0 (by omega) (by omega)
theorem pk_270_0 : (List.range 50).all (fun j => pt_chk 270 (0 + j)) = true := by decide +kernel
theorem pkm_270 (pc : Nat) (h : pc < 50) : pt_chk 270 pc = true := by
  exact pk_use pk_270_0 (by omega) (by omega)
theorem pk_271_0 : (List.range 80).all (fun j => pt_chk 271 (0 + j)) = true := by decide +kernel
theorem pk_271_1 : (List.range 80).all (fun j => pt_chk 271 (80 + j)) = true := by decide +kernel
theorem pk_271_2 : (List.range 80).all (fun j => pt_chk 271 (160 + j)) = true := by decide +kernel
theorem pk_271_3 : (List.range 21).all (fun j => pt_chk 271 (240 + j)) = true := by decide +kernel
theorem pkm_271 (pc : Nat) (h : pc < 261) : pt_chk 271 pc = true := by
  by_cases h0 : pc < 80
  · exact pk_use pk_271_0 (by omega) (by omega)
  by_cases h1 : pc < 160
  · exact pk_use pk_271_1 (by omega) (by omega)
  by_cases h2 : pc < 240
  · exact pk_use pk_271_2 (by omega) (by omega)
  exact pk_use pk_271_3 (by omega) (by omega)
theorem pk_272_0 : (List.range 80).all (fun j => pt_chk 272 (0 + j)) = true := by decide +kernel
theorem pk_272_1 : (List.range 80).all (fun j => pt_chk 272 (80 + j)) = true := by decide +kernel
theorem pk_272_2 : (List.range 48).all (fun j => pt_chk 272 (160 + j)) = true := by decide +kernel
theorem pkm_272 (pc : Nat) (h : pc < 208) : pt_chk 272 pc = true := by
  by_cases h0 : pc < 80
  · exact pk_use pk_272_0 (by omega) (by omega)
  by_cases h1 : pc < 160
  · exact pk_use pk_272_1 (by omega) (by omega)
  exact pk_use pk_272_2 (by omega) (by omega)
theorem pk_273_0 : (List.range 59).all (fun j => pt_chk 273 (0 + j)) = true := by decide +kernel
theorem pkm_273 (pc : Nat) (h : pc < 59) : pt_chk 273 pc = true := by
  exact pk_use pk_273_0 (by omega) (by omega)
theorem pk_274_0 : (List.range 80).all (fun j => pt_chk 274 (0 + j)) = true := by decide +kernel
theorem pk_274_1 : (List.range 80).all (fun j => pt_chk 274 (80 + j)) = true := by decide +kernel
theorem pk_274_2 : (List.range 80).all (fun j => pt_chk 274 (160 + j)) = true := by decide +kernel
theorem pk_274_3 : (List.range 57).all (fun j => pt_chk 274 (240 + j)) = true := by decide +kernel
theorem pkm_274 (pc : Nat) (h : pc < 297) : pt_chk 274 pc = true := by
  by_cases h0 : pc < 80
  · exact pk_use pk_274_0 (by omega) (by omega)
  by_cases h1 : pc < 160
  · exact pk_use pk_274_1 (by omega) (by omega)
  by_cases h2 : pc < 240
  · exact pk_use pk_274_2 (by omega) (by omega)
  exact pk_use pk_274_3 (by omega) (by omega)
theorem pk_275_0 : (List.range 80).all (fun j => pt_chk 275 (0 + j)) = true := by decide +kernel
theorem pk_275_1 : (List.range 3).all (fun j => pt_chk 275 (80 + j)) = true := by decide +kernel
theorem pkm_275 (pc : Nat) (h : pc < 83) : pt_chk 275 pc = true := by
  by_cases h0 : pc < 80
  · exact pk_use pk_275_0 (by omega) (by omega)
  exact pk_use pk_275_1 (by omega) (by omega)
theorem pk_276_0 : (List.range 80).all (fun j => pt_chk 276 (0 + j)) = true := by decide +kernel
theorem pkm_276 (pc : Nat) (h : pc < 80) : pt_chk 276 pc = true := by
  exact pk_use pk_276_0 (by omega) (by omega)
