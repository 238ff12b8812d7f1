theorem pk_277_0 : (List.range 80).all (fun j => pt_chk 277 (0 + j)) = true := by decide +kernel
theorem pk_277_1 : (List.range 80).all (fun j => pt_chk 277 (80 + j)) = true := by decide +kernel
theorem pk_277_2 : (List.range 21).all (fun j => pt_chk 277 (160 + j)) = true := by decide +kernel
theorem pkm_277 (pc : Nat) (h : pc < 181) : pt_chk 277 pc = true := by
  by_cases h0 : pc < 80
  · exact pk_use pk_277_0 (by omega) (by omega)
  by_cases h1 : pc < 160
  · exact pk_use pk_277_1 (by omega) (by omega)
  exact pk_use pk_277_2 (by omega) (by omega)
theorem pk_278_0 : (List.range 80).all (fun j => pt_chk 278 (0 + j)) = true := by decide +kernel
theorem pk_278_1 : (List.range 80).all (fun j => pt_chk 278 (80 + j)) = true := by decide +kernel
theorem pk_278_2 : (List.range 80).all (fun j => pt_chk 278 (160 + j)) = true := by decide +kernel
theorem pk_278_3 : (List.range 15).all (fun j => pt_chk 278 (240 + j)) = true := by decide +kernel
theorem pkm_278 (pc : Nat) (h : pc < 255) : pt_chk 278 pc = true := by
  by_cases h0 : pc < 80
  · exact pk_use pk_278_0 (by omega) (by omega)
  by_cases h1 : pc < 160
  · exact pk_use pk_278_1 (by omega) (by omega)
  by_cases h2 : pc < 240
  · exact pk_use pk_278_2 (by omega) (by omega)
  exact pk_use pk_278_3 (by omega) (by omega)
theorem pk_279_0 : (List.range 15).all (fun j => pt_chk 279 (0 + j)) = true := by decide +kernel
theorem pkm_279 (pc : Nat) (h : pc < 15) : pt_chk 279 pc = true := by
  exact pk_use pk_279_0 (by omega) (by omega)
theorem pk_280_0 : (List.range 80).all (fun j => pt_chk 280 (0 + j)) = true := by decide +kernel
theorem pk_280_1 : (List.range 73).all (fun j => pt_chk 280 (80 + j)) = true := by decide +kernel
theorem pkm_280 (pc : Nat) (h : pc < 153) : pt_chk 280 pc = true := by
  by_cases h0 : pc < 80
  · exact pk_use pk_280_0 (by omega) (by omega)
  exact pk_use pk_280_1 (by omega) (by omega)
theorem pk_281_0 : (List.range 80).all (fun j => pt_chk 281 (0 + j)) = true := by decide +kernel
theorem pk_281_1 : (List.range 25).all (fun j => pt_chk 281 (80 + j)) = true := by decide +kernel
theorem pkm_281 (pc : Nat) (h : pc < 105) : pt_chk 281 pc = true := by
  by_cases h0 : pc < 80
  · exact pk_use pk_281_0 (by omega) (by omega)
  exact pk_use pk_281_1 (by omega) (by omega)
theorem pk_282_0 : (List.range 80).all (fun j => pt_chk 282 (0 + j)) = true := by decide +kernel
theorem pk_282_1 : (List.range 80).all (fun j => pt_chk 282 (80 + j)) = true := by decide +kernel
theorem pk_282_2 : (List.range 80).all (fun j => pt_chk 282 (160 + j)) = true := by decide +kernel
theorem pk_282_3 : (List.range 74).all (fun j => pt_chk 282 (240 + j)) = true := by decide +kernel
theorem pkm_282 (pc : Nat) (h : pc < 314) : pt_chk 282 pc = true := by
  by_cases h0 : pc < 80
  · exact pk_use pk_282_0 (by omega) (by omega)
  by_cases h1 : pc < 160
  · exact pk_use pk_282_1 (by omega) (by omega)
  by_cases h2 : pc < 240
  · exact pk_use pk_282_2 (by omega) (by omega)
  exact pk_use pk_282_3 (by omega) (by omega)
theorem pk_283_0 : (List.range 30).all (fun j => pt_chk 283 (0 + j)) = true := by decide +kernel
theorem pkm_283 (pc : Nat) (h : pc < 30) : pt_chk 283 pc = true := by
  exact pk_use pk_283_0 (by omega) (by omega)
theorem pk_284_0 : (List.range 80).all (fun j => pt_chk 284 (0 + j)) = true := by decide +kernel
theorem pk_284_1 : (List.range 46).all (fun j => pt_chk 284 (80 + j)) = true := by decide +kernel
theorem pkm_284 (pc : Nat) (h : pc < 126) : pt_chk 284 pc = true := by
  by_cases h0 : pc < 80
  · exact pk_use pk_284_0 (by omega) (by omega)
  exact pk_use pk_284_1 (by omega) (by omega)
theorem pk_285_0 : (List.range 10).all (fun j => pt_chk 285 (0 + j)) = true := by decide +kernel
theorem pkm_285 (pc : Nat) (h : pc < 10) : pt_chk 285 pc = true := by
  exact pk_use pk_285_0 (by omega) (by omega)
theorem pk_286_0 : (List.range 59).all (fun j => pt_chk 286 (0 + j)) = true := by decide +kernel
theorem pkm_286 (pc : Nat) (h : pc < 59) : pt_chk 286 pc = true := by
  exact pk_use pk_286_0 (by omega) (by omega)
theorem pk_287_0 : (List.range 80).all (fun j => pt_chk 287 (0 + j)) = true := by decide +kernel
theorem pk_287_1 : (List.range 80).all (fun j => pt_chk 287 (80 + j)) = true := by decide +kernel
theorem pk_287_2 : (List.range 80).all (fun j => pt_chk 287 (160 + j)) = true := by decide +kernel
theorem pk_287_3 : (List.range 80).all (fun j => pt_chk 287 (240 + j)) = true := by decide +kernel
theorem pk_287_4 : (List.range 61).all (fun j => pt_chk 287 (320 + j)) = true := by decide +kernel
theorem pkm_287 (pc : Nat) (h : pc < 381) : pt_chk 287 pc = true := by
  by_cases h0 : pc < 80
  · exact pk_use pk_287_0 (by omega) (by omega)
  by_cases h1 : pc < 160
  · exact pk_use pk_287_1 (by omega) (by omega)
  by_cases h2 : pc < 240
  · exact pk_use pk_287_2 (by omega) (by omega)
  by_cases h3 : pc < 320
  · exact pk_use pk_287_3 (by omega) (by omega)
  exact pk_use pk_287_4 (by omega) (by omega)
theorem pk_288_0 : (List.range 80).all (fun j => pt_chk 288 (0 + j)) = true := by decide +kernel
theorem pk_288_1 : (List.range 80).all (fun j => pt_chk 288 (80 + j)) = true := by decide +kernel
theorem pk_288_2 : (List.range 1).all (fun j => pt_chk 288 (160 + j)) = true := by decide +kernel
theorem pkm_288 (pc : Nat) (h : pc < 161) : pt_chk 288 pc = true := by
  by_cases h0 : pc < 80
  · exact pk_use pk_288_0 (by omega) (by omega)
  by_cases h1 : pc < 160
  · exact pk_use pk_288_1 (by omega) (by omega)
  exact pk_use pk_288_2 (by omega) (by omega)
theorem pk_289_0 : (List.range 80).all (fun j => pt_chk 289 (0 + j)) = true := by decide +kernel
theorem pk_289_1 : (List.range 28).all (fun j => pt_chk 289 (80 + j)) = true := by decide +kernel
theorem pkm_289 (pc : Nat) (h : pc < 108) : pt_chk 289 pc = true := by
  by_cases h0 : pc < 80
  · exact pk_use pk_289_0 (by omega) (by omega)
  exact pk_use pk_289_1 (by omega) (by omega)
theorem pk_290_0 : (List.range 60).all (fun j => pt_chk 290 (0 + j)) = true := by decide +kernel
theorem pkm_290 (pc : Nat) (h : pc < 60) : pt_chk 290 pc = true := by
  exact pk_use pk_290_0 (by omega) (by omega)
theorem pk_291_0 : (List.range 80).all (fun j => pt_chk 291 (0 + j)) = true := by decide +kernel
theorem pk_291_1 : (List.range 61).all (fun j => pt_chk 291 (80 + j)) = true := by decide +kernel
theorem pkm_291 (pc : Nat) (h : pc < 141) : pt_chk 291 pc = true := by
  by_cases h0 : pc < 80
  · exact pk_use pk_291_0 (by omega) (by omega)
  exact pk_use pk_291_1 (by omega) (by omega)
theorem pk_292_0 : (List.range 80).all (fun j => pt_chk 292 (0 + j)) = true := by decide +kernel
theorem pk_292_1 : (List.range 79).all (fun j => pt_chk 292 (80 + j)) = true := by decide +kernel
theorem pkm_292 (pc : Nat) (h : pc < 159) : pt_chk 292 pc = true := by
  by_cases h0 : pc < 80
  · exact pk_use pk_292_0 (by omega) (by omega)
  exact pk_use pk_292_1 (by omega) (by omega)
theorem pk_293_0 : (List.range 80).all (fun j => pt_chk 293 (0 + j)) = true := by decide +kernel
theorem pk_293_1 : (List.range 80).all (fun j => pt_chk 293 (80 + j)) = true := by decide +kernel
theorem pk_293_2 : (List.range 48).all (fun j => pt_chk 293 (160 + j)) = true := by decide +kernel
theorem pkm_293 (pc : Nat) (h : pc < 208) : pt_chk 293 pc = true := by
  by_cases h0 : pc < 80
  · exact pk_use pk_293_0 (by omega) (by omega)
  by_cases h1 : pc < 160
  · exact pk_use pk_293_1 (by omega) (by omega)
  exact pk_use pk_293_2 (by omega) (by omega)
theorem pk_294_0 : (List.range 80).all (fun j => pt_chk 294 (0 + j)) = true := by decide +kernel
theorem pk_294_1 : (List.range 80).all (fun j => pt_chk 294 (80 + j)) = true := by decide +kernel
theorem pk_294_2 : (List.range 80).all (fun j => pt_chk 294 (160 + j)) = true := by decide +kernel
theorem pk_294_3 : (List.range 80).all (fun j => pt_chk 294 (240 + j)) = true := by decide +kernel
theorem pk_294_4 : (List.range 41).all (fun j => pt_chk 294 (320 + j)) = true := by decide +kernel
theorem pkm_294 (pc : Nat) (h : pc < 361) : pt_chk 294 pc = true := by
  by_cases h0 : pc < 80
  · exact pk_use pk_294_0 (by omega) (by omega)
  by_cases h1 : pc < 160
  · exact pk_use pk_294_1 (by omega) (by omega)
  by_cases h2 : pc < 240
  · exact pk_use pk_294_2 (by omega) (by omega)
  by_cases h3 : pc < 320
  · exact pk_use pk_294_3 (by omega) (by omega)
  exact pk_use pk_294_4 (by omega) (by omega)
theorem pk_295_0 : (List.range 80).all (fun j => pt_chk 295 (0 + j)) = true := by decide +kernel
theorem pk_295_1 : (List.range 80).all (fun j => pt_chk 295 (80 + j)) = true := by decide +kernel
theorem pk_295_2 : (List.range 16).all (fun j => pt_chk 295 (160 + j)) = true := by decide +kernel
theorem pkm_295 (pc : Nat) (h : pc < 176) : pt_chk 295 pc = true := by
  by_cases h0 : pc < 80
  · exact pk_use pk_295_0 (by omega) (by omega)
  by_cases h1 : pc < 160
  · exact pk_use pk_295_1 (by omega) (by omega)
  exact pk_use pk_295_2 (by omega) (by omega)
theorem pk_296_0 : (List.range 80).all (fun j => pt_chk 296 (0 + j)) = true := by decide +kernel
theorem pk_296_1 : (List.range 30).all (fun j => pt_chk 296 (80 + j)) = true := by decide +kernel
theorem pkm_296 (pc : Nat) (h : pc < 110) : pt_chk 296 pc = true := by
  by_cases h0 : pc < 80
  · exact pk_use pk_296_0 (by omega) (by omega)
  exact pk_use pk_296_1 (by omega) (by omega)
theorem pk_297_0 : (List.range 62).all (fun j => pt_chk 297 (0 + j)) = true := by decide +kernel
theorem pkm_297 (pc : Nat) (h : pc < 62) : pt_chk 297 pc = true := by
  exact pk_use pk_297_0 (by omega) (by omega)
theorem pk_298_0 : (List.range 24).all (fun j => pt_chk 298 (0 + j)) = true := by decide +kernel
theorem pkm_298 (pc : Nat) (h : pc < 24) : pt_chk 298 pc = true := by
  exact pk_use pk_298_0 (by omega) (by omega)
theorem pk_299_0 : (List.range 23).all (fun j => pt_chk 299 (0 + j)) = true := by decide +kernel
theorem pkm_299 (pc : Nat) (h : pc < 23) : pt_chk 299 pc = true := by
  exact pk_use pk_299_0 (by omega) (by omega)
theorem pk_300_0 : (List.range 24).all (fun j => pt_chk 300 (0 + j)) = true := by decide +kernel
theorem pkm_300 (pc : Nat) (h : pc < 24) : pt_chk 300 pc = true := by
  exact pk_use pk_300_0 (by omega) (by omega)
theorem pk_301_0 : (List.range 20).all (fun j => pt_chk 301 (0 + j)) = true := by decide +kernel
theorem pkm_301 (pc : Nat) (h : pc < 20) : pt_chk 301 pc = true := by
  exact pk_use pk_301_0 (by omega) (by omega)
theorem pk_302_0 : (List.range 12).all (fun j => pt_chk 302 (0 + j)) = true := by decide +kernel
theorem pkm_302 (pc : Nat) (h : pc < 12) : pt_chk 302 pc = true := by
  exact pk_use pk_302_0 (by omega) (by omega)
theorem pk_303_0 : (List.range 14).all (fun j => pt_chk 303 (0 + j)) = true := by decide +kernel
theorem pkm_303 (pc : Nat) (h : pc < 14) : pt_chk 303 pc = true := by
  exact pk_use pk_303_0 (by omega) (by omega)
theorem pk_304_0 : (List.range 23).all (fun j => pt_chk 304 (0 + j)) = true := by decide +kernel
theorem pkm_304 (pc : Nat) (h : pc < 23) : pt_chk 304 pc = true := by
  exact pk_use pk_304_0 (by omega) (by omega)
theorem pk_305_0 : (List.range 13).all (fun j => pt_chk 305 (0 + j)) = true := by decide +kernel
theorem pkm_305 (pc : Nat) (h : pc < 13) : pt_chk 305 pc = true := by
  exact pk_use pk_305_0 (by omega) (by omega)
theorem pk_306_0 : (List.range 25).all (fun j => pt_chk 306 (0 + j)) = true := by decide +kernel
theorem pkm_306 (pc : Nat) (h : pc < 25) : pt_chk 306 pc = true := by
  exact pk_use pk_306_0 (by omega) (by omega)
theorem pk_307_0 : (List.range 19).all (fun j => pt_chk 307 (0 + j)) = true := by decide +kernel
theorem pkm_307 (pc : Nat) (h : pc < 19) : pt_chk 307 pc = true := by
  exact pk_use pk_307_0 (by omega) (by omega)
theorem pk_308_0 : (List.range 25).all (fun j => pt_chk 308 (0 + j)) = true := by decide +kernel
theorem pkm_308 (pc : Nat) (h : pc < 25) : pt_chk 308 pc = true := by
  exact pk_use pk_308_0 (by omega) (by omega)
theorem pk_309_0 : (List.range 16).all (fun j => pt_chk 309 (0 + j)) = true := by decide +kernel
theorem pkm_309 (pc : Nat) (h : pc < 16) : pt_chk 309 pc = true := by
  exact pk_use pk_309_0 (by omega) (by omega)
theorem pk_310_0 : (List.range 16).all (fun j => pt_chk 310 (0 + j)) = true := by decide +kernel
theorem pkm_310 (pc : Nat) (h : pc < 16) : pt_chk 310 pc = true := by
  exact pk_use pk_310_0 (by omega) (by omega)
theorem pk_311_0 : (List.range 19).all (fun j => pt_chk 311 (0 + j)) = true := by decide +kernel
theorem pkm_311 (pc : Nat) (h : pc < 19) : pt_chk 311 pc = true := by
  exact pk_use pk_311_0 (by omega) (by omega)
theorem pk_312_0 : (List.range 16).all (fun j => pt_chk 312 (0 + j)) = true := by decide +kernel
theorem pkm_312 (pc : Nat) (h : pc < 16) : pt_chk 312 pc = true := by
  exact pk_use pk_312_0 (by omega) (by omega)
theorem pk_313_0 : (List.range 19).all (fun j => pt_chk 313 (0 + j)) = true := by decide +kernel
theorem pkm_313 (pc : Nat) (h : pc < 19) : pt_chk 313 pc = true := by
  exact pk_use pk_313_0 (by omega) (by omega)
theorem pk_314_0 : (List.range 21).all (fun j => pt_chk 314 (0 + j)) = true := by decide +kernel
theorem pkm_314 (pc : Nat) (h : pc < 21) : pt_chk 314 pc = true := by
  exact pk_use pk_314_0 (by omega) (by omega)
theorem pk_315_0 : (List.range 24).all (fun j => pt_chk 315 (0 + j)) = true := by decide +kernel
theorem pkm_315 (pc : Nat) (h : pc < 24) : pt_chk 315 pc = true := by
  exact pk_use pk_315_0 (by omega) (by omega)
theorem pk_316_0 : (List.range 26).all (fun j => pt_chk 316 (0 + j)) = true := by decide +kernel
theorem pkm_316 (pc : Nat) (h : pc < 26) : pt_chk 316 pc = true := by
  exact pk_use pk_316_0 (by omega) (by omega)
theorem pk_317_0 : (List.range 80).all (fun j => pt_chk 317 (0 + j)) = true := by decide +kernel
theorem pk_317_1 : (List.range 80).all (fun j => pt_chk 317 (80 + j)) = true := by decide +kernel
theorem pk_317_2 : (List.range 80).all (fun j => pt_chk 317 (160 + j)) = true := by decide +kernel
theorem pk_317_3 : (List.range 80).all (fun j => pt_chk 317 (240 + j)) = true := by decide +kernel
theorem pk_317_4 : (List.range 80).all (fun j => pt_chk 317 (320 + j)) = true := by decide +kernel
theorem pk_317_5 : (List.range 80).all (fun j => pt_chk 317 (400 + j)) = true := by decide +kernel
theorem pk_317_6 : (List.range 80).all (fun j => pt_chk 317 (480 + j)) = true := by decide +kernel
theorem pk_317_7 : (List.range 80).all (fun j => pt_chk 317 (560 + j)) = true := by decide +kernel
theorem pk_317_8 : (List.range 80).all (fun j => pt_chk 317 (640 + j)) = true := by decide +kernel
theorem pk_317_9 : (List.range 80).all (fun j => pt_chk 317 (720 + j)) = true := by decide +kernel
theorem pk_317_10 : (List.range 80).all (fun j => pt_chk 317 (800 + j)) = true := by decide +kernel
theorem pk_317_11 : (List.range 80).all (fun j => pt_chk 317 (880 + j)) = true := by decide +kernel
theorem pk_317_12 : (List.range 80).all (fun j => pt_chk 317 (960 + j)) = true := by decide +kernel
theorem pk_317_13 : (List.range 80).all (fun j => pt_chk 317 (1040 + j)) = true := by decide +kernel
theorem pk_317_14 : (List.range 80).all (fun j => pt_chk 317 (1120 + j)) = true := by decide +kernel
theorem pk_317_15 : (List.range 80).all (fun j => pt_chk 317 (1200 + j)) = true := by decide +kernel
theorem pk_317_16 : (List.range 80).all (fun j => pt_chk 317 (1280 + j)) = true := by decide +kernel
theorem pk_317_17 : (List.range 80).all (fun j => pt_chk 317 (1360 + j)) = true := by decide +kernel
theorem pk_317_18 : (List.range 80).all (fun j => pt_chk 317 (1440 + j)) = true := by decide +kernel
theorem pk_317_19 : (List.range 80).all (fun j => pt_chk 317 (1520 + j)) = true := by decide +kernel
theorem pk_317_20 : (List.range 18).all (fun j => pt_chk 317 (1600 + j)) = true := by decide +kernel
theorem pkm_317 (pc : Nat) (h : pc < 1618) : pt_chk 317 pc = true := by
  by_cases h0 : pc < 80
  · exact pk_use pk_317_0 (by omega) (by omega)
  by_cases h1 : pc < 160
  · exact pk_use pk_317_1 (by omega) (by omega)
  by_cases h2 : pc < 240
  · exact pk_use pk_317_2 (by omega) (by omega)
  by_cases h3 : pc < 320
  · exact pk_use pk_317_3 (by omega) (by omega)
  by_cases h4 : pc < 400
  · exact pk_use pk_317_4 (by omega) (by omega)
  by_cases h5 : pc < 480
  · exact pk_use pk_317_5 (by omega) (by omega)
  by_cases h6 : pc < 560
  · exact pk_use pk_317_6 (by omega) (by omega)
  by_cases h7 : pc < 640
  · exact pk_use pk_317_7 (by omega) (by omega)
  by_cases h8 : pc < 720
  · exact pk_use pk_317_8 (by omega) (by omega)
  by_cases h9 : pc < 800
  · exact pk_use pk_317_9 (by omega) (by omega)
  by_cases h10 : pc < 880
  · exact pk_use pk_317_10 (by omega) (by omega)
  by_cases h11 : pc < 960
  · exact pk_use pk_317_11 (by omega) (by omega)
  by_cases h12 : pc < 1040
  · exact pk_use pk_317_12 (by omega) (by omega)
  by_cases h13 : pc < 1120
  · exact pk_use pk_317_13 (by omega) (by omega)
  by_cases h14 : pc < 1200
  · exact pk_use pk_317_14 (by omega) (by omega)
  by_cases h15 : pc < 1280
  · exact pk_use pk_317_15 (by omega) (by omega)
  by_cases h16 : pc < 1360
  · exact pk_use pk_317_16 (by omega) (by omega)
  by_cases h17 : pc < 1440
  · exact pk_use pk_317_17 (by omega) (by omega)
  by_cases h18 : pc < 1520
  · exact pk_use pk_317_18 (by omega) (by omega)
  by_cases h19 : pc < 1600
  · exact pk_use pk_317_19 (by omega) (by omega)
  exact pk_use pk_317_20 (by omega) (by omega)
