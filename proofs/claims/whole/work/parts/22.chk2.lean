theorem pk_159_0 : (List.range 80).all (fun j => pt_chk 159 (0 + j)) = true := by decide +kernel
theorem pk_159_1 : (List.range 60).all (fun j => pt_chk 159 (80 + j)) = true := by decide +kernel
theorem pkm_159 (pc : Nat) (h : pc < 140) : pt_chk 159 pc = true := by
  by_cases h0 : pc < 80
  · exact pk_use pk_159_0 (by omega) (by omega)
  exact pk_use pk_159_1 (by omega) (by omega)
theorem pk_160_0 : (List.range 25).all (fun j => pt_chk 160 (0 + j)) = true := by decide +kernel
theorem pkm_160 (pc : Nat) (h : pc < 25) : pt_chk 160 pc = true := by
  exact pk_use pk_160_0 (by omega) (by omega)
theorem pk_161_0 : (List.range 80).all (fun j => pt_chk 161 (0 + j)) = true := by decide +kernel
theorem pk_161_1 : (List.range 31).all (fun j => pt_chk 161 (80 + j)) = true := by decide +kernel
theorem pkm_161 (pc : Nat) (h : pc < 111) : pt_chk 161 pc = true := by
  by_cases h0 : pc < 80
  · exact pk_use pk_161_0 (by omega) (by omega)
  exact pk_use pk_161_1 (by omega) (by omega)
theorem pk_162_0 : (List.range 80).all (fun j => pt_chk 162 (0 + j)) = true := by decide +kernel
theorem pk_162_1 : (List.range 10).all (fun j => pt_chk 162 (80 + j)) = true := by decide +kernel
theorem pkm_162 (pc : Nat) (h : pc < 90) : pt_chk 162 pc = true := by
  by_cases h0 : pc < 80
  · exact pk_use pk_162_0 (by omega) (by omega)
  exact pk_use pk_162_1 (by omega) (by omega)
theorem pk_163_0 : (List.range 77).all (fun j => pt_chk 163 (0 + j)) = true := by decide +kernel
theorem pkm_163 (pc : Nat) (h : pc < 77) : pt_chk 163 pc = true := by
  exact pk_use pk_163_0 (by omega) (by omega)
theorem pk_164_0 : (List.range 21).all (fun j => pt_chk 164 (0 + j)) = true := by decide +kernel
theorem pkm_164 (pc : Nat) (h : pc < 21) : pt_chk 164 pc = true := by
  exact pk_use pk_164_0 (by omega) (by omega)
theorem pk_165_0 : (List.range 80).all (fun j => pt_chk 165 (0 + j)) = true := by decide +kernel
theorem pk_165_1 : (List.range 80).all (fun j => pt_chk 165 (80 + j)) = true := by decide +kernel
theorem pk_165_2 : (List.range 80).all (fun j => pt_chk 165 (160 + j)) = true := by decide +kernel
theorem pk_165_3 : (List.range 80).all (fun j => pt_chk 165 (240 + j)) = true := by decide +kernel
theorem pk_165_4 : (List.range 39).all (fun j => pt_chk 165 (320 + j)) = true := by decide +kernel
theorem pkm_165 (pc : Nat) (h : pc < 359) : pt_chk 165 pc = true := by
  by_cases h0 : pc < 80
  · exact pk_use pk_165_0 (by omega) (by omega)
  by_cases h1 : pc < 160
  · exact pk_use pk_165_1 (by omega) (by omega)
  by_cases h2 : pc < 240
  · exact pk_use pk_165_2 (by omega) (by omega)
  by_cases h3 : pc < 320
  · exact pk_use pk_165_3 (by omega) (by omega)
  exact pk_use pk_165_4 (by omega) (by omega)
theorem pk_166_0 : (List.range 5).all (fun j => pt_chk 166 (0 + j)) = true := by decide +kernel
theorem pkm_166 (pc : Nat) (h : pc < 5) : pt_chk 166 pc = true := by
  exact pk_use pk_166_0 (by omega) (by omega)
theorem pk_167_0 : (List.range 15).all (fun j => pt_chk 167 (0 + j)) = true := by decide +kernel
theorem pkm_167 (pc : Nat) (h : pc < 15) : pt_chk 167 pc = true := by
  exact pk_use pk_167_0 (by omega) (by omega)
theorem pk_168_0 : (List.range 19).all (fun j => pt_chk 168 (0 + j)) = true := by decide +kernel
theorem pkm_168 (pc : Nat) (h : pc < 19) : pt_chk 168 pc = true := by
  exact pk_use pk_168_0 (by omega) (by omega)
theorem pk_169_0 : (List.range 11).all (fun j => pt_chk 169 (0 + j)) = true := by decide +kernel
theorem pkm_169 (pc : Nat) (h : pc < 11) : pt_chk 169 pc = true := by
  exact pk_use pk_169_0 (by omega) (by omega)
theorem pk_170_0 : (List.range 12).all (fun j => pt_chk 170 (0 + j)) = true := by decide +kernel
theorem pkm_170 (pc : Nat) (h : pc < 12) : pt_chk 170 pc = true := by
  exact pk_use pk_170_0 (by omega) (by omega)
theorem pk_171_0 : (List.range 80).all (fun j => pt_chk 171 (0 + j)) = true := by decide +kernel
theorem pk_171_1 : (List.range 74).all (fun j => pt_chk 171 (80 + j)) = true := by decide +kernel
theorem pkm_171 (pc : Nat) (h : pc < 154) : pt_chk 171 pc = true := by
  by_cases h0 : pc < 80
  · exact pk_use pk_171_0 (by omega) (by omega)
  exact pk_use pk_171_1 (by omega) (by omega)
theorem pk_172_0 : (List.range 40).all (fun j => pt_chk 172 (0 + j)) = true := by decide +kernel
theorem pkm_172 (pc : Nat) (h : pc < 40) : pt_chk 172 pc = true := by
  exact pk_use pk_172_0 (by omega) (by omega)
theorem pk_173_0 : (List.range 18).all (fun j => pt_chk 173 (0 + j)) = true := by decide +kernel
theorem pkm_173 (pc : Nat) (h : pc < 18) : pt_chk 173 pc = true := by
  exact pk_use pk_173_0 (by omega) (by omega)
theorem pk_174_0 : (List.range 37).all (fun j => pt_chk 174 (0 + j)) = true := by decide +kernel
theorem pkm_174 (pc : Nat) (h : pc < 37) : pt_chk 174 pc = true := by
  exact pk_use pk_174_0 (by omega) (by omega)
theorem pk_175_0 : (List.range 12).all (fun j => pt_chk 175 (0 + j)) = true := by decide +kernel
theorem pkm_175 (pc : Nat) (h : pc < 12) : pt_chk 175 pc = true := by
  exact pk_use pk_175_0 (by omega) (by omega)
theorem pk_176_0 : (List.range 80).all (fun j => pt_chk 176 (0 + j)) = true := by decide +kernel
theorem pk_176_1 : (List.range 19).all (fun j => pt_chk 176 (80 + j)) = true := by decide +kernel
theorem pkm_176 (pc : Nat) (h : pc < 99) : pt_chk 176 pc = true := by
  by_cases h0 : pc < 80
  · exact pk_use pk_176_0 (by omega) (by omega)
  exact pk_use pk_176_1 (by omega) (by omega)
theorem pk_177_0 : (List.range 76).all (fun j => pt_chk 177 (0 + j)) = true := by decide +kernel
theorem pkm_177 (pc : Nat) (h : pc < 76) : pt_chk 177 pc = true := by
  exact pk_use pk_177_0 (by omega) (by omega)
theorem pk_178_0 : (List.range 80).all (fun j => pt_chk 178 (0 + j)) = true := by decide +kernel
theorem pk_178_1 : (List.range 11).all (fun j => pt_chk 178 (80 + j)) = true := by decide +kernel
theorem pkm_178 (pc : Nat) (h : pc < 91) : pt_chk 178 pc = true := by
  by_cases h0 : pc < 80
  · exact pk_use pk_178_0 (by omega) (by omega)
  exact pk_use pk_178_1 (by omega) (by omega)
theorem pk_179_0 : (List.range 18).all (fun j => pt_chk 179 (0 + j)) = true := by decide +kernel
theorem pkm_179 (pc : Nat) (h : pc < 18) : pt_chk 179 pc = true := by
  exact pk_use pk_179_0 (by omega) (by omega)
theorem pk_180_0 : (List.range 18).all (fun j => pt_chk 180 (0 + j)) = true := by decide +kernel
theorem pkm_180 (pc : Nat) (h : pc < 18) : pt_chk 180 pc = true := by
  exact pk_use pk_180_0 (by omega) (by omega)
theorem pk_181_0 : (List.range 31).all (fun j => pt_chk 181 (0 + j)) = true := by decide +kernel
theorem pkm_181 (pc : Nat) (h : pc < 31) : pt_chk 181 pc = true := by
  exact pk_use pk_181_0 (by omega) (by omega)
theorem pk_182_0 : (List.range 26).all (fun j => pt_chk 182 (0 + j)) = true := by decide +kernel
theorem pkm_182 (pc : Nat) (h : pc < 26) : pt_chk 182 pc = true := by
  exact pk_use pk_182_0 (by omega) (by omega)
theorem pk_183_0 : (List.range 26).all (fun j => pt_chk 183 (0 + j)) = true := by decide +kernel
theorem pkm_183 (pc : Nat) (h : pc < 26) : pt_chk 183 pc = true := by
  exact pk_use pk_183_0 (by omega) (by omega)
theorem pk_184_0 : (List.range 24).all (fun j => pt_chk 184 (0 + j)) = true := by decide +kernel
theorem pkm_184 (pc : Nat) (h : pc < 24) : pt_chk 184 pc = true := by
  exact pk_use pk_184_0 (by omega) (by omega)
theorem pk_185_0 : (List.range 80).all (fun j => pt_chk 185 (0 + j)) = true := by decide +kernel
theorem pk_185_1 : (List.range 38).all (fun j => pt_chk 185 (80 + j)) = true := by decide +kernel
theorem pkm_185 (pc : Nat) (h : pc < 118) : pt_chk 185 pc = true := by
  by_cases h0 : pc < 80
  · exact pk_use pk_185_0 (by omega) (by omega)
  exact pk_use pk_185_1 (by omega) (by omega)
theorem pk_186_0 : (List.range 73).all (fun j => pt_chk 186 (0 + j)) = true := by decide +kernel
theorem pkm_186 (pc : Nat) (h : pc < 73) : pt_chk 186 pc = true := by
  exact pk_use pk_186_0 (by omega) (by omega)
theorem pk_187_0 : (List.range 80).all (fun j => pt_chk 187 (0 + j)) = true := by decide +kernel
theorem pk_187_1 : (List.range 54).all (fun j => pt_chk 187 (80 + j)) = true := by decide +kernel
theorem pkm_187 (pc : Nat) (h : pc < 134) : pt_chk 187 pc = true := by
  by_cases h0 : pc < 80
  · exact pk_use pk_187_0 (by omega) (by omega)
  exact pk_use pk_187_1 (by omega) (by omega)
theorem pk_188_0 : (List.range 57).all (fun j => pt_chk 188 (0 + j)) = true := by decide +kernel
theorem pkm_188 (pc : Nat) (h : pc < 57) : pt_chk 188 pc = true := by
  exact pk_use pk_188_0 (by omega) (by omega)
theorem pk_189_0 : (List.range 80).all (fun j => pt_chk 189 (0 + j)) = true := by decide +kernel
theorem pk_189_1 : (List.range 15).all (fun j => pt_chk 189 (80 + j)) = true := by decide +kernel
theorem pkm_189 (pc : Nat) (h : pc < 95) : pt_chk 189 pc = true := by
  by_cases h0 : pc < 80
  · exact pk_use pk_189_0 (by omega) (by omega)
  exact pk_use pk_189_1 (by omega) (by omega)
theorem pk_190_0 : (List.range 80).all (fun j => pt_chk 190 (0 + j)) = true := by decide +kernel
theorem pk_190_1 : (List.range 80).all (fun j => pt_chk 190 (80 + j)) = true := by decide +kernel
theorem pk_190_2 : (List.range 30).all (fun j => pt_chk 190 (160 + j)) = true := by decide +kernel
theorem pkm_190 (pc : Nat) (h : pc < 190) : pt_chk 190 pc = true := by
  by_cases h0 : pc < 80
  · exact pk_use pk_190_0 (by omega) (by omega)
  by_cases h1 : pc < 160
  · exact pk_use pk_190_1 (by omega) (by omega)
  exact pk_use pk_190_2 (by omega) (by omega)
theorem pk_191_0 : (List.range 80).all (fun j => pt_chk 191 (0 + j)) = true := by decide +kernel
theorem pk_191_1 : (List.range 59).all (fun j => pt_chk 191 (80 + j)) = true := by decide +kernel
theorem pkm_191 (pc : Nat) (h : pc < 139) : pt_chk 191 pc = true := by
  by_cases h0 : pc < 80
  · exact pk_use pk_191_0 (by omega) (by omega)
  exact pk_use pk_191_1 (by omega) (by omega)
theorem pk_192_0 : (List.range 21).all (fun j => pt_chk 192 (0 + j)) = true := by decide +kernel
theorem pkm_192 (pc : Nat) (h : pc < 21) : pt_chk 192 pc = true := by
  exact pk_use pk_192_0 (by omega) (by omega)
theorem pk_193_0 : (List.range 19).all (fun j => pt_chk 193 (0 + j)) = true := by decide +kernel
theorem pkm_193 (pc : Nat) (h : pc < 19) : pt_chk 193 pc = true := by
  exact pk_use pk_193_0 (by omega) (by omega)
theorem pk_194_0 : (List.range 37).all (fun j => pt_chk 194 (0 + j)) = true := by decide +kernel
theorem pkm_194 (pc : Nat) (h : pc < 37) : pt_chk 194 pc = true := by
  exact pk_use pk_194_0 (by omega) (by omega)
theorem pk_195_0 : (List.range 80).all (fun j => pt_chk 195 (0 + j)) = true := by decide +kernel
theorem pk_195_1 : (List.range 23).all (fun j => pt_chk 195 (80 + j)) = true := by decide +kernel
theorem pkm_195 (pc : Nat) (h : pc < 103) : pt_chk 195 pc = true := by
  by_cases h0 : pc < 80
  · exact pk_use pk_195_0 (by omega) (by omega)
  exact pk_use pk_195_1 (by omega) (by omega)
theorem pk_196_0 : (List.range 52).all (fun j => pt_chk 196 (0 + j)) = true := by decide +kernel
theorem pkm_196 (pc : Nat) (h : pc < 52) : pt_chk 196 pc = true := by
  exact pk_use pk_196_0 (by omega) (by omega)
theorem pk_197_0 : (List.range 49).all (fun j => pt_chk 197 (0 + j)) = true := by decide +kernel
theorem pkm_197 (pc : Nat) (h : pc < 49) : pt_chk 197 pc = true := by
  exact pk_use pk_197_0 (by omega) (by omega)
theorem pk_198_0 : (List.range 80).all (fun j => pt_chk 198 (0 + j)) = true := by decide +kernel
theorem pk_198_1 : (List.range 80).all (fun j => pt_chk 198 (80 + j)) = true := by decide +kernel
theorem pk_198_2 : (List.range 31).all (fun j => pt_chk 198 (160 + j)) = true := by decide +kernel
theorem pkm_198 (pc : Nat) (h : pc < 191) : pt_chk 198 pc = true := by
  by_cases h0 : pc < 80
  · exact pk_use pk_198_0 (by omega) (by omega)
  by_cases h1 : pc < 160
  · exact pk_use pk_198_1 (by omega) (by omega)
  exact pk_use pk_198_2 (by omega) (by omega)
theorem pk_199_0 : (List.range 67).all (fun j => pt_chk 199 (0 + j)) = true := by decide +kernel
theorem pkm_199 (pc : Nat) (h : pc < 67) : pt_chk 199 pc = true := by
  exact pk_use pk_199_0 (by omega) (by omega)
theorem pk_200_0 : (List.range 53).all (fun j => pt_chk 200 (0 + j)) = true := by decide +kernel
theorem pkm_200 (pc : Nat) (h : pc < 53) : pt_chk 200 pc = true := by
  exact pk_use pk_200_0 (by omega) (by omega)
theorem pk_201_0 : (List.range 45).all (fun j => pt_chk 201 (0 + j)) = true := by decide +kernel
theorem pkm_201 (pc : Nat) (h : pc < 45) : pt_chk 201 pc = true := by
  exact pk_use pk_201_0 (by omega) (by omega)
theorem pk_202_0 : (List.range 43).all (fun j => pt_chk 202 (0 + j)) = true := by decide +kernel
theorem pkm_202 (pc : Nat) (h : pc < 43) : pt_chk 202 pc = true := by
  exact pk_use pk_202_0 (by omega) (by omega)
theorem pk_203_0 : (List.range 80).all (fun j => pt_chk 203 (0 + j)) = true := by decide +kernel
theorem pk_203_1 : (List.range 26).all (fun j => pt_chk 203 (80 + j)) = true := by decide +kernel
theorem pkm_203 (pc : Nat) (h : pc < 106) : pt_chk 203 pc = true := by
  by_cases h0 : pc < 80
  · exact pk_use pk_203_0 (by omega) (by omega)
  exact pk_use pk_203_1 (by omega) (by omega)
theorem pk_204_0 : (List.range 58).all (fun j => pt_chk 204 (0 + j)) = true := by decide +kernel
theorem pkm_204 (pc : Nat) (h : pc < 58) : pt_chk 204 pc = true := by
  exact pk_use pk_204_0 (by omega) (by omega)
theorem pk_205_0 : (List.range 57).all (fun j => pt_chk 205 (0 + j)) = true := by decide +kernel
theorem pkm_205 (pc : Nat) (h : pc < 57) : pt_chk 205 pc = true := by
  exact pk_use pk_205_0 (by omega) (by omega)
theorem pk_206_0 : (List.range 28).all (fun j => pt_chk 206 (0 + j)) = true := by decide +kernel
theorem pkm_206 (pc : Nat) (h : pc < 28) : pt_chk 206 pc = true := by
  exact pk_use pk_206_0 (by omega) (by omega)
theorem pk_207_0 : (List.range 65).all (fun j => pt_chk 207 (0 + j)) = true := by decide +kernel
theorem pkm_207 (pc : Nat) (h : pc < 65) : pt_chk 207 pc = true := by
  exact pk_use pk_207_0 (by omega) (by omega)
theorem pk_208_0 : (List.range 80).all (fun j => pt_chk 208 (0 + j)) = true := by decide +kernel
theorem pk_208_1 : (List.range 10).all (fun j => pt_chk 208 (80 + j)) = true := by decide +kernel
theorem pkm_208 (pc : Nat) (h : pc < 90) : pt_chk 208 pc = true := by
  by_cases h0 : pc < 80
  · exact pk_use pk_208_0 (by omega) (by omega)
  exact pk_use pk_208_1 (by omega) (by omega)
theorem pk_209_0 : (List.range 80).all (fun j => pt_chk 209 (0 + j)) = true := by decide +kernel
theorem pk_209_1 : (List.range 80).all (fun j => pt_chk 209 (80 + j)) = true := by decide +kernel
theorem pk_209_2 : (List.range 80).all (fun j => pt_chk 209 (160 + j)) = true := by decide +kernel
theorem pk_209_3 : (List.range 65).all (fun j => pt_chk 209 (240 + j)) = true := by decide +kernel
theorem pkm_209 (pc : Nat) (h : pc < 305) : pt_chk 209 pc = true := by
  by_cases h0 : pc < 80
  · exact pk_use pk_209_0 (by omega) (by omega)
  by_cases h1 : pc < 160
  · exact pk_use pk_209_1 (by omega) (by omega)
  by_cases h2 : pc < 240
  · exact pk_use pk_209_2 (by omega) (by omega)
  exact pk_use pk_209_3 (by omega) (by omega)
theorem pk_210_0 : (List.range 80).all (fun j => pt_chk 210 (0 + j)) = true := by decide +kernel
theorem pk_210_1 : (List.range 80).all (fun j => pt_chk 210 (80 + j)) = true := by decide +kernel
theorem pk_210_2 : (List.range 80).all (fun j => pt_chk 210 (160 + j)) = true := by decide +kernel
theorem pk_210_3 : (List.range 28).all (fun j => pt_chk 210 (240 + j)) = true := by decide +kernel
theorem pkm_210 (pc : Nat) (h : pc < 268) : pt_chk 210 pc = true := by
  by_cases h0 : pc < 80
  · exact pk_use pk_210_0 (by omega) (by omega)
  by_cases h1 : pc < 160
  · exact pk_use pk_210_1 (by omega) (by omega)
  by_cases h2 : pc < 240
  · exact pk_use pk_210_2 (by omega) (by omega)
  exact pk_use pk_210_3 (by omega) (by omega)
theorem pk_211_0 : (List.range 80).all (fun j => pt_chk 211 (0 + j)) = true := by decide +kernel
theorem pk_211_1 : (List.range 80).all (fun j => pt_chk 211 (80 + j)) = true := by decide +kernel
theorem pk_211_2 : (List.range 19).all (fun j => pt_chk 211 (160 + j)) = true := by decide +kernel
theorem pkm_211 (pc : Nat) (h : pc < 179) : pt_chk 211 pc = true := by
  by_cases h0 : pc < 80
  · exact pk_use pk_211_0 (by omega) (by omega)
  by_cases h1 : pc < 160
  · exact pk_use pk_211_1 (by omega) (by omega)
  exact pk_use pk_211_2 (by omega) (by omega)
theorem pk_212_0 : (List.range 38).all (fun j => pt_chk 212 (0 + j)) = true := by decide +kernel
theorem pkm_212 (pc : Nat) (h : pc < 38) : pt_chk 212 pc = true := by
  exact pk_use pk_212_0 (by omega) (by omega)
theorem pk_213_0 : (List.range 80).all (fun j => pt_chk 213 (0 + j)) = true := by decide +kernel
theorem pk_213_1 : (List.range 62).all (fun j => pt_chk 213 (80 + j)) = true := by decide +kernel
theorem pkm_213 (pc : Nat) (h : pc < 142) : pt_chk 213 pc = true := by
  by_cases h0 : pc < 80
  · exact pk_use pk_213_0 (by omega) (by omega)
  exact pk_use pk_213_1 (by omega) (by omega)
theorem pk_214_0 : (List.range 80).all (fun j => pt_chk 214 (0 + j)) = true := by decide +kernel
theorem pk_214_1 : (List.range 79).all (fun j => pt_chk 214 (80 + j)) = true := by decide +kernel
theorem pkm_214 (pc : Nat) (h : pc < 159) : pt_chk 214 pc = true := by
  by_cases h0 : pc < 80
  · exact pk_use pk_214_0 (by omega) (by omega)
  exact pk_use pk_214_1 (by omega) (by omega)
theorem pk_215_0 : (List.range 70).all (fun j => pt_chk 215 (0 + j)) = true := by decide +kernel
theorem pkm_215 (pc : Nat) (h : pc < 70) : pt_chk 215 pc = true := by
  exact pk_use pk_215_0 (by omega) (by omega)
theorem pk_216_0 : (List.range 66).all (fun j => pt_chk 216 (0 + j)) = true := by decide +kernel
theorem pkm_216 (pc : Nat) (h : pc < 66) : pt_chk 216 pc = true := by
  exact pk_use pk_216_0 (by omega) (by omega)
theorem pk_217_0 : (List.range 43).all (fun j => pt_chk 217 (0 + j)) = true := by decide +kernel
theorem pkm_217 (pc : Nat) (h : pc < 43) : pt_chk 217 pc = true := by
  exact pk_use pk_217_0 (by omega) (by omega)
theorem pk_218_0 : (List.range 80).all (fun j => pt_chk 218 (0 + j)) = true := by decide +kernel
theorem pk_218_1 : (List.range 80).all (fun j => pt_chk 218 (80 + j)) = true := by decide +kernel
theorem pk_218_2 : (List.range 48).all (fun j => pt_chk 218 (160 + j)) = true := by decide +kernel
theorem pkm_218 (pc : Nat) (h : pc < 208) : pt_chk 218 pc = true := by
  by_cases h0 : pc < 80
  · exact pk_use pk_218_0 (by omega) (by omega)
  by_cases h1 : pc < 160
  · exact pk_use pk_218_1 (by omega) (by omega)
  exact pk_use pk_218_2 (by omega) (by omega)
theorem pk_219_0 : (List.range 80).all (fun j => pt_chk 219 (0 + j)) = true := by decide +kernel
theorem pk_219_1 : (List.range 80).all (fun j => pt_chk 219 (80 + j)) = true := by decide +kernel
theorem pk_219_2 : (List.range 15).all (fun j => pt_chk 219 (160 + j)) = true := by decide +kernel
theorem pkm_219 (pc : Nat) (h : pc < 175) : pt_chk 219 pc = true := by
  by_cases h0 : pc < 80
  · exact pk_use pk_219_0 (by omega) (by omega)
  by_cases h1 : pc < 160
  · exact pk_use pk_219_1 (by omega) (by omega)
  exact pk_use pk_219_2 (by omega) (by omega)
theorem pk_220_0 : (List.range 61).all (fun j => pt_chk 220 (0 + j)) = true := by decide +kernel
theorem pkm_220 (pc : Nat) (h : pc < 61) : pt_chk 220 pc = true := by
  exact pk_use pk_220_0 (by omega) (by omega)
theorem pk_221_0 : (List.range 32).all (fun j => pt_chk 221 (0 + j)) = true := by decide +kernel
theorem pkm_221 (pc : Nat) (h : pc < 32) : pt_chk 221 pc = true := by
  exact pk_use pk_221_0 (by omega) (by omega)
theorem pk_222_0 : (List.range 21).all (fun j => pt_chk 222 (0 + j)) = true := by decide +kernel
theorem pkm_222 (pc : Nat) (h : pc < 21) : pt_chk 222 pc = true := by
  exact pk_use pk_222_0 (by omega) (by omega)
theorem pk_223_0 : (List.range 70).all (fun j => pt_chk 223 (0 + j)) = true := by decide +kernel
theorem pkm_223 (pc : Nat) (h : pc < 70) : pt_chk 223 pc = true := by
  exact pk_use pk_223_0 (by omega) (by omega)
theorem pk_224_0 : (List.range 38).all (fun j => pt_chk 224 (0 + j)) = true := by decide +kernel
theorem pkm_224 (pc : Nat) (h : pc < 38) : pt_chk 224 pc = true := by
  exact pk_use pk_224_0 (by omega) (by omega)
theorem pk_225_0 : (List.range 80).all (fun j => pt_chk 225 (0 + j)) = true := by decide +kernel
theorem pk_225_1 : (List.range 78).all (fun j => pt_chk 225 (80 + j)) = true := by decide +kernel
theorem pkm_225 (pc : Nat) (h : pc < 158) : pt_chk 225 pc = true := by
  by_cases h0 : pc < 80
  · exact pk_use pk_225_0 (by omega) (by omega)
  exact pk_use pk_225_1 (by omega) (by omega)
theorem pk_226_0 : (List.range 52).all (fun j => pt_chk 226 (0 + j)) = true := by decide +kernel
theorem pkm_226 (pc : Nat) (h : pc < 52) : pt_chk 226 pc = true := by
  exact pk_use pk_226_0 (by omega) (by omega)
