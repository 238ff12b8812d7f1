noncomputable def pt_hr (y : Nat) : List (Nat × Nat × Nat × Nat) := (bif Nat.blt y 307 then (bif Nat.blt y 302 then (bif Nat.blt y 300 then (bif Nat.blt y 299 then (bif Nat.beq y 298 then [(0, 11, 14, 13), (0, 11, 18, 15)] else []) else (bif Nat.beq y 299 then [(0, 9, 12, 13), (0, 9, 15, 21), (0, 9, 18, 15)] else [])) else (bif Nat.blt y 301 then (bif Nat.beq y 300 then [(0, 11, 14, 13), (0, 11, 18, 15)] else []) else (bif Nat.beq y 301 then [(0, 9, 12, 13), (0, 9, 15, 15)] else []))) else (bif Nat.blt y 304 then (bif Nat.blt y 303 then (bif Nat.beq y 302 then [(0, 4, 7, 13)] else []) else (bif Nat.beq y 303 then [(0, 6, 9, 13)] else [])) else (bif Nat.blt y 305 then (bif Nat.beq y 304 then [(0, 9, 12, 13), (0, 9, 15, 21), (0, 9, 18, 15)] else []) else (bif Nat.blt y 306 then (bif Nat.beq y 305 then [(0, 5, 8, 43)] else []) else (bif Nat.beq y 306 then [(0, 8, 11, 43), (0, 8, 15, 13), (0, 8, 19, 15)] else []))))) else (bif Nat.blt y 312 then (bif Nat.blt y 309 then (bif Nat.blt y 308 then (bif Nat.beq y 307 then [(0, 6, 9, 43), (0, 6, 13, 13)] else []) else (bif Nat.beq y 308 then [(0, 8, 11, 43), (0, 8, 15, 13), (0, 8, 19, 15)] else [])) else (bif Nat.blt y 310 then (bif Nat.beq y 309 then [(0, 7, 10, 43)] else []) else (bif Nat.blt y 311 then (bif Nat.beq y 310 then [(0, 8, 11, 13)] else []) else (bif Nat.beq y 311 then [(0, 10, 13, 13)] else [])))) else (bif Nat.blt y 314 then (bif Nat.blt y 313 then (bif Nat.beq y 312 then [(0, 8, 11, 43)] else []) else (bif Nat.beq y 313 then [(0, 10, 13, 13)] else [])) else (bif Nat.blt y 315 then (bif Nat.beq y 314 then [(0, 12, 15, 13)] else []) else (bif Nat.blt y 316 then (bif Nat.beq y 315 then [(0, 11, 14, 13), (0, 11, 18, 43)] else []) else (bif Nat.beq y 316 then [(0, 13, 16, 13), (0, 13, 20, 43)] else []))))))
def pt_zN : Nat := 317
/-- the word on a method's code -/
noncomputable def pt_cw (y : Nat) : Cond := match pt_hr y with
  | [] => .code (pt_yn y) (pt_by y) (pt_nL y) (pt_rt y)
  | hh => .codeWith (pt_yn y) (pt_by y) (pt_nL y) (pt_rt y) hh
set_option maxRecDepth 20000 in
theorem pq_0 : pt_wd (pt_op 0) = some (pt_cw 0) := rfl
set_option maxRecDepth 20000 in
theorem pq_1 : pt_wd (pt_op 1) = some (pt_cw 1) := rfl
set_option maxRecDepth 20000 in
theorem pq_2 : pt_wd (pt_op 2) = some (pt_cw 2) := rfl
set_option maxRecDepth 20000 in
theorem pq_3 : pt_wd (pt_op 3) = some (pt_cw 3) := rfl
set_option maxRecDepth 20000 in
theorem pq_4 : pt_wd (pt_op 4) = some (pt_cw 4) := rfl
set_option maxRecDepth 20000 in
theorem pq_5 : pt_wd (pt_op 5) = some (pt_cw 5) := rfl
set_option maxRecDepth 20000 in
theorem pq_6 : pt_wd (pt_op 6) = some (pt_cw 6) := rfl
set_option maxRecDepth 20000 in
theorem pq_7 : pt_wd (pt_op 7) = some (pt_cw 7) := rfl
set_option maxRecDepth 20000 in
theorem pq_8 : pt_wd (pt_op 8) = some (pt_cw 8) := rfl
set_option maxRecDepth 20000 in
theorem pq_9 : pt_wd (pt_op 9) = some (pt_cw 9) := rfl
set_option maxRecDepth 20000 in
theorem pq_10 : pt_wd (pt_op 10) = some (pt_cw 10) := rfl
set_option maxRecDepth 20000 in
theorem pq_11 : pt_wd (pt_op 11) = some (pt_cw 11) := rfl
set_option maxRecDepth 20000 in
theorem pq_12 : pt_wd (pt_op 12) = some (pt_cw 12) := rfl
set_option maxRecDepth 20000 in
theorem pq_13 : pt_wd (pt_op 13) = some (pt_cw 13) := rfl
set_option maxRecDepth 20000 in
theorem pq_14 : pt_wd (pt_op 14) = some (pt_cw 14) := rfl
set_option maxRecDepth 20000 in
theorem pq_15 : pt_wd (pt_op 15) = some (pt_cw 15) := rfl
set_option maxRecDepth 20000 in
theorem pq_16 : pt_wd (pt_op 16) = some (pt_cw 16) := rfl
set_option maxRecDepth 20000 in
theorem pq_17 : pt_wd (pt_op 17) = some (pt_cw 17) := rfl
set_option maxRecDepth 20000 in
theorem pq_18 : pt_wd (pt_op 18) = some (pt_cw 18) := rfl
set_option maxRecDepth 20000 in
theorem pq_19 : pt_wd (pt_op 19) = some (pt_cw 19) := rfl
set_option maxRecDepth 20000 in
theorem pq_20 : pt_wd (pt_op 20) = some (pt_cw 20) := rfl
set_option maxRecDepth 20000 in
theorem pq_21 : pt_wd (pt_op 21) = some (pt_cw 21) := rfl
set_option maxRecDepth 20000 in
theorem pq_22 : pt_wd (pt_op 22) = some (pt_cw 22) := rfl
set_option maxRecDepth 20000 in
theorem pq_23 : pt_wd (pt_op 23) = some (pt_cw 23) := rfl
set_option maxRecDepth 20000 in
theorem pq_24 : pt_wd (pt_op 24) = some (pt_cw 24) := rfl
set_option maxRecDepth 20000 in
theorem pq_25 : pt_wd (pt_op 25) = some (pt_cw 25) := rfl
set_option maxRecDepth 20000 in
theorem pq_26 : pt_wd (pt_op 26) = some (pt_cw 26) := rfl
set_option maxRecDepth 20000 in
theorem pq_27 : pt_wd (pt_op 27) = some (pt_cw 27) := rfl
set_option maxRecDepth 20000 in
theorem pq_28 : pt_wd (pt_op 28) = some (pt_cw 28) := rfl
set_option maxRecDepth 20000 in
theorem pq_29 : pt_wd (pt_op 29) = some (pt_cw 29) := rfl
set_option maxRecDepth 20000 in
theorem pq_30 : pt_wd (pt_op 30) = some (pt_cw 30) := rfl
set_option maxRecDepth 20000 in
theorem pq_31 : pt_wd (pt_op 31) = some (pt_cw 31) := rfl
set_option maxRecDepth 20000 in
theorem pq_32 : pt_wd (pt_op 32) = some (pt_cw 32) := rfl
set_option maxRecDepth 20000 in
theorem pq_33 : pt_wd (pt_op 33) = some (pt_cw 33) := rfl
set_option maxRecDepth 20000 in
theorem pq_34 : pt_wd (pt_op 34) = some (pt_cw 34) := rfl
set_option maxRecDepth 20000 in
theorem pq_35 : pt_wd (pt_op 35) = some (pt_cw 35) := rfl
set_option maxRecDepth 20000 in
theorem pq_36 : pt_wd (pt_op 36) = some (pt_cw 36) := rfl
set_option maxRecDepth 20000 in
theorem pq_37 : pt_wd (pt_op 37) = some (pt_cw 37) := rfl
set_option maxRecDepth 20000 in
theorem pq_38 : pt_wd (pt_op 38) = some (pt_cw 38) := rfl
set_option maxRecDepth 20000 in
theorem pq_39 : pt_wd (pt_op 39) = some (pt_cw 39) := rfl
set_option maxRecDepth 20000 in
theorem pq_40 : pt_wd (pt_op 40) = some (pt_cw 40) := rfl
set_option maxRecDepth 20000 in
theorem pq_41 : pt_wd (pt_op 41) = some (pt_cw 41) := rfl
set_option maxRecDepth 20000 in
theorem pq_42 : pt_wd (pt_op 42) = some (pt_cw 42) := rfl
set_option maxRecDepth 20000 in
theorem pq_43 : pt_wd (pt_op 43) = some (pt_cw 43) := rfl
set_option maxRecDepth 20000 in
theorem pq_44 : pt_wd (pt_op 44) = some (pt_cw 44) := rfl
set_option maxRecDepth 20000 in
theorem pq_45 : pt_wd (pt_op 45) = some (pt_cw 45) := rfl
set_option maxRecDepth 20000 in
theorem pq_46 : pt_wd (pt_op 46) = some (pt_cw 46) := rfl
set_option maxRecDepth 20000 in
theorem pq_47 : pt_wd (pt_op 47) = some (pt_cw 47) := rfl
set_option maxRecDepth 20000 in
theorem pq_48 : pt_wd (pt_op 48) = some (pt_cw 48) := rfl
set_option maxRecDepth 20000 in
theorem pq_49 : pt_wd (pt_op 49) = some (pt_cw 49) := rfl
set_option maxRecDepth 20000 in
theorem pq_50 : pt_wd (pt_op 50) = some (pt_cw 50) := rfl
set_option maxRecDepth 20000 in
theorem pq_51 : pt_wd (pt_op 51) = some (pt_cw 51) := rfl
set_option maxRecDepth 20000 in
theorem pq_52 : pt_wd (pt_op 52) = some (pt_cw 52) := rfl
set_option maxRecDepth 20000 in
theorem pq_53 : pt_wd (pt_op 53) = some (pt_cw 53) := rfl
set_option maxRecDepth 20000 in
theorem pq_54 : pt_wd (pt_op 54) = some (pt_cw 54) := rfl
set_option maxRecDepth 20000 in
theorem pq_55 : pt_wd (pt_op 55) = some (pt_cw 55) := rfl
set_option maxRecDepth 20000 in
theorem pq_56 : pt_wd (pt_op 56) = some (pt_cw 56) := rfl
set_option maxRecDepth 20000 in
theorem pq_57 : pt_wd (pt_op 57) = some (pt_cw 57) := rfl
set_option maxRecDepth 20000 in
theorem pq_58 : pt_wd (pt_op 58) = some (pt_cw 58) := rfl
set_option maxRecDepth 20000 in
theorem pq_59 : pt_wd (pt_op 59) = some (pt_cw 59) := rfl
set_option maxRecDepth 20000 in
theorem pq_60 : pt_wd (pt_op 60) = some (pt_cw 60) := rfl
set_option maxRecDepth 20000 in
theorem pq_61 : pt_wd (pt_op 61) = some (pt_cw 61) := rfl
set_option maxRecDepth 20000 in
theorem pq_62 : pt_wd (pt_op 62) = some (pt_cw 62) := rfl
set_option maxRecDepth 20000 in
theorem pq_63 : pt_wd (pt_op 63) = some (pt_cw 63) := rfl
set_option maxRecDepth 20000 in
theorem pq_64 : pt_wd (pt_op 64) = some (pt_cw 64) := rfl
set_option maxRecDepth 20000 in
theorem pq_65 : pt_wd (pt_op 65) = some (pt_cw 65) := rfl
set_option maxRecDepth 20000 in
theorem pq_66 : pt_wd (pt_op 66) = some (pt_cw 66) := rfl
set_option maxRecDepth 20000 in
theorem pq_67 : pt_wd (pt_op 67) = some (pt_cw 67) := rfl
set_option maxRecDepth 20000 in
theorem pq_68 : pt_wd (pt_op 68) = some (pt_cw 68) := rfl
set_option maxRecDepth 20000 in
theorem pq_69 : pt_wd (pt_op 69) = some (pt_cw 69) := rfl
set_option maxRecDepth 20000 in
theorem pq_70 : pt_wd (pt_op 70) = some (pt_cw 70) := rfl
set_option maxRecDepth 20000 in
theorem pq_71 : pt_wd (pt_op 71) = some (pt_cw 71) := rfl
set_option maxRecDepth 20000 in
theorem pq_72 : pt_wd (pt_op 72) = some (pt_cw 72) := rfl
set_option maxRecDepth 20000 in
theorem pq_73 : pt_wd (pt_op 73) = some (pt_cw 73) := rfl
set_option maxRecDepth 20000 in
theorem pq_74 : pt_wd (pt_op 74) = some (pt_cw 74) := rfl
set_option maxRecDepth 20000 in
theorem pq_75 : pt_wd (pt_op 75) = some (pt_cw 75) := rfl
set_option maxRecDepth 20000 in
theorem pq_76 : pt_wd (pt_op 76) = some (pt_cw 76) := rfl
set_option maxRecDepth 20000 in
theorem pq_77 : pt_wd (pt_op 77) = some (pt_cw 77) := rfl
set_option maxRecDepth 20000 in
theorem pq_78 : pt_wd (pt_op 78) = some (pt_cw 78) := rfl
set_option maxRecDepth 20000 in
theorem pq_79 : pt_wd (pt_op 79) = some (pt_cw 79) := rfl
set_option maxRecDepth 20000 in
theorem pq_80 : pt_wd (pt_op 80) = some (pt_cw 80) := rfl
set_option maxRecDepth 20000 in
theorem pq_81 : pt_wd (pt_op 81) = some (pt_cw 81) := rfl
set_option maxRecDepth 20000 in
theorem pq_82 : pt_wd (pt_op 82) = some (pt_cw 82) := rfl
set_option maxRecDepth 20000 in
theorem pq_83 : pt_wd (pt_op 83) = some (pt_cw 83) := rfl
set_option maxRecDepth 20000 in
theorem pq_84 : pt_wd (pt_op 84) = some (pt_cw 84) := rfl
set_option maxRecDepth 20000 in
theorem pq_85 : pt_wd (pt_op 85) = some (pt_cw 85) := rfl
set_option maxRecDepth 20000 in
theorem pq_86 : pt_wd (pt_op 86) = some (pt_cw 86) := rfl
set_option maxRecDepth 20000 in
theorem pq_87 : pt_wd (pt_op 87) = some (pt_cw 87) := rfl
set_option maxRecDepth 20000 in
theorem pq_88 : pt_wd (pt_op 88) = some (pt_cw 88) := rfl
set_option maxRecDepth 20000 in
theorem pq_89 : pt_wd (pt_op 89) = some (pt_cw 89) := rfl
set_option maxRecDepth 20000 in
theorem pq_90 : pt_wd (pt_op 90) = some (pt_cw 90) := rfl
set_option maxRecDepth 20000 in
theorem pq_91 : pt_wd (pt_op 91) = some (pt_cw 91) := rfl
set_option maxRecDepth 20000 in
theorem pq_92 : pt_wd (pt_op 92) = some (pt_cw 92) := rfl
set_option maxRecDepth 20000 in
theorem pq_93 : pt_wd (pt_op 93) = some (pt_cw 93) := rfl
set_option maxRecDepth 20000 in
theorem pq_94 : pt_wd (pt_op 94) = some (pt_cw 94) := rfl
set_option maxRecDepth 20000 in
theorem pq_95 : pt_wd (pt_op 95) = some (pt_cw 95) := rfl
set_option maxRecDepth 20000 in
theorem pq_96 : pt_wd (pt_op 96) = some (pt_cw 96) := rfl
set_option maxRecDepth 20000 in
theorem pq_97 : pt_wd (pt_op 97) = some (pt_cw 97) := rfl
set_option maxRecDepth 20000 in
theorem pq_98 : pt_wd (pt_op 98) = some (pt_cw 98) := rfl
set_option maxRecDepth 20000 in
theorem pq_99 : pt_wd (pt_op 99) = some (pt_cw 99) := rfl
set_option maxRecDepth 20000 in
theorem pq_100 : pt_wd (pt_op 100) = some (pt_cw 100) := rfl
set_option maxRecDepth 20000 in
theorem pq_101 : pt_wd (pt_op 101) = some (pt_cw 101) := rfl
set_option maxRecDepth 20000 in
theorem pq_102 : pt_wd (pt_op 102) = some (pt_cw 102) := rfl
set_option maxRecDepth 20000 in
theorem pq_103 : pt_wd (pt_op 103) = some (pt_cw 103) := rfl
set_option maxRecDepth 20000 in
theorem pq_104 : pt_wd (pt_op 104) = some (pt_cw 104) := rfl
set_option maxRecDepth 20000 in
theorem pq_105 : pt_wd (pt_op 105) = some (pt_cw 105) := rfl
set_option maxRecDepth 20000 in
theorem pq_106 : pt_wd (pt_op 106) = some (pt_cw 106) := rfl
set_option maxRecDepth 20000 in
theorem pq_107 : pt_wd (pt_op 107) = some (pt_cw 107) := rfl
set_option maxRecDepth 20000 in
theorem pq_108 : pt_wd (pt_op 108) = some (pt_cw 108) := rfl
set_option maxRecDepth 20000 in
theorem pq_109 : pt_wd (pt_op 109) = some (pt_cw 109) := rfl
set_option maxRecDepth 20000 in
theorem pq_110 : pt_wd (pt_op 110) = some (pt_cw 110) := rfl
set_option maxRecDepth 20000 in
theorem pq_111 : pt_wd (pt_op 111) = some (pt_cw 111) := rfl
set_option maxRecDepth 20000 in
theorem pq_112 : pt_wd (pt_op 112) = some (pt_cw 112) := rfl
set_option maxRecDepth 20000 in
theorem pq_113 : pt_wd (pt_op 113) = some (pt_cw 113) := rfl
set_option maxRecDepth 20000 in
theorem pq_114 : pt_wd (pt_op 114) = some (pt_cw 114) := rfl
set_option maxRecDepth 20000 in
theorem pq_115 : pt_wd (pt_op 115) = some (pt_cw 115) := rfl
set_option maxRecDepth 20000 in
theorem pq_116 : pt_wd (pt_op 116) = some (pt_cw 116) := rfl
set_option maxRecDepth 20000 in
theorem pq_117 : pt_wd (pt_op 117) = some (pt_cw 117) := rfl
set_option maxRecDepth 20000 in
theorem pq_118 : pt_wd (pt_op 118) = some (pt_cw 118) := rfl
set_option maxRecDepth 20000 in
theorem pq_119 : pt_wd (pt_op 119) = some (pt_cw 119) := rfl
set_option maxRecDepth 20000 in
theorem pq_120 : pt_wd (pt_op 120) = some (pt_cw 120) := rfl
set_option maxRecDepth 20000 in
theorem pq_121 : pt_wd (pt_op 121) = some (pt_cw 121) := rfl
set_option maxRecDepth 20000 in
theorem pq_122 : pt_wd (pt_op 122) = some (pt_cw 122) := rfl
set_option maxRecDepth 20000 in
theorem pq_123 : pt_wd (pt_op 123) = some (pt_cw 123) := rfl
set_option maxRecDepth 20000 in
theorem pq_124 : pt_wd (pt_op 124) = some (pt_cw 124) := rfl
set_option maxRecDepth 20000 in
theorem pq_125 : pt_wd (pt_op 125) = some (pt_cw 125) := rfl
set_option maxRecDepth 20000 in
theorem pq_126 : pt_wd (pt_op 126) = some (pt_cw 126) := rfl
set_option maxRecDepth 20000 in
theorem pq_127 : pt_wd (pt_op 127) = some (pt_cw 127) := rfl
set_option maxRecDepth 20000 in
theorem pq_128 : pt_wd (pt_op 128) = some (pt_cw 128) := rfl
set_option maxRecDepth 20000 in
theorem pq_129 : pt_wd (pt_op 129) = some (pt_cw 129) := rfl
set_option maxRecDepth 20000 in
theorem pq_130 : pt_wd (pt_op 130) = some (pt_cw 130) := rfl
set_option maxRecDepth 20000 in
theorem pq_131 : pt_wd (pt_op 131) = some (pt_cw 131) := rfl
set_option maxRecDepth 20000 in
theorem pq_132 : pt_wd (pt_op 132) = some (pt_cw 132) := rfl
set_option maxRecDepth 20000 in
theorem pq_133 : pt_wd (pt_op 133) = some (pt_cw 133) := rfl
set_option maxRecDepth 20000 in
theorem pq_134 : pt_wd (pt_op 134) = some (pt_cw 134) := rfl
set_option maxRecDepth 20000 in
theorem pq_135 : pt_wd (pt_op 135) = some (pt_cw 135) := rfl
set_option maxRecDepth 20000 in
theorem pq_136 : pt_wd (pt_op 136) = some (pt_cw 136) := rfl
set_option maxRecDepth 20000 in
theorem pq_137 : pt_wd (pt_op 137) = some (pt_cw 137) := rfl
set_option maxRecDepth 20000 in
theorem pq_138 : pt_wd (pt_op 138) = some (pt_cw 138) := rfl
set_option maxRecDepth 20000 in
theorem pq_139 : pt_wd (pt_op 139) = some (pt_cw 139) := rfl
set_option maxRecDepth 20000 in
theorem pq_140 : pt_wd (pt_op 140) = some (pt_cw 140) := rfl
set_option maxRecDepth 20000 in
theorem pq_141 : pt_wd (pt_op 141) = some (pt_cw 141) := rfl
set_option maxRecDepth 20000 in
theorem pq_142 : pt_wd (pt_op 142) = some (pt_cw 142) := rfl
set_option maxRecDepth 20000 in
theorem pq_143 : pt_wd (pt_op 143) = some (pt_cw 143) := rfl
set_option maxRecDepth 20000 in
theorem pq_144 : pt_wd (pt_op 144) = some (pt_cw 144) := rfl
set_option maxRecDepth 20000 in
theorem pq_145 : pt_wd (pt_op 145) = some (pt_cw 145) := rfl
set_option maxRecDepth 20000 in
theorem pq_146 : pt_wd (pt_op 146) = some (pt_cw 146) := rfl
set_option maxRecDepth 20000 in
theorem pq_147 : pt_wd (pt_op 147) = some (pt_cw 147) := rfl
set_option maxRecDepth 20000 in
theorem pq_148 : pt_wd (pt_op 148) = some (pt_cw 148) := rfl
set_option maxRecDepth 20000 in
theorem pq_149 : pt_wd (pt_op 149) = some (pt_cw 149) := rfl
set_option maxRecDepth 20000 in
theorem pq_150 : pt_wd (pt_op 150) = some (pt_cw 150) := rfl
set_option maxRecDepth 20000 in
theorem pq_151 : pt_wd (pt_op 151) = some (pt_cw 151) := rfl
set_option maxRecDepth 20000 in
theorem pq_152 : pt_wd (pt_op 152) = some (pt_cw 152) := rfl
set_option maxRecDepth 20000 in
theorem pq_153 : pt_wd (pt_op 153) = some (pt_cw 153) := rfl
set_option maxRecDepth 20000 in
theorem pq_154 : pt_wd (pt_op 154) = some (pt_cw 154) := rfl
set_option maxRecDepth 20000 in
theorem pq_155 : pt_wd (pt_op 155) = some (pt_cw 155) := rfl
set_option maxRecDepth 20000 in
theorem pq_156 : pt_wd (pt_op 156) = some (pt_cw 156) := rfl
set_option maxRecDepth 20000 in
theorem pq_157 : pt_wd (pt_op 157) = some (pt_cw 157) := rfl
set_option maxRecDepth 20000 in
theorem pq_158 : pt_wd (pt_op 158) = some (pt_cw 158) := rfl
set_option maxRecDepth 20000 in
theorem pq_159 : pt_wd (pt_op 159) = some (pt_cw 159) := rfl
set_option maxRecDepth 20000 in
theorem pq_160 : pt_wd (pt_op 160) = some (pt_cw 160) := rfl
set_option maxRecDepth 20000 in
theorem pq_161 : pt_wd (pt_op 161) = some (pt_cw 161) := rfl
set_option maxRecDepth 20000 in
theorem pq_162 : pt_wd (pt_op 162) = some (pt_cw 162) := rfl
set_option maxRecDepth 20000 in
theorem pq_163 : pt_wd (pt_op 163) = some (pt_cw 163) := rfl
set_option maxRecDepth 20000 in
theorem pq_164 : pt_wd (pt_op 164) = some (pt_cw 164) := rfl
set_option maxRecDepth 20000 in
theorem pq_165 : pt_wd (pt_op 165) = some (pt_cw 165) := rfl
set_option maxRecDepth 20000 in
theorem pq_166 : pt_wd (pt_op 166) = some (pt_cw 166) := rfl
set_option maxRecDepth 20000 in
theorem pq_167 : pt_wd (pt_op 167) = some (pt_cw 167) := rfl
set_option maxRecDepth 20000 in
theorem pq_168 : pt_wd (pt_op 168) = some (pt_cw 168) := rfl
set_option maxRecDepth 20000 in
theorem pq_169 : pt_wd (pt_op 169) = some (pt_cw 169) := rfl
set_option maxRecDepth 20000 in
theorem pq_170 : pt_wd (pt_op 170) = some (pt_cw 170) := rfl
set_option maxRecDepth 20000 in
theorem pq_171 : pt_wd (pt_op 171) = some (pt_cw 171) := rfl
set_option maxRecDepth 20000 in
theorem pq_172 : pt_wd (pt_op 172) = some (pt_cw 172) := rfl
set_option maxRecDepth 20000 in
theorem pq_173 : pt_wd (pt_op 173) = some (pt_cw 173) := rfl
set_option maxRecDepth 20000 in
theorem pq_174 : pt_wd (pt_op 174) = some (pt_cw 174) := rfl
set_option maxRecDepth 20000 in
theorem pq_175 : pt_wd (pt_op 175) = some (pt_cw 175) := rfl
set_option maxRecDepth 20000 in
theorem pq_176 : pt_wd (pt_op 176) = some (pt_cw 176) := rfl
set_option maxRecDepth 20000 in
theorem pq_177 : pt_wd (pt_op 177) = some (pt_cw 177) := rfl
set_option maxRecDepth 20000 in
theorem pq_178 : pt_wd (pt_op 178) = some (pt_cw 178) := rfl
set_option maxRecDepth 20000 in
theorem pq_179 : pt_wd (pt_op 179) = some (pt_cw 179) := rfl
set_option maxRecDepth 20000 in
theorem pq_180 : pt_wd (pt_op 180) = some (pt_cw 180) := rfl
set_option maxRecDepth 20000 in
theorem pq_181 : pt_wd (pt_op 181) = some (pt_cw 181) := rfl
set_option maxRecDepth 20000 in
theorem pq_182 : pt_wd (pt_op 182) = some (pt_cw 182) := rfl
set_option maxRecDepth 20000 in
theorem pq_183 : pt_wd (pt_op 183) = some (pt_cw 183) := rfl
set_option maxRecDepth 20000 in
theorem pq_184 : pt_wd (pt_op 184) = some (pt_cw 184) := rfl
set_option maxRecDepth 20000 in
theorem pq_185 : pt_wd (pt_op 185) = some (pt_cw 185) := rfl
set_option maxRecDepth 20000 in
theorem pq_186 : pt_wd (pt_op 186) = some (pt_cw 186) := rfl
set_option maxRecDepth 20000 in
theorem pq_187 : pt_wd (pt_op 187) = some (pt_cw 187) := rfl
set_option maxRecDepth 20000 in
theorem pq_188 : pt_wd (pt_op 188) = some (pt_cw 188) := rfl
set_option maxRecDepth 20000 in
theorem pq_189 : pt_wd (pt_op 189) = some (pt_cw 189) := rfl
set_option maxRecDepth 20000 in
theorem pq_190 : pt_wd (pt_op 190) = some (pt_cw 190) := rfl
set_option maxRecDepth 20000 in
theorem pq_191 : pt_wd (pt_op 191) = some (pt_cw 191) := rfl
set_option maxRecDepth 20000 in
theorem pq_192 : pt_wd (pt_op 192) = some (pt_cw 192) := rfl
set_option maxRecDepth 20000 in
theorem pq_193 : pt_wd (pt_op 193) = some (pt_cw 193) := rfl
set_option maxRecDepth 20000 in
theorem pq_194 : pt_wd (pt_op 194) = some (pt_cw 194) := rfl
set_option maxRecDepth 20000 in
theorem pq_195 : pt_wd (pt_op 195) = some (pt_cw 195) := rfl
set_option maxRecDepth 20000 in
theorem pq_196 : pt_wd (pt_op 196) = some (pt_cw 196) := rfl
set_option maxRecDepth 20000 in
theorem pq_197 : pt_wd (pt_op 197) = some (pt_cw 197) := rfl
set_option maxRecDepth 20000 in
theorem pq_198 : pt_wd (pt_op 198) = some (pt_cw 198) := rfl
set_option maxRecDepth 20000 in
theorem pq_199 : pt_wd (pt_op 199) = some (pt_cw 199) := rfl
set_option maxRecDepth 20000 in
theorem pq_200 : pt_wd (pt_op 200) = some (pt_cw 200) := rfl
set_option maxRecDepth 20000 in
theorem pq_201 : pt_wd (pt_op 201) = some (pt_cw 201) := rfl
set_option maxRecDepth 20000 in
theorem pq_202 : pt_wd (pt_op 202) = some (pt_cw 202) := rfl
set_option maxRecDepth 20000 in
theorem pq_203 : pt_wd (pt_op 203) = some (pt_cw 203) := rfl
set_option maxRecDepth 20000 in
theorem pq_204 : pt_wd (pt_op 204) = some (pt_cw 204) := rfl
set_option maxRecDepth 20000 in
theorem pq_205 : pt_wd (pt_op 205) = some (pt_cw 205) := rfl
set_option maxRecDepth 20000 in
theorem pq_206 : pt_wd (pt_op 206) = some (pt_cw 206) := rfl
set_option maxRecDepth 20000 in
theorem pq_207 : pt_wd (pt_op 207) = some (pt_cw 207) := rfl
set_option maxRecDepth 20000 in
theorem pq_208 : pt_wd (pt_op 208) = some (pt_cw 208) := rfl
set_option maxRecDepth 20000 in
theorem pq_209 : pt_wd (pt_op 209) = some (pt_cw 209) := rfl
set_option maxRecDepth 20000 in
theorem pq_210 : pt_wd (pt_op 210) = some (pt_cw 210) := rfl
set_option maxRecDepth 20000 in
theorem pq_211 : pt_wd (pt_op 211) = some (pt_cw 211) := rfl
set_option maxRecDepth 20000 in
theorem pq_212 : pt_wd (pt_op 212) = some (pt_cw 212) := rfl
set_option maxRecDepth 20000 in
theorem pq_213 : pt_wd (pt_op 213) = some (pt_cw 213) := rfl
set_option maxRecDepth 20000 in
theorem pq_214 : pt_wd (pt_op 214) = some (pt_cw 214) := rfl
set_option maxRecDepth 20000 in
theorem pq_215 : pt_wd (pt_op 215) = some (pt_cw 215) := rfl
set_option maxRecDepth 20000 in
theorem pq_216 : pt_wd (pt_op 216) = some (pt_cw 216) := rfl
set_option maxRecDepth 20000 in
theorem pq_217 : pt_wd (pt_op 217) = some (pt_cw 217) := rfl
set_option maxRecDepth 20000 in
theorem pq_218 : pt_wd (pt_op 218) = some (pt_cw 218) := rfl
set_option maxRecDepth 20000 in
theorem pq_219 : pt_wd (pt_op 219) = some (pt_cw 219) := rfl
set_option maxRecDepth 20000 in
theorem pq_220 : pt_wd (pt_op 220) = some (pt_cw 220) := rfl
set_option maxRecDepth 20000 in
theorem pq_221 : pt_wd (pt_op 221) = some (pt_cw 221) := rfl
set_option maxRecDepth 20000 in
theorem pq_222 : pt_wd (pt_op 222) = some (pt_cw 222) := rfl
set_option maxRecDepth 20000 in
theorem pq_223 : pt_wd (pt_op 223) = some (pt_cw 223) := rfl
set_option maxRecDepth 20000 in
theorem pq_224 : pt_wd (pt_op 224) = some (pt_cw 224) := rfl
set_option maxRecDepth 20000 in
theorem pq_225 : pt_wd (pt_op 225) = some (pt_cw 225) := rfl
set_option maxRecDepth 20000 in
theorem pq_226 : pt_wd (pt_op 226) = some (pt_cw 226) := rfl
set_option maxRecDepth 20000 in
theorem pq_227 : pt_wd (pt_op 227) = some (pt_cw 227) := rfl
set_option maxRecDepth 20000 in
theorem pq_228 : pt_wd (pt_op 228) = some (pt_cw 228) := rfl
set_option maxRecDepth 20000 in
theorem pq_229 : pt_wd (pt_op 229) = some (pt_cw 229) := rfl
set_option maxRecDepth 20000 in
theorem pq_230 : pt_wd (pt_op 230) = some (pt_cw 230) := rfl
set_option maxRecDepth 20000 in
theorem pq_231 : pt_wd (pt_op 231) = some (pt_cw 231) := rfl
set_option maxRecDepth 20000 in
theorem pq_232 : pt_wd (pt_op 232) = some (pt_cw 232) := rfl
set_option maxRecDepth 20000 in
theorem pq_233 : pt_wd (pt_op 233) = some (pt_cw 233) := rfl
set_option maxRecDepth 20000 in
theorem pq_234 : pt_wd (pt_op 234) = some (pt_cw 234) := rfl
set_option maxRecDepth 20000 in
theorem pq_235 : pt_wd (pt_op 235) = some (pt_cw 235) := rfl
set_option maxRecDepth 20000 in
theorem pq_236 : pt_wd (pt_op 236) = some (pt_cw 236) := rfl
set_option maxRecDepth 20000 in
theorem pq_237 : pt_wd (pt_op 237) = some (pt_cw 237) := rfl
set_option maxRecDepth 20000 in
theorem pq_238 : pt_wd (pt_op 238) = some (pt_cw 238) := rfl
set_option maxRecDepth 20000 in
theorem pq_239 : pt_wd (pt_op 239) = some (pt_cw 239) := rfl
set_option maxRecDepth 20000 in
theorem pq_240 : pt_wd (pt_op 240) = some (pt_cw 240) := rfl
set_option maxRecDepth 20000 in
theorem pq_241 : pt_wd (pt_op 241) = some (pt_cw 241) := rfl
set_option maxRecDepth 20000 in
theorem pq_242 : pt_wd (pt_op 242) = some (pt_cw 242) := rfl
set_option maxRecDepth 20000 in
theorem pq_243 : pt_wd (pt_op 243) = some (pt_cw 243) := rfl
set_option maxRecDepth 20000 in
theorem pq_244 : pt_wd (pt_op 244) = some (pt_cw 244) := rfl
set_option maxRecDepth 20000 in
theorem pq_245 : pt_wd (pt_op 245) = some (pt_cw 245) := rfl
set_option maxRecDepth 20000 in
theorem pq_246 : pt_wd (pt_op 246) = some (pt_cw 246) := rfl
set_option maxRecDepth 20000 in
theorem pq_247 : pt_wd (pt_op 247) = some (pt_cw 247) := rfl
set_option maxRecDepth 20000 in
theorem pq_248 : pt_wd (pt_op 248) = some (pt_cw 248) := rfl
set_option maxRecDepth 20000 in
theorem pq_249 : pt_wd (pt_op 249) = some (pt_cw 249) := rfl
set_option maxRecDepth 20000 in
theorem pq_250 : pt_wd (pt_op 250) = some (pt_cw 250) := rfl
set_option maxRecDepth 20000 in
theorem pq_251 : pt_wd (pt_op 251) = some (pt_cw 251) := rfl
set_option maxRecDepth 20000 in
theorem pq_252 : pt_wd (pt_op 252) = some (pt_cw 252) := rfl
set_option maxRecDepth 20000 in
theorem pq_253 : pt_wd (pt_op 253) = some (pt_cw 253) := rfl
set_option maxRecDepth 20000 in
theorem pq_254 : pt_wd (pt_op 254) = some (pt_cw 254) := rfl
set_option maxRecDepth 20000 in
theorem pq_255 : pt_wd (pt_op 255) = some (pt_cw 255) := rfl
set_option maxRecDepth 20000 in
theorem pq_256 : pt_wd (pt_op 256) = some (pt_cw 256) := rfl
set_option maxRecDepth 20000 in
theorem pq_257 : pt_wd (pt_op 257) = some (pt_cw 257) := rfl
set_option maxRecDepth 20000 in
theorem pq_258 : pt_wd (pt_op 258) = some (pt_cw 258) := rfl
set_option maxRecDepth 20000 in
theorem pq_259 : pt_wd (pt_op 259) = some (pt_cw 259) := rfl
set_option maxRecDepth 20000 in
theorem pq_260 : pt_wd (pt_op 260) = some (pt_cw 260) := rfl
set_option maxRecDepth 20000 in
theorem pq_261 : pt_wd (pt_op 261) = some (pt_cw 261) := rfl
set_option maxRecDepth 20000 in
theorem pq_262 : pt_wd (pt_op 262) = some (pt_cw 262) := rfl
set_option maxRecDepth 20000 in
theorem pq_263 : pt_wd (pt_op 263) = some (pt_cw 263) := rfl
set_option maxRecDepth 20000 in
theorem pq_264 : pt_wd (pt_op 264) = some (pt_cw 264) := rfl
set_option maxRecDepth 20000 in
theorem pq_265 : pt_wd (pt_op 265) = some (pt_cw 265) := rfl
set_option maxRecDepth 20000 in
theorem pq_266 : pt_wd (pt_op 266) = some (pt_cw 266) := rfl
set_option maxRecDepth 20000 in
theorem pq_267 : pt_wd (pt_op 267) = some (pt_cw 267) := rfl
set_option maxRecDepth 20000 in
theorem pq_268 : pt_wd (pt_op 268) = some (pt_cw 268) := rfl
set_option maxRecDepth 20000 in
theorem pq_269 : pt_wd (pt_op 269) = some (pt_cw 269) := rfl
set_option maxRecDepth 20000 in
theorem pq_270 : pt_wd (pt_op 270) = some (pt_cw 270) := rfl
set_option maxRecDepth 20000 in
theorem pq_271 : pt_wd (pt_op 271) = some (pt_cw 271) := rfl
set_option maxRecDepth 20000 in
theorem pq_272 : pt_wd (pt_op 272) = some (pt_cw 272) := rfl
set_option maxRecDepth 20000 in
theorem pq_273 : pt_wd (pt_op 273) = some (pt_cw 273) := rfl
set_option maxRecDepth 20000 in
theorem pq_274 : pt_wd (pt_op 274) = some (pt_cw 274) := rfl
set_option maxRecDepth 20000 in
theorem pq_275 : pt_wd (pt_op 275) = some (pt_cw 275) := rfl
set_option maxRecDepth 20000 in
theorem pq_276 : pt_wd (pt_op 276) = some (pt_cw 276) := rfl
set_option maxRecDepth 20000 in
theorem pq_277 : pt_wd (pt_op 277) = some (pt_cw 277) := rfl
set_option maxRecDepth 20000 in
theorem pq_278 : pt_wd (pt_op 278) = some (pt_cw 278) := rfl
set_option maxRecDepth 20000 in
theorem pq_279 : pt_wd (pt_op 279) = some (pt_cw 279) := rfl
set_option maxRecDepth 20000 in
theorem pq_280 : pt_wd (pt_op 280) = some (pt_cw 280) := rfl
set_option maxRecDepth 20000 in
theorem pq_281 : pt_wd (pt_op 281) = some (pt_cw 281) := rfl
set_option maxRecDepth 20000 in
theorem pq_282 : pt_wd (pt_op 282) = some (pt_cw 282) := rfl
set_option maxRecDepth 20000 in
theorem pq_283 : pt_wd (pt_op 283) = some (pt_cw 283) := rfl
set_option maxRecDepth 20000 in
theorem pq_284 : pt_wd (pt_op 284) = some (pt_cw 284) := rfl
set_option maxRecDepth 20000 in
theorem pq_285 : pt_wd (pt_op 285) = some (pt_cw 285) := rfl
set_option maxRecDepth 20000 in
theorem pq_286 : pt_wd (pt_op 286) = some (pt_cw 286) := rfl
set_option maxRecDepth 20000 in
theorem pq_287 : pt_wd (pt_op 287) = some (pt_cw 287) := rfl
set_option maxRecDepth 20000 in
theorem pq_288 : pt_wd (pt_op 288) = some (pt_cw 288) := rfl
set_option maxRecDepth 20000 in
theorem pq_289 : pt_wd (pt_op 289) = some (pt_cw 289) := rfl
set_option maxRecDepth 20000 in
theorem pq_290 : pt_wd (pt_op 290) = some (pt_cw 290) := rfl
set_option maxRecDepth 20000 in
theorem pq_291 : pt_wd (pt_op 291) = some (pt_cw 291) := rfl
set_option maxRecDepth 20000 in
theorem pq_292 : pt_wd (pt_op 292) = some (pt_cw 292) := rfl
set_option maxRecDepth 20000 in
theorem pq_293 : pt_wd (pt_op 293) = some (pt_cw 293) := rfl
set_option maxRecDepth 20000 in
theorem pq_294 : pt_wd (pt_op 294) = some (pt_cw 294) := rfl
set_option maxRecDepth 20000 in
theorem pq_295 : pt_wd (pt_op 295) = some (pt_cw 295) := rfl
set_option maxRecDepth 20000 in
theorem pq_296 : pt_wd (pt_op 296) = some (pt_cw 296) := rfl
set_option maxRecDepth 20000 in
theorem pq_297 : pt_wd (pt_op 297) = some (pt_cw 297) := rfl
set_option maxRecDepth 20000 in
theorem pq_298 : pt_wd (pt_op 298) = some (pt_cw 298) := rfl
set_option maxRecDepth 20000 in
theorem pq_299 : pt_wd (pt_op 299) = some (pt_cw 299) := rfl
set_option maxRecDepth 20000 in
theorem pq_300 : pt_wd (pt_op 300) = some (pt_cw 300) := rfl
set_option maxRecDepth 20000 in
theorem pq_301 : pt_wd (pt_op 301) = some (pt_cw 301) := rfl
set_option maxRecDepth 20000 in
theorem pq_302 : pt_wd (pt_op 302) = some (pt_cw 302) := rfl
set_option maxRecDepth 20000 in
theorem pq_303 : pt_wd (pt_op 303) = some (pt_cw 303) := rfl
set_option maxRecDepth 20000 in
theorem pq_304 : pt_wd (pt_op 304) = some (pt_cw 304) := rfl
set_option maxRecDepth 20000 in
theorem pq_305 : pt_wd (pt_op 305) = some (pt_cw 305) := rfl
set_option maxRecDepth 20000 in
theorem pq_306 : pt_wd (pt_op 306) = some (pt_cw 306) := rfl
set_option maxRecDepth 20000 in
theorem pq_307 : pt_wd (pt_op 307) = some (pt_cw 307) := rfl
set_option maxRecDepth 20000 in
theorem pq_308 : pt_wd (pt_op 308) = some (pt_cw 308) := rfl
set_option maxRecDepth 20000 in
theorem pq_309 : pt_wd (pt_op 309) = some (pt_cw 309) := rfl
set_option maxRecDepth 20000 in
theorem pq_310 : pt_wd (pt_op 310) = some (pt_cw 310) := rfl
set_option maxRecDepth 20000 in
theorem pq_311 : pt_wd (pt_op 311) = some (pt_cw 311) := rfl
set_option maxRecDepth 20000 in
theorem pq_312 : pt_wd (pt_op 312) = some (pt_cw 312) := rfl
set_option maxRecDepth 20000 in
theorem pq_313 : pt_wd (pt_op 313) = some (pt_cw 313) := rfl
set_option maxRecDepth 20000 in
theorem pq_314 : pt_wd (pt_op 314) = some (pt_cw 314) := rfl
set_option maxRecDepth 20000 in
theorem pq_315 : pt_wd (pt_op 315) = some (pt_cw 315) := rfl
set_option maxRecDepth 20000 in
theorem pq_316 : pt_wd (pt_op 316) = some (pt_cw 316) := rfl
theorem pq_b0 : ∀ y, 0 ≤ y → y < 20 → pt_wd (pt_op y) = some (pt_cw y) := by
  intro y h1 h2
  rcases (show y = 0 ∨ y = 1 ∨ y = 2 ∨ y = 3 ∨ y = 4 ∨ y = 5 ∨ y = 6 ∨ y = 7 ∨ y = 8 ∨ y = 9 ∨ y = 10 ∨ y = 11 ∨ y = 12 ∨ y = 13 ∨ y = 14 ∨ y = 15 ∨ y = 16 ∨ y = 17 ∨ y = 18 ∨ y = 19 by omega) with rfl | rfl | rfl | rfl | rfl | rfl | rfl | rfl | rfl | rfl | rfl | rfl | rfl | rfl | rfl | rfl | rfl | rfl | rfl | rfl
  · exact pq_0
  · exact pq_1
  · exact pq_2
  · exact pq_3
  · exact pq_4
  · exact pq_5
  · exact pq_6
  · exact pq_7
  · exact pq_8
  · exact pq_9
  · exact pq_10
  · exact pq_11
  · exact pq_12
  · exact pq_13
  · exact pq_14
  · exact pq_15
  · exact pq_16
  · exact pq_17
  · exact pq_18
  · exact pq_19
theorem pq_b1 : ∀ y, 20 ≤ y → y < 40 → pt_wd (pt_op y) = some (pt_cw y) := by
  intro y h1 h2
  rcases (show y = 20 ∨ y = 21 ∨ y = 22 ∨ y = 23 ∨ y = 24 ∨ y = 25 ∨ y = 26 ∨ y = 27 ∨ y = 28 ∨ y = 29 ∨ y = 30 ∨ y = 31 ∨ y = 32 ∨ y = 33 ∨ y = 34 ∨ y = 35 ∨ y = 36 ∨ y = 37 ∨ y = 38 ∨ y = 39 by omega) with rfl | rfl | rfl | rfl | rfl | rfl | rfl | rfl | rfl | rfl | rfl | rfl | rfl | rfl | rfl | rfl | rfl | rfl | rfl | rfl
  · exact pq_20
  · exact pq_21
  · exact pq_22
  · exact pq_23
  · exact pq_24
  · exact pq_25
  · exact pq_26
  · exact pq_27
  · exact pq_28
  · exact pq_29
  · exact pq_30
  · exact pq_31
  · exact pq_32
  · exact pq_33
  · exact pq_34
  · exact pq_35
  · exact pq_36
  · exact pq_37
  · exact pq_38
  · exact pq_39
theorem pq_b2 : ∀ y, 40 ≤ y → y < 60 → pt_wd (pt_op y) = some (pt_cw y) := by
  intro y h1 h2
  rcases (show y = 40 ∨ y = 41 ∨ y = 42 ∨ y = 43 ∨ y = 44 ∨ y = 45 ∨ y = 46 ∨ y = 47 ∨ y = 48 ∨ y = 49 ∨ y = 50 ∨ y = 51 ∨ y = 52 ∨ y = 53 ∨ y = 54 ∨ y = 55 ∨ y = 56 ∨ y = 57 ∨ y = 58 ∨ y = 59 by omega) with rfl | rfl | rfl | rfl | rfl | rfl | rfl | rfl | rfl | rfl | rfl | rfl | rfl | rfl | rfl | rfl | rfl | rfl | rfl | rfl
  · exact pq_40
  · exact pq_41
  · exact pq_42
  · exact pq_43
  · exact pq_44
  · exact pq_45
  · exact pq_46
  · exact pq_47
  · exact pq_48
  · exact pq_49
  · exact pq_50
  · exact pq_51
  · exact pq_52
  · exact pq_53
  · exact pq_54
  · exact pq_55
  · exact pq_56
  · exact pq_57
  · exact pq_58
  · exact pq_59
theorem pq_b3 : ∀ y, 60 ≤ y → y < 80 → pt_wd (pt_op y) = some (pt_cw y) := by
  intro y h1 h2
  rcases (show y = 60 ∨ y = 61 ∨ y = 62 ∨ y = 63 ∨ y = 64 ∨ y = 65 ∨ y = 66 ∨ y = 67 ∨ y = 68 ∨ y = 69 ∨ y = 70 ∨ y = 71 ∨ y = 72 ∨ y = 73 ∨ y = 74 ∨ y = 75 ∨ y = 76 ∨ y = 77 ∨ y = 78 ∨ y = 79 by omega) with rfl | rfl | rfl | rfl | rfl | rfl | rfl | rfl | rfl | rfl | rfl | rfl | rfl | rfl | rfl | rfl | rfl | rfl | rfl | rfl
  · exact pq_60
  · exact pq_61
  · exact pq_62
  · exact pq_63
  · exact pq_64
  · exact pq_65
  · exact pq_66
  · exact pq_67
  · exact pq_68
  · exact pq_69
  · exact pq_70
  · exact pq_71
  · exact pq_72
  · exact pq_73
  · exact pq_74
  · exact pq_75
  · exact pq_76
  · exact pq_77
  · exact pq_78
  · exact pq_79
theorem pq_b4 : ∀ y, 80 ≤ y → y < 100 → pt_wd (pt_op y) = some (pt_cw y) := by
  intro y h1 h2
  rcases (show y = 80 ∨ y = 81 ∨ y = 82 ∨ y = 83 ∨ y = 84 ∨ y = 85 ∨ y = 86 ∨ y = 87 ∨ y = 88 ∨ y = 89 ∨ y = 90 ∨ y = 91 ∨ y = 92 ∨ y = 93 ∨ y = 94 ∨ y = 95 ∨ y = 96 ∨ y = 97 ∨ y = 98 ∨ y = 99 by omega) with rfl | rfl | rfl | rfl | rfl | rfl | rfl | rfl | rfl | rfl | rfl | rfl | rfl | rfl | rfl | rfl | rfl | rfl | rfl | rfl
  · exact pq_80
  · exact pq_81
  · exact pq_82
  · exact pq_83
  · exact pq_84
  · exact pq_85
  · exact pq_86
  · exact pq_87
  · exact pq_88
  · exact pq_89
  · exact pq_90
  · exact pq_91
  · exact pq_92
  · exact pq_93
  · exact pq_94
  · exact pq_95
  · exact pq_96
  · exact pq_97
  · exact pq_98
  · exact pq_99
theorem pq_b5 : ∀ y, 100 ≤ y → y < 120 → pt_wd (pt_op y) = some (pt_cw y) := by
  intro y h1 h2
  rcases (show y = 100 ∨ y = 101 ∨ y = 102 ∨ y = 103 ∨ y = 104 ∨ y = 105 ∨ y = 106 ∨ y = 107 ∨ y = 108 ∨ y = 109 ∨ y = 110 ∨ y = 111 ∨ y = 112 ∨ y = 113 ∨ y = 114 ∨ y = 115 ∨ y = 116 ∨ y = 117 ∨ y = 118 ∨ y = 119 by omega) with rfl | rfl | rfl | rfl | rfl | rfl | rfl | rfl | rfl | rfl | rfl | rfl | rfl | rfl | rfl | rfl | rfl | rfl | rfl | rfl
  · exact pq_100
  · exact pq_101
  · exact pq_102
  · exact pq_103
  · exact pq_104
  · exact pq_105
  · exact pq_106
  · exact pq_107
  · exact pq_108
  · exact pq_109
  · exact pq_110
  · exact pq_111
  · exact pq_112
  · exact pq_113
  · exact pq_114
  · exact pq_115
  · exact pq_116
  · exact pq_117
  · exact pq_118
  · exact pq_119
theorem pq_b6 : ∀ y, 120 ≤ y → y < 140 → pt_wd (pt_op y) = some (pt_cw y) := by
  intro y h1 h2
  rcases (show y = 120 ∨ y = 121 ∨ y = 122 ∨ y = 123 ∨ y = 124 ∨ y = 125 ∨ y = 126 ∨ y = 127 ∨ y = 128 ∨ y = 129 ∨ y = 130 ∨ y = 131 ∨ y = 132 ∨ y = 133 ∨ y = 134 ∨ y = 135 ∨ y = 136 ∨ y = 137 ∨ y = 138 ∨ y = 139 by omega) with rfl | rfl | rfl | rfl | rfl | rfl | rfl | rfl | rfl | rfl | rfl | rfl | rfl | rfl | rfl | rfl | rfl | rfl | rfl | rfl
  · exact pq_120
  · exact pq_121
  · exact pq_122
  · exact pq_123
  · exact pq_124
  · exact pq_125
  · exact pq_126
  · exact pq_127
  · exact pq_128
  · exact pq_129
  · exact pq_130
  · exact pq_131
  · exact pq_132
  · exact pq_133
  · exact pq_134
  · exact pq_135
  · exact pq_136
  · exact pq_137
  · exact pq_138
  · exact pq_139
theorem pq_b7 : ∀ y, 140 ≤ y → y < 160 → pt_wd (pt_op y) = some (pt_cw y) := by
  intro y h1 h2
  rcases (show y = 140 ∨ y = 141 ∨ y = 142 ∨ y = 143 ∨ y = 144 ∨ y = 145 ∨ y = 146 ∨ y = 147 ∨ y = 148 ∨ y = 149 ∨ y = 150 ∨ y = 151 ∨ y = 152 ∨ y = 153 ∨ y = 154 ∨ y = 155 ∨ y = 156 ∨ y = 157 ∨ y = 158 ∨ y = 159 by omega) with rfl | rfl | rfl | rfl | rfl | rfl | rfl | rfl | rfl | rfl | rfl | rfl | rfl | rfl | rfl | rfl | rfl | rfl | rfl | rfl
  · exact pq_140
  · exact pq_141
  · exact pq_142
  · exact pq_143
  · exact pq_144
  · exact pq_145
  · exact pq_146
  · exact pq_147
  · exact pq_148
  · exact pq_149
  · exact pq_150
  · exact pq_151
  · exact pq_152
  · exact pq_153
  · exact pq_154
  · exact pq_155
  · exact pq_156
  · exact pq_157
  · exact pq_158
  · exact pq_159
theorem pq_b8 : ∀ y, 160 ≤ y → y < 180 → pt_wd (pt_op y) = some (pt_cw y) := by
  intro y h1 h2
  rcases (show y = 160 ∨ y = 161 ∨ y = 162 ∨ y = 163 ∨ y = 164 ∨ y = 165 ∨ y = 166 ∨ y = 167 ∨ y = 168 ∨ y = 169 ∨ y = 170 ∨ y = 171 ∨ y = 172 ∨ y = 173 ∨ y = 174 ∨ y = 175 ∨ y = 176 ∨ y = 177 ∨ y = 178 ∨ y = 179 by omega) with rfl | rfl | rfl | rfl | rfl | rfl | rfl | rfl | rfl | rfl | rfl | rfl | rfl | rfl | rfl | rfl | rfl | rfl | rfl | rfl
  · exact pq_160
  · exact pq_161
  · exact pq_162
  · exact pq_163
  · exact pq_164
  · exact pq_165
  · exact pq_166
  · exact pq_167
  · exact pq_168
  · exact pq_169
  · exact pq_170
  · exact pq_171
  · exact pq_172
  · exact pq_173
  · exact pq_174
  · exact pq_175
  · exact pq_176
  · exact pq_177
  · exact pq_178
  · exact pq_179
theorem pq_b9 : ∀ y, 180 ≤ y → y < 200 → pt_wd (pt_op y) = some (pt_cw y) := by
  intro y h1 h2
  rcases (show y = 180 ∨ y = 181 ∨ y = 182 ∨ y = 183 ∨ y = 184 ∨ y = 185 ∨ y = 186 ∨ y = 187 ∨ y = 188 ∨ y = 189 ∨ y = 190 ∨ y = 191 ∨ y = 192 ∨ y = 193 ∨ y = 194 ∨ y = 195 ∨ y = 196 ∨ y = 197 ∨ y = 198 ∨ y = 199 by omega) with rfl | rfl | rfl | rfl | rfl | rfl | rfl | rfl | rfl | rfl | rfl | rfl | rfl | rfl | rfl | rfl | rfl | rfl | rfl | rfl
  · exact pq_180
  · exact pq_181
  · exact pq_182
  · exact pq_183
  · exact pq_184
  · exact pq_185
  · exact pq_186
  · exact pq_187
  · exact pq_188
  · exact pq_189
  · exact pq_190
  · exact pq_191
  · exact pq_192
  · exact pq_193
  · exact pq_194
  · exact pq_195
  · exact pq_196
  · exact pq_197
  · exact pq_198
  · exact pq_199
theorem pq_b10 : ∀ y, 200 ≤ y → y < 220 → pt_wd (pt_op y) = some (pt_cw y) := by
  intro y h1 h2
  rcases (show y = 200 ∨ y = 201 ∨ y = 202 ∨ y = 203 ∨ y = 204 ∨ y = 205 ∨ y = 206 ∨ y = 207 ∨ y = 208 ∨ y = 209 ∨ y = 210 ∨ y = 211 ∨ y = 212 ∨ y = 213 ∨ y = 214 ∨ y = 215 ∨ y = 216 ∨ y = 217 ∨ y = 218 ∨ y = 219 by omega) with rfl | rfl | rfl | rfl | rfl | rfl | rfl | rfl | rfl | rfl | rfl | rfl | rfl | rfl | rfl | rfl | rfl | rfl | rfl | rfl
  · exact pq_200
  · exact pq_201
  · exact pq_202
  · exact pq_203
  · exact pq_204
  · exact pq_205
  · exact pq_206
  · exact pq_207
  · exact pq_208
  · exact pq_209
  · exact pq_210
  · exact pq_211
  · exact pq_212
  · exact pq_213
  · exact pq_214
  · exact pq_215
  · exact pq_216
  · exact pq_217
  · exact pq_218
  · exact pq_219
theorem pq_b11 : ∀ y, 220 ≤ y → y < 240 → pt_wd (pt_op y) = some (pt_cw y) := by
  intro y h1 h2
  rcases (show y = 220 ∨ y = 221 ∨ y = 222 ∨ y = 223 ∨ y = 224 ∨ y = 225 ∨ y = 226 ∨ y = 227 ∨ y = 228 ∨ y = 229 ∨ y = 230 ∨ y = 231 ∨ y = 232 ∨ y = 233 ∨ y = 234 ∨ y = 235 ∨ y = 236 ∨ y = 237 ∨ y = 238 ∨ y = 239 by omega) with rfl | rfl | rfl | rfl | rfl | rfl | rfl | rfl | rfl | rfl | rfl | rfl | rfl | rfl | rfl | rfl | rfl | rfl | rfl | rfl
  · exact pq_220
  · exact pq_221
  · exact pq_222
  · exact pq_223
  · exact pq_224
  · exact pq_225
  · exact pq_226
  · exact pq_227
  · exact pq_228
  · exact pq_229
  · exact pq_230
  · exact pq_231
  · exact pq_232
  · exact pq_233
  · exact pq_234
  · exact pq_235
  · exact pq_236
  · exact pq_237
  · exact pq_238
  · exact pq_239
theorem pq_b12 : ∀ y, 240 ≤ y → y < 260 → pt_wd (pt_op y) = some (pt_cw y) := by
  intro y h1 h2
  rcases (show y = 240 ∨ y = 241 ∨ y = 242 ∨ y = 243 ∨ y = 244 ∨ y = 245 ∨ y = 246 ∨ y = 247 ∨ y = 248 ∨ y = 249 ∨ y = 250 ∨ y = 251 ∨ y = 252 ∨ y = 253 ∨ y = 254 ∨ y = 255 ∨ y = 256 ∨ y = 257 ∨ y = 258 ∨ y = 259 by omega) with rfl | rfl | rfl | rfl | rfl | rfl | rfl | rfl | rfl | rfl | rfl | rfl | rfl | rfl | rfl | rfl | rfl | rfl | rfl | rfl
  · exact pq_240
  · exact pq_241
  · exact pq_242
  · exact pq_243
  · exact pq_244
  · exact pq_245
  · exact pq_246
  · exact pq_247
  · exact pq_248
  · exact pq_249
  · exact pq_250
  · exact pq_251
  · exact pq_252
  · exact pq_253
  · exact pq_254
  · exact pq_255
  · exact pq_256
  · exact pq_257
  · exact pq_258
  · exact pq_259
theorem pq_b13 : ∀ y, 260 ≤ y → y < 280 → pt_wd (pt_op y) = some (pt_cw y) := by
  intro y h1 h2
  rcases (show y = 260 ∨ y = 261 ∨ y = 262 ∨ y = 263 ∨ y = 264 ∨ y = 265 ∨ y = 266 ∨ y = 267 ∨ y = 268 ∨ y = 269 ∨ y = 270 ∨ y = 271 ∨ y = 272 ∨ y = 273 ∨ y = 274 ∨ y = 275 ∨ y = 276 ∨ y = 277 ∨ y = 278 ∨ y = 279 by omega) with rfl | rfl | rfl | rfl | rfl | rfl | rfl | rfl | rfl | rfl | rfl | rfl | rfl | rfl | rfl | rfl | rfl | rfl | rfl | rfl
  · exact pq_260
  · exact pq_261
  · exact pq_262
  · exact pq_263
  · exact pq_264
  · exact pq_265
  · exact pq_266
  · exact pq_267
  · exact pq_268
  · exact pq_269
  · exact pq_270
  · exact pq_271
  · exact pq_272
  · exact pq_273
  · exact pq_274
  · exact pq_275
  · exact pq_276
  · exact pq_277
  · exact pq_278
  · exact pq_279
theorem pq_b14 : ∀ y, 280 ≤ y → y < 300 → pt_wd (pt_op y) = some (pt_cw y) := by
  intro y h1 h2
  rcases (show y = 280 ∨ y = 281 ∨ y = 282 ∨ y = 283 ∨ y = 284 ∨ y = 285 ∨ y = 286 ∨ y = 287 ∨ y = 288 ∨ y = 289 ∨ y = 290 ∨ y = 291 ∨ y = 292 ∨ y = 293 ∨ y = 294 ∨ y = 295 ∨ y = 296 ∨ y = 297 ∨ y = 298 ∨ y = 299 by omega) with rfl | rfl | rfl | rfl | rfl | rfl | rfl | rfl | rfl | rfl | rfl | rfl | rfl | rfl | rfl | rfl | rfl | rfl | rfl | rfl
  · exact pq_280
  · exact pq_281
  · exact pq_282
  · exact pq_283
  · exact pq_284
  · exact pq_285
  · exact pq_286
  · exact pq_287
  · exact pq_288
  · exact pq_289
  · exact pq_290
  · exact pq_291
  · exact pq_292
  · exact pq_293
  · exact pq_294
  · exact pq_295
  · exact pq_296
  · exact pq_297
  · exact pq_298
  · exact pq_299
theorem pq_b15 : ∀ y, 300 ≤ y → y < 317 → pt_wd (pt_op y) = some (pt_cw y) := by
  intro y h1 h2
  rcases (show y = 300 ∨ y = 301 ∨ y = 302 ∨ y = 303 ∨ y = 304 ∨ y = 305 ∨ y = 306 ∨ y = 307 ∨ y = 308 ∨ y = 309 ∨ y = 310 ∨ y = 311 ∨ y = 312 ∨ y = 313 ∨ y = 314 ∨ y = 315 ∨ y = 316 by omega) with rfl | rfl | rfl | rfl | rfl | rfl | rfl | rfl | rfl | rfl | rfl | rfl | rfl | rfl | rfl | rfl | rfl
  · exact pq_300
  · exact pq_301
  · exact pq_302
  · exact pq_303
  · exact pq_304
  · exact pq_305
  · exact pq_306
  · exact pq_307
  · exact pq_308
  · exact pq_309
  · exact pq_310
  · exact pq_311
  · exact pq_312
  · exact pq_313
  · exact pq_314
  · exact pq_315
  · exact pq_316
theorem pt_cw_all {y : Nat} (h : y < pt_zN) : pt_wd (pt_op y) = some (pt_cw y) := by
  unfold pt_zN at h
  by_cases h20 : y < 20
  · exact pq_b0 y (by omega) h20
  by_cases h40 : y < 40
  · exact pq_b1 y (by omega) h40
  by_cases h60 : y < 60
  · exact pq_b2 y (by omega) h60
  by_cases h80 : y < 80
  · exact pq_b3 y (by omega) h80
  by_cases h100 : y < 100
  · exact pq_b4 y (by omega) h100
  by_cases h120 : y < 120
  · exact pq_b5 y (by omega) h120
  by_cases h140 : y < 140
  · exact pq_b6 y (by omega) h140
  by_cases h160 : y < 160
  · exact pq_b7 y (by omega) h160
  by_cases h180 : y < 180
  · exact pq_b8 y (by omega) h180
  by_cases h200 : y < 200
  · exact pq_b9 y (by omega) h200
  by_cases h220 : y < 220
  · exact pq_b10 y (by omega) h220
  by_cases h240 : y < 240
  · exact pq_b11 y (by omega) h240
  by_cases h260 : y < 260
  · exact pq_b12 y (by omega) h260
  by_cases h280 : y < 280
  · exact pq_b13 y (by omega) h280
  by_cases h300 : y < 300
  · exact pq_b14 y (by omega) h300
  exact pq_b15 y (by omega) h
/-- a method's other words: static or of an object; of which class -/
noncomputable def pt_okY (y : Nat) : Bool :=
  (match pt_st y with
    | true => decide (pt_wd (pt_tp y) = some (.static (pt_yn y)))
    | false => decide (pt_wd (pt_tp y) = some (.instanceMethod (pt_yn y)))) &&
  decide (pt_wd (pt_zp (pt_k y)) = some (.initialized (pt_nm (pt_k y)))) && decide ((pt_yn y).cls = pt_nm (pt_k y)) && plainName (pt_nm (pt_k y)) && decide (pt_nm (pt_k y) ≠ "java/lang/invoke/MethodHandle" ∧ pt_nm (pt_k y) ≠ "java/lang/invoke/VarHandle")
theorem pt_okY_1 : ((List.range 160).all pt_okY) = true := by decide +kernel
theorem pt_okY_2 : (((List.range 157).map (160 + ·)).all pt_okY) = true := by decide +kernel
theorem pt_okY_all {y : Nat} (h : y < pt_zN) : pt_okY y = true := by
  unfold pt_zN at h
  by_cases h1 : y < 160
  · exact List.all_eq_true.mp pt_okY_1 y (List.mem_range.mpr h1)
  · exact List.all_eq_true.mp pt_okY_2 y (List.mem_map.mpr ⟨y - 160, List.mem_range.mpr (by omega), by omega⟩)
/-- how many arguments a call takes: those of its name, and the receiver -/
def pt_nar (d : String) : Option Nat := (parseMethodDescriptor d).map (fun d => d.parameters.length)
/-- a call's link -/
noncomputable def pt_okM (q : Nat × Nat) : Bool :=
  Nat.blt (pt_il q.1 q.2).2.1 pt_zN && decide (pt_wd (pt_mp q.1 q.2) = some (.methodLink (pt_nm q.1) q.2 (pt_yn (pt_il q.1 q.2).2.1))) &&
  (match (pt_il q.1 q.2).1 with
    | 0 => pt_st (pt_il q.1 q.2).2.1 && decide (pt_nar (pt_yn (pt_il q.1 q.2).2.1).desc = some (pt_il q.1 q.2).2.2)
    | 1 => !pt_st (pt_il q.1 q.2).2.1 && decide ((pt_yn (pt_il q.1 q.2).2.1).name = "<init>") && decide (pt_hr (pt_il q.1 q.2).2.1 = []) && decide (pt_rt (pt_il q.1 q.2).2.1 = none) && decide ((pt_nar (pt_yn (pt_il q.1 q.2).2.1).desc).map (· + 1) = some (pt_il q.1 q.2).2.2)
    | 2 => !pt_st (pt_il q.1 q.2).2.1 && decide (pt_wd (pt_vp (pt_il q.1 q.2).2.1) = some (.selects (pt_nm (pt_k (pt_il q.1 q.2).2.1)) (pt_yn (pt_il q.1 q.2).2.1) (pt_yn (pt_il q.1 q.2).2.1))) && decide ((pt_nar (pt_yn (pt_il q.1 q.2).2.1).desc).map (· + 1) = some (pt_il q.1 q.2).2.2)
    | _ => false)
theorem pt_okM_all : pt_keyM.all pt_okM = true := by decide +kernel
