theorem pk_88_0 : (List.range 12).all (fun j => pt_chk 88 (0 + j)) = true := by decide +kernel
theorem pkm_88 (pc : Nat) (h : pc < 12) : pt_chk 88 pc = true := by
  exact pk_use pk_88_0 (by omega) (by omega)
theorem pk_89_0 : (List.range 11).all (fun j => pt_chk 89 (0 + j)) = true := by decide +kernel
theorem pkm_89 (pc : Nat) (h : pc < 11) : pt_chk 89 pc = true := by
  exact pk_use pk_89_0 (by omega) (by omega)
theorem pk_90_0 : (List.range 27).all (fun j => pt_chk 90 (0 + j)) = true := by decide +kernel
theorem pkm_90 (pc : Nat) (h : pc < 27) : pt_chk 90 pc = true := by
  exact pk_use pk_90_0 (by omega) (by omega)
theorem pk_91_0 : (List.range 42).all (fun j => pt_chk 91 (0 + j)) = true := by decide +kernel
theorem pkm_91 (pc : Nat) (h : pc < 42) : pt_chk 91 pc = true := by
  exact pk_use pk_91_0 (by omega) (by omega)
theorem pk_92_0 : (List.range 26).all (fun j => pt_chk 92 (0 + j)) = true := by decide +kernel
theorem pkm_92 (pc : Nat) (h : pc < 26) : pt_chk 92 pc = true := by
  exact pk_use pk_92_0 (by omega) (by omega)
theorem pk_93_0 : (List.range 13).all (fun j => pt_chk 93 (0 + j)) = true := by decide +kernel
theorem pkm_93 (pc : Nat) (h : pc < 13) : pt_chk 93 pc = true := by
  exact pk_use pk_93_0 (by omega) (by omega)
theorem pk_94_0 : (List.range 80).all (fun j => pt_chk 94 (0 + j)) = true := by decide +kernel
theorem pk_94_1 : (List.range 26).all (fun j => pt_chk 94 (80 + j)) = true := by decide +kernel
theorem pkm_94 (pc : Nat) (h : pc < 106) : pt_chk 94 pc = true := by
  by_cases h0 : pc < 80
  · exact pk_use pk_94_0 (by omega) (by omega)
  exact pk_use pk_94_1 (by omega) (by omega)
theorem pk_95_0 : (List.range 47).all (fun j => pt_chk 95 (0 + j)) = true := by decide +kernel
theorem pkm_95 (pc : Nat) (h : pc < 47) : pt_chk 95 pc = true := by
  exact pk_use pk_95_0 (by omega) (by omega)
theorem pk_96_0 : (List.range 80).all (fun j => pt_chk 96 (0 + j)) = true := by decide +kernel
theorem pk_96_1 : (List.range 29).all (fun j => pt_chk 96 (80 + j)) = true := by decide +kernel
theorem pkm_96 (pc : Nat) (h : pc < 109) : pt_chk 96 pc = true := by
  by_cases h0 : pc < 80
  · exact pk_use pk_96_0 (by omega) (by omega)
  exact pk_use pk_96_1 (by omega) (by omega)
theorem pk_97_0 : (List.range 72).all (fun j => pt_chk 97 (0 + j)) = true := by decide +kernel
theorem pkm_97 (pc : Nat) (h : pc < 72) : pt_chk 97 pc = true := by
  exact pk_use pk_97_0 (by omega) (by omega)
theorem pk_98_0 : (List.range 38).all (fun j => pt_chk 98 (0 + j)) = true := by decide +kernel
theorem pkm_98 (pc : Nat) (h : pc < 38) : pt_chk 98 pc = true := by
  exact pk_use pk_98_0 (by omega) (by omega)
theorem pk_99_0 : (List.range 48).all (fun j => pt_chk 99 (0 + j)) = true := by decide +kernel
theorem pkm_99 (pc : Nat) (h : pc < 48) : pt_chk 99 pc = true := by
  exact pk_use pk_99_0 (by omega) (by omega)
theorem pk_100_0 : (List.range 61).all (fun j => pt_chk 100 (0 + j)) = true := by decide +kernel
theorem pkm_100 (pc : Nat) (h : pc < 61) : pt_chk 100 pc = true := by
  exact pk_use pk_100_0 (by omega) (by omega)
theorem pk_101_0 : (List.range 80).all (fun j => pt_chk 101 (0 + j)) = true := by decide +kernel
theorem pk_101_1 : (List.range 20).all (fun j => pt_chk 101 (80 + j)) = true := by decide +kernel
theorem pkm_101 (pc : Nat) (h : pc < 100) : pt_chk 101 pc = true := by
  by_cases h0 : pc < 80
  · exact pk_use pk_101_0 (by omega) (by omega)
  exact pk_use pk_101_1 (by omega) (by omega)
theorem pk_102_0 : (List.range 80).all (fun j => pt_chk 102 (0 + j)) = true := by decide +kernel
theorem pk_102_1 : (List.range 3).all (fun j => pt_chk 102 (80 + j)) = true := by decide +kernel
theorem pkm_102 (pc : Nat) (h : pc < 83) : pt_chk 102 pc = true := by
  by_cases h0 : pc < 80
  · exact pk_use pk_102_0 (by omega) (by omega)
  exact pk_use pk_102_1 (by omega) (by omega)
theorem pk_103_0 : (List.range 80).all (fun j => pt_chk 103 (0 + j)) = true := by decide +kernel
theorem pk_103_1 : (List.range 18).all (fun j => pt_chk 103 (80 + j)) = true := by decide +kernel
theorem pkm_103 (pc : Nat) (h : pc < 98) : pt_chk 103 pc = true := by
  by_cases h0 : pc < 80
  · exact pk_use pk_103_0 (by omega) (by omega)
  exact pk_use pk_103_1 (by omega) (by omega)
theorem pk_104_0 : (List.range 35).all (fun j => pt_chk 104 (0 + j)) = true := by decide +kernel
theorem pkm_104 (pc : Nat) (h : pc < 35) : pt_chk 104 pc = true := by
  exact pk_use pk_104_0 (by omega) (by omega)
theorem pk_105_0 : (List.range 24).all (fun j => pt_chk 105 (0 + j)) = true := by decide +kernel
theorem pkm_105 (pc : Nat) (h : pc < 24) : pt_chk 105 pc = true := by
  exact pk_use pk_105_0 (by omega) (by omega)
theorem pk_106_0 : (List.range 26).all (fun j => pt_chk 106 (0 + j)) = true := by decide +kernel
theorem pkm_106 (pc : Nat) (h : pc < 26) : pt_chk 106 pc = true := by
  exact pk_use pk_106_0 (by omega) (by omega)
theorem pk_107_0 : (List.range 23).all (fun j => pt_chk 107 (0 + j)) = true := by decide +kernel
theorem pkm_107 (pc : Nat) (h : pc < 23) : pt_chk 107 pc = true := by
  exact pk_use pk_107_0 (by omega) (by omega)
theorem pk_108_0 : (List.range 33).all (fun j => pt_chk 108 (0 + j)) = true := by decide +kernel
theorem pkm_108 (pc : Nat) (h : pc < 33) : pt_chk 108 pc = true := by
  exact pk_use pk_108_0 (by omega) (by omega)
theorem pk_109_0 : (List.range 63).all (fun j => pt_chk 109 (0 + j)) = true := by decide +kernel
theorem pkm_109 (pc : Nat) (h : pc < 63) : pt_chk 109 pc = true := by
  exact pk_use pk_109_0 (by omega) (by omega)
theorem pk_110_0 : (List.range 36).all (fun j => pt_chk 110 (0 + j)) = true := by decide +kernel
theorem pkm_110 (pc : Nat) (h : pc < 36) : pt_chk 110 pc = true := by
  exact pk_use pk_110_0 (by omega) (by omega)
theorem pk_111_0 : (List.range 33).all (fun j => pt_chk 111 (0 + j)) = true := by decide +kernel
theorem pkm_111 (pc : Nat) (h : pc < 33) : pt_chk 111 pc = true := by
  exact pk_use pk_111_0 (by omega) (by omega)
theorem pk_112_0 : (List.range 33).all (fun j => pt_chk 112 (0 + j)) = true := by decide +kernel
theorem pkm_112 (pc : Nat) (h : pc < 33) : pt_chk 112 pc = true := by
  exact pk_use pk_112_0 (by omega) (by omega)
theorem pk_113_0 : (List.range 65).all (fun j => pt_chk 113 (0 + j)) = true := by decide +kernel
theorem pkm_113 (pc : Nat) (h : pc < 65) : pt_chk 113 pc = true := by
  exact pk_use pk_113_0 (by omega) (by omega)
theorem pk_114_0 : (List.range 51).all (fun j => pt_chk 114 (0 + j)) = true := by decide +kernel
theorem pkm_114 (pc : Nat) (h : pc < 51) : pt_chk 114 pc = true := by
  exact pk_use pk_114_0 (by omega) (by omega)
theorem pk_115_0 : (List.range 77).all (fun j => pt_chk 115 (0 + j)) = true := by decide +kernel
theorem pkm_115 (pc : Nat) (h : pc < 77) : pt_chk 115 pc = true := by
  exact pk_use pk_115_0 (by omega) (by omega)
theorem pk_116_0 : (List.range 68).all (fun j => pt_chk 116 (0 + j)) = true := by decide +kernel
theorem pkm_116 (pc : Nat) (h : pc < 68) : pt_chk 116 pc = true := by
  exact pk_use pk_116_0 (by omega) (by omega)
theorem pk_117_0 : (List.range 28).all (fun j => pt_chk 117 (0 + j)) = true := by decide +kernel
theorem pkm_117 (pc : Nat) (h : pc < 28) : pt_chk 117 pc = true := by
  exact pk_use pk_117_0 (by omega) (by omega)
theorem pk_118_0 : (List.range 10).all (fun j => pt_chk 118 (0 + j)) = true := by decide +kernel
theorem pkm_118 (pc : Nat) (h : pc < 10) : pt_chk 118 pc = true := by
  exact pk_use pk_118_0 (by omega) (by omega)
theorem pk_119_0 : (List.range 46).all (fun j => pt_chk 119 (0 + j)) = true := by decide +kernel
theorem pkm_119 (pc : Nat) (h : pc < 46) : pt_chk 119 pc = true := by
  exact pk_use pk_119_0 (by omega) (by omega)
theorem pk_120_0 : (List.range 80).all (fun j => pt_chk 120 (0 + j)) = true := by decide +kernel
theorem pk_120_1 : (List.range 27).all (fun j => pt_chk 120 (80 + j)) = true := by decide +kernel
theorem pkm_120 (pc : Nat) (h : pc < 107) : pt_chk 120 pc = true := by
  by_cases h0 : pc < 80
  · exact pk_use pk_120_0 (by omega) (by omega)
  exact pk_use pk_120_1 (by omega) (by omega)
theorem pk_121_0 : (List.range 80).all (fun j => pt_chk 121 (0 + j)) = true := by decide +kernel
theorem pk_121_1 : (List.range 15).all (fun j => pt_chk 121 (80 + j)) = true := by decide +kernel
theorem pkm_121 (pc : Nat) (h : pc < 95) : pt_chk 121 pc = true := by
  by_cases h0 : pc < 80
  · exact pk_use pk_121_0 (by omega) (by omega)
  exact pk_use pk_121_1 (by omega) (by omega)
theorem pk_122_0 : (List.range 44).all (fun j => pt_chk 122 (0 + j)) = true := by decide +kernel
theorem pkm_122 (pc : Nat) (h : pc < 44) : pt_chk 122 pc = true := by
  exact pk_use pk_122_0 (by omega) (by omega)
theorem pk_123_0 : (List.range 58).all (fun j => pt_chk 123 (0 + j)) = true := by decide +kernel
theorem pkm_123 (pc : Nat) (h : pc < 58) : pt_chk 123 pc = true := by
  exact pk_use pk_123_0 (by omega) (by omega)
theorem pk_124_0 : (List.range 80).all (fun j => pt_chk 124 (0 + j)) = true := by decide +kernel
theorem pk_124_1 : (List.range 47).all (fun j => pt_chk 124 (80 + j)) = true := by decide +kernel
theorem pkm_124 (pc : Nat) (h : pc < 127) : pt_chk 124 pc = true := by
  by_cases h0 : pc < 80
  · exact pk_use pk_124_0 (by omega) (by omega)
  exact pk_use pk_124_1 (by omega) (by omega)
theorem pk_125_0 : (List.range 80).all (fun j => pt_chk 125 (0 + j)) = true := by decide +kernel
theorem pk_125_1 : (List.range 80).all (fun j => pt_chk 125 (80 + j)) = true := by decide +kernel
theorem pk_125_2 : (List.range 9).all (fun j => pt_chk 125 (160 + j)) = true := by decide +kernel
theorem pkm_125 (pc : Nat) (h : pc < 169) : pt_chk 125 pc = true := by
  by_cases h0 : pc < 80
  · exact pk_use pk_125_0 (by omega) (by omega)
  by_cases h1 : pc < 160
  · exact pk_use pk_125_1 (by omega) (by omega)
  exact pk_use pk_125_2 (by omega) (by omega)
theorem pk_126_0 : (List.range 74).all (fun j => pt_chk 126 (0 + j)) = true := by decide +kernel
theorem pkm_126 (pc : Nat) (h : pc < 74) : pt_chk 126 pc = true := by
  exact pk_use pk_126_0 (by omega) (by omega)
theorem pk_127_0 : (List.range 80).all (fun j => pt_chk 127 (0 + j)) = true := by decide +kernel
theorem pk_127_1 : (List.range 80).all (fun j => pt_chk 127 (80 + j)) = true := by decide +kernel
theorem pk_127_2 : (List.range 63).all (fun j => pt_chk 127 (160 + j)) = true := by decide +kernel
theorem pkm_127 (pc : Nat) (h : pc < 223) : pt_chk 127 pc = true := by
  by_cases h0 : pc < 80
  · exact pk_use pk_127_0 (by omega) (by omega)
  by_cases h1 : pc < 160
  · exact pk_use pk_127_1 (by omega) (by omega)
  exact pk_use pk_127_2 (by omega) (by omega)
theorem pk_128_0 : (List.range 43).all (fun j => pt_chk 128 (0 + j)) = true := by decide +kernel
theorem pkm_128 (pc : Nat) (h : pc < 43) : pt_chk 128 pc = true := by
  exact pk_use pk_128_0 (by omega) (by omega)
theorem pk_129_0 : (List.range 41).all (fun j => pt_chk 129 (0 + j)) = true := by decide +kernel
theorem pkm_129 (pc : Nat) (h : pc < 41) : pt_chk 129 pc = true := by
  exact pk_use pk_129_0 (by omega) (by omega)
theorem pk_130_0 : (List.range 80).all (fun j => pt_chk 130 (0 + j)) = true := by decide +kernel
theorem pk_130_1 : (List.range 40).all (fun j => pt_chk 130 (80 + j)) = true := by decide +kernel
theorem pkm_130 (pc : Nat) (h : pc < 120) : pt_chk 130 pc = true := by
  by_cases h0 : pc < 80
  · exact pk_use pk_130_0 (by omega) (by omega)
  exact pk_use pk_130_1 (by omega) (by omega)
theorem pk_131_0 : (List.range 80).all (fun j => pt_chk 131 (0 + j)) = true := by decide +kernel
theorem pk_131_1 : (List.range 35).all (fun j => pt_chk 131 (80 + j)) = true := by decide +kernel
theorem pkm_131 (pc : Nat) (h : pc < 115) : pt_chk 131 pc = true := by
  by_cases h0 : pc < 80
  · exact pk_use pk_131_0 (by omega) (by omega)
  exact pk_use pk_131_1 (by omega) (by omega)
theorem pk_132_0 : (List.range 78).all (fun j => pt_chk 132 (0 + j)) = true := by decide +kernel
theorem pkm_132 (pc : Nat) (h : pc < 78) : pt_chk 132 pc = true := by
  exact pk_use pk_132_0 (by omega) (by omega)
theorem pk_133_0 : (List.range 53).all (fun j => pt_chk 133 (0 + j)) = true := by decide +kernel
theorem pkm_133 (pc : Nat) (h : pc < 53) : pt_chk 133 pc = true := by
  exact pk_use pk_133_0 (by omega) (by omega)
theorem pk_134_0 : (List.range 80).all (fun j => pt_chk 134 (0 + j)) = true := by decide +kernel
theorem pk_134_1 : (List.range 41).all (fun j => pt_chk 134 (80 + j)) = true := by decide +kernel
theorem pkm_134 (pc : Nat) (h : pc < 121) : pt_chk 134 pc = true := by
  by_cases h0 : pc < 80
  · exact pk_use pk_134_0 (by omega) (by omega)
  exact pk_use pk_134_1 (by omega) (by omega)
theorem pk_135_0 : (List.range 33).all (fun j => pt_chk 135 (0 + j)) = true := by decide +kernel
theorem pkm_135 (pc : Nat) (h : pc < 33) : pt_chk 135 pc = true := by
  exact pk_use pk_135_0 (by omega) (by omega)
theorem pk_136_0 : (List.range 25).all (fun j => pt_chk 136 (0 + j)) = true := by decide +kernel
theorem pkm_136 (pc : Nat) (h : pc < 25) : pt_chk 136 pc = true := by
  exact pk_use pk_136_0 (by omega) (by omega)
theorem pk_137_0 : (List.range 80).all (fun j => pt_chk 137 (0 + j)) = true := by decide +kernel
theorem pk_137_1 : (List.range 6).all (fun j => pt_chk 137 (80 + j)) = true := by decide +kernel
theorem pkm_137 (pc : Nat) (h : pc < 86) : pt_chk 137 pc = true := by
  by_cases h0 : pc < 80
  · exact pk_use pk_137_0 (by omega) (by omega)
  exact pk_use pk_137_1 (by omega) (by omega)
theorem pk_138_0 : (List.range 80).all (fun j => pt_chk 138 (0 + j)) = true := by decide +kernel
theorem pk_138_1 : (List.range 80).all (fun j => pt_chk 138 (80 + j)) = true := by decide +kernel
theorem pk_138_2 : (List.range 48).all (fun j => pt_chk 138 (160 + j)) = true := by decide +kernel
theorem pkm_138 (pc : Nat) (h : pc < 208) : pt_chk 138 pc = true := by
  by_cases h0 : pc < 80
  · exact pk_use pk_138_0 (by omega) (by omega)
  by_cases h1 : pc < 160
  · exact pk_use pk_138_1 (by omega) (by omega)
  exact pk_use pk_138_2 (by omega) (by omega)
theorem pk_139_0 : (List.range 80).all (fun j => pt_chk 139 (0 + j)) = true := by decide +kernel
theorem pk_139_1 : (List.range 58).all (fun j => pt_chk 139 (80 + j)) = true := by decide +kernel
theorem pkm_139 (pc : Nat) (h : pc < 138) : pt_chk 139 pc = true := by
  by_cases h0 : pc < 80
  · exact pk_use pk_139_0 (by omega) (by omega)
  exact pk_use pk_139_1 (by omega) (by omega)
theorem pk_140_0 : (List.range 69).all (fun j => pt_chk 140 (0 + j)) = true := by decide +kernel
theorem pkm_140 (pc : Nat) (h : pc < 69) : pt_chk 140 pc = true := by
  exact pk_use pk_140_0 (by omega) (by omega)
theorem pk_141_0 : (List.range 55).all (fun j => pt_chk 141 (0 + j)) = true := by decide +kernel
theorem pkm_141 (pc : Nat) (h : pc < 55) : pt_chk 141 pc = true := by
  exact pk_use pk_141_0 (by omega) (by omega)
theorem pk_142_0 : (List.range 80).all (fun j => pt_chk 142 (0 + j)) = true := by decide +kernel
theorem pk_142_1 : (List.range 65).all (fun j => pt_chk 142 (80 + j)) = true := by decide +kernel
theorem pkm_142 (pc : Nat) (h : pc < 145) : pt_chk 142 pc = true := by
  by_cases h0 : pc < 80
  · exact pk_use pk_142_0 (by omega) (by omega)
  exact pk_use pk_142_1 (by omega) (by omega)
theorem pk_143_0 : (List.range 80).all (fun j => pt_chk 143 (0 + j)) = true := by decide +kernel
theorem pk_143_1 : (List.range 49).all (fun j => pt_chk 143 (80 + j)) = true := by decide +kernel
theorem pkm_143 (pc : Nat) (h : pc < 129) : pt_chk 143 pc = true := by
  by_cases h0 : pc < 80
  · exact pk_use pk_143_0 (by omega) (by omega)
  exact pk_use pk_143_1 (by omega) (by omega)
theorem pk_144_0 : (List.range 80).all (fun j => pt_chk 144 (0 + j)) = true := by decide +kernel
theorem pk_144_1 : (List.range 79).all (fun j => pt_chk 144 (80 + j)) = true := by decide +kernel
theorem pkm_144 (pc : Nat) (h : pc < 159) : pt_chk 144 pc = true := by
  by_cases h0 : pc < 80
  · exact pk_use pk_144_0 (by omega) (by omega)
  exact pk_use pk_144_1 (by omega) (by omega)
theorem pk_145_0 : (List.range 80).all (fun j => pt_chk 145 (0 + j)) = true := by decide +kernel
theorem pk_145_1 : (List.range 50).all (fun j => pt_chk 145 (80 + j)) = true := by decide +kernel
theorem pkm_145 (pc : Nat) (h : pc < 130) : pt_chk 145 pc = true := by
  by_cases h0 : pc < 80
  · exact pk_use pk_145_0 (by omega) (by omega)
  exact pk_use pk_145_1 (by omega) (by omega)
theorem pk_146_0 : (List.range 80).all (fun j => pt_chk 146 (0 + j)) = true := by decide +kernel
theorem pk_146_1 : (List.range 80).all (fun j => pt_chk 146 (80 + j)) = true := by decide +kernel
theorem pk_146_2 : (List.range 5).all (fun j => pt_chk 146 (160 + j)) = true := by decide +kernel
theorem pkm_146 (pc : Nat) (h : pc < 165) : pt_chk 146 pc = true := by
  by_cases h0 : pc < 80
  · exact pk_use pk_146_0 (by omega) (by omega)
  by_cases h1 : pc < 160
  · exact pk_use pk_146_1 (by omega) (by omega)
  exact pk_use pk_146_2 (by omega) (by omega)
theorem pk_147_0 : (List.range 80).all (fun j => pt_chk 147 (0 + j)) = true := by decide +kernel
theorem pk_147_1 : (List.range 63).all (fun j => pt_chk 147 (80 + j)) = true := by decide +kernel
theorem pkm_147 (pc : Nat) (h : pc < 143) : pt_chk 147 pc = true := by
  by_cases h0 : pc < 80
  · exact pk_use pk_147_0 (by omega) (by omega)
  exact pk_use pk_147_1 (by omega) (by omega)
theorem pk_148_0 : (List.range 80).all (fun j => pt_chk 148 (0 + j)) = true := by decide +kernel
theorem pk_148_1 : (List.range 39).all (fun j => pt_chk 148 (80 + j)) = true := by decide +kernel
theorem pkm_148 (pc : Nat) (h : pc < 119) : pt_chk 148 pc = true := by
  by_cases h0 : pc < 80
  · exact pk_use pk_148_0 (by omega) (by omega)
  exact pk_use pk_148_1 (by omega) (by omega)
theorem pk_149_0 : (List.range 80).all (fun j => pt_chk 149 (0 + j)) = true := by decide +kernel
theorem pk_149_1 : (List.range 80).all (fun j => pt_chk 149 (80 + j)) = true := by decide +kernel
theorem pk_149_2 : (List.range 62).all (fun j => pt_chk 149 (160 + j)) = true := by decide +kernel
theorem pkm_149 (pc : Nat) (h : pc < 222) : pt_chk 149 pc = true := by
  by_cases h0 : pc < 80
  · exact pk_use pk_149_0 (by omega) (by omega)
  by_cases h1 : pc < 160
  · exact pk_use pk_149_1 (by omega) (by omega)
  exact pk_use pk_149_2 (by omega) (by omega)
theorem pk_150_0 : (List.range 10).all (fun j => pt_chk 150 (0 + j)) = true := by decide +kernel
theorem pkm_150 (pc : Nat) (h : pc < 10) : pt_chk 150 pc = true := by
  exact pk_use pk_150_0 (by omega) (by omega)
theorem pk_151_0 : (List.range 80).all (fun j => pt_chk 151 (0 + j)) = true := by decide +kernel
theorem pk_151_1 : (List.range 49).all (fun j => pt_chk 151 (80 + j)) = true := by decide +kernel
theorem pkm_151 (pc : Nat) (h : pc < 129) : pt_chk 151 pc = true := by
  by_cases h0 : pc < 80
  · exact pk_use pk_151_0 (by omega) (by omega)
  exact pk_use pk_151_1 (by omega) (by omega)
theorem pk_152_0 : (List.range 66).all (fun j => pt_chk 152 (0 + j)) = true := by decide +kernel
theorem pkm_152 (pc : Nat) (h : pc < 66) : pt_chk 152 pc = true := by
  exact pk_use pk_152_0 (by omega) (by omega)
theorem pk_153_0 : (List.range 66).all (fun j => pt_chk 153 (0 + j)) = true := by decide +kernel
theorem pkm_153 (pc : Nat) (h : pc < 66) : pt_chk 153 pc = true := by
  exact pk_use pk_153_0 (by omega) (by omega)
theorem pk_154_0 : (List.range 74).all (fun j => pt_chk 154 (0 + j)) = true := by decide +kernel
theorem pkm_154 (pc : Nat) (h : pc < 74) : pt_chk 154 pc = true := by
  exact pk_use pk_154_0 (by omega) (by omega)
theorem pk_155_0 : (List.range 80).all (fun j => pt_chk 155 (0 + j)) = true := by decide +kernel
theorem pk_155_1 : (List.range 7).all (fun j => pt_chk 155 (80 + j)) = true := by decide +kernel
theorem pkm_155 (pc : Nat) (h : pc < 87) : pt_chk 155 pc = true := by
  by_cases h0 : pc < 80
  · exact pk_use pk_155_0 (by omega) (by omega)
  exact pk_use pk_155_1 (by omega) (by omega)
theorem pk_156_0 : (List.range 80).all (fun j => pt_chk 156 (0 + j)) = true := by decide +kernel
theorem pk_156_1 : (List.range 54).all (fun j => pt_chk 156 (80 + j)) = true := by decide +kernel
theorem pkm_156 (pc : Nat) (h : pc < 134) : pt_chk 156 pc = true := by
  by_cases h0 : pc < 80
  · exact pk_use pk_156_0 (by omega) (by omega)
  exact pk_use pk_156_1 (by omega) (by omega)
theorem pk_157_0 : (List.range 37).all (fun j => pt_chk 157 (0 + j)) = true := by decide +kernel
theorem pkm_157 (pc : Nat) (h : pc < 37) : pt_chk 157 pc = true := by
  exact pk_use pk_157_0 (by omega) (by omega)
theorem pk_158_0 : (List.range 80).all (fun j => pt_chk 158 (0 + j)) = true := by decide +kernel
theorem pk_158_1 : (List.range 49).all (fun j => pt_chk 158 (80 + j)) = true := by decide +kernel
theorem pkm_158 (pc : Nat) (h : pc < 129) : pt_chk 158 pc = true := by
  by_cases h0 : pc < 80
  · exact pk_use pk_158_0 (by omega) (by omega)
  exact pk_use pk_158_1 (by omega) (by omega)
