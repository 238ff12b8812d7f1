theorem pk_0_0 : (List.range 80).all (fun j => pt_chk 0 (0 + j)) = true := by decide +kernel
theorem pk_0_1 : (List.range 40).all (fun j => pt_chk 0 (80 + j)) = true := by decide +kernel
theorem pkm_0 (pc : Nat) (h : pc < 120) : pt_chk 0 pc = true := by
  by_cases h0 : pc < 80
  · exact pk_use pk_0_0 (by omega) (by omega)
  exact pk_use pk_0_1 (by omega) (by omega)
theorem pk_1_0 : (List.range 80).all (fun j => pt_chk 1 (0 + j)) = true := by decide +kernel
theorem pk_1_1 : (List.range 8).all (fun j => pt_chk 1 (80 + j)) = true := by decide +kernel
theorem pkm_1 (pc : Nat) (h : pc < 88) : pt_chk 1 pc = true := by
  by_cases h0 : pc < 80
  · exact pk_use pk_1_0 (by omega) (by omega)
  exact pk_use pk_1_1 (by omega) (by omega)
theorem pk_2_0 : (List.range 42).all (fun j => pt_chk 2 (0 + j)) = true := by decide +kernel
theorem pkm_2 (pc : Nat) (h : pc < 42) : pt_chk 2 pc = true := by
  exact pk_use pk_2_0 (by omega) (by omega)
theorem pk_3_0 : (List.range 63).all (fun j => pt_chk 3 (0 + j)) = true := by decide +kernel
theorem pkm_3 (pc : Nat) (h : pc < 63) : pt_chk 3 pc = true := by
  exact pk_use pk_3_0 (by omega) (by omega)
theorem pk_4_0 : (List.range 27).all (fun j => pt_chk 4 (0 + j)) = true := by decide +kernel
theorem pkm_4 (pc : Nat) (h : pc < 27) : pt_chk 4 pc = true := by
  exact pk_use pk_4_0 (by omega) (by omega)
theorem pk_5_0 : (List.range 80).all (fun j => pt_chk 5 (0 + j)) = true := by decide +kernel
theorem pk_5_1 : (List.range 45).all (fun j => pt_chk 5 (80 + j)) = true := by decide +kernel
theorem pkm_5 (pc : Nat) (h : pc < 125) : pt_chk 5 pc = true := by
  by_cases h0 : pc < 80
  · exact pk_use pk_5_0 (by omega) (by omega)
  exact pk_use pk_5_1 (by omega) (by omega)
theorem pk_6_0 : (List.range 80).all (fun j => pt_chk 6 (0 + j)) = true := by decide +kernel
theorem pk_6_1 : (List.range 10).all (fun j => pt_chk 6 (80 + j)) = true := by decide +kernel
theorem pkm_6 (pc : Nat) (h : pc < 90) : pt_chk 6 pc = true := by
  by_cases h0 : pc < 80
  · exact pk_use pk_6_0 (by omega) (by omega)
  exact pk_use pk_6_1 (by omega) (by omega)
theorem pk_7_0 : (List.range 80).all (fun j => pt_chk 7 (0 + j)) = true := by decide +kernel
theorem pk_7_1 : (List.range 62).all (fun j => pt_chk 7 (80 + j)) = true := by decide +kernel
theorem pkm_7 (pc : Nat) (h : pc < 142) : pt_chk 7 pc = true := by
  by_cases h0 : pc < 80
  · exact pk_use pk_7_0 (by omega) (by omega)
  exact pk_use pk_7_1 (by omega) (by omega)
theorem pk_8_0 : (List.range 46).all (fun j => pt_chk 8 (0 + j)) = true := by decide +kernel
theorem pkm_8 (pc : Nat) (h : pc < 46) : pt_chk 8 pc = true := by
  exact pk_use pk_8_0 (by omega) (by omega)
theorem pk_9_0 : (List.range 39).all (fun j => pt_chk 9 (0 + j)) = true := by decide +kernel
theorem pkm_9 (pc : Nat) (h : pc < 39) : pt_chk 9 pc = true := by
  exact pk_use pk_9_0 (by omega) (by omega)
theorem pk_10_0 : (List.range 80).all (fun j => pt_chk 10 (0 + j)) = true := by decide +kernel
theorem pk_10_1 : (List.range 80).all (fun j => pt_chk 10 (80 + j)) = true := by decide +kernel
theorem pk_10_2 : (List.range 8).all (fun j => pt_chk 10 (160 + j)) = true := by decide +kernel
theorem pkm_10 (pc : Nat) (h : pc < 168) : pt_chk 10 pc = true := by
  by_cases h0 : pc < 80
  · exact pk_use pk_10_0 (by omega) (by omega)
  by_cases h1 : pc < 160
  · exact pk_use pk_10_1 (by omega) (by omega)
  exact pk_use pk_10_2 (by omega) (by omega)
theorem pk_11_0 : (List.range 30).all (fun j => pt_chk 11 (0 + j)) = true := by decide +kernel
theorem pkm_11 (pc : Nat) (h : pc < 30) : pt_chk 11 pc = true := by
  exact pk_use pk_11_0 (by omega) (by omega)
theorem pk_12_0 : (List.range 80).all (fun j => pt_chk 12 (0 + j)) = true := by decide +kernel
theorem pk_12_1 : (List.range 72).all (fun j => pt_chk 12 (80 + j)) = true := by decide +kernel
theorem pkm_12 (pc : Nat) (h : pc < 152) : pt_chk 12 pc = true := by
  by_cases h0 : pc < 80
  · exact pk_use pk_12_0 (by omega) (by omega)
  exact pk_use pk_12_1 (by omega) (by omega)
theorem pk_13_0 : (List.range 52).all (fun j => pt_chk 13 (0 + j)) = true := by decide +kernel
theorem pkm_13 (pc : Nat) (h : pc < 52) : pt_chk 13 pc = true := by
  exact pk_use pk_13_0 (by omega) (by omega)
theorem pk_14_0 : (List.range 80).all (fun j => pt_chk 14 (0 + j)) = true := by decide +kernel
theorem pk_14_1 : (List.range 66).all (fun j => pt_chk 14 (80 + j)) = true := by decide +kernel
theorem pkm_14 (pc : Nat) (h : pc < 146) : pt_chk 14 pc = true := by
  by_cases h0 : pc < 80
  · exact pk_use pk_14_0 (by omega) (by omega)
  exact pk_use pk_14_1 (by omega) (by omega)
theorem pk_15_0 : (List.range 55).all (fun j => pt_chk 15 (0 + j)) = true := by decide +kernel
theorem pkm_15 (pc : Nat) (h : pc < 55) : pt_chk 15 pc = true := by
  exact pk_use pk_15_0 (by omega) (by omega)
theorem pk_16_0 : (List.range 31).all (fun j => pt_chk 16 (0 + j)) = true := by decide +kernel
theorem pkm_16 (pc : Nat) (h : pc < 31) : pt_chk 16 pc = true := by
  exact pk_use pk_16_0 (by omega) (by omega)
theorem pk_17_0 : (List.range 48).all (fun j => pt_chk 17 (0 + j)) = true := by decide +kernel
theorem pkm_17 (pc : Nat) (h : pc < 48) : pt_chk 17 pc = true := by
  exact pk_use pk_17_0 (by omega) (by omega)
theorem pk_18_0 : (List.range 80).all (fun j => pt_chk 18 (0 + j)) = true := by decide +kernel
theorem pk_18_1 : (List.range 1).all (fun j => pt_chk 18 (80 + j)) = true := by decide +kernel
theorem pkm_18 (pc : Nat) (h : pc < 81) : pt_chk 18 pc = true := by
  by_cases h0 : pc < 80
  · exact pk_use pk_18_0 (by omega) (by omega)
  exact pk_use pk_18_1 (by omega) (by omega)
theorem pk_19_0 : (List.range 8).all (fun j => pt_chk 19 (0 + j)) = true := by decide +kernel
theorem pkm_19 (pc : Nat) (h : pc < 8) : pt_chk 19 pc = true := by
  exact pk_use pk_19_0 (by omega) (by omega)
theorem pk_20_0 : (List.range 11).all (fun j => pt_chk 20 (0 + j)) = true := by decide +kernel
theorem pkm_20 (pc : Nat) (h : pc < 11) : pt_chk 20 pc = true := by
  exact pk_use pk_20_0 (by omega) (by omega)
theorem pk_21_0 : (List.range 12).all (fun j => pt_chk 21 (0 + j)) = true := by decide +kernel
theorem pkm_21 (pc : Nat) (h : pc < 12) : pt_chk 21 pc = true := by
  exact pk_use pk_21_0 (by omega) (by omega)
theorem pk_22_0 : (List.range 71).all (fun j => pt_chk 22 (0 + j)) = true := by decide +kernel
theorem pkm_22 (pc : Nat) (h : pc < 71) : pt_chk 22 pc = true := by
  exact pk_use pk_22_0 (by omega) (by omega)
theorem pk_23_0 : (List.range 80).all (fun j => pt_chk 23 (0 + j)) = true := by decide +kernel
theorem pk_23_1 : (List.range 60).all (fun j => pt_chk 23 (80 + j)) = true := by decide +kernel
theorem pkm_23 (pc : Nat) (h : pc < 140) : pt_chk 23 pc = true := by
  by_cases h0 : pc < 80
  · exact pk_use pk_23_0 (by omega) (by omega)
  exact pk_use pk_23_1 (by omega) (by omega)
theorem pk_24_0 : (List.range 80).all (fun j => pt_chk 24 (0 + j)) = true := by decide +kernel
theorem pk_24_1 : (List.range 57).all (fun j => pt_chk 24 (80 + j)) = true := by decide +kernel
theorem pkm_24 (pc : Nat) (h : pc < 137) : pt_chk 24 pc = true := by
  by_cases h0 : pc < 80
  · exact pk_use pk_24_0 (by omega) (by omega)
  exact pk_use pk_24_1 (by omega) (by omega)
theorem pk_25_0 : (List.range 80).all (fun j => pt_chk 25 (0 + j)) = true := by decide +kernel
theorem pk_25_1 : (List.range 80).all (fun j => pt_chk 25 (80 + j)) = true := by decide +kernel
theorem pk_25_2 : (List.range 22).all (fun j => pt_chk 25 (160 + j)) = true := by decide +kernel
theorem pkm_25 (pc : Nat) (h : pc < 182) : pt_chk 25 pc = true := by
  by_cases h0 : pc < 80
  · exact pk_use pk_25_0 (by omega) (by omega)
  by_cases h1 : pc < 160
  · exact pk_use pk_25_1 (by omega) (by omega)
  exact pk_use pk_25_2 (by omega) (by omega)
theorem pk_26_0 : (List.range 22).all (fun j => pt_chk 26 (0 + j)) = true := by decide +kernel
theorem pkm_26 (pc : Nat) (h : pc < 22) : pt_chk 26 pc = true := by
  exact pk_use pk_26_0 (by omega) (by omega)
theorem pk_27_0 : (List.range 25).all (fun j => pt_chk 27 (0 + j)) = true := by decide +kernel
theorem pkm_27 (pc : Nat) (h : pc < 25) : pt_chk 27 pc = true := by
  exact pk_use pk_27_0 (by omega) (by omega)
theorem pk_28_0 : (List.range 80).all (fun j => pt_chk 28 (0 + j)) = true := by decide +kernel
theorem pk_28_1 : (List.range 12).all (fun j => pt_chk 28 (80 + j)) = true := by decide +kernel
theorem pkm_28 (pc : Nat) (h : pc < 92) : pt_chk 28 pc = true := by
  by_cases h0 : pc < 80
  · exact pk_use pk_28_0 (by omega) (by omega)
  exact pk_use pk_28_1 (by omega) (by omega)
theorem pk_29_0 : (List.range 42).all (fun j => pt_chk 29 (0 + j)) = true := by decide +kernel
theorem pkm_29 (pc : Nat) (h : pc < 42) : pt_chk 29 pc = true := by
  exact pk_use pk_29_0 (by omega) (by omega)
theorem pk_30_0 : (List.range 52).all (fun j => pt_chk 30 (0 + j)) = true := by decide +kernel
theorem pkm_30 (pc : Nat) (h : pc < 52) : pt_chk 30 pc = true := by
  exact pk_use pk_30_0 (by omega) (by omega)
theorem pk_31_0 : (List.range 61).all (fun j => pt_chk 31 (0 + j)) = true := by decide +kernel
theorem pkm_31 (pc : Nat) (h : pc < 61) : pt_chk 31 pc = true := by
  exact pk_use pk_31_0 (by omega) (by omega)
theorem pk_32_0 : (List.range 68).all (fun j => pt_chk 32 (0 + j)) = true := by decide +kernel
theorem pkm_32 (pc : Nat) (h : pc < 68) : pt_chk 32 pc = true := by
  exact pk_use pk_32_0 (by omega) (by omega)
theorem pk_33_0 : (List.range 24).all (fun j => pt_chk 33 (0 + j)) = true := by decide +kernel
theorem pkm_33 (pc : Nat) (h : pc < 24) : pt_chk 33 pc = true := by
  exact pk_use pk_33_0 (by omega) (by omega)
theorem pk_34_0 : (List.range 24).all (fun j => pt_chk 34 (0 + j)) = true := by decide +kernel
theorem pkm_34 (pc : Nat) (h : pc < 24) : pt_chk 34 pc = true := by
  exact pk_use pk_34_0 (by omega) (by omega)
theorem pk_35_0 : (List.range 24).all (fun j => pt_chk 35 (0 + j)) = true := by decide +kernel
theorem pkm_35 (pc : Nat) (h : pc < 24) : pt_chk 35 pc = true := by
  exact pk_use pk_35_0 (by omega) (by omega)
theorem pk_36_0 : (List.range 30).all (fun j => pt_chk 36 (0 + j)) = true := by decide +kernel
theorem pkm_36 (pc : Nat) (h : pc < 30) : pt_chk 36 pc = true := by
  exact pk_use pk_36_0 (by omega) (by omega)
theorem pk_37_0 : (List.range 30).all (fun j => pt_chk 37 (0 + j)) = true := by decide +kernel
theorem pkm_37 (pc : Nat) (h : pc < 30) : pt_chk 37 pc = true := by
  exact pk_use pk_37_0 (by omega) (by omega)
theorem pk_38_0 : (List.range 41).all (fun j => pt_chk 38 (0 + j)) = true := by decide +kernel
theorem pkm_38 (pc : Nat) (h : pc < 41) : pt_chk 38 pc = true := by
  exact pk_use pk_38_0 (by omega) (by omega)
theorem pk_39_0 : (List.range 80).all (fun j => pt_chk 39 (0 + j)) = true := by decide +kernel
theorem pk_39_1 : (List.range 43).all (fun j => pt_chk 39 (80 + j)) = true := by decide +kernel
theorem pkm_39 (pc : Nat) (h : pc < 123) : pt_chk 39 pc = true := by
  by_cases h0 : pc < 80
  · exact pk_use pk_39_0 (by omega) (by omega)
  exact pk_use pk_39_1 (by omega) (by omega)
theorem pk_40_0 : (List.range 15).all (fun j => pt_chk 40 (0 + j)) = true := by decide +kernel
theorem pkm_40 (pc : Nat) (h : pc < 15) : pt_chk 40 pc = true := by
  exact pk_use pk_40_0 (by omega) (by omega)
theorem pk_41_0 : (List.range 16).all (fun j => pt_chk 41 (0 + j)) = true := by decide +kernel
theorem pkm_41 (pc : Nat) (h : pc < 16) : pt_chk 41 pc = true := by
  exact pk_use pk_41_0 (by omega) (by omega)
theorem pk_42_0 : (List.range 12).all (fun j => pt_chk 42 (0 + j)) = true := by decide +kernel
theorem pkm_42 (pc : Nat) (h : pc < 12) : pt_chk 42 pc = true := by
  exact pk_use pk_42_0 (by omega) (by omega)
theorem pk_43_0 : (List.range 21).all (fun j => pt_chk 43 (0 + j)) = true := by decide +kernel
theorem pkm_43 (pc : Nat) (h : pc < 21) : pt_chk 43 pc = true := by
  exact pk_use pk_43_0 (by omega) (by omega)
theorem pk_44_0 : (List.range 41).all (fun j => pt_chk 44 (0 + j)) = true := by decide +kernel
theorem pkm_44 (pc : Nat) (h : pc < 41) : pt_chk 44 pc = true := by
  exact pk_use pk_44_0 (by omega) (by omega)
theorem pk_45_0 : (List.range 37).all (fun j => pt_chk 45 (0 + j)) = true := by decide +kernel
theorem pkm_45 (pc : Nat) (h : pc < 37) : pt_chk 45 pc = true := by
  exact pk_use pk_45_0 (by omega) (by omega)
theorem pk_46_0 : (List.range 52).all (fun j => pt_chk 46 (0 + j)) = true := by decide +kernel
theorem pkm_46 (pc : Nat) (h : pc < 52) : pt_chk 46 pc = true := by
  exact pk_use pk_46_0 (by omega) (by omega)
theorem pk_47_0 : (List.range 80).all (fun j => pt_chk 47 (0 + j)) = true := by decide +kernel
theorem pk_47_1 : (List.range 79).all (fun j => pt_chk 47 (80 + j)) = true := by decide +kernel
theorem pkm_47 (pc : Nat) (h : pc < 159) : pt_chk 47 pc = true := by
  by_cases h0 : pc < 80
  · exact pk_use pk_47_0 (by omega) (by omega)
  exact pk_use pk_47_1 (by omega) (by omega)
theorem pk_48_0 : (List.range 55).all (fun j => pt_chk 48 (0 + j)) = true := by decide +kernel
theorem pkm_48 (pc : Nat) (h : pc < 55) : pt_chk 48 pc = true := by
  exact pk_use pk_48_0 (by omega) (by omega)
theorem pk_49_0 : (List.range 80).all (fun j => pt_chk 49 (0 + j)) = true := by decide +kernel
theorem pk_49_1 : (List.range 80).all (fun j => pt_chk 49 (80 + j)) = true := by decide +kernel
theorem pk_49_2 : (List.range 18).all (fun j => pt_chk 49 (160 + j)) = true := by decide +kernel
theorem pkm_49 (pc : Nat) (h : pc < 178) : pt_chk 49 pc = true := by
  by_cases h0 : pc < 80
  · exact pk_use pk_49_0 (by omega) (by omega)
  by_cases h1 : pc < 160
  · exact pk_use pk_49_1 (by omega) (by omega)
  exact pk_use pk_49_2 (by omega) (by omega)
theorem pk_50_0 : (List.range 29).all (fun j => pt_chk 50 (0 + j)) = true := by decide +kernel
theorem pkm_50 (pc : Nat) (h : pc < 29) : pt_chk 50 pc = true := by
  exact pk_use pk_50_0 (by omega) (by omega)
theorem pk_51_0 : (List.range 17).all (fun j => pt_chk 51 (0 + j)) = true := by decide +kernel
theorem pkm_51 (pc : Nat) (h : pc < 17) : pt_chk 51 pc = true := by
  exact pk_use pk_51_0 (by omega) (by omega)
theorem pk_52_0 : (List.range 23).all (fun j => pt_chk 52 (0 + j)) = true := by decide +kernel
theorem pkm_52 (pc : Nat) (h : pc < 23) : pt_chk 52 pc = true := by
  exact pk_use pk_52_0 (by omega) (by omega)
theorem pk_53_0 : (List.range 25).all (fun j => pt_chk 53 (0 + j)) = true := by decide +kernel
theorem pkm_53 (pc : Nat) (h : pc < 25) : pt_chk 53 pc = true := by
  exact pk_use pk_53_0 (by omega) (by omega)
theorem pk_54_0 : (List.range 61).all (fun j => pt_chk 54 (0 + j)) = true := by decide +kernel
theorem pkm_54 (pc : Nat) (h : pc < 61) : pt_chk 54 pc = true := by
  exact pk_use pk_54_0 (by omega) (by omega)
theorem pk_55_0 : (List.range 80).all (fun j => pt_chk 55 (0 + j)) = true := by decide +kernel
theorem pk_55_1 : (List.range 8).all (fun j => pt_chk 55 (80 + j)) = true := by decide +kernel
theorem pkm_55 (pc : Nat) (h : pc < 88) : pt_chk 55 pc = true := by
  by_cases h0 : pc < 80
  · exact pk_use pk_55_0 (by omega) (by omega)
  exact pk_use pk_55_1 (by omega) (by omega)
theorem pk_56_0 : (List.range 46).all (fun j => pt_chk 56 (0 + j)) = true := by decide +kernel
theorem pkm_56 (pc : Nat) (h : pc < 46) : pt_chk 56 pc = true := by
  exact pk_use pk_56_0 (by omega) (by omega)
theorem pk_57_0 : (List.range 80).all (fun j => pt_chk 57 (0 + j)) = true := by decide +kernel
theorem pk_57_1 : (List.range 34).all (fun j => pt_chk 57 (80 + j)) = true := by decide +kernel
theorem pkm_57 (pc : Nat) (h : pc < 114) : pt_chk 57 pc = true := by
  by_cases h0 : pc < 80
  · exact pk_use pk_57_0 (by omega) (by omega)
  exact pk_use pk_57_1 (by omega) (by omega)
theorem pk_58_0 : (List.range 80).all (fun j => pt_chk 58 (0 + j)) = true := by decide +kernel
theorem pk_58_1 : (List.range 48).all (fun j => pt_chk 58 (80 + j)) = true := by decide +kernel
theorem pkm_58 (pc : Nat) (h : pc < 128) : pt_chk 58 pc = true := by
  by_cases h0 : pc < 80
  · exact pk_use pk_58_0 (by omega) (by omega)
  exact pk_use pk_58_1 (by omega) (by omega)
theorem pk_59_0 : (List.range 47).all (fun j => pt_chk 59 (0 + j)) = true := by decide +kernel
theorem pkm_59 (pc : Nat) (h : pc < 47) : pt_chk 59 pc = true := by
  exact pk_use pk_59_0 (by omega) (by omega)
theorem pk_60_0 : (List.range 61).all (fun j => pt_chk 60 (0 + j)) = true := by decide +kernel
theorem pkm_60 (pc : Nat) (h : pc < 61) : pt_chk 60 pc = true := by
  exact pk_use pk_60_0 (by omega) (by omega)
theorem pk_61_0 : (List.range 30).all (fun j => pt_chk 61 (0 + j)) = true := by decide +kernel
theorem pkm_61 (pc : Nat) (h : pc < 30) : pt_chk 61 pc = true := by
  exact pk_use pk_61_0 (by omega) (by omega)
theorem pk_62_0 : (List.range 59).all (fun j => pt_chk 62 (0 + j)) = true := by decide +kernel
theorem pkm_62 (pc : Nat) (h : pc < 59) : pt_chk 62 pc = true := by
  exact pk_use pk_62_0 (by omega) (by omega)
theorem pk_63_0 : (List.range 80).all (fun j => pt_chk 63 (0 + j)) = true := by decide +kernel
theorem pk_63_1 : (List.range 27).all (fun j => pt_chk 63 (80 + j)) = true := by decide +kernel
theorem pkm_63 (pc : Nat) (h : pc < 107) : pt_chk 63 pc = true := by
  by_cases h0 : pc < 80
  · exact pk_use pk_63_0 (by omega) (by omega)
  exact pk_use pk_63_1 (by omega) (by omega)
theorem pk_64_0 : (List.range 80).all (fun j => pt_chk 64 (0 + j)) = true := by decide +kernel
theorem pk_64_1 : (List.range 52).all (fun j => pt_chk 64 (80 + j)) = true := by decide +kernel
theorem pkm_64 (pc : Nat) (h : pc < 132) : pt_chk 64 pc = true := by
  by_cases h0 : pc < 80
  · exact pk_use pk_64_0 (by omega) (by omega)
  exact pk_use pk_64_1 (by omega) (by omega)
theorem pk_65_0 : (List.range 46).all (fun j => pt_chk 65 (0 + j)) = true := by decide +kernel
theorem pkm_65 (pc : Nat) (h : pc < 46) : pt_chk 65 pc = true := by
  exact pk_use pk_65_0 (by omega) (by omega)
theorem pk_66_0 : (List.range 46).all (fun j => pt_chk 66 (0 + j)) = true := by decide +kernel
theorem pkm_66 (pc : Nat) (h : pc < 46) : pt_chk 66 pc = true := by
  exact pk_use pk_66_0 (by omega) (by omega)
theorem pk_67_0 : (List.range 38).all (fun j => pt_chk 67 (0 + j)) = true := by decide +kernel
theorem pkm_67 (pc : Nat) (h : pc < 38) : pt_chk 67 pc = true := by
  exact pk_use pk_67_0 (by omega) (by omega)
theorem pk_68_0 : (List.range 30).all (fun j => pt_chk 68 (0 + j)) = true := by decide +kernel
theorem pkm_68 (pc : Nat) (h : pc < 30) : pt_chk 68 pc = true := by
  exact pk_use pk_68_0 (by omega) (by omega)
theorem pk_69_0 : (List.range 35).all (fun j => pt_chk 69 (0 + j)) = true := by decide +kernel
theorem pkm_69 (pc : Nat) (h : pc < 35) : pt_chk 69 pc = true := by
  exact pk_use pk_69_0 (by omega) (by omega)
theorem pk_70_0 : (List.range 36).all (fun j => pt_chk 70 (0 + j)) = true := by decide +kernel
theorem pkm_70 (pc : Nat) (h : pc < 36) : pt_chk 70 pc = true := by
  exact pk_use pk_70_0 (by omega) (by omega)
theorem pk_71_0 : (List.range 37).all (fun j => pt_chk 71 (0 + j)) = true := by decide +kernel
theorem pkm_71 (pc : Nat) (h : pc < 37) : pt_chk 71 pc = true := by
  exact pk_use pk_71_0 (by omega) (by omega)
theorem pk_72_0 : (List.range 49).all (fun j => pt_chk 72 (0 + j)) = true := by decide +kernel
theorem pkm_72 (pc : Nat) (h : pc < 49) : pt_chk 72 pc = true := by
  exact pk_use pk_72_0 (by omega) (by omega)
theorem pk_73_0 : (List.range 30).all (fun j => pt_chk 73 (0 + j)) = true := by decide +kernel
theorem pkm_73 (pc : Nat) (h : pc < 30) : pt_chk 73 pc = true := by
  exact pk_use pk_73_0 (by omega) (by omega)
theorem pk_74_0 : (List.range 29).all (fun j => pt_chk 74 (0 + j)) = true := by decide +kernel
theorem pkm_74 (pc : Nat) (h : pc < 29) : pt_chk 74 pc = true := by
  exact pk_use pk_74_0 (by omega) (by omega)
theorem pk_75_0 : (List.range 20).all (fun j => pt_chk 75 (0 + j)) = true := by decide +kernel
theorem pkm_75 (pc : Nat) (h : pc < 20) : pt_chk 75 pc = true := by
  exact pk_use pk_75_0 (by omega) (by omega)
theorem pk_76_0 : (List.range 14).all (fun j => pt_chk 76 (0 + j)) = true := by decide +kernel
theorem pkm_76 (pc : Nat) (h : pc < 14) : pt_chk 76 pc = true := by
  exact pk_use pk_76_0 (by omega) (by omega)
theorem pk_77_0 : (List.range 37).all (fun j => pt_chk 77 (0 + j)) = true := by decide +kernel
theorem pkm_77 (pc : Nat) (h : pc < 37) : pt_chk 77 pc = true := by
  exact pk_use pk_77_0 (by omega) (by omega)
theorem pk_78_0 : (List.range 15).all (fun j => pt_chk 78 (0 + j)) = true := by decide +kernel
theorem pkm_78 (pc : Nat) (h : pc < 15) : pt_chk 78 pc = true := by
  exact pk_use pk_78_0 (by omega) (by omega)
theorem pk_79_0 : (List.range 80).all (fun j => pt_chk 79 (0 + j)) = true := by decide +kernel
theorem pk_79_1 : (List.range 25).all (fun j => pt_chk 79 (80 + j)) = true := by decide +kernel
theorem pkm_79 (pc : Nat) (h : pc < 105) : pt_chk 79 pc = true := by
  by_cases h0 : pc < 80
  · exact pk_use pk_79_0 (by omega) (by omega)
  exact pk_use pk_79_1 (by omega) (by omega)
theorem pk_80_0 : (List.range 80).all (fun j => pt_chk 80 (0 + j)) = true := by decide +kernel
theorem pk_80_1 : (List.range 8).all (fun j => pt_chk 80 (80 + j)) = true := by decide +kernel
theorem pkm_80 (pc : Nat) (h : pc < 88) : pt_chk 80 pc = true := by
  by_cases h0 : pc < 80
  · exact pk_use pk_80_0 (by omega) (by omega)
  exact pk_use pk_80_1 (by omega) (by omega)
theorem pk_81_0 : (List.range 55).all (fun j => pt_chk 81 (0 + j)) = true := by decide +kernel
theorem pkm_81 (pc : Nat) (h : pc < 55) : pt_chk 81 pc = true := by
  exact pk_use pk_81_0 (by omega) (by omega)
theorem pk_82_0 : (List.range 61).all (fun j => pt_chk 82 (0 + j)) = true := by decide +kernel
theorem pkm_82 (pc : Nat) (h : pc < 61) : pt_chk 82 pc = true := by
  exact pk_use pk_82_0 (by omega) (by omega)
theorem pk_83_0 : (List.range 13).all (fun j => pt_chk 83 (0 + j)) = true := by decide +kernel
theorem pkm_83 (pc : Nat) (h : pc < 13) : pt_chk 83 pc = true := by
  exact pk_use pk_83_0 (by omega) (by omega)
theorem pk_84_0 : (List.range 77).all (fun j => pt_chk 84 (0 + j)) = true := by decide +kernel
theorem pkm_84 (pc : Nat) (h : pc < 77) : pt_chk 84 pc = true := by
  exact pk_use pk_84_0 (by omega) (by omega)
theorem pk_85_0 : (List.range 80).all (fun j => pt_chk 85 (0 + j)) = true := by decide +kernel
theorem pk_85_1 : (List.range 39).all (fun j => pt_chk 85 (80 + j)) = true := by decide +kernel
theorem pkm_85 (pc : Nat) (h : pc < 119) : pt_chk 85 pc = true := by
  by_cases h0 : pc < 80
  · exact pk_use pk_85_0 (by omega) (by omega)
  exact pk_use pk_85_1 (by omega) (by omega)
theorem pk_86_0 : (List.range 80).all (fun j => pt_chk 86 (0 + j)) = true := by decide +kernel
theorem pk_86_1 : (List.range 15).all (fun j => pt_chk 86 (80 + j)) = true := by decide +kernel
theorem pkm_86 (pc : Nat) (h : pc < 95) : pt_chk 86 pc = true := by
  by_cases h0 : pc < 80
  · exact pk_use pk_86_0 (by omega) (by omega)
  exact pk_use pk_86_1 (by omega) (by omega)
theorem pk_87_0 : (List.range 80).all (fun j => pt_chk 87 (0 + j)) = true := by decide +kernel
theorem pk_87_1 : (List.range 80).all (fun j => pt_chk 87 (80 + j)) = true := by decide +kernel
theorem pk_87_2 : (List.range 50).all (fun j => pt_chk 87 (160 + j)) = true := by decide +kernel
theorem pkm_87 (pc : Nat) (h : pc < 210) : pt_chk 87 pc = true := by
  by_cases h0 : pc < 80
  · exact pk_use pk_87_0 (by omega) (by omega)
  by_cases h1 : pc < 160
  · exact pk_use pk_87_1 (by omega) (by omega)
  exact pk_use pk_87_2 (by omega) (by omega)
