set_option maxRecDepth 100000 in
theorem m_ck_0_0 : mI_0_0.all (m_chk 0) = true := by decide +kernel
set_option maxRecDepth 100000 in
theorem m_ck_1_0 : mI_1_0.all (m_chk 1) = true := by decide +kernel
set_option maxRecDepth 100000 in
theorem m_ck_2_0 : mI_2_0.all (m_chk 2) = true := by decide +kernel
set_option maxRecDepth 100000 in
theorem m_ck_3_0 : mI_3_0.all (m_chk 3) = true := by decide +kernel
set_option maxRecDepth 100000 in
theorem m_ck_4_0 : mI_4_0.all (m_chk 4) = true := by decide +kernel
set_option maxRecDepth 100000 in
theorem m_ck_5_0 : mI_5_0.all (m_chk 5) = true := by decide +kernel
set_option maxRecDepth 100000 in
theorem m_ck_6_0 : mI_6_0.all (m_chk 6) = true := by decide +kernel
set_option maxRecDepth 100000 in
theorem m_ck_7_0 : mI_7_0.all (m_chk 7) = true := by decide +kernel
set_option maxRecDepth 100000 in
theorem m_ck_8_0 : mI_8_0.all (m_chk 8) = true := by decide +kernel
set_option maxRecDepth 100000 in
theorem m_ck_9_0 : mI_9_0.all (m_chk 9) = true := by decide +kernel
set_option maxRecDepth 100000 in
theorem m_ck_10_0 : mI_10_0.all (m_chk 10) = true := by decide +kernel
set_option maxRecDepth 100000 in
theorem m_ck_11_0 : mI_11_0.all (m_chk 11) = true := by decide +kernel
set_option maxRecDepth 100000 in
theorem m_ck_12_0 : mI_12_0.all (m_chk 12) = true := by decide +kernel
set_option maxRecDepth 100000 in
theorem m_ck_13_0 : mI_13_0.all (m_chk 13) = true := by decide +kernel
set_option maxRecDepth 100000 in
theorem m_ck_14_0 : mI_14_0.all (m_chk 14) = true := by decide +kernel
set_option maxRecDepth 100000 in
theorem m_ck_14_1 : mI_14_1.all (m_chk 14) = true := by decide +kernel
set_option maxRecDepth 100000 in
theorem m_ck_15_0 : mI_15_0.all (m_chk 15) = true := by decide +kernel
set_option maxRecDepth 100000 in
theorem m_ck_16_0 : mI_16_0.all (m_chk 16) = true := by decide +kernel
set_option maxRecDepth 100000 in
theorem m_ck_17_0 : mI_17_0.all (m_chk 17) = true := by decide +kernel
set_option maxRecDepth 100000 in
theorem m_ck_18_0 : mI_18_0.all (m_chk 18) = true := by decide +kernel
set_option maxRecDepth 100000 in
theorem m_ck_19_0 : mI_19_0.all (m_chk 19) = true := by decide +kernel
set_option maxRecDepth 100000 in
theorem m_ck_20_0 : mI_20_0.all (m_chk 20) = true := by decide +kernel
set_option maxRecDepth 100000 in
theorem m_ck_21_0 : mI_21_0.all (m_chk 21) = true := by decide +kernel
set_option maxRecDepth 100000 in
theorem m_ck_22_0 : mI_22_0.all (m_chk 22) = true := by decide +kernel
set_option maxRecDepth 100000 in
theorem m_ck_23_0 : mI_23_0.all (m_chk 23) = true := by decide +kernel
set_option maxRecDepth 100000 in
theorem m_ck_24_0 : mI_24_0.all (m_chk 24) = true := by decide +kernel
set_option maxRecDepth 100000 in
theorem m_ck_25_0 : mI_25_0.all (m_chk 25) = true := by decide +kernel
set_option maxRecDepth 100000 in
theorem m_ck_26_0 : mI_26_0.all (m_chk 26) = true := by decide +kernel
set_option maxRecDepth 100000 in
theorem m_ck_27_0 : mI_27_0.all (m_chk 27) = true := by decide +kernel
set_option maxRecDepth 100000 in
theorem m_ck_28_0 : mI_28_0.all (m_chk 28) = true := by decide +kernel
set_option maxRecDepth 100000 in
theorem m_ck_29_0 : mI_29_0.all (m_chk 29) = true := by decide +kernel
set_option maxRecDepth 100000 in
theorem m_ck_30_0 : mI_30_0.all (m_chk 30) = true := by decide +kernel
set_option maxRecDepth 100000 in
theorem m_ck_31_0 : mI_31_0.all (m_chk 31) = true := by decide +kernel
set_option maxRecDepth 100000 in
theorem m_ck_32_0 : mI_32_0.all (m_chk 32) = true := by decide +kernel
set_option maxRecDepth 100000 in
theorem m_ck_33_0 : mI_33_0.all (m_chk 33) = true := by decide +kernel
set_option maxRecDepth 100000 in
theorem m_ck_34_0 : mI_34_0.all (m_chk 34) = true := by decide +kernel
set_option maxRecDepth 100000 in
theorem m_ck_35_0 : mI_35_0.all (m_chk 35) = true := by decide +kernel
set_option maxRecDepth 100000 in
theorem m_ck_36_0 : mI_36_0.all (m_chk 36) = true := by decide +kernel
set_option maxRecDepth 100000 in
theorem m_ck_37_0 : mI_37_0.all (m_chk 37) = true := by decide +kernel
set_option maxRecDepth 100000 in
theorem m_ck_38_0 : mI_38_0.all (m_chk 38) = true := by decide +kernel
set_option maxRecDepth 100000 in
theorem m_ck_39_0 : mI_39_0.all (m_chk 39) = true := by decide +kernel
set_option maxRecDepth 100000 in
theorem m_ck_40_0 : mI_40_0.all (m_chk 40) = true := by decide +kernel
set_option maxRecDepth 100000 in
theorem m_ck_41_0 : mI_41_0.all (m_chk 41) = true := by decide +kernel
set_option maxRecDepth 100000 in
theorem m_ck_42_0 : mI_42_0.all (m_chk 42) = true := by decide +kernel
set_option maxRecDepth 100000 in
theorem m_ck_43_0 : mI_43_0.all (m_chk 43) = true := by decide +kernel
set_option maxRecDepth 100000 in
theorem m_ck_44_0 : mI_44_0.all (m_chk 44) = true := by decide +kernel
set_option maxRecDepth 100000 in
theorem m_ck_45_0 : mI_45_0.all (m_chk 45) = true := by decide +kernel
set_option maxRecDepth 100000 in
theorem m_ck_46_0 : mI_46_0.all (m_chk 46) = true := by decide +kernel
set_option maxRecDepth 100000 in
theorem m_ck_47_0 : mI_47_0.all (m_chk 47) = true := by decide +kernel
set_option maxRecDepth 100000 in
theorem m_ck_48_0 : mI_48_0.all (m_chk 48) = true := by decide +kernel
set_option maxRecDepth 100000 in
theorem m_ck_49_0 : mI_49_0.all (m_chk 49) = true := by decide +kernel
set_option maxRecDepth 100000 in
theorem m_ck_50_0 : mI_50_0.all (m_chk 50) = true := by decide +kernel
set_option maxRecDepth 100000 in
theorem m_ck_51_0 : mI_51_0.all (m_chk 51) = true := by decide +kernel
set_option maxRecDepth 100000 in
theorem m_ck_52_0 : mI_52_0.all (m_chk 52) = true := by decide +kernel
set_option maxRecDepth 100000 in
theorem m_ck_53_0 : mI_53_0.all (m_chk 53) = true := by decide +kernel
set_option maxRecDepth 100000 in
theorem m_ck_54_0 : mI_54_0.all (m_chk 54) = true := by decide +kernel
set_option maxRecDepth 100000 in
theorem m_ck_54_1 : mI_54_1.all (m_chk 54) = true := by decide +kernel
set_option maxRecDepth 100000 in
theorem m_ck_55_0 : mI_55_0.all (m_chk 55) = true := by decide +kernel
set_option maxRecDepth 100000 in
theorem m_ck_56_0 : mI_56_0.all (m_chk 56) = true := by decide +kernel
set_option maxRecDepth 100000 in
theorem m_ck_57_0 : mI_57_0.all (m_chk 57) = true := by decide +kernel
set_option maxRecDepth 100000 in
theorem m_ck_58_0 : mI_58_0.all (m_chk 58) = true := by decide +kernel
set_option maxRecDepth 100000 in
theorem m_ck_59_0 : mI_59_0.all (m_chk 59) = true := by decide +kernel
set_option maxRecDepth 100000 in
theorem m_ck_60_0 : mI_60_0.all (m_chk 60) = true := by decide +kernel
set_option maxRecDepth 100000 in
theorem m_ck_61_0 : mI_61_0.all (m_chk 61) = true := by decide +kernel
set_option maxRecDepth 100000 in
theorem m_ck_62_0 : mI_62_0.all (m_chk 62) = true := by decide +kernel
set_option maxRecDepth 100000 in
theorem m_ck_63_0 : mI_63_0.all (m_chk 63) = true := by decide +kernel
set_option maxRecDepth 100000 in
theorem m_ck_64_0 : mI_64_0.all (m_chk 64) = true := by decide +kernel
set_option maxRecDepth 100000 in
theorem m_ck_65_0 : mI_65_0.all (m_chk 65) = true := by decide +kernel
set_option maxRecDepth 100000 in
theorem m_ck_66_0 : mI_66_0.all (m_chk 66) = true := by decide +kernel
set_option maxRecDepth 100000 in
theorem m_ck_67_0 : mI_67_0.all (m_chk 67) = true := by decide +kernel
set_option maxRecDepth 100000 in
theorem m_ck_68_0 : mI_68_0.all (m_chk 68) = true := by decide +kernel
set_option maxRecDepth 100000 in
theorem m_ck_69_0 : mI_69_0.all (m_chk 69) = true := by decide +kernel
set_option maxRecDepth 100000 in
theorem m_ck_70_0 : mI_70_0.all (m_chk 70) = true := by decide +kernel
set_option maxRecDepth 100000 in
theorem m_ck_71_0 : mI_71_0.all (m_chk 71) = true := by decide +kernel
set_option maxRecDepth 100000 in
theorem m_ck_72_0 : mI_72_0.all (m_chk 72) = true := by decide +kernel
set_option maxRecDepth 100000 in
theorem m_ck_73_0 : mI_73_0.all (m_chk 73) = true := by decide +kernel
set_option maxRecDepth 100000 in
theorem m_ck_74_0 : mI_74_0.all (m_chk 74) = true := by decide +kernel
set_option maxRecDepth 100000 in
theorem m_ck_75_0 : mI_75_0.all (m_chk 75) = true := by decide +kernel
set_option maxRecDepth 100000 in
theorem m_ck_76_0 : mI_76_0.all (m_chk 76) = true := by decide +kernel
set_option maxRecDepth 100000 in
theorem m_ck_77_0 : mI_77_0.all (m_chk 77) = true := by decide +kernel
set_option maxRecDepth 100000 in
theorem m_ck_78_0 : mI_78_0.all (m_chk 78) = true := by decide +kernel
set_option maxRecDepth 100000 in
theorem m_ck_79_0 : mI_79_0.all (m_chk 79) = true := by decide +kernel
set_option maxRecDepth 100000 in
theorem m_ck_79_1 : mI_79_1.all (m_chk 79) = true := by decide +kernel
set_option maxRecDepth 100000 in
theorem m_ck_80_0 : mI_80_0.all (m_chk 80) = true := by decide +kernel
set_option maxRecDepth 100000 in
theorem m_ck_81_0 : mI_81_0.all (m_chk 81) = true := by decide +kernel
set_option maxRecDepth 100000 in
theorem m_ck_82_0 : mI_82_0.all (m_chk 82) = true := by decide +kernel
set_option maxRecDepth 100000 in
theorem m_ck_83_0 : mI_83_0.all (m_chk 83) = true := by decide +kernel
set_option maxRecDepth 100000 in
theorem m_ck_84_0 : mI_84_0.all (m_chk 84) = true := by decide +kernel
set_option maxRecDepth 100000 in
theorem m_ck_84_1 : mI_84_1.all (m_chk 84) = true := by decide +kernel
set_option maxRecDepth 100000 in
theorem m_ck_85_0 : mI_85_0.all (m_chk 85) = true := by decide +kernel
set_option maxRecDepth 100000 in
theorem m_ck_86_0 : mI_86_0.all (m_chk 86) = true := by decide +kernel
set_option maxRecDepth 100000 in
theorem m_ck_87_0 : mI_87_0.all (m_chk 87) = true := by decide +kernel
set_option maxRecDepth 100000 in
theorem m_ck_88_0 : mI_88_0.all (m_chk 88) = true := by decide +kernel
set_option maxRecDepth 100000 in
theorem m_ck_89_0 : mI_89_0.all (m_chk 89) = true := by decide +kernel
set_option maxRecDepth 100000 in
theorem m_ck_89_1 : mI_89_1.all (m_chk 89) = true := by decide +kernel
set_option maxRecDepth 100000 in
theorem m_ck_90_0 : mI_90_0.all (m_chk 90) = true := by decide +kernel
set_option maxRecDepth 100000 in
theorem m_ck_91_0 : mI_91_0.all (m_chk 91) = true := by decide +kernel
set_option maxRecDepth 100000 in
theorem m_ck_92_0 : mI_92_0.all (m_chk 92) = true := by decide +kernel
set_option maxRecDepth 100000 in
theorem m_ck_92_1 : mI_92_1.all (m_chk 92) = true := by decide +kernel
set_option maxRecDepth 100000 in
theorem m_ck_93_0 : mI_93_0.all (m_chk 93) = true := by decide +kernel
set_option maxRecDepth 100000 in
theorem m_ck_94_0 : mI_94_0.all (m_chk 94) = true := by decide +kernel
set_option maxRecDepth 100000 in
theorem m_ck_95_0 : mI_95_0.all (m_chk 95) = true := by decide +kernel
set_option maxRecDepth 100000 in
theorem m_ck_96_0 : mI_96_0.all (m_chk 96) = true := by decide +kernel
set_option maxRecDepth 100000 in
theorem m_ck_97_0 : mI_97_0.all (m_chk 97) = true := by decide +kernel
set_option maxRecDepth 100000 in
theorem m_ck_98_0 : mI_98_0.all (m_chk 98) = true := by decide +kernel
set_option maxRecDepth 100000 in
theorem m_ck_99_0 : mI_99_0.all (m_chk 99) = true := by decide +kernel
set_option maxRecDepth 100000 in
theorem m_ck_99_1 : mI_99_1.all (m_chk 99) = true := by decide +kernel
set_option maxRecDepth 100000 in
theorem m_ck_100_0 : mI_100_0.all (m_chk 100) = true := by decide +kernel
set_option maxRecDepth 100000 in
theorem m_ck_100_1 : mI_100_1.all (m_chk 100) = true := by decide +kernel
set_option maxRecDepth 100000 in
theorem m_ck_101_0 : mI_101_0.all (m_chk 101) = true := by decide +kernel
set_option maxRecDepth 100000 in
theorem m_ck_102_0 : mI_102_0.all (m_chk 102) = true := by decide +kernel
set_option maxRecDepth 100000 in
theorem m_ck_103_0 : mI_103_0.all (m_chk 103) = true := by decide +kernel
set_option maxRecDepth 100000 in
theorem m_ck_103_1 : mI_103_1.all (m_chk 103) = true := by decide +kernel
set_option maxRecDepth 100000 in
theorem m_ck_104_0 : mI_104_0.all (m_chk 104) = true := by decide +kernel
set_option maxRecDepth 100000 in
theorem m_ck_104_1 : mI_104_1.all (m_chk 104) = true := by decide +kernel
set_option maxRecDepth 100000 in
theorem m_ck_105_0 : mI_105_0.all (m_chk 105) = true := by decide +kernel
set_option maxRecDepth 100000 in
theorem m_ck_105_1 : mI_105_1.all (m_chk 105) = true := by decide +kernel
set_option maxRecDepth 100000 in
theorem m_ck_106_0 : mI_106_0.all (m_chk 106) = true := by decide +kernel
set_option maxRecDepth 100000 in
theorem m_ck_107_0 : mI_107_0.all (m_chk 107) = true := by decide +kernel
set_option maxRecDepth 100000 in
theorem m_ck_107_1 : mI_107_1.all (m_chk 107) = true := by decide +kernel
set_option maxRecDepth 100000 in
theorem m_ck_108_0 : mI_108_0.all (m_chk 108) = true := by decide +kernel
set_option maxRecDepth 100000 in
theorem m_ck_109_0 : mI_109_0.all (m_chk 109) = true := by decide +kernel
set_option maxRecDepth 100000 in
theorem m_ck_110_0 : mI_110_0.all (m_chk 110) = true := by decide +kernel
set_option maxRecDepth 100000 in
theorem m_ck_111_0 : mI_111_0.all (m_chk 111) = true := by decide +kernel
set_option maxRecDepth 100000 in
theorem m_ck_112_0 : mI_112_0.all (m_chk 112) = true := by decide +kernel
set_option maxRecDepth 100000 in
theorem m_ck_113_0 : mI_113_0.all (m_chk 113) = true := by decide +kernel
set_option maxRecDepth 100000 in
theorem m_ck_114_0 : mI_114_0.all (m_chk 114) = true := by decide +kernel
set_option maxRecDepth 100000 in
theorem m_ck_115_0 : mI_115_0.all (m_chk 115) = true := by decide +kernel
set_option maxRecDepth 100000 in
theorem m_ck_116_0 : mI_116_0.all (m_chk 116) = true := by decide +kernel
set_option maxRecDepth 100000 in
theorem m_ck_117_0 : mI_117_0.all (m_chk 117) = true := by decide +kernel
set_option maxRecDepth 100000 in
theorem m_ck_118_0 : mI_118_0.all (m_chk 118) = true := by decide +kernel
set_option maxRecDepth 100000 in
theorem m_ck_118_1 : mI_118_1.all (m_chk 118) = true := by decide +kernel
set_option maxRecDepth 100000 in
theorem m_ck_118_2 : mI_118_2.all (m_chk 118) = true := by decide +kernel
set_option maxRecDepth 100000 in
theorem m_ck_118_3 : mI_118_3.all (m_chk 118) = true := by decide +kernel
set_option maxRecDepth 100000 in
theorem m_ck_118_4 : mI_118_4.all (m_chk 118) = true := by decide +kernel
set_option maxRecDepth 100000 in
theorem m_ck_118_5 : mI_118_5.all (m_chk 118) = true := by decide +kernel
set_option maxRecDepth 100000 in
theorem m_ck_118_6 : mI_118_6.all (m_chk 118) = true := by decide +kernel
set_option maxRecDepth 100000 in
theorem m_ck_118_7 : mI_118_7.all (m_chk 118) = true := by decide +kernel
theorem m_ck : ∀ k, (m_t k).all (m_chk k) = true
  | 0 => m_ck_0_0
  | 1 => m_ck_1_0
  | 2 => m_ck_2_0
  | 3 => m_ck_3_0
  | 4 => m_ck_4_0
  | 5 => m_ck_5_0
  | 6 => m_ck_6_0
  | 7 => m_ck_7_0
  | 8 => m_ck_8_0
  | 9 => m_ck_9_0
  | 10 => m_ck_10_0
  | 11 => m_ck_11_0
  | 12 => m_ck_12_0
  | 13 => m_ck_13_0
  | 14 => mx_all m_ck_14_0 m_ck_14_1
  | 15 => m_ck_15_0
  | 16 => m_ck_16_0
  | 17 => m_ck_17_0
  | 18 => m_ck_18_0
  | 19 => m_ck_19_0
  | 20 => m_ck_20_0
  | 21 => m_ck_21_0
  | 22 => m_ck_22_0
  | 23 => m_ck_23_0
  | 24 => m_ck_24_0
  | 25 => m_ck_25_0
  | 26 => m_ck_26_0
  | 27 => m_ck_27_0
  | 28 => m_ck_28_0
  | 29 => m_ck_29_0
  | 30 => m_ck_30_0
  | 31 => m_ck_31_0
  | 32 => m_ck_32_0
  | 33 => m_ck_33_0
  | 34 => m_ck_34_0
  | 35 => m_ck_35_0
  | 36 => m_ck_36_0
  | 37 => m_ck_37_0
  | 38 => m_ck_38_0
  | 39 => m_ck_39_0
  | 40 => m_ck_40_0
  | 41 => m_ck_41_0
  | 42 => m_ck_42_0
  | 43 => m_ck_43_0
  | 44 => m_ck_44_0
  | 45 => m_ck_45_0
  | 46 => m_ck_46_0
  | 47 => m_ck_47_0
  | 48 => m_ck_48_0
  | 49 => m_ck_49_0
  | 50 => m_ck_50_0
  | 51 => m_ck_51_0
  | 52 => m_ck_52_0
  | 53 => m_ck_53_0
  | 54 => mx_all m_ck_54_0 m_ck_54_1
  | 55 => m_ck_55_0
  | 56 => m_ck_56_0
  | 57 => m_ck_57_0
  | 58 => m_ck_58_0
  | 59 => m_ck_59_0
  | 60 => m_ck_60_0
  | 61 => m_ck_61_0
  | 62 => m_ck_62_0
  | 63 => m_ck_63_0
  | 64 => m_ck_64_0
  | 65 => m_ck_65_0
  | 66 => m_ck_66_0
  | 67 => m_ck_67_0
  | 68 => m_ck_68_0
  | 69 => m_ck_69_0
  | 70 => m_ck_70_0
  | 71 => m_ck_71_0
  | 72 => m_ck_72_0
  | 73 => m_ck_73_0
  | 74 => m_ck_74_0
  | 75 => m_ck_75_0
  | 76 => m_ck_76_0
  | 77 => m_ck_77_0
  | 78 => m_ck_78_0
  | 79 => mx_all m_ck_79_0 m_ck_79_1
  | 80 => m_ck_80_0
  | 81 => m_ck_81_0
  | 82 => m_ck_82_0
  | 83 => m_ck_83_0
  | 84 => mx_all m_ck_84_0 m_ck_84_1
  | 85 => m_ck_85_0
  | 86 => m_ck_86_0
  | 87 => m_ck_87_0
  | 88 => m_ck_88_0
  | 89 => mx_all m_ck_89_0 m_ck_89_1
  | 90 => m_ck_90_0
  | 91 => m_ck_91_0
  | 92 => mx_all m_ck_92_0 m_ck_92_1
  | 93 => m_ck_93_0
  | 94 => m_ck_94_0
  | 95 => m_ck_95_0
  | 96 => m_ck_96_0
  | 97 => m_ck_97_0
  | 98 => m_ck_98_0
  | 99 => mx_all m_ck_99_0 m_ck_99_1
  | 100 => mx_all m_ck_100_0 m_ck_100_1
  | 101 => m_ck_101_0
  | 102 => m_ck_102_0
  | 103 => mx_all m_ck_103_0 m_ck_103_1
  | 104 => mx_all m_ck_104_0 m_ck_104_1
  | 105 => mx_all m_ck_105_0 m_ck_105_1
  | 106 => m_ck_106_0
  | 107 => mx_all m_ck_107_0 m_ck_107_1
  | 108 => m_ck_108_0
  | 109 => m_ck_109_0
  | 110 => m_ck_110_0
  | 111 => m_ck_111_0
  | 112 => m_ck_112_0
  | 113 => m_ck_113_0
  | 114 => m_ck_114_0
  | 115 => m_ck_115_0
  | 116 => m_ck_116_0
  | 117 => m_ck_117_0
  | 118 => mx_all (mx_all (mx_all (mx_all (mx_all (mx_all (mx_all m_ck_118_0 m_ck_118_1) m_ck_118_2) m_ck_118_3) m_ck_118_4) m_ck_118_5) m_ck_118_6) m_ck_118_7
  | n + 119 => rfl
