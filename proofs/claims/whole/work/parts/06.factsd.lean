/-- an instruction's length (a switch: 0) -/
def xlen (i : Instr) : Nat := match i with
  | .aload _ | .iload _ | .lload _ | .istore _ | .lstore _ | .astore _ | .bipush _ | .ldc _ | .newarray _ => 2
  | .sipush _ | .getfield _ | .putfield _ | .invokevirtual _ | .invokespecial _ | .invokestatic _ | .if_icmp _ _ | .ifCond _ _ | .ifnonnull _ | .goto _ | .iinc _ _ | .anewarray _ | .new _ | .checkcast _ | .ldc_w _ | .ldc2_w _ => 3
  | .tableswitch _ _ _ _ => 0
  | _ => 1
def xtgt (pc : Nat) (o : Int) : Bool := decide (0 ≤ (pc : Int) + o)
def xoffs (pc : Nat) (i : Instr) : Bool := match i with
  | .if_icmp _ o | .ifCond _ o | .ifnonnull o | .goto o => xtgt pc o
  | .tableswitch d lo hi offs => xtgt pc d && offs.toList.all (xtgt pc) && decide (-1000 ≤ lo) && decide (hi ≤ 1000) && decide (lo + offs.toList.length = hi + 1)
  | _ => true
def xplain (i : Instr) : Bool := match i with
  | .getstatic _ | .athrow | .i2c | .if_acmp _ _ | .ifnull _ | .instanceof _ => false
  | _ => true
/-- a row is what the bytes say -/
def xrok (b : ByteArray) (r : xR) : Bool := match decode b r.1 with
  | .ok (i, n) => decide (i = r.2.1) && (xlen r.2.1 == 0 || !xplain r.2.1 || xlen r.2.1 == n) && xoffs r.1 r.2.1
  | .error _ => false
set_option maxRecDepth 100000 in
theorem dk_0 : c_0.all (xrok prog_2_method_1_code) = true := by decide +kernel
set_option maxRecDepth 100000 in
theorem dk_1 : c_1.all (xrok prog_2_method_2_code) = true := by decide +kernel
set_option maxRecDepth 100000 in
theorem dk_2 : c_2.all (xrok prog_2_method_3_code) = true := by decide +kernel
set_option maxRecDepth 100000 in
theorem dk_3 : c_3.all (xrok prog_2_method_4_code) = true := by decide +kernel
set_option maxRecDepth 100000 in
theorem dk_4 : c_4.all (xrok prog_2_method_5_code) = true := by decide +kernel
set_option maxRecDepth 100000 in
theorem dk_5 : c_5.all (xrok prog_2_method_6_code) = true := by decide +kernel
set_option maxRecDepth 100000 in
theorem dk_6 : c_6.all (xrok prog_2_method_7_code) = true := by decide +kernel
set_option maxRecDepth 100000 in
theorem dk_7 : c_7.all (xrok prog_3_method_1_code) = true := by decide +kernel
set_option maxRecDepth 100000 in
theorem dk_8 : c_8.all (xrok prog_4_method_1_code) = true := by decide +kernel
set_option maxRecDepth 100000 in
theorem dk_9 : c_9.all (xrok prog_4_method_2_code) = true := by decide +kernel
set_option maxRecDepth 100000 in
theorem dk_10 : c_10.all (xrok prog_4_method_3_code) = true := by decide +kernel
set_option maxRecDepth 100000 in
theorem dk_11 : c_11.all (xrok prog_4_method_4_code) = true := by decide +kernel
set_option maxRecDepth 100000 in
theorem dk_12 : c_12.all (xrok prog_4_method_5_code) = true := by decide +kernel
set_option maxRecDepth 100000 in
theorem dk_13 : c_13.all (xrok prog_4_method_6_code) = true := by decide +kernel
set_option maxRecDepth 100000 in
theorem dk_14 : c_14.all (xrok prog_4_method_7_code) = true := by decide +kernel
set_option maxRecDepth 100000 in
theorem dk_15 : c_15.all (xrok prog_4_method_8_code) = true := by decide +kernel
set_option maxRecDepth 100000 in
theorem dk_16 : c_16.all (xrok prog_4_method_9_code) = true := by decide +kernel
set_option maxRecDepth 100000 in
theorem dk_17 : c_17.all (xrok prog_4_method_10_code) = true := by decide +kernel
set_option maxRecDepth 100000 in
theorem dk_18 : c_18.all (xrok prog_4_method_11_code) = true := by decide +kernel
set_option maxRecDepth 100000 in
theorem dk_19 : c_19.all (xrok prog_4_method_12_code) = true := by decide +kernel
set_option maxRecDepth 100000 in
theorem dk_20 : c_20.all (xrok prog_4_method_13_code) = true := by decide +kernel
set_option maxRecDepth 100000 in
theorem dk_21 : c_21.all (xrok prog_4_method_14_code) = true := by decide +kernel
set_option maxRecDepth 100000 in
theorem dk_22 : c_22.all (xrok prog_4_method_15_code) = true := by decide +kernel
set_option maxRecDepth 100000 in
theorem dk_23 : c_23.all (xrok prog_4_method_16_code) = true := by decide +kernel
set_option maxRecDepth 100000 in
theorem dk_24 : c_24.all (xrok prog_4_method_17_code) = true := by decide +kernel
set_option maxRecDepth 100000 in
theorem dk_25 : c_25.all (xrok prog_4_method_18_code) = true := by decide +kernel
set_option maxRecDepth 100000 in
theorem dk_26 : c_26.all (xrok prog_5_method_1_code) = true := by decide +kernel
set_option maxRecDepth 100000 in
theorem dk_27 : c_27.all (xrok prog_5_method_2_code) = true := by decide +kernel
set_option maxRecDepth 100000 in
theorem dk_28 : c_28.all (xrok prog_5_method_3_code) = true := by decide +kernel
set_option maxRecDepth 100000 in
theorem dk_29 : c_29.all (xrok prog_5_method_4_code) = true := by decide +kernel
set_option maxRecDepth 100000 in
theorem dk_30 : c_30.all (xrok prog_5_method_5_code) = true := by decide +kernel
set_option maxRecDepth 100000 in
theorem dk_31 : c_31.all (xrok prog_5_method_6_code) = true := by decide +kernel
set_option maxRecDepth 100000 in
theorem dk_32 : c_32.all (xrok prog_5_method_7_code) = true := by decide +kernel
set_option maxRecDepth 100000 in
theorem dk_33 : c_33.all (xrok prog_5_method_8_code) = true := by decide +kernel
set_option maxRecDepth 100000 in
theorem dk_34 : c_34.all (xrok prog_5_method_9_code) = true := by decide +kernel
set_option maxRecDepth 100000 in
theorem dk_35 : c_35.all (xrok prog_6_method_1_code) = true := by decide +kernel
set_option maxRecDepth 100000 in
theorem dk_36 : c_36.all (xrok prog_6_method_2_code) = true := by decide +kernel
set_option maxRecDepth 100000 in
theorem dk_37 : c_37.all (xrok prog_6_method_3_code) = true := by decide +kernel
set_option maxRecDepth 100000 in
theorem dk_38 : c_38.all (xrok prog_6_method_4_code) = true := by decide +kernel
set_option maxRecDepth 100000 in
theorem dk_39 : c_39.all (xrok prog_6_method_5_code) = true := by decide +kernel
set_option maxRecDepth 100000 in
theorem dk_40 : c_40.all (xrok prog_7_method_1_code) = true := by decide +kernel
set_option maxRecDepth 100000 in
theorem dk_41 : c_41.all (xrok prog_7_method_2_code) = true := by decide +kernel
set_option maxRecDepth 100000 in
theorem dk_42 : c_42.all (xrok prog_7_method_3_code) = true := by decide +kernel
set_option maxRecDepth 100000 in
theorem dk_43 : c_43.all (xrok prog_7_method_4_code) = true := by decide +kernel
set_option maxRecDepth 100000 in
theorem dk_44 : c_44.all (xrok prog_7_method_5_code) = true := by decide +kernel
set_option maxRecDepth 100000 in
theorem dk_45 : c_45.all (xrok prog_7_method_6_code) = true := by decide +kernel
set_option maxRecDepth 100000 in
theorem dk_46 : c_46.all (xrok prog_7_method_7_code) = true := by decide +kernel
set_option maxRecDepth 100000 in
theorem dk_47 : c_47.all (xrok prog_7_method_8_code) = true := by decide +kernel
set_option maxRecDepth 100000 in
theorem dk_48 : c_48.all (xrok prog_7_method_9_code) = true := by decide +kernel
set_option maxRecDepth 100000 in
theorem dk_49 : c_49.all (xrok prog_7_method_10_code) = true := by decide +kernel
set_option maxRecDepth 100000 in
theorem dk_50 : c_50.all (xrok prog_7_method_11_code) = true := by decide +kernel
set_option maxRecDepth 100000 in
theorem dk_51 : c_51.all (xrok prog_7_method_12_code) = true := by decide +kernel
set_option maxRecDepth 100000 in
theorem dk_52 : c_52.all (xrok prog_7_method_13_code) = true := by decide +kernel
set_option maxRecDepth 100000 in
theorem dk_53 : c_53.all (xrok prog_7_method_14_code) = true := by decide +kernel
set_option maxRecDepth 100000 in
theorem dk_54 : c_54.all (xrok prog_7_method_15_code) = true := by decide +kernel
set_option maxRecDepth 100000 in
theorem dk_55 : c_55.all (xrok prog_7_method_16_code) = true := by decide +kernel
set_option maxRecDepth 100000 in
theorem dk_56 : c_56.all (xrok prog_7_method_17_code) = true := by decide +kernel
set_option maxRecDepth 100000 in
theorem dk_57 : c_57.all (xrok prog_7_method_18_code) = true := by decide +kernel
set_option maxRecDepth 100000 in
theorem dk_58 : c_58.all (xrok prog_7_method_19_code) = true := by decide +kernel
set_option maxRecDepth 100000 in
theorem dk_59 : c_59.all (xrok prog_7_method_20_code) = true := by decide +kernel
set_option maxRecDepth 100000 in
theorem dk_60 : c_60.all (xrok prog_7_method_21_code) = true := by decide +kernel
set_option maxRecDepth 100000 in
theorem dk_61 : c_61.all (xrok prog_7_method_22_code) = true := by decide +kernel
set_option maxRecDepth 100000 in
theorem dk_62 : c_62.all (xrok prog_7_method_23_code) = true := by decide +kernel
set_option maxRecDepth 100000 in
theorem dk_63 : c_63.all (xrok prog_7_method_24_code) = true := by decide +kernel
set_option maxRecDepth 100000 in
theorem dk_64 : c_64.all (xrok prog_7_method_25_code) = true := by decide +kernel
set_option maxRecDepth 100000 in
theorem dk_65 : c_65.all (xrok prog_7_method_26_code) = true := by decide +kernel
set_option maxRecDepth 100000 in
theorem dk_66 : c_66.all (xrok prog_7_method_27_code) = true := by decide +kernel
set_option maxRecDepth 100000 in
theorem dk_67 : c_67.all (xrok prog_7_method_28_code) = true := by decide +kernel
set_option maxRecDepth 100000 in
theorem dk_68 : c_68.all (xrok prog_8_method_1_code) = true := by decide +kernel
set_option maxRecDepth 100000 in
theorem dk_69 : c_69.all (xrok prog_8_method_2_code) = true := by decide +kernel
set_option maxRecDepth 100000 in
theorem dk_70 : c_70.all (xrok prog_8_method_3_code) = true := by decide +kernel
set_option maxRecDepth 100000 in
theorem dk_71 : c_71.all (xrok prog_8_method_4_code) = true := by decide +kernel
set_option maxRecDepth 100000 in
theorem dk_72 : c_72.all (xrok prog_8_method_5_code) = true := by decide +kernel
set_option maxRecDepth 100000 in
theorem dk_73 : c_73.all (xrok prog_8_method_6_code) = true := by decide +kernel
set_option maxRecDepth 100000 in
theorem dk_74 : c_74.all (xrok prog_8_method_7_code) = true := by decide +kernel
set_option maxRecDepth 100000 in
theorem dk_75 : c_75.all (xrok prog_8_method_8_code) = true := by decide +kernel
set_option maxRecDepth 100000 in
theorem dk_76 : c_76.all (xrok prog_8_method_9_code) = true := by decide +kernel
set_option maxRecDepth 100000 in
theorem dk_77 : c_77.all (xrok prog_8_method_10_code) = true := by decide +kernel
set_option maxRecDepth 100000 in
theorem dk_78 : c_78.all (xrok prog_8_method_11_code) = true := by decide +kernel
set_option maxRecDepth 100000 in
theorem dk_79 : c_79.all (xrok prog_8_method_12_code) = true := by decide +kernel
set_option maxRecDepth 100000 in
theorem dk_80 : c_80.all (xrok prog_8_method_13_code) = true := by decide +kernel
set_option maxRecDepth 100000 in
theorem dk_81 : c_81.all (xrok prog_8_method_14_code) = true := by decide +kernel
set_option maxRecDepth 100000 in
theorem dk_82 : c_82.all (xrok prog_8_method_15_code) = true := by decide +kernel
set_option maxRecDepth 100000 in
theorem dk_83 : c_83.all (xrok prog_8_method_16_code) = true := by decide +kernel
set_option maxRecDepth 100000 in
theorem dk_84 : c_84.all (xrok prog_8_method_17_code) = true := by decide +kernel
set_option maxRecDepth 100000 in
theorem dk_85 : c_85.all (xrok prog_8_method_18_code) = true := by decide +kernel
set_option maxRecDepth 100000 in
theorem dk_86 : c_86.all (xrok prog_8_method_19_code) = true := by decide +kernel
set_option maxRecDepth 100000 in
theorem dk_87 : c_87.all (xrok prog_8_method_20_code) = true := by decide +kernel
set_option maxRecDepth 100000 in
theorem dk_88 : c_88.all (xrok prog_8_method_21_code) = true := by decide +kernel
set_option maxRecDepth 100000 in
theorem dk_89 : c_89.all (xrok prog_9_method_1_code) = true := by decide +kernel
set_option maxRecDepth 100000 in
theorem dk_90 : c_90.all (xrok prog_9_method_2_code) = true := by decide +kernel
set_option maxRecDepth 100000 in
theorem dk_91 : c_91.all (xrok prog_9_method_3_code) = true := by decide +kernel
set_option maxRecDepth 100000 in
theorem dk_92 : c_92.all (xrok prog_9_method_4_code) = true := by decide +kernel
set_option maxRecDepth 100000 in
theorem dk_93 : c_93.all (xrok prog_9_method_5_code) = true := by decide +kernel
set_option maxRecDepth 100000 in
theorem dk_94 : c_94.all (xrok prog_9_method_6_code) = true := by decide +kernel
set_option maxRecDepth 100000 in
theorem dk_95 : c_95.all (xrok prog_9_method_7_code) = true := by decide +kernel
set_option maxRecDepth 100000 in
theorem dk_96 : c_96.all (xrok prog_9_method_8_code) = true := by decide +kernel
set_option maxRecDepth 100000 in
theorem dk_97 : c_97.all (xrok prog_9_method_9_code) = true := by decide +kernel
set_option maxRecDepth 100000 in
theorem dk_98 : c_98.all (xrok prog_1_method_1_code) = true := by decide +kernel
set_option maxRecDepth 100000 in
theorem dk_99 : c_99.all (xrok prog_1_method_2_code) = true := by decide +kernel
set_option maxRecDepth 100000 in
theorem dk_100 : c_100.all (xrok prog_1_method_3_code) = true := by decide +kernel
set_option maxRecDepth 100000 in
theorem dk_101 : c_101.all (xrok prog_1_method_4_code) = true := by decide +kernel
set_option maxRecDepth 100000 in
theorem dk_102 : c_102.all (xrok prog_1_method_5_code) = true := by decide +kernel
set_option maxRecDepth 100000 in
theorem dk_103 : c_103.all (xrok prog_1_method_6_code) = true := by decide +kernel
set_option maxRecDepth 100000 in
theorem dk_104 : c_104.all (xrok prog_1_method_7_code) = true := by decide +kernel
set_option maxRecDepth 100000 in
theorem dk_105 : c_105.all (xrok prog_1_method_8_code) = true := by decide +kernel
set_option maxRecDepth 100000 in
theorem dk_106 : c_106.all (xrok prog_1_method_9_code) = true := by decide +kernel
set_option maxRecDepth 100000 in
theorem dk_107 : c_107.all (xrok prog_1_method_10_code) = true := by decide +kernel
set_option maxRecDepth 100000 in
theorem dk_108 : c_108.all (xrok prog_1_method_11_code) = true := by decide +kernel
set_option maxRecDepth 100000 in
theorem dk_109 : c_109.all (xrok prog_1_method_12_code) = true := by decide +kernel
set_option maxRecDepth 100000 in
theorem dk_110 : c_110.all (xrok prog_1_method_13_code) = true := by decide +kernel
set_option maxRecDepth 100000 in
theorem dk_111 : c_111.all (xrok prog_1_method_14_code) = true := by decide +kernel
set_option maxRecDepth 100000 in
theorem dk_112 : c_112.all (xrok prog_1_method_15_code) = true := by decide +kernel
set_option maxRecDepth 100000 in
theorem dk_113 : c_113.all (xrok prog_1_method_16_code) = true := by decide +kernel
set_option maxRecDepth 100000 in
theorem dk_114 : c_114.all (xrok prog_1_method_17_code) = true := by decide +kernel
set_option maxRecDepth 100000 in
theorem dk_115 : c_115.all (xrok prog_1_method_18_code) = true := by decide +kernel
set_option maxRecDepth 100000 in
theorem dk_116 : c_116.all (xrok prog_1_method_19_code) = true := by decide +kernel
set_option maxRecDepth 100000 in
theorem dk_117 : c_117.all (xrok prog_1_method_20_code) = true := by decide +kernel
set_option maxRecDepth 100000 in
theorem dk_118 : c_118.all (xrok prog_1_method_21_code) = true := by decide +kernel
set_option maxRecDepth 100000 in
theorem dk_119 : c_119.all (xrok prog_1_method_22_code) = true := by decide +kernel
set_option maxRecDepth 100000 in
theorem dk_120 : c_120.all (xrok prog_1_method_23_code) = true := by decide +kernel
set_option maxRecDepth 100000 in
theorem dk_121 : c_121.all (xrok prog_1_method_24_code) = true := by decide +kernel
set_option maxRecDepth 100000 in
theorem dk_122 : c_122.all (xrok prog_1_method_25_code) = true := by decide +kernel
set_option maxRecDepth 100000 in
theorem dk_123 : c_123.all (xrok prog_1_method_26_code) = true := by decide +kernel
set_option maxRecDepth 100000 in
theorem dk_124 : c_124.all (xrok prog_1_method_27_code) = true := by decide +kernel
set_option maxRecDepth 100000 in
theorem dk_125 : c_125.all (xrok prog_1_method_28_code) = true := by decide +kernel
set_option maxRecDepth 100000 in
theorem dk_126 : c_126.all (xrok prog_1_method_29_code) = true := by decide +kernel
set_option maxRecDepth 100000 in
theorem dk_127 : c_127.all (xrok prog_1_method_30_code) = true := by decide +kernel
set_option maxRecDepth 100000 in
theorem dk_128 : c_128.all (xrok prog_1_method_31_code) = true := by decide +kernel
set_option maxRecDepth 100000 in
theorem dk_129 : c_129.all (xrok prog_1_method_32_code) = true := by decide +kernel
set_option maxRecDepth 100000 in
theorem dk_130 : c_130.all (xrok prog_1_method_33_code) = true := by decide +kernel
set_option maxRecDepth 100000 in
theorem dk_131 : c_131.all (xrok prog_1_method_34_code) = true := by decide +kernel
set_option maxRecDepth 100000 in
theorem dk_132 : c_132.all (xrok prog_1_method_35_code) = true := by decide +kernel
set_option maxRecDepth 100000 in
theorem dk_133 : c_133.all (xrok prog_1_method_36_code) = true := by decide +kernel
set_option maxRecDepth 100000 in
theorem dk_134 : c_134.all (xrok prog_1_method_37_code) = true := by decide +kernel
set_option maxRecDepth 100000 in
theorem dk_135 : c_135.all (xrok prog_1_method_38_code) = true := by decide +kernel
set_option maxRecDepth 100000 in
theorem dk_136 : c_136.all (xrok prog_1_method_39_code) = true := by decide +kernel
set_option maxRecDepth 100000 in
theorem dk_137 : c_137.all (xrok prog_1_method_40_code) = true := by decide +kernel
set_option maxRecDepth 100000 in
theorem dk_138 : c_138.all (xrok prog_1_method_41_code) = true := by decide +kernel
set_option maxRecDepth 100000 in
theorem dk_139 : c_139.all (xrok prog_1_method_42_code) = true := by decide +kernel
set_option maxRecDepth 100000 in
theorem dk_140 : c_140.all (xrok prog_1_method_43_code) = true := by decide +kernel
set_option maxRecDepth 100000 in
theorem dk_141 : c_141.all (xrok prog_1_method_44_code) = true := by decide +kernel
set_option maxRecDepth 100000 in
theorem dk_142 : c_142.all (xrok prog_1_method_45_code) = true := by decide +kernel
set_option maxRecDepth 100000 in
theorem dk_143 : c_143.all (xrok prog_1_method_46_code) = true := by decide +kernel
set_option maxRecDepth 100000 in
theorem dk_144 : c_144.all (xrok prog_1_method_47_code) = true := by decide +kernel
set_option maxRecDepth 100000 in
theorem dk_145 : c_145.all (xrok prog_1_method_48_code) = true := by decide +kernel
set_option maxRecDepth 100000 in
theorem dk_146 : c_146.all (xrok prog_1_method_49_code) = true := by decide +kernel
set_option maxRecDepth 100000 in
theorem dk_147 : c_147.all (xrok prog_1_method_50_code) = true := by decide +kernel
set_option maxRecDepth 100000 in
theorem dk_148 : c_148.all (xrok prog_1_method_51_code) = true := by decide +kernel
set_option maxRecDepth 100000 in
theorem dk_149 : c_149.all (xrok prog_1_method_52_code) = true := by decide +kernel
set_option maxRecDepth 100000 in
theorem dk_150 : c_150.all (xrok prog_1_method_53_code) = true := by decide +kernel
set_option maxRecDepth 100000 in
theorem dk_151 : c_151.all (xrok prog_1_method_54_code) = true := by decide +kernel
set_option maxRecDepth 100000 in
theorem dk_152 : c_152.all (xrok prog_1_method_55_code) = true := by decide +kernel
set_option maxRecDepth 100000 in
theorem dk_153 : c_153.all (xrok prog_1_method_56_code) = true := by decide +kernel
set_option maxRecDepth 100000 in
theorem dk_154 : c_154.all (xrok prog_11_method_1_code) = true := by decide +kernel
set_option maxRecDepth 100000 in
theorem dk_155 : c_155.all (xrok prog_11_method_2_code) = true := by decide +kernel
set_option maxRecDepth 100000 in
theorem dk_156 : c_156.all (xrok prog_11_method_3_code) = true := by decide +kernel
set_option maxRecDepth 100000 in
theorem dk_157 : c_157.all (xrok prog_11_method_4_code) = true := by decide +kernel
set_option maxRecDepth 100000 in
theorem dk_158 : c_158.all (xrok prog_11_method_5_code) = true := by decide +kernel
set_option maxRecDepth 100000 in
theorem dk_159 : c_159.all (xrok prog_11_method_6_code) = true := by decide +kernel
set_option maxRecDepth 100000 in
theorem dk_160 : c_160.all (xrok prog_11_method_7_code) = true := by decide +kernel
set_option maxRecDepth 100000 in
theorem dk_161 : c_161.all (xrok prog_11_method_8_code) = true := by decide +kernel
set_option maxRecDepth 100000 in
theorem dk_162 : c_162.all (xrok prog_11_method_9_code) = true := by decide +kernel
set_option maxRecDepth 100000 in
theorem dk_163 : c_163.all (xrok prog_11_method_10_code) = true := by decide +kernel
set_option maxRecDepth 100000 in
theorem dk_164 : c_164.all (xrok prog_11_method_11_code) = true := by decide +kernel
set_option maxRecDepth 100000 in
theorem dk_165 : c_165.all (xrok prog_11_method_12_code) = true := by decide +kernel
set_option maxRecDepth 100000 in
theorem dk_166 : c_166.all (xrok prog_11_method_13_code) = true := by decide +kernel
set_option maxRecDepth 100000 in
theorem dk_167 : c_167.all (xrok prog_11_method_14_code) = true := by decide +kernel
set_option maxRecDepth 100000 in
theorem dk_168 : c_168.all (xrok prog_11_method_15_code) = true := by decide +kernel
set_option maxRecDepth 100000 in
theorem dk_169 : c_169.all (xrok prog_11_method_16_code) = true := by decide +kernel
set_option maxRecDepth 100000 in
theorem dk_170 : c_170.all (xrok prog_11_method_17_code) = true := by decide +kernel
set_option maxRecDepth 100000 in
theorem dk_171 : c_171.all (xrok prog_11_method_18_code) = true := by decide +kernel
set_option maxRecDepth 100000 in
theorem dk_172 : c_172.all (xrok prog_11_method_19_code) = true := by decide +kernel
set_option maxRecDepth 100000 in
theorem dk_173 : c_173.all (xrok prog_11_method_20_code) = true := by decide +kernel
set_option maxRecDepth 100000 in
theorem dk_174 : c_174.all (xrok prog_11_method_21_code) = true := by decide +kernel
set_option maxRecDepth 100000 in
theorem dk_175 : c_175.all (xrok prog_11_method_22_code) = true := by decide +kernel
set_option maxRecDepth 100000 in
theorem dk_176 : c_176.all (xrok prog_11_method_23_code) = true := by decide +kernel
set_option maxRecDepth 100000 in
theorem dk_177 : c_177.all (xrok prog_11_method_24_code) = true := by decide +kernel
set_option maxRecDepth 100000 in
theorem dk_178 : c_178.all (xrok prog_11_method_25_code) = true := by decide +kernel
set_option maxRecDepth 100000 in
theorem dk_179 : c_179.all (xrok prog_11_method_26_code) = true := by decide +kernel
set_option maxRecDepth 100000 in
theorem dk_180 : c_180.all (xrok prog_11_method_27_code) = true := by decide +kernel
set_option maxRecDepth 100000 in
theorem dk_181 : c_181.all (xrok prog_11_method_28_code) = true := by decide +kernel
set_option maxRecDepth 100000 in
theorem dk_182 : c_182.all (xrok prog_11_method_29_code) = true := by decide +kernel
set_option maxRecDepth 100000 in
theorem dk_183 : c_183.all (xrok prog_11_method_30_code) = true := by decide +kernel
set_option maxRecDepth 100000 in
theorem dk_184 : c_184.all (xrok prog_11_method_31_code) = true := by decide +kernel
set_option maxRecDepth 100000 in
theorem dk_185 : c_185.all (xrok prog_11_method_32_code) = true := by decide +kernel
set_option maxRecDepth 100000 in
theorem dk_186 : c_186.all (xrok prog_11_method_33_code) = true := by decide +kernel
set_option maxRecDepth 100000 in
theorem dk_187 : c_187.all (xrok prog_11_method_34_code) = true := by decide +kernel
set_option maxRecDepth 100000 in
theorem dk_188 : c_188.all (xrok prog_11_method_35_code) = true := by decide +kernel
set_option maxRecDepth 100000 in
theorem dk_189 : c_189.all (xrok prog_11_method_36_code) = true := by decide +kernel
set_option maxRecDepth 100000 in
theorem dk_190 : c_190.all (xrok prog_11_method_37_code) = true := by decide +kernel
set_option maxRecDepth 100000 in
theorem dk_191 : c_191.all (xrok prog_11_method_38_code) = true := by decide +kernel
set_option maxRecDepth 100000 in
theorem dk_192 : c_192.all (xrok prog_11_method_39_code) = true := by decide +kernel
set_option maxRecDepth 100000 in
theorem dk_193 : c_193.all (xrok prog_11_method_40_code) = true := by decide +kernel
set_option maxRecDepth 100000 in
theorem dk_194 : c_194.all (xrok prog_11_method_41_code) = true := by decide +kernel
set_option maxRecDepth 100000 in
theorem dk_195 : c_195.all (xrok prog_11_method_42_code) = true := by decide +kernel
set_option maxRecDepth 100000 in
theorem dk_196 : c_196.all (xrok prog_11_method_43_code) = true := by decide +kernel
set_option maxRecDepth 100000 in
theorem dk_197 : c_197.all (xrok prog_11_method_44_code) = true := by decide +kernel
set_option maxRecDepth 100000 in
theorem dk_198 : c_198.all (xrok prog_11_method_45_code) = true := by decide +kernel
set_option maxRecDepth 100000 in
theorem dk_199 : c_199.all (xrok prog_11_method_46_code) = true := by decide +kernel
set_option maxRecDepth 100000 in
theorem dk_200 : c_200.all (xrok prog_11_method_47_code) = true := by decide +kernel
set_option maxRecDepth 100000 in
theorem dk_201 : c_201.all (xrok prog_11_method_48_code) = true := by decide +kernel
set_option maxRecDepth 100000 in
theorem dk_202 : c_202.all (xrok prog_11_method_49_code) = true := by decide +kernel
set_option maxRecDepth 100000 in
theorem dk_203 : c_203.all (xrok prog_11_method_50_code) = true := by decide +kernel
set_option maxRecDepth 100000 in
theorem dk_204 : c_204.all (xrok prog_11_method_51_code) = true := by decide +kernel
set_option maxRecDepth 100000 in
theorem dk_205 : c_205.all (xrok prog_11_method_52_code) = true := by decide +kernel
set_option maxRecDepth 100000 in
theorem dk_206 : c_206.all (xrok prog_11_method_53_code) = true := by decide +kernel
set_option maxRecDepth 100000 in
theorem dk_207 : c_207.all (xrok prog_11_method_54_code) = true := by decide +kernel
set_option maxRecDepth 100000 in
theorem dk_208 : c_208.all (xrok prog_11_method_55_code) = true := by decide +kernel
set_option maxRecDepth 100000 in
theorem dk_209 : c_209.all (xrok prog_11_method_56_code) = true := by decide +kernel
set_option maxRecDepth 100000 in
theorem dk_210 : c_210.all (xrok prog_11_method_57_code) = true := by decide +kernel
set_option maxRecDepth 100000 in
theorem dk_211 : c_211.all (xrok prog_11_method_58_code) = true := by decide +kernel
set_option maxRecDepth 100000 in
theorem dk_212 : c_212.all (xrok prog_11_method_59_code) = true := by decide +kernel
set_option maxRecDepth 100000 in
theorem dk_213 : c_213.all (xrok prog_11_method_60_code) = true := by decide +kernel
set_option maxRecDepth 100000 in
theorem dk_214 : c_214.all (xrok prog_11_method_61_code) = true := by decide +kernel
set_option maxRecDepth 100000 in
theorem dk_215 : c_215.all (xrok prog_11_method_62_code) = true := by decide +kernel
set_option maxRecDepth 100000 in
theorem dk_216 : c_216.all (xrok prog_11_method_63_code) = true := by decide +kernel
set_option maxRecDepth 100000 in
theorem dk_217 : c_217.all (xrok prog_11_method_64_code) = true := by decide +kernel
set_option maxRecDepth 100000 in
theorem dk_218 : c_218.all (xrok prog_11_method_65_code) = true := by decide +kernel
set_option maxRecDepth 100000 in
theorem dk_219 : c_219.all (xrok prog_11_method_66_code) = true := by decide +kernel
set_option maxRecDepth 100000 in
theorem dk_220 : c_220.all (xrok prog_11_method_67_code) = true := by decide +kernel
set_option maxRecDepth 100000 in
theorem dk_221 : c_221.all (xrok prog_11_method_68_code) = true := by decide +kernel
set_option maxRecDepth 100000 in
theorem dk_222 : c_222.all (xrok prog_11_method_69_code) = true := by decide +kernel
set_option maxRecDepth 100000 in
theorem dk_223 : c_223.all (xrok prog_11_method_70_code) = true := by decide +kernel
set_option maxRecDepth 100000 in
theorem dk_224 : c_224.all (xrok prog_11_method_71_code) = true := by decide +kernel
set_option maxRecDepth 100000 in
theorem dk_225 : c_225.all (xrok prog_11_method_72_code) = true := by decide +kernel
set_option maxRecDepth 100000 in
theorem dk_226 : c_226.all (xrok prog_11_method_73_code) = true := by decide +kernel
set_option maxRecDepth 100000 in
theorem dk_227 : c_227.all (xrok prog_11_method_74_code) = true := by decide +kernel
set_option maxRecDepth 100000 in
theorem dk_228 : c_228.all (xrok prog_11_method_75_code) = true := by decide +kernel
set_option maxRecDepth 100000 in
theorem dk_229 : c_229.all (xrok prog_11_method_76_code) = true := by decide +kernel
set_option maxRecDepth 100000 in
theorem dk_230 : c_230.all (xrok prog_11_method_77_code) = true := by decide +kernel
set_option maxRecDepth 100000 in
theorem dk_231 : c_231.all (xrok prog_11_method_78_code) = true := by decide +kernel
set_option maxRecDepth 100000 in
theorem dk_232 : c_232.all (xrok prog_11_method_79_code) = true := by decide +kernel
set_option maxRecDepth 100000 in
theorem dk_233 : c_233.all (xrok prog_11_method_80_code) = true := by decide +kernel
set_option maxRecDepth 100000 in
theorem dk_234 : c_234.all (xrok prog_11_method_81_code) = true := by decide +kernel
set_option maxRecDepth 100000 in
theorem dk_235 : c_235.all (xrok prog_11_method_82_code) = true := by decide +kernel
set_option maxRecDepth 100000 in
theorem dk_236 : c_236.all (xrok prog_11_method_83_code) = true := by decide +kernel
set_option maxRecDepth 100000 in
theorem dk_237 : c_237.all (xrok prog_11_method_84_code) = true := by decide +kernel
set_option maxRecDepth 100000 in
theorem dk_238 : c_238.all (xrok prog_11_method_85_code) = true := by decide +kernel
set_option maxRecDepth 100000 in
theorem dk_239 : c_239.all (xrok prog_11_method_86_code) = true := by decide +kernel
set_option maxRecDepth 100000 in
theorem dk_240 : c_240.all (xrok prog_11_method_87_code) = true := by decide +kernel
set_option maxRecDepth 100000 in
theorem dk_241 : c_241.all (xrok prog_11_method_88_code) = true := by decide +kernel
set_option maxRecDepth 100000 in
theorem dk_242 : c_242.all (xrok prog_11_method_89_code) = true := by decide +kernel
set_option maxRecDepth 100000 in
theorem dk_243 : c_243.all (xrok prog_11_method_90_code) = true := by decide +kernel
set_option maxRecDepth 100000 in
theorem dk_244 : c_244.all (xrok prog_11_method_91_code) = true := by decide +kernel
set_option maxRecDepth 100000 in
theorem dk_245 : c_245.all (xrok prog_11_method_92_code) = true := by decide +kernel
set_option maxRecDepth 100000 in
theorem dk_246 : c_246.all (xrok prog_11_method_93_code) = true := by decide +kernel
set_option maxRecDepth 100000 in
theorem dk_247 : c_247.all (xrok prog_11_method_94_code) = true := by decide +kernel
set_option maxRecDepth 100000 in
theorem dk_248 : c_248.all (xrok prog_11_method_95_code) = true := by decide +kernel
set_option maxRecDepth 100000 in
theorem dk_249 : c_249.all (xrok prog_11_method_96_code) = true := by decide +kernel
set_option maxRecDepth 100000 in
theorem dk_250 : c_250.all (xrok prog_11_method_97_code) = true := by decide +kernel
set_option maxRecDepth 100000 in
theorem dk_251 : c_251.all (xrok prog_11_method_98_code) = true := by decide +kernel
set_option maxRecDepth 100000 in
theorem dk_252 : c_252.all (xrok prog_11_method_99_code) = true := by decide +kernel
set_option maxRecDepth 100000 in
theorem dk_253 : c_253.all (xrok prog_11_method_100_code) = true := by decide +kernel
set_option maxRecDepth 100000 in
theorem dk_254 : c_254.all (xrok prog_11_method_101_code) = true := by decide +kernel
set_option maxRecDepth 100000 in
theorem dk_255 : c_255.all (xrok prog_11_method_102_code) = true := by decide +kernel
set_option maxRecDepth 100000 in
theorem dk_256 : c_256.all (xrok prog_11_method_103_code) = true := by decide +kernel
set_option maxRecDepth 100000 in
theorem dk_257 : c_257.all (xrok prog_11_method_104_code) = true := by decide +kernel
set_option maxRecDepth 100000 in
theorem dk_258 : c_258.all (xrok prog_11_method_105_code) = true := by decide +kernel
set_option maxRecDepth 100000 in
theorem dk_259 : c_259.all (xrok prog_11_method_106_code) = true := by decide +kernel
set_option maxRecDepth 100000 in
theorem dk_260 : c_260.all (xrok prog_11_method_107_code) = true := by decide +kernel
set_option maxRecDepth 100000 in
theorem dk_261 : c_261.all (xrok prog_11_method_108_code) = true := by decide +kernel
set_option maxRecDepth 100000 in
theorem dk_262 : c_262.all (xrok prog_11_method_109_code) = true := by decide +kernel
set_option maxRecDepth 100000 in
theorem dk_263 : c_263.all (xrok prog_11_method_110_code) = true := by decide +kernel
set_option maxRecDepth 100000 in
theorem dk_264 : c_264.all (xrok prog_11_method_111_code) = true := by decide +kernel
set_option maxRecDepth 100000 in
theorem dk_265 : c_265.all (xrok prog_11_method_112_code) = true := by decide +kernel
set_option maxRecDepth 100000 in
theorem dk_266 : c_266.all (xrok prog_11_method_113_code) = true := by decide +kernel
set_option maxRecDepth 100000 in
theorem dk_267 : c_267.all (xrok prog_11_method_114_code) = true := by decide +kernel
set_option maxRecDepth 100000 in
theorem dk_268 : c_268.all (xrok prog_11_method_115_code) = true := by decide +kernel
set_option maxRecDepth 100000 in
theorem dk_269 : c_269.all (xrok prog_11_method_116_code) = true := by decide +kernel
set_option maxRecDepth 100000 in
theorem dk_270 : c_270.all (xrok prog_11_method_117_code) = true := by decide +kernel
set_option maxRecDepth 100000 in
theorem dk_271 : c_271.all (xrok prog_11_method_118_code) = true := by decide +kernel
set_option maxRecDepth 100000 in
theorem dk_272 : c_272.all (xrok prog_11_method_119_code) = true := by decide +kernel
set_option maxRecDepth 100000 in
theorem dk_273 : c_273.all (xrok prog_11_method_120_code) = true := by decide +kernel
set_option maxRecDepth 100000 in
theorem dk_274 : c_274.all (xrok prog_11_method_121_code) = true := by decide +kernel
set_option maxRecDepth 100000 in
theorem dk_275 : c_275.all (xrok prog_11_method_122_code) = true := by decide +kernel
set_option maxRecDepth 100000 in
theorem dk_276 : c_276.all (xrok prog_11_method_123_code) = true := by decide +kernel
set_option maxRecDepth 100000 in
theorem dk_277 : c_277.all (xrok prog_11_method_124_code) = true := by decide +kernel
set_option maxRecDepth 100000 in
theorem dk_278 : c_278.all (xrok prog_11_method_125_code) = true := by decide +kernel
set_option maxRecDepth 100000 in
theorem dk_279 : c_279.all (xrok prog_11_method_126_code) = true := by decide +kernel
set_option maxRecDepth 100000 in
theorem dk_280 : c_280.all (xrok prog_11_method_127_code) = true := by decide +kernel
set_option maxRecDepth 100000 in
theorem dk_281 : c_281.all (xrok prog_11_method_128_code) = true := by decide +kernel
set_option maxRecDepth 100000 in
theorem dk_282 : c_282.all (xrok prog_11_method_129_code) = true := by decide +kernel
set_option maxRecDepth 100000 in
theorem dk_283 : c_283.all (xrok prog_11_method_130_code) = true := by decide +kernel
set_option maxRecDepth 100000 in
theorem dk_284 : c_284.all (xrok prog_11_method_131_code) = true := by decide +kernel
set_option maxRecDepth 100000 in
theorem dk_285 : c_285.all (xrok prog_11_method_132_code) = true := by decide +kernel
set_option maxRecDepth 100000 in
theorem dk_286 : c_286.all (xrok prog_11_method_133_code) = true := by decide +kernel
set_option maxRecDepth 100000 in
theorem dk_287 : c_287.all (xrok prog_11_method_134_code) = true := by decide +kernel
set_option maxRecDepth 100000 in
theorem dk_288 : c_288.all (xrok prog_11_method_135_code) = true := by decide +kernel
set_option maxRecDepth 100000 in
theorem dk_289 : c_289.all (xrok prog_11_method_136_code) = true := by decide +kernel
set_option maxRecDepth 100000 in
theorem dk_290 : c_290.all (xrok prog_11_method_137_code) = true := by decide +kernel
set_option maxRecDepth 100000 in
theorem dk_291 : c_291.all (xrok prog_11_method_138_code) = true := by decide +kernel
set_option maxRecDepth 100000 in
theorem dk_292 : c_292.all (xrok prog_11_method_139_code) = true := by decide +kernel
set_option maxRecDepth 100000 in
theorem dk_293 : c_293.all (xrok prog_11_method_140_code) = true := by decide +kernel
set_option maxRecDepth 100000 in
theorem dk_294 : c_294.all (xrok prog_13_method_49_code) = true := by decide +kernel
set_option maxRecDepth 100000 in
theorem dk_295 : c_295.all (xrok prog_19_method_30_code) = true := by decide +kernel
set_option maxRecDepth 100000 in
theorem dk_296 : c_296.all (xrok prog_19_method_101_code) = true := by decide +kernel
set_option maxRecDepth 100000 in
theorem dk_297 : c_297.all (xrok prog_19_method_103_code) = true := by decide +kernel
set_option maxRecDepth 100000 in
theorem dk_298 : c_298.all (xrok prog_19_method_104_code) = true := by decide +kernel
set_option maxRecDepth 100000 in
theorem dk_299 : c_299.all (xrok prog_19_method_123_code) = true := by decide +kernel
set_option maxRecDepth 100000 in
theorem dk_300 : c_300.all (xrok code) = true := by decide +kernel
theorem dk_all : ∀ mid, mid < 301 → ∀ (M : xM) (y : MethodName) (b : ByteArray) (rt : Option FieldType), xprog[mid]? = some M → xmeta[mid]? = some (y, b, rt) → M.2.2.2.2.all (xrok b) = true := by
  intro mid h
  match mid, h with
  | 0, _ => exact fun M y b rt h1 h2 => by cases h1; cases h2; exact dk_0
  | 1, _ => exact fun M y b rt h1 h2 => by cases h1; cases h2; exact dk_1
  | 2, _ => exact fun M y b rt h1 h2 => by cases h1; cases h2; exact dk_2
  | 3, _ => exact fun M y b rt h1 h2 => by cases h1; cases h2; exact dk_3
  | 4, _ => exact fun M y b rt h1 h2 => by cases h1; cases h2; exact dk_4
  | 5, _ => exact fun M y b rt h1 h2 => by cases h1; cases h2; exact dk_5
  | 6, _ => exact fun M y b rt h1 h2 => by cases h1; cases h2; exact dk_6
  | 7, _ => exact fun M y b rt h1 h2 => by cases h1; cases h2; exact dk_7
  | 8, _ => exact fun M y b rt h1 h2 => by cases h1; cases h2; exact dk_8
  | 9, _ => exact fun M y b rt h1 h2 => by cases h1; cases h2; exact dk_9
  | 10, _ => exact fun M y b rt h1 h2 => by cases h1; cases h2; exact dk_10
  | 11, _ => exact fun M y b rt h1 h2 => by cases h1; cases h2; exact dk_11
  | 12, _ => exact fun M y b rt h1 h2 => by cases h1; cases h2; exact dk_12
  | 13, _ => exact fun M y b rt h1 h2 => by cases h1; cases h2; exact dk_13
  | 14, _ => exact fun M y b rt h1 h2 => by cases h1; cases h2; exact dk_14
  | 15, _ => exact fun M y b rt h1 h2 => by cases h1; cases h2; exact dk_15
  | 16, _ => exact fun M y b rt h1 h2 => by cases h1; cases h2; exact dk_16
  | 17, _ => exact fun M y b rt h1 h2 => by cases h1; cases h2; exact dk_17
  | 18, _ => exact fun M y b rt h1 h2 => by cases h1; cases h2; exact dk_18
  | 19, _ => exact fun M y b rt h1 h2 => by cases h1; cases h2; exact dk_19
  | 20, _ => exact fun M y b rt h1 h2 => by cases h1; cases h2; exact dk_20
  | 21, _ => exact fun M y b rt h1 h2 => by cases h1; cases h2; exact dk_21
  | 22, _ => exact fun M y b rt h1 h2 => by cases h1; cases h2; exact dk_22
  | 23, _ => exact fun M y b rt h1 h2 => by cases h1; cases h2; exact dk_23
  | 24, _ => exact fun M y b rt h1 h2 => by cases h1; cases h2; exact dk_24
  | 25, _ => exact fun M y b rt h1 h2 => by cases h1; cases h2; exact dk_25
  | 26, _ => exact fun M y b rt h1 h2 => by cases h1; cases h2; exact dk_26
  | 27, _ => exact fun M y b rt h1 h2 => by cases h1; cases h2; exact dk_27
  | 28, _ => exact fun M y b rt h1 h2 => by cases h1; cases h2; exact dk_28
  | 29, _ => exact fun M y b rt h1 h2 => by cases h1; cases h2; exact dk_29
  | 30, _ => exact fun M y b rt h1 h2 => by cases h1; cases h2; exact dk_30
  | 31, _ => exact fun M y b rt h1 h2 => by cases h1; cases h2; exact dk_31
  | 32, _ => exact fun M y b rt h1 h2 => by cases h1; cases h2; exact dk_32
  | 33, _ => exact fun M y b rt h1 h2 => by cases h1; cases h2; exact dk_33
  | 34, _ => exact fun M y b rt h1 h2 => by cases h1; cases h2; exact dk_34
  | 35, _ => exact fun M y b rt h1 h2 => by cases h1; cases h2; exact dk_35
  | 36, _ => exact fun M y b rt h1 h2 => by cases h1; cases h2; exact dk_36
  | 37, _ => exact fun M y b rt h1 h2 => by cases h1; cases h2; exact dk_37
  | 38, _ => exact fun M y b rt h1 h2 => by cases h1; cases h2; exact dk_38
  | 39, _ => exact fun M y b rt h1 h2 => by cases h1; cases h2; exact dk_39
  | 40, _ => exact fun M y b rt h1 h2 => by cases h1; cases h2; exact dk_40
  | 41, _ => exact fun M y b rt h1 h2 => by cases h1; cases h2; exact dk_41
  | 42, _ => exact fun M y b rt h1 h2 => by cases h1; cases h2; exact dk_42
  | 43, _ => exact fun M y b rt h1 h2 => by cases h1; cases h2; exact dk_43
  | 44, _ => exact fun M y b rt h1 h2 => by cases h1; cases h2; exact dk_44
  | 45, _ => exact fun M y b rt h1 h2 => by cases h1; cases h2; exact dk_45
  | 46, _ => exact fun M y b rt h1 h2 => by cases h1; cases h2; exact dk_46
  | 47, _ => exact fun M y b rt h1 h2 => by cases h1; cases h2; exact dk_47
  | 48, _ => exact fun M y b rt h1 h2 => by cases h1; cases h2; exact dk_48
  | 49, _ => exact fun M y b rt h1 h2 => by cases h1; cases h2; exact dk_49
  | 50, _ => exact fun M y b rt h1 h2 => by cases h1; cases h2; exact dk_50
  | 51, _ => exact fun M y b rt h1 h2 => by cases h1; cases h2; exact dk_51
  | 52, _ => exact fun M y b rt h1 h2 => by cases h1; cases h2; exact dk_52
  | 53, _ => exact fun M y b rt h1 h2 => by cases h1; cases h2; exact dk_53
  | 54, _ => exact fun M y b rt h1 h2 => by cases h1; cases h2; exact dk_54
  | 55, _ => exact fun M y b rt h1 h2 => by cases h1; cases h2; exact dk_55
  | 56, _ => exact fun M y b rt h1 h2 => by cases h1; cases h2; exact dk_56
  | 57, _ => exact fun M y b rt h1 h2 => by cases h1; cases h2; exact dk_57
  | 58, _ => exact fun M y b rt h1 h2 => by cases h1; cases h2; exact dk_58
  | 59, _ => exact fun M y b rt h1 h2 => by cases h1; cases h2; exact dk_59
  | 60, _ => exact fun M y b rt h1 h2 => by cases h1; cases h2; exact dk_60
  | 61, _ => exact fun M y b rt h1 h2 => by cases h1; cases h2; exact dk_61
  | 62, _ => exact fun M y b rt h1 h2 => by cases h1; cases h2; exact dk_62
  | 63, _ => exact fun M y b rt h1 h2 => by cases h1; cases h2; exact dk_63
  | 64, _ => exact fun M y b rt h1 h2 => by cases h1; cases h2; exact dk_64
  | 65, _ => exact fun M y b rt h1 h2 => by cases h1; cases h2; exact dk_65
  | 66, _ => exact fun M y b rt h1 h2 => by cases h1; cases h2; exact dk_66
  | 67, _ => exact fun M y b rt h1 h2 => by cases h1; cases h2; exact dk_67
  | 68, _ => exact fun M y b rt h1 h2 => by cases h1; cases h2; exact dk_68
  | 69, _ => exact fun M y b rt h1 h2 => by cases h1; cases h2; exact dk_69
  | 70, _ => exact fun M y b rt h1 h2 => by cases h1; cases h2; exact dk_70
  | 71, _ => exact fun M y b rt h1 h2 => by cases h1; cases h2; exact dk_71
  | 72, _ => exact fun M y b rt h1 h2 => by cases h1; cases h2; exact dk_72
  | 73, _ => exact fun M y b rt h1 h2 => by cases h1; cases h2; exact dk_73
  | 74, _ => exact fun M y b rt h1 h2 => by cases h1; cases h2; exact dk_74
  | 75, _ => exact fun M y b rt h1 h2 => by cases h1; cases h2; exact dk_75
  | 76, _ => exact fun M y b rt h1 h2 => by cases h1; cases h2; exact dk_76
  | 77, _ => exact fun M y b rt h1 h2 => by cases h1; cases h2; exact dk_77
  | 78, _ => exact fun M y b rt h1 h2 => by cases h1; cases h2; exact dk_78
  | 79, _ => exact fun M y b rt h1 h2 => by cases h1; cases h2; exact dk_79
  | 80, _ => exact fun M y b rt h1 h2 => by cases h1; cases h2; exact dk_80
  | 81, _ => exact fun M y b rt h1 h2 => by cases h1; cases h2; exact dk_81
  | 82, _ => exact fun M y b rt h1 h2 => by cases h1; cases h2; exact dk_82
  | 83, _ => exact fun M y b rt h1 h2 => by cases h1; cases h2; exact dk_83
  | 84, _ => exact fun M y b rt h1 h2 => by cases h1; cases h2; exact dk_84
  | 85, _ => exact fun M y b rt h1 h2 => by cases h1; cases h2; exact dk_85
  | 86, _ => exact fun M y b rt h1 h2 => by cases h1; cases h2; exact dk_86
  | 87, _ => exact fun M y b rt h1 h2 => by cases h1; cases h2; exact dk_87
  | 88, _ => exact fun M y b rt h1 h2 => by cases h1; cases h2; exact dk_88
  | 89, _ => exact fun M y b rt h1 h2 => by cases h1; cases h2; exact dk_89
  | 90, _ => exact fun M y b rt h1 h2 => by cases h1; cases h2; exact dk_90
  | 91, _ => exact fun M y b rt h1 h2 => by cases h1; cases h2; exact dk_91
  | 92, _ => exact fun M y b rt h1 h2 => by cases h1; cases h2; exact dk_92
  | 93, _ => exact fun M y b rt h1 h2 => by cases h1; cases h2; exact dk_93
  | 94, _ => exact fun M y b rt h1 h2 => by cases h1; cases h2; exact dk_94
  | 95, _ => exact fun M y b rt h1 h2 => by cases h1; cases h2; exact dk_95
  | 96, _ => exact fun M y b rt h1 h2 => by cases h1; cases h2; exact dk_96
  | 97, _ => exact fun M y b rt h1 h2 => by cases h1; cases h2; exact dk_97
  | 98, _ => exact fun M y b rt h1 h2 => by cases h1; cases h2; exact dk_98
  | 99, _ => exact fun M y b rt h1 h2 => by cases h1; cases h2; exact dk_99
  | 100, _ => exact fun M y b rt h1 h2 => by cases h1; cases h2; exact dk_100
  | 101, _ => exact fun M y b rt h1 h2 => by cases h1; cases h2; exact dk_101
  | 102, _ => exact fun M y b rt h1 h2 => by cases h1; cases h2; exact dk_102
  | 103, _ => exact fun M y b rt h1 h2 => by cases h1; cases h2; exact dk_103
  | 104, _ => exact fun M y b rt h1 h2 => by cases h1; cases h2; exact dk_104
  | 105, _ => exact fun M y b rt h1 h2 => by cases h1; cases h2; exact dk_105
  | 106, _ => exact fun M y b rt h1 h2 => by cases h1; cases h2; exact dk_106
  | 107, _ => exact fun M y b rt h1 h2 => by cases h1; cases h2; exact dk_107
  | 108, _ => exact fun M y b rt h1 h2 => by cases h1; cases h2; exact dk_108
  | 109, _ => exact fun M y b rt h1 h2 => by cases h1; cases h2; exact dk_109
  | 110, _ => exact fun M y b rt h1 h2 => by cases h1; cases h2; exact dk_110
  | 111, _ => exact fun M y b rt h1 h2 => by cases h1; cases h2; exact dk_111
  | 112, _ => exact fun M y b rt h1 h2 => by cases h1; cases h2; exact dk_112
  | 113, _ => exact fun M y b rt h1 h2 => by cases h1; cases h2; exact dk_113
  | 114, _ => exact fun M y b rt h1 h2 => by cases h1; cases h2; exact dk_114
  | 115, _ => exact fun M y b rt h1 h2 => by cases h1; cases h2; exact dk_115
  | 116, _ => exact fun M y b rt h1 h2 => by cases h1; cases h2; exact dk_116
  | 117, _ => exact fun M y b rt h1 h2 => by cases h1; cases h2; exact dk_117
  | 118, _ => exact fun M y b rt h1 h2 => by cases h1; cases h2; exact dk_118
  | 119, _ => exact fun M y b rt h1 h2 => by cases h1; cases h2; exact dk_119
  | 120, _ => exact fun M y b rt h1 h2 => by cases h1; cases h2; exact dk_120
  | 121, _ => exact fun M y b rt h1 h2 => by cases h1; cases h2; exact dk_121
  | 122, _ => exact fun M y b rt h1 h2 => by cases h1; cases h2; exact dk_122
  | 123, _ => exact fun M y b rt h1 h2 => by cases h1; cases h2; exact dk_123
  | 124, _ => exact fun M y b rt h1 h2 => by cases h1; cases h2; exact dk_124
  | 125, _ => exact fun M y b rt h1 h2 => by cases h1; cases h2; exact dk_125
  | 126, _ => exact fun M y b rt h1 h2 => by cases h1; cases h2; exact dk_126
  | 127, _ => exact fun M y b rt h1 h2 => by cases h1; cases h2; exact dk_127
  | 128, _ => exact fun M y b rt h1 h2 => by cases h1; cases h2; exact dk_128
  | 129, _ => exact fun M y b rt h1 h2 => by cases h1; cases h2; exact dk_129
  | 130, _ => exact fun M y b rt h1 h2 => by cases h1; cases h2; exact dk_130
  | 131, _ => exact fun M y b rt h1 h2 => by cases h1; cases h2; exact dk_131
  | 132, _ => exact fun M y b rt h1 h2 => by cases h1; cases h2; exact dk_132
  | 133, _ => exact fun M y b rt h1 h2 => by cases h1; cases h2; exact dk_133
  | 134, _ => exact fun M y b rt h1 h2 => by cases h1; cases h2; exact dk_134
  | 135, _ => exact fun M y b rt h1 h2 => by cases h1; cases h2; exact dk_135
  | 136, _ => exact fun M y b rt h1 h2 => by cases h1; cases h2; exact dk_136
  | 137, _ => exact fun M y b rt h1 h2 => by cases h1; cases h2; exact dk_137
  | 138, _ => exact fun M y b rt h1 h2 => by cases h1; cases h2; exact dk_138
  | 139, _ => exact fun M y b rt h1 h2 => by cases h1; cases h2; exact dk_139
  | 140, _ => exact fun M y b rt h1 h2 => by cases h1; cases h2; exact dk_140
  | 141, _ => exact fun M y b rt h1 h2 => by cases h1; cases h2; exact dk_141
  | 142, _ => exact fun M y b rt h1 h2 => by cases h1; cases h2; exact dk_142
  | 143, _ => exact fun M y b rt h1 h2 => by cases h1; cases h2; exact dk_143
  | 144, _ => exact fun M y b rt h1 h2 => by cases h1; cases h2; exact dk_144
  | 145, _ => exact fun M y b rt h1 h2 => by cases h1; cases h2; exact dk_145
  | 146, _ => exact fun M y b rt h1 h2 => by cases h1; cases h2; exact dk_146
  | 147, _ => exact fun M y b rt h1 h2 => by cases h1; cases h2; exact dk_147
  | 148, _ => exact fun M y b rt h1 h2 => by cases h1; cases h2; exact dk_148
  | 149, _ => exact fun M y b rt h1 h2 => by cases h1; cases h2; exact dk_149
  | 150, _ => exact fun M y b rt h1 h2 => by cases h1; cases h2; exact dk_150
  | 151, _ => exact fun M y b rt h1 h2 => by cases h1; cases h2; exact dk_151
  | 152, _ => exact fun M y b rt h1 h2 => by cases h1; cases h2; exact dk_152
  | 153, _ => exact fun M y b rt h1 h2 => by cases h1; cases h2; exact dk_153
  | 154, _ => exact fun M y b rt h1 h2 => by cases h1; cases h2; exact dk_154
  | 155, _ => exact fun M y b rt h1 h2 => by cases h1; cases h2; exact dk_155
  | 156, _ => exact fun M y b rt h1 h2 => by cases h1; cases h2; exact dk_156
  | 157, _ => exact fun M y b rt h1 h2 => by cases h1; cases h2; exact dk_157
  | 158, _ => exact fun M y b rt h1 h2 => by cases h1; cases h2; exact dk_158
  | 159, _ => exact fun M y b rt h1 h2 => by cases h1; cases h2; exact dk_159
  | 160, _ => exact fun M y b rt h1 h2 => by cases h1; cases h2; exact dk_160
  | 161, _ => exact fun M y b rt h1 h2 => by cases h1; cases h2; exact dk_161
  | 162, _ => exact fun M y b rt h1 h2 => by cases h1; cases h2; exact dk_162
  | 163, _ => exact fun M y b rt h1 h2 => by cases h1; cases h2; exact dk_163
  | 164, _ => exact fun M y b rt h1 h2 => by cases h1; cases h2; exact dk_164
  | 165, _ => exact fun M y b rt h1 h2 => by cases h1; cases h2; exact dk_165
  | 166, _ => exact fun M y b rt h1 h2 => by cases h1; cases h2; exact dk_166
  | 167, _ => exact fun M y b rt h1 h2 => by cases h1; cases h2; exact dk_167
  | 168, _ => exact fun M y b rt h1 h2 => by cases h1; cases h2; exact dk_168
  | 169, _ => exact fun M y b rt h1 h2 => by cases h1; cases h2; exact dk_169
  | 170, _ => exact fun M y b rt h1 h2 => by cases h1; cases h2; exact dk_170
  | 171, _ => exact fun M y b rt h1 h2 => by cases h1; cases h2; exact dk_171
  | 172, _ => exact fun M y b rt h1 h2 => by cases h1; cases h2; exact dk_172
  | 173, _ => exact fun M y b rt h1 h2 => by cases h1; cases h2; exact dk_173
  | 174, _ => exact fun M y b rt h1 h2 => by cases h1; cases h2; exact dk_174
  | 175, _ => exact fun M y b rt h1 h2 => by cases h1; cases h2; exact dk_175
  | 176, _ => exact fun M y b rt h1 h2 => by cases h1; cases h2; exact dk_176
  | 177, _ => exact fun M y b rt h1 h2 => by cases h1; cases h2; exact dk_177
  | 178, _ => exact fun M y b rt h1 h2 => by cases h1; cases h2; exact dk_178
  | 179, _ => exact fun M y b rt h1 h2 => by cases h1; cases h2; exact dk_179
  | 180, _ => exact fun M y b rt h1 h2 => by cases h1; cases h2; exact dk_180
  | 181, _ => exact fun M y b rt h1 h2 => by cases h1; cases h2; exact dk_181
  | 182, _ => exact fun M y b rt h1 h2 => by cases h1; cases h2; exact dk_182
  | 183, _ => exact fun M y b rt h1 h2 => by cases h1; cases h2; exact dk_183
  | 184, _ => exact fun M y b rt h1 h2 => by cases h1; cases h2; exact dk_184
  | 185, _ => exact fun M y b rt h1 h2 => by cases h1; cases h2; exact dk_185
  | 186, _ => exact fun M y b rt h1 h2 => by cases h1; cases h2; exact dk_186
  | 187, _ => exact fun M y b rt h1 h2 => by cases h1; cases h2; exact dk_187
  | 188, _ => exact fun M y b rt h1 h2 => by cases h1; cases h2; exact dk_188
  | 189, _ => exact fun M y b rt h1 h2 => by cases h1; cases h2; exact dk_189
  | 190, _ => exact fun M y b rt h1 h2 => by cases h1; cases h2; exact dk_190
  | 191, _ => exact fun M y b rt h1 h2 => by cases h1; cases h2; exact dk_191
  | 192, _ => exact fun M y b rt h1 h2 => by cases h1; cases h2; exact dk_192
  | 193, _ => exact fun M y b rt h1 h2 => by cases h1; cases h2; exact dk_193
  | 194, _ => exact fun M y b rt h1 h2 => by cases h1; cases h2; exact dk_194
  | 195, _ => exact fun M y b rt h1 h2 => by cases h1; cases h2; exact dk_195
  | 196, _ => exact fun M y b rt h1 h2 => by cases h1; cases h2; exact dk_196
  | 197, _ => exact fun M y b rt h1 h2 => by cases h1; cases h2; exact dk_197
  | 198, _ => exact fun M y b rt h1 h2 => by cases h1; cases h2; exact dk_198
  | 199, _ => exact fun M y b rt h1 h2 => by cases h1; cases h2; exact dk_199
  | 200, _ => exact fun M y b rt h1 h2 => by cases h1; cases h2; exact dk_200
  | 201, _ => exact fun M y b rt h1 h2 => by cases h1; cases h2; exact dk_201
  | 202, _ => exact fun M y b rt h1 h2 => by cases h1; cases h2; exact dk_202
  | 203, _ => exact fun M y b rt h1 h2 => by cases h1; cases h2; exact dk_203
  | 204, _ => exact fun M y b rt h1 h2 => by cases h1; cases h2; exact dk_204
  | 205, _ => exact fun M y b rt h1 h2 => by cases h1; cases h2; exact dk_205
  | 206, _ => exact fun M y b rt h1 h2 => by cases h1; cases h2; exact dk_206
  | 207, _ => exact fun M y b rt h1 h2 => by cases h1; cases h2; exact dk_207
  | 208, _ => exact fun M y b rt h1 h2 => by cases h1; cases h2; exact dk_208
  | 209, _ => exact fun M y b rt h1 h2 => by cases h1; cases h2; exact dk_209
  | 210, _ => exact fun M y b rt h1 h2 => by cases h1; cases h2; exact dk_210
  | 211, _ => exact fun M y b rt h1 h2 => by cases h1; cases h2; exact dk_211
  | 212, _ => exact fun M y b rt h1 h2 => by cases h1; cases h2; exact dk_212
  | 213, _ => exact fun M y b rt h1 h2 => by cases h1; cases h2; exact dk_213
  | 214, _ => exact fun M y b rt h1 h2 => by cases h1; cases h2; exact dk_214
  | 215, _ => exact fun M y b rt h1 h2 => by cases h1; cases h2; exact dk_215
  | 216, _ => exact fun M y b rt h1 h2 => by cases h1; cases h2; exact dk_216
  | 217, _ => exact fun M y b rt h1 h2 => by cases h1; cases h2; exact dk_217
  | 218, _ => exact fun M y b rt h1 h2 => by cases h1; cases h2; exact dk_218
  | 219, _ => exact fun M y b rt h1 h2 => by cases h1; cases h2; exact dk_219
  | 220, _ => exact fun M y b rt h1 h2 => by cases h1; cases h2; exact dk_220
  | 221, _ => exact fun M y b rt h1 h2 => by cases h1; cases h2; exact dk_221
  | 222, _ => exact fun M y b rt h1 h2 => by cases h1; cases h2; exact dk_222
  | 223, _ => exact fun M y b rt h1 h2 => by cases h1; cases h2; exact dk_223
  | 224, _ => exact fun M y b rt h1 h2 => by cases h1; cases h2; exact dk_224
  | 225, _ => exact fun M y b rt h1 h2 => by cases h1; cases h2; exact dk_225
  | 226, _ => exact fun M y b rt h1 h2 => by cases h1; cases h2; exact dk_226
  | 227, _ => exact fun M y b rt h1 h2 => by cases h1; cases h2; exact dk_227
  | 228, _ => exact fun M y b rt h1 h2 => by cases h1; cases h2; exact dk_228
  | 229, _ => exact fun M y b rt h1 h2 => by cases h1; cases h2; exact dk_229
  | 230, _ => exact fun M y b rt h1 h2 => by cases h1; cases h2; exact dk_230
  | 231, _ => exact fun M y b rt h1 h2 => by cases h1; cases h2; exact dk_231
  | 232, _ => exact fun M y b rt h1 h2 => by cases h1; cases h2; exact dk_232
  | 233, _ => exact fun M y b rt h1 h2 => by cases h1; cases h2; exact dk_233
  | 234, _ => exact fun M y b rt h1 h2 => by cases h1; cases h2; exact dk_234
  | 235, _ => exact fun M y b rt h1 h2 => by cases h1; cases h2; exact dk_235
  | 236, _ => exact fun M y b rt h1 h2 => by cases h1; cases h2; exact dk_236
  | 237, _ => exact fun M y b rt h1 h2 => by cases h1; cases h2; exact dk_237
  | 238, _ => exact fun M y b rt h1 h2 => by cases h1; cases h2; exact dk_238
  | 239, _ => exact fun M y b rt h1 h2 => by cases h1; cases h2; exact dk_239
  | 240, _ => exact fun M y b rt h1 h2 => by cases h1; cases h2; exact dk_240
  | 241, _ => exact fun M y b rt h1 h2 => by cases h1; cases h2; exact dk_241
  | 242, _ => exact fun M y b rt h1 h2 => by cases h1; cases h2; exact dk_242
  | 243, _ => exact fun M y b rt h1 h2 => by cases h1; cases h2; exact dk_243
  | 244, _ => exact fun M y b rt h1 h2 => by cases h1; cases h2; exact dk_244
  | 245, _ => exact fun M y b rt h1 h2 => by cases h1; cases h2; exact dk_245
  | 246, _ => exact fun M y b rt h1 h2 => by cases h1; cases h2; exact dk_246
  | 247, _ => exact fun M y b rt h1 h2 => by cases h1; cases h2; exact dk_247
  | 248, _ => exact fun M y b rt h1 h2 => by cases h1; cases h2; exact dk_248
  | 249, _ => exact fun M y b rt h1 h2 => by cases h1; cases h2; exact dk_249
  | 250, _ => exact fun M y b rt h1 h2 => by cases h1; cases h2; exact dk_250
  | 251, _ => exact fun M y b rt h1 h2 => by cases h1; cases h2; exact dk_251
  | 252, _ => exact fun M y b rt h1 h2 => by cases h1; cases h2; exact dk_252
  | 253, _ => exact fun M y b rt h1 h2 => by cases h1; cases h2; exact dk_253
  | 254, _ => exact fun M y b rt h1 h2 => by cases h1; cases h2; exact dk_254
  | 255, _ => exact fun M y b rt h1 h2 => by cases h1; cases h2; exact dk_255
  | 256, _ => exact fun M y b rt h1 h2 => by cases h1; cases h2; exact dk_256
  | 257, _ => exact fun M y b rt h1 h2 => by cases h1; cases h2; exact dk_257
  | 258, _ => exact fun M y b rt h1 h2 => by cases h1; cases h2; exact dk_258
  | 259, _ => exact fun M y b rt h1 h2 => by cases h1; cases h2; exact dk_259
  | 260, _ => exact fun M y b rt h1 h2 => by cases h1; cases h2; exact dk_260
  | 261, _ => exact fun M y b rt h1 h2 => by cases h1; cases h2; exact dk_261
  | 262, _ => exact fun M y b rt h1 h2 => by cases h1; cases h2; exact dk_262
  | 263, _ => exact fun M y b rt h1 h2 => by cases h1; cases h2; exact dk_263
  | 264, _ => exact fun M y b rt h1 h2 => by cases h1; cases h2; exact dk_264
  | 265, _ => exact fun M y b rt h1 h2 => by cases h1; cases h2; exact dk_265
  | 266, _ => exact fun M y b rt h1 h2 => by cases h1; cases h2; exact dk_266
  | 267, _ => exact fun M y b rt h1 h2 => by cases h1; cases h2; exact dk_267
  | 268, _ => exact fun M y b rt h1 h2 => by cases h1; cases h2; exact dk_268
  | 269, _ => exact fun M y b rt h1 h2 => by cases h1; cases h2; exact dk_269
  | 270, _ => exact fun M y b rt h1 h2 => by cases h1; cases h2; exact dk_270
  | 271, _ => exact fun M y b rt h1 h2 => by cases h1; cases h2; exact dk_271
  | 272, _ => exact fun M y b rt h1 h2 => by cases h1; cases h2; exact dk_272
  | 273, _ => exact fun M y b rt h1 h2 => by cases h1; cases h2; exact dk_273
  | 274, _ => exact fun M y b rt h1 h2 => by cases h1; cases h2; exact dk_274
  | 275, _ => exact fun M y b rt h1 h2 => by cases h1; cases h2; exact dk_275
  | 276, _ => exact fun M y b rt h1 h2 => by cases h1; cases h2; exact dk_276
  | 277, _ => exact fun M y b rt h1 h2 => by cases h1; cases h2; exact dk_277
  | 278, _ => exact fun M y b rt h1 h2 => by cases h1; cases h2; exact dk_278
  | 279, _ => exact fun M y b rt h1 h2 => by cases h1; cases h2; exact dk_279
  | 280, _ => exact fun M y b rt h1 h2 => by cases h1; cases h2; exact dk_280
  | 281, _ => exact fun M y b rt h1 h2 => by cases h1; cases h2; exact dk_281
  | 282, _ => exact fun M y b rt h1 h2 => by cases h1; cases h2; exact dk_282
  | 283, _ => exact fun M y b rt h1 h2 => by cases h1; cases h2; exact dk_283
  | 284, _ => exact fun M y b rt h1 h2 => by cases h1; cases h2; exact dk_284
  | 285, _ => exact fun M y b rt h1 h2 => by cases h1; cases h2; exact dk_285
  | 286, _ => exact fun M y b rt h1 h2 => by cases h1; cases h2; exact dk_286
  | 287, _ => exact fun M y b rt h1 h2 => by cases h1; cases h2; exact dk_287
  | 288, _ => exact fun M y b rt h1 h2 => by cases h1; cases h2; exact dk_288
  | 289, _ => exact fun M y b rt h1 h2 => by cases h1; cases h2; exact dk_289
  | 290, _ => exact fun M y b rt h1 h2 => by cases h1; cases h2; exact dk_290
  | 291, _ => exact fun M y b rt h1 h2 => by cases h1; cases h2; exact dk_291
  | 292, _ => exact fun M y b rt h1 h2 => by cases h1; cases h2; exact dk_292
  | 293, _ => exact fun M y b rt h1 h2 => by cases h1; cases h2; exact dk_293
  | 294, _ => exact fun M y b rt h1 h2 => by cases h1; cases h2; exact dk_294
  | 295, _ => exact fun M y b rt h1 h2 => by cases h1; cases h2; exact dk_295
  | 296, _ => exact fun M y b rt h1 h2 => by cases h1; cases h2; exact dk_296
  | 297, _ => exact fun M y b rt h1 h2 => by cases h1; cases h2; exact dk_297
  | 298, _ => exact fun M y b rt h1 h2 => by cases h1; cases h2; exact dk_298
  | 299, _ => exact fun M y b rt h1 h2 => by cases h1; cases h2; exact dk_299
  | 300, _ => exact fun M y b rt h1 h2 => by cases h1; cases h2; exact dk_300
