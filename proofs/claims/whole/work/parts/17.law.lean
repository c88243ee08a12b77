abbrev ML_law : MD := (RL, cL_law, 4)
theorem kl_L_13 : Cond.constantLong RL 13 (4294967295) ∈ gtb := gt_of 1303 (by decide +kernel) (by decide +kernel)
theorem ml_L_19 : Cond.methodLink RL 19 yX8_type ∈ gtb := gt_of 1039 (by decide +kernel) (by decide +kernel)
theorem ml_L_15 : Cond.methodLink RL 15 yX7_type ∈ gtb := gt_of 412 (by decide +kernel) (by decide +kernel)
theorem ml_L_24 : Cond.methodLink RL 24 yX8_clear ∈ gtb := gt_of 1047 (by decide +kernel) (by decide +kernel)
theorem ml_L_20 : Cond.methodLink RL 20 yX7_clear ∈ gtb := gt_of 421 (by decide +kernel) (by decide +kernel)
theorem ml_L_28 : Cond.methodLink RL 28 yX8_acts ∈ gtb := gt_of 1051 (by decide +kernel) (by decide +kernel)
theorem ml_L_25 : Cond.methodLink RL 25 yX7_acts ∈ gtb := gt_of 425 (by decide +kernel) (by decide +kernel)
theorem ml_L_33 : Cond.methodLink RL 33 yX8_act ∈ gtb := gt_of 1097 (by decide +kernel) (by decide +kernel)
theorem ml_L_29 : Cond.methodLink RL 29 yX7_act ∈ gtb := gt_of 558 (by decide +kernel) (by decide +kernel)
theorem ml_L_37 : Cond.methodLink RL 37 yX8_feud ∈ gtb := gt_of 1109 (by decide +kernel) (by decide +kernel)
theorem ml_L_34 : Cond.methodLink RL 34 yX7_feud ∈ gtb := gt_of 566 (by decide +kernel) (by decide +kernel)
theorem ml_L_41 : Cond.methodLink RL 41 yX8_tune ∈ gtb := gt_of 1113 (by decide +kernel) (by decide +kernel)
theorem ml_L_38 : Cond.methodLink RL 38 yX7_tune ∈ gtb := gt_of 574 (by decide +kernel) (by decide +kernel)
theorem ml_L_45 : Cond.methodLink RL 45 yX8_family ∈ gtb := gt_of 1117 (by decide +kernel) (by decide +kernel)
theorem ml_L_42 : Cond.methodLink RL 42 yX7_family ∈ gtb := gt_of 582 (by decide +kernel) (by decide +kernel)
theorem ml_L_50 : Cond.methodLink RL 50 yX8_place ∈ gtb := gt_of 1121 (by decide +kernel) (by decide +kernel)
theorem ml_L_46 : Cond.methodLink RL 46 yX7_place ∈ gtb := gt_of 586 (by decide +kernel) (by decide +kernel)
theorem ml_L_54 : Cond.methodLink RL 54 yX8_empty ∈ gtb := gt_of 1129 (by decide +kernel) (by decide +kernel)
theorem ml_L_51 : Cond.methodLink RL 51 yX7_empty ∈ gtb := gt_of 598 (by decide +kernel) (by decide +kernel)
theorem ml_L_58 : Cond.methodLink RL 58 yX8_rest ∈ gtb := gt_of 1133 (by decide +kernel) (by decide +kernel)
theorem ml_L_55 : Cond.methodLink RL 55 yX7_rest ∈ gtb := gt_of 602 (by decide +kernel) (by decide +kernel)
theorem ml_L_62 : Cond.methodLink RL 62 yX8_on ∈ gtb := gt_of 1137 (by decide +kernel) (by decide +kernel)
theorem ml_L_59 : Cond.methodLink RL 59 yX7_on ∈ gtb := gt_of 606 (by decide +kernel) (by decide +kernel)
theorem ml_L_66 : Cond.methodLink RL 66 yX8_minute ∈ gtb := gt_of 1145 (by decide +kernel) (by decide +kernel)
theorem ml_L_63 : Cond.methodLink RL 63 yX7_minute ∈ gtb := gt_of 614 (by decide +kernel) (by decide +kernel)
theorem ml_L_70 : Cond.methodLink RL 70 yX8_staged ∈ gtb := gt_of 1169 (by decide +kernel) (by decide +kernel)
theorem ml_L_67 : Cond.methodLink RL 67 yX7_staged ∈ gtb := gt_of 649 (by decide +kernel) (by decide +kernel)
theorem ml_L_74 : Cond.methodLink RL 74 yX8_night ∈ gtb := gt_of 1177 (by decide +kernel) (by decide +kernel)
theorem ml_L_71 : Cond.methodLink RL 71 yX7_night ∈ gtb := gt_of 662 (by decide +kernel) (by decide +kernel)
theorem ml_L_78 : Cond.methodLink RL 78 yX8_worth ∈ gtb := gt_of 1194 (by decide +kernel) (by decide +kernel)
theorem ml_L_75 : Cond.methodLink RL 75 yX7_worth ∈ gtb := gt_of 666 (by decide +kernel) (by decide +kernel)
theorem ml_L_82 : Cond.methodLink RL 82 yX8_best ∈ gtb := gt_of 1198 (by decide +kernel) (by decide +kernel)
theorem ml_L_79 : Cond.methodLink RL 79 yX7_best ∈ gtb := gt_of 674 (by decide +kernel) (by decide +kernel)
theorem ml_L_86 : Cond.methodLink RL 86 yX8_custom ∈ gtb := gt_of 1222 (by decide +kernel) (by decide +kernel)
theorem ml_L_83 : Cond.methodLink RL 83 yX7_custom ∈ gtb := gt_of 718 (by decide +kernel) (by decide +kernel)
theorem ml_L_90 : Cond.methodLink RL 90 yX8_when ∈ gtb := gt_of 1226 (by decide +kernel) (by decide +kernel)
theorem ml_L_87 : Cond.methodLink RL 87 yX7_when ∈ gtb := gt_of 734 (by decide +kernel) (by decide +kernel)
theorem ml_L_94 : Cond.methodLink RL 94 yX8_ill ∈ gtb := gt_of 1230 (by decide +kernel) (by decide +kernel)
theorem ml_L_91 : Cond.methodLink RL 91 yX7_ill ∈ gtb := gt_of 743 (by decide +kernel) (by decide +kernel)
theorem ml_L_98 : Cond.methodLink RL 98 yX8_halves ∈ gtb := gt_of 1238 (by decide +kernel) (by decide +kernel)
theorem ml_L_95 : Cond.methodLink RL 95 yX7_halves ∈ gtb := gt_of 751 (by decide +kernel) (by decide +kernel)
theorem ml_L_103 : Cond.methodLink RL 103 yX8_tryout ∈ gtb := gt_of 1246 (by decide +kernel) (by decide +kernel)
theorem ml_L_99 : Cond.methodLink RL 99 yX7_tryout ∈ gtb := gt_of 780 (by decide +kernel) (by decide +kernel)
theorem ml_L_108 : Cond.methodLink RL 108 yX8_mark ∈ gtb := gt_of 1250 (by decide +kernel) (by decide +kernel)
theorem ml_L_104 : Cond.methodLink RL 104 yX7_mark ∈ gtb := gt_of 788 (by decide +kernel) (by decide +kernel)
theorem ml_L_112 : Cond.methodLink RL 112 yX8_parted ∈ gtb := gt_of 1254 (by decide +kernel) (by decide +kernel)
theorem ml_L_109 : Cond.methodLink RL 109 yX7_parted ∈ gtb := gt_of 796 (by decide +kernel) (by decide +kernel)
theorem ml_L_116 : Cond.methodLink RL 116 yX8_opener ∈ gtb := gt_of 1262 (by decide +kernel) (by decide +kernel)
theorem ml_L_113 : Cond.methodLink RL 113 yX7_opener ∈ gtb := gt_of 822 (by decide +kernel) (by decide +kernel)
theorem ml_L_120 : Cond.methodLink RL 120 yX8_hold ∈ gtb := gt_of 1266 (by decide +kernel) (by decide +kernel)
theorem ml_L_117 : Cond.methodLink RL 117 yX7_hold ∈ gtb := gt_of 830 (by decide +kernel) (by decide +kernel)
theorem ml_L_124 : Cond.methodLink RL 124 yX8_drawn ∈ gtb := gt_of 1270 (by decide +kernel) (by decide +kernel)
theorem ml_L_121 : Cond.methodLink RL 121 yX7_drawn ∈ gtb := gt_of 842 (by decide +kernel) (by decide +kernel)
theorem ml_L_128 : Cond.methodLink RL 128 yX8_lot ∈ gtb := gt_of 1274 (by decide +kernel) (by decide +kernel)
theorem ml_L_125 : Cond.methodLink RL 125 yX7_lot ∈ gtb := gt_of 851 (by decide +kernel) (by decide +kernel)
theorem ml_L_132 : Cond.methodLink RL 132 yX8_rate ∈ gtb := gt_of 1278 (by decide +kernel) (by decide +kernel)
theorem ml_L_129 : Cond.methodLink RL 129 yX7_rate ∈ gtb := gt_of 855 (by decide +kernel) (by decide +kernel)
theorem ml_L_136 : Cond.methodLink RL 136 yX8_keep ∈ gtb := gt_of 1287 (by decide +kernel) (by decide +kernel)
theorem ml_L_133 : Cond.methodLink RL 133 yX7_keep ∈ gtb := gt_of 888 (by decide +kernel) (by decide +kernel)
theorem ml_L_140 : Cond.methodLink RL 140 yX8_back ∈ gtb := gt_of 1291 (by decide +kernel) (by decide +kernel)
theorem ml_L_137 : Cond.methodLink RL 137 yX7_back ∈ gtb := gt_of 896 (by decide +kernel) (by decide +kernel)
theorem ml_L_144 : Cond.methodLink RL 144 yX8_count ∈ gtb := gt_of 1295 (by decide +kernel) (by decide +kernel)
theorem ml_L_141 : Cond.methodLink RL 141 yX7_count ∈ gtb := gt_of 900 (by decide +kernel) (by decide +kernel)
theorem ml_L_149 : Cond.methodLink RL 149 yX8_trace ∈ gtb := gt_of 1299 (by decide +kernel) (by decide +kernel)
theorem ml_L_145 : Cond.methodLink RL 145 yX7_trace ∈ gtb := gt_of 904 (by decide +kernel) (by decide +kernel)
def L_L_law_1 (X : XS) (Kx : Int → Mem → Res) : Nat → Int → Mem → Res
  | 0, _, _ => none
  | n + 1, i_2, h_1 => if (i_2 ≤ (w32 ((X.1 : Int) - 5))) then (gd (0 ≤ i_2 ∧ i_2 < (X.1 : Int)) (nm (iand ((X.2 (i_2).toNat).toInt) 31) (fun sw_4 => jn (fun (K_5 : Mem → Res) => if sw_4 = 0 then (gd (0 ≤ (w32 (i_2 + 1)) ∧ (w32 (i_2 + 1)) < (X.1 : Int)) (gd (0 ≤ (w32 (i_2 + 2)) ∧ (w32 (i_2 + 2)) < (X.1 : Int)) (gd (0 ≤ (w32 (i_2 + 3)) ∧ (w32 (i_2 + 3)) < (X.1 : Int)) (bd (F_X7_type (lor (lshl ((X.2 (w32 (i_2 + 1)).toNat).toInt) 32) (land ((X.2 (w32 (i_2 + 2)).toNat).toInt) 4294967295)) ((X.2 (w32 (i_2 + 3)).toNat).toInt) h_1) (fun r_10 (h_11 : Mem) => bd (F_X8_type (lor (lshl ((X.2 (w32 (i_2 + 1)).toNat).toInt) 32) (land ((X.2 (w32 (i_2 + 2)).toNat).toInt) 4294967295)) ((X.2 (w32 (i_2 + 3)).toNat).toInt) h_11) (fun r_13 (h_14 : Mem) => if (¬ r_10 = r_13) then (some (0, h_14)) else (K_5 h_14))))))) else (if sw_4 = 1 then (bd (F_X7_clear  h_1) (fun r_18 (h_19 : Mem) => bd (F_X8_clear  h_19) (fun r_21 (h_22 : Mem) => if (¬ r_18 = r_21) then (some (0, h_22)) else (K_5 h_22)))) else (if sw_4 = 2 then (bd (F_X7_acts  h_1) (fun r_26 (h_27 : Mem) => bd (F_X8_acts  h_27) (fun r_29 (h_30 : Mem) => if (¬ r_26 = r_29) then (some (0, h_30)) else (K_5 h_30)))) else (if sw_4 = 3 then (gd (0 ≤ (w32 (i_2 + 1)) ∧ (w32 (i_2 + 1)) < (X.1 : Int)) (gd (0 ≤ (w32 (i_2 + 2)) ∧ (w32 (i_2 + 2)) < (X.1 : Int)) (bd (F_X7_act ((X.2 (w32 (i_2 + 1)).toNat).toInt) ((X.2 (w32 (i_2 + 2)).toNat).toInt) h_1) (fun r_36 (h_37 : Mem) => bd (F_X8_act ((X.2 (w32 (i_2 + 1)).toNat).toInt) ((X.2 (w32 (i_2 + 2)).toNat).toInt) h_37) (fun r_39 (h_40 : Mem) => if (¬ r_36 = r_39) then (some (0, h_40)) else (K_5 h_40)))))) else (if sw_4 = 4 then (gd (0 ≤ (w32 (i_2 + 1)) ∧ (w32 (i_2 + 1)) < (X.1 : Int)) (gd (0 ≤ (w32 (i_2 + 2)) ∧ (w32 (i_2 + 2)) < (X.1 : Int)) (bd (F_X7_feud ((X.2 (w32 (i_2 + 1)).toNat).toInt) ((X.2 (w32 (i_2 + 2)).toNat).toInt) h_1) (fun r_46 (h_47 : Mem) => bd (F_X8_feud ((X.2 (w32 (i_2 + 1)).toNat).toInt) ((X.2 (w32 (i_2 + 2)).toNat).toInt) h_47) (fun r_49 (h_50 : Mem) => if (¬ r_46 = r_49) then (some (0, h_50)) else (K_5 h_50)))))) else (if sw_4 = 5 then (gd (0 ≤ (w32 (i_2 + 1)) ∧ (w32 (i_2 + 1)) < (X.1 : Int)) (gd (0 ≤ (w32 (i_2 + 2)) ∧ (w32 (i_2 + 2)) < (X.1 : Int)) (bd (F_X7_tune ((X.2 (w32 (i_2 + 1)).toNat).toInt) ((X.2 (w32 (i_2 + 2)).toNat).toInt) h_1) (fun r_56 (h_57 : Mem) => bd (F_X8_tune ((X.2 (w32 (i_2 + 1)).toNat).toInt) ((X.2 (w32 (i_2 + 2)).toNat).toInt) h_57) (fun r_59 (h_60 : Mem) => if (¬ r_56 = r_59) then (some (0, h_60)) else (K_5 h_60)))))) else (if sw_4 = 6 then (gd (0 ≤ (w32 (i_2 + 1)) ∧ (w32 (i_2 + 1)) < (X.1 : Int)) (gd (0 ≤ (w32 (i_2 + 2)) ∧ (w32 (i_2 + 2)) < (X.1 : Int)) (bd (F_X7_family ((X.2 (w32 (i_2 + 1)).toNat).toInt) ((X.2 (w32 (i_2 + 2)).toNat).toInt) h_1) (fun r_66 (h_67 : Mem) => bd (F_X8_family ((X.2 (w32 (i_2 + 1)).toNat).toInt) ((X.2 (w32 (i_2 + 2)).toNat).toInt) h_67) (fun r_69 (h_70 : Mem) => if (¬ r_66 = r_69) then (some (0, h_70)) else (K_5 h_70)))))) else (if sw_4 = 7 then (gd (0 ≤ (w32 (i_2 + 1)) ∧ (w32 (i_2 + 1)) < (X.1 : Int)) (bd (F_X7_place ((X.2 (w32 (i_2 + 1)).toNat).toInt) h_1) (fun r_75 (h_76 : Mem) => bd (F_X8_place ((X.2 (w32 (i_2 + 1)).toNat).toInt) h_76) (fun r_78 (h_79 : Mem) => if (¬ r_75 = r_78) then (some (0, h_79)) else (K_5 h_79))))) else (if sw_4 = 8 then (bd (F_X7_empty  h_1) (fun r_83 (h_84 : Mem) => bd (F_X8_empty  h_84) (fun r_86 (h_87 : Mem) => if (¬ r_83 = r_86) then (some (0, h_87)) else (K_5 h_87)))) else (if sw_4 = 9 then (gd (0 ≤ (w32 (i_2 + 1)) ∧ (w32 (i_2 + 1)) < (X.1 : Int)) (bd (F_X7_rest ((X.2 (w32 (i_2 + 1)).toNat).toInt) h_1) (fun r_92 (h_93 : Mem) => bd (F_X8_rest ((X.2 (w32 (i_2 + 1)).toNat).toInt) h_93) (fun r_95 (h_96 : Mem) => if (¬ r_92 = r_95) then (some (0, h_96)) else (K_5 h_96))))) else (if sw_4 = 10 then (gd (0 ≤ (w32 (i_2 + 1)) ∧ (w32 (i_2 + 1)) < (X.1 : Int)) (bd (F_X7_on ((X.2 (w32 (i_2 + 1)).toNat).toInt) h_1) (fun r_101 (h_102 : Mem) => bd (F_X8_on ((X.2 (w32 (i_2 + 1)).toNat).toInt) h_102) (fun r_104 (h_105 : Mem) => if (¬ r_101 = r_104) then (some (0, h_105)) else (K_5 h_105))))) else (if sw_4 = 11 then (gd (0 ≤ (w32 (i_2 + 1)) ∧ (w32 (i_2 + 1)) < (X.1 : Int)) (gd (0 ≤ (w32 (i_2 + 2)) ∧ (w32 (i_2 + 2)) < (X.1 : Int)) (bd (F_X7_minute ((X.2 (w32 (i_2 + 1)).toNat).toInt) ((X.2 (w32 (i_2 + 2)).toNat).toInt) h_1) (fun r_111 (h_112 : Mem) => bd (F_X8_minute ((X.2 (w32 (i_2 + 1)).toNat).toInt) ((X.2 (w32 (i_2 + 2)).toNat).toInt) h_112) (fun r_114 (h_115 : Mem) => if (¬ r_111 = r_114) then (some (0, h_115)) else (K_5 h_115)))))) else (if sw_4 = 12 then (gd (0 ≤ (w32 (i_2 + 1)) ∧ (w32 (i_2 + 1)) < (X.1 : Int)) (bd (F_X7_staged ((X.2 (w32 (i_2 + 1)).toNat).toInt) h_1) (fun r_120 (h_121 : Mem) => bd (F_X8_staged ((X.2 (w32 (i_2 + 1)).toNat).toInt) h_121) (fun r_123 (h_124 : Mem) => if (¬ r_120 = r_123) then (some (0, h_124)) else (K_5 h_124))))) else (if sw_4 = 13 then (gd (0 ≤ (w32 (i_2 + 1)) ∧ (w32 (i_2 + 1)) < (X.1 : Int)) (gd (0 ≤ (w32 (i_2 + 2)) ∧ (w32 (i_2 + 2)) < (X.1 : Int)) (bd (F_X7_night ((X.2 (w32 (i_2 + 1)).toNat).toInt) ((X.2 (w32 (i_2 + 2)).toNat).toInt) h_1) (fun r_130 (h_131 : Mem) => bd (F_X8_night ((X.2 (w32 (i_2 + 1)).toNat).toInt) ((X.2 (w32 (i_2 + 2)).toNat).toInt) h_131) (fun r_133 (h_134 : Mem) => if (¬ r_130 = r_133) then (some (0, h_134)) else (K_5 h_134)))))) else (if sw_4 = 14 then (gd (0 ≤ (w32 (i_2 + 1)) ∧ (w32 (i_2 + 1)) < (X.1 : Int)) (bd (F_X7_worth ((X.2 (w32 (i_2 + 1)).toNat).toInt) h_1) (fun r_139 (h_140 : Mem) => bd (F_X8_worth ((X.2 (w32 (i_2 + 1)).toNat).toInt) h_140) (fun r_142 (h_143 : Mem) => if (¬ r_139 = r_142) then (some (0, h_143)) else (K_5 h_143))))) else (if sw_4 = 15 then (gd (0 ≤ (w32 (i_2 + 1)) ∧ (w32 (i_2 + 1)) < (X.1 : Int)) (bd (F_X7_best ((X.2 (w32 (i_2 + 1)).toNat).toInt) h_1) (fun r_148 (h_149 : Mem) => bd (F_X8_best ((X.2 (w32 (i_2 + 1)).toNat).toInt) h_149) (fun r_151 (h_152 : Mem) => if (¬ r_148 = r_151) then (some (0, h_152)) else (K_5 h_152))))) else (if sw_4 = 16 then (bd (F_X7_custom  h_1) (fun r_156 (h_157 : Mem) => bd (F_X8_custom  h_157) (fun r_159 (h_160 : Mem) => if (¬ r_156 = r_159) then (some (0, h_160)) else (K_5 h_160)))) else (if sw_4 = 17 then (bd (F_X7_when  h_1) (fun r_164 (h_165 : Mem) => bd (F_X8_when  h_165) (fun r_167 (h_168 : Mem) => if (¬ r_164 = r_167) then (some (0, h_168)) else (K_5 h_168)))) else (if sw_4 = 18 then (gd (0 ≤ (w32 (i_2 + 1)) ∧ (w32 (i_2 + 1)) < (X.1 : Int)) (gd (0 ≤ (w32 (i_2 + 2)) ∧ (w32 (i_2 + 2)) < (X.1 : Int)) (bd (F_X7_ill ((X.2 (w32 (i_2 + 1)).toNat).toInt) ((X.2 (w32 (i_2 + 2)).toNat).toInt) h_1) (fun r_174 (h_175 : Mem) => bd (F_X8_ill ((X.2 (w32 (i_2 + 1)).toNat).toInt) ((X.2 (w32 (i_2 + 2)).toNat).toInt) h_175) (fun r_177 (h_178 : Mem) => if (¬ r_174 = r_177) then (some (0, h_178)) else (K_5 h_178)))))) else (if sw_4 = 19 then (gd (0 ≤ (w32 (i_2 + 1)) ∧ (w32 (i_2 + 1)) < (X.1 : Int)) (bd (F_X7_halves ((X.2 (w32 (i_2 + 1)).toNat).toInt) h_1) (fun r_183 (h_184 : Mem) => bd (F_X8_halves ((X.2 (w32 (i_2 + 1)).toNat).toInt) h_184) (fun r_186 (h_187 : Mem) => if (¬ r_183 = r_186) then (some (0, h_187)) else (K_5 h_187))))) else (if sw_4 = 20 then (gd (0 ≤ (w32 (i_2 + 1)) ∧ (w32 (i_2 + 1)) < (X.1 : Int)) (gd (0 ≤ (w32 (i_2 + 2)) ∧ (w32 (i_2 + 2)) < (X.1 : Int)) (gd (0 ≤ (w32 (i_2 + 3)) ∧ (w32 (i_2 + 3)) < (X.1 : Int)) (gd (0 ≤ (w32 (i_2 + 4)) ∧ (w32 (i_2 + 4)) < (X.1 : Int)) (bd (F_X7_tryout ((X.2 (w32 (i_2 + 1)).toNat).toInt) ((X.2 (w32 (i_2 + 2)).toNat).toInt) ((X.2 (w32 (i_2 + 3)).toNat).toInt) ((X.2 (w32 (i_2 + 4)).toNat).toInt) h_1) (fun r_195 (h_196 : Mem) => bd (F_X8_tryout ((X.2 (w32 (i_2 + 1)).toNat).toInt) ((X.2 (w32 (i_2 + 2)).toNat).toInt) ((X.2 (w32 (i_2 + 3)).toNat).toInt) ((X.2 (w32 (i_2 + 4)).toNat).toInt) h_196) (fun r_198 (h_199 : Mem) => if (¬ r_195 = r_198) then (some (0, h_199)) else (K_5 h_199)))))))) else (if sw_4 = 21 then (gd (0 ≤ (w32 (i_2 + 1)) ∧ (w32 (i_2 + 1)) < (X.1 : Int)) (gd (0 ≤ (w32 (i_2 + 2)) ∧ (w32 (i_2 + 2)) < (X.1 : Int)) (gd (0 ≤ (w32 (i_2 + 3)) ∧ (w32 (i_2 + 3)) < (X.1 : Int)) (bd (F_X7_mark ((X.2 (w32 (i_2 + 1)).toNat).toInt) ((X.2 (w32 (i_2 + 2)).toNat).toInt) ((X.2 (w32 (i_2 + 3)).toNat).toInt) h_1) (fun r_206 (h_207 : Mem) => bd (F_X8_mark ((X.2 (w32 (i_2 + 1)).toNat).toInt) ((X.2 (w32 (i_2 + 2)).toNat).toInt) ((X.2 (w32 (i_2 + 3)).toNat).toInt) h_207) (fun r_209 (h_210 : Mem) => if (¬ r_206 = r_209) then (some (0, h_210)) else (K_5 h_210))))))) else (if sw_4 = 22 then (gd (0 ≤ (w32 (i_2 + 1)) ∧ (w32 (i_2 + 1)) < (X.1 : Int)) (gd (0 ≤ (w32 (i_2 + 2)) ∧ (w32 (i_2 + 2)) < (X.1 : Int)) (bd (F_X7_parted ((X.2 (w32 (i_2 + 1)).toNat).toInt) ((X.2 (w32 (i_2 + 2)).toNat).toInt) h_1) (fun r_216 (h_217 : Mem) => bd (F_X8_parted ((X.2 (w32 (i_2 + 1)).toNat).toInt) ((X.2 (w32 (i_2 + 2)).toNat).toInt) h_217) (fun r_219 (h_220 : Mem) => if (¬ r_216 = r_219) then (some (0, h_220)) else (K_5 h_220)))))) else (if sw_4 = 23 then (bd (F_X7_opener  h_1) (fun r_224 (h_225 : Mem) => bd (F_X8_opener  h_225) (fun r_227 (h_228 : Mem) => if (¬ r_224 = r_227) then (some (0, h_228)) else (K_5 h_228)))) else (if sw_4 = 24 then (gd (0 ≤ (w32 (i_2 + 1)) ∧ (w32 (i_2 + 1)) < (X.1 : Int)) (bd (F_X7_hold ((X.2 (w32 (i_2 + 1)).toNat).toInt) h_1) (fun r_233 (h_234 : Mem) => bd (F_X8_hold ((X.2 (w32 (i_2 + 1)).toNat).toInt) h_234) (fun r_236 (h_237 : Mem) => if (¬ r_233 = r_236) then (some (0, h_237)) else (K_5 h_237))))) else (if sw_4 = 25 then (bd (F_X7_drawn  h_1) (fun r_241 (h_242 : Mem) => bd (F_X8_drawn  h_242) (fun r_244 (h_245 : Mem) => if (¬ r_241 = r_244) then (some (0, h_245)) else (K_5 h_245)))) else (if sw_4 = 26 then (gd (0 ≤ (w32 (i_2 + 1)) ∧ (w32 (i_2 + 1)) < (X.1 : Int)) (bd (F_X7_lot ((X.2 (w32 (i_2 + 1)).toNat).toInt) h_1) (fun r_250 (h_251 : Mem) => bd (F_X8_lot ((X.2 (w32 (i_2 + 1)).toNat).toInt) h_251) (fun r_253 (h_254 : Mem) => if (¬ r_250 = r_253) then (some (0, h_254)) else (K_5 h_254))))) else (if sw_4 = 27 then (gd (0 ≤ (w32 (i_2 + 1)) ∧ (w32 (i_2 + 1)) < (X.1 : Int)) (gd (0 ≤ (w32 (i_2 + 2)) ∧ (w32 (i_2 + 2)) < (X.1 : Int)) (bd (F_X7_rate ((X.2 (w32 (i_2 + 1)).toNat).toInt) ((X.2 (w32 (i_2 + 2)).toNat).toInt) h_1) (fun r_260 (h_261 : Mem) => bd (F_X8_rate ((X.2 (w32 (i_2 + 1)).toNat).toInt) ((X.2 (w32 (i_2 + 2)).toNat).toInt) h_261) (fun r_263 (h_264 : Mem) => if (¬ r_260 = r_263) then (some (0, h_264)) else (K_5 h_264)))))) else (if sw_4 = 28 then (gd (0 ≤ (w32 (i_2 + 1)) ∧ (w32 (i_2 + 1)) < (X.1 : Int)) (bd (F_X7_keep ((X.2 (w32 (i_2 + 1)).toNat).toInt) h_1) (fun r_269 (h_270 : Mem) => bd (F_X8_keep ((X.2 (w32 (i_2 + 1)).toNat).toInt) h_270) (fun r_272 (h_273 : Mem) => if (¬ r_269 = r_272) then (some (0, h_273)) else (K_5 h_273))))) else (if sw_4 = 29 then (gd (0 ≤ (w32 (i_2 + 1)) ∧ (w32 (i_2 + 1)) < (X.1 : Int)) (bd (F_X7_back ((X.2 (w32 (i_2 + 1)).toNat).toInt) h_1) (fun r_278 (h_279 : Mem) => bd (F_X8_back ((X.2 (w32 (i_2 + 1)).toNat).toInt) h_279) (fun r_281 (h_282 : Mem) => if (¬ r_278 = r_281) then (some (0, h_282)) else (K_5 h_282))))) else (if sw_4 = 30 then (gd (0 ≤ (w32 (i_2 + 1)) ∧ (w32 (i_2 + 1)) < (X.1 : Int)) (bd (F_X7_count ((X.2 (w32 (i_2 + 1)).toNat).toInt) h_1) (fun r_287 (h_288 : Mem) => bd (F_X8_count ((X.2 (w32 (i_2 + 1)).toNat).toInt) h_288) (fun r_290 (h_291 : Mem) => if (¬ r_287 = r_290) then (some (0, h_291)) else (K_5 h_291))))) else (if sw_4 = 31 then (bd (F_X7_trace  h_1) (fun r_295 (h_296 : Mem) => bd (F_X8_trace  h_296) (fun r_298 (h_299 : Mem) => if (¬ r_295 = r_298) then (some (0, h_299)) else (K_5 h_299)))) else (K_5 h_1))))))))))))))))))))))))))))))))) (fun  (h_302 : Mem) => nm (w32 (i_2 + 5)) (fun i_303 => L_L_law_1 X Kx n i_303 h_302))))) else (Kx i_2 h_1)
def F_law (X : XS) (h : Mem) : Res := L_L_law_1 X (fun i_306 (h_305 : Mem) => some (1, h_305)) FU 0 h
theorem SL_L_law_1 (X : XS) (Kx : Int → Mem → Res) {r : Int × Mem} (hX : X.1 < 2147483648) (hK : ∀ (i_2 : Int) (h_1 : Mem), Kx i_2 h_1 = some r → AJ X ML_law room_1 1019 [(2, (-1)), (2, 1), (2, 56), (0, i_2)] [] h_1 (PB r)) :
    ∀ (n : Nat) (i_2 : Int) (h_1 : Mem), L_L_law_1 X Kx n i_2 h_1 = some r → AJ X ML_law room_1 18 [(2, (-1)), (2, 1), (2, 56), (0, i_2)] [] h_1 (PB r) := by
  intro n
  induction n with
  | zero => intro i_2 h_1 hf; cases hf
  | succ n ih =>
    intro i_2 h_1 hf
    rw [L_L_law_1] at hf
    refine q_iload_n dL_law_18 rfl rfl ?_
    refine q_aload_n dL_law_19 rfl rfl ?_
    refine q_slen dL_law_20 rfl hX ?_
    refine q_iconst dL_law_21 rfl rfl ?_
    refine q_isub dL_law_22 rfl ?_
    refine q_icmp_gt (tgt := 1019) dL_law_23 rfl (by decide) (fun c_304 => ?_) (fun c_304 => ?_)
    · replace hf := it_f hf (by omega)
      exact hK _ _ hf
    · replace hf := it_t hf (by omega)
      refine q_aload_n dL_law_26 rfl rfl ?_
      refine q_iload_n dL_law_27 rfl rfl ?_
      obtain ⟨g_3, hf⟩ := gd_ex hf
      refine q_sload dL_law_28 rfl g_3 ?_
      refine q_bipush dL_law_29 rfl (by decide) ?_
      refine q_iand dL_law_31 rfl ?_
      obtain ⟨sw_4, e_sw_4, hf⟩ := nm_ex hf
      rw [← e_sw_4]
      obtain ⟨K_5, J_K_5, hf⟩ := jn_ex (P := fun K => ∀ (h_302 : Mem), K  h_302 = some r → AJ X ML_law room_1 1013 [(2, (-1)), (2, 1), (2, 56), (0, i_2)] [] h_302 (PB r)) hf (by
          intro  h_302 hf
          refine q_iinc (ls' := [(2, (-1)), (2, 1), (2, 56), (0, w32 (i_2 + 5))]) dL_law_1013 rfl rfl rfl ?_
          obtain ⟨i_303, e_i_303, hf⟩ := nm_ex hf
          rw [← e_i_303]
          refine q_goto (tgt := 18) dL_law_1016 rfl (by decide) ?_
          exact ih _ _ hf)
      by_cases c_6 : sw_4 = 0
      · replace hf := it_t hf c_6
        refine g_tsw (c := 0) (off := 144) (tgt := 176) dL_law_32 c_6 (by decide) rfl (by decide) ?_
        refine q_aload_n dL_law_176 rfl rfl ?_
        refine q_aload_n dL_law_177 rfl rfl ?_
        refine q_iload_n dL_law_178 rfl rfl ?_
        refine q_iconst dL_law_179 rfl rfl ?_
        refine q_iadd dL_law_180 rfl ?_
        obtain ⟨g_7, hf⟩ := gd_ex hf
        refine q_sload dL_law_181 rfl g_7 ?_
        refine q_i2l dL_law_182 rfl ?_
        refine q_bipush dL_law_183 rfl (by decide) ?_
        refine q_lshl dL_law_185 rfl ?_
        refine q_aload_n dL_law_186 rfl rfl ?_
        refine q_iload_n dL_law_187 rfl rfl ?_
        refine q_iconst dL_law_188 rfl rfl ?_
        refine q_iadd dL_law_189 rfl ?_
        obtain ⟨g_8, hf⟩ := gd_ex hf
        refine q_sload dL_law_190 rfl g_8 ?_
        refine q_i2l dL_law_191 rfl ?_
        refine q_ldc2 (z := 4294967295) dL_law_192 rfl kl_L_13 (by decide +kernel) ?_
        refine q_land dL_law_195 rfl ?_
        refine q_lor dL_law_196 rfl ?_
        refine q_aload_n dL_law_197 rfl rfl ?_
        refine q_iload_n dL_law_198 rfl rfl ?_
        refine q_iconst dL_law_199 rfl rfl ?_
        refine q_iadd dL_law_200 rfl ?_
        obtain ⟨g_9, hf⟩ := gd_ex hf
        refine q_sload dL_law_201 rfl g_9 ?_
        obtain ⟨r_10, h_11, e_12, hf⟩ := bd_ex hf
        refine g_Vi (vs := [(1, lor (lshl ((X.2 (w32 (i_2 + 1)).toNat).toInt) 32) (land ((X.2 (w32 (i_2 + 2)).toNat).toInt) 4294967295)), (0, (X.2 (w32 (i_2 + 3)).toNat).toInt)]) (st := []) dL_law_202 rfl (S_X7_type X (lor (lshl ((X.2 (w32 (i_2 + 1)).toNat).toInt) 32) (land ((X.2 (w32 (i_2 + 2)).toNat).toInt) 4294967295)) ((X.2 (w32 (i_2 + 3)).toNat).toInt) h_1) e_12 mf_X7_type ml_L_15 rfl rfl rfl rfl ?_
        refine q_aload_n dL_law_205 rfl rfl ?_
        refine q_aload_n dL_law_206 rfl rfl ?_
        refine q_iload_n dL_law_207 rfl rfl ?_
        refine q_iconst dL_law_208 rfl rfl ?_
        refine q_iadd dL_law_209 rfl ?_
        refine q_sload dL_law_210 rfl g_7 ?_
        refine q_i2l dL_law_211 rfl ?_
        refine q_bipush dL_law_212 rfl (by decide) ?_
        refine q_lshl dL_law_214 rfl ?_
        refine q_aload_n dL_law_215 rfl rfl ?_
        refine q_iload_n dL_law_216 rfl rfl ?_
        refine q_iconst dL_law_217 rfl rfl ?_
        refine q_iadd dL_law_218 rfl ?_
        refine q_sload dL_law_219 rfl g_8 ?_
        refine q_i2l dL_law_220 rfl ?_
        refine q_ldc2 (z := 4294967295) dL_law_221 rfl kl_L_13 (by decide +kernel) ?_
        refine q_land dL_law_224 rfl ?_
        refine q_lor dL_law_225 rfl ?_
        refine q_aload_n dL_law_226 rfl rfl ?_
        refine q_iload_n dL_law_227 rfl rfl ?_
        refine q_iconst dL_law_228 rfl rfl ?_
        refine q_iadd dL_law_229 rfl ?_
        refine q_sload dL_law_230 rfl g_9 ?_
        obtain ⟨r_13, h_14, e_15, hf⟩ := bd_ex hf
        refine g_Vi (vs := [(1, lor (lshl ((X.2 (w32 (i_2 + 1)).toNat).toInt) 32) (land ((X.2 (w32 (i_2 + 2)).toNat).toInt) 4294967295)), (0, (X.2 (w32 (i_2 + 3)).toNat).toInt)]) (st := [(0, r_10)]) dL_law_231 rfl (S_X8_type X (lor (lshl ((X.2 (w32 (i_2 + 1)).toNat).toInt) 32) (land ((X.2 (w32 (i_2 + 2)).toNat).toInt) 4294967295)) ((X.2 (w32 (i_2 + 3)).toNat).toInt) h_11) e_15 mf_X8_type ml_L_19 rfl rfl rfl rfl ?_
        refine q_icmp_eq (tgt := 1013) dL_law_234 rfl (by decide) (fun c_16 => ?_) (fun c_16 => ?_)
        · replace hf := it_f hf (by omega)
          exact J_K_5 _ hf
        · replace hf := it_t hf (by omega)
          refine q_iconst dL_law_237 rfl rfl ?_
          exact g_breturn dL_law_238 rfl (Or.inl rfl) hf
      · replace hf := it_f hf c_6
        by_cases c_17 : sw_4 = 1
        · replace hf := it_t hf c_17
          refine g_tsw (c := 1) (off := 207) (tgt := 239) dL_law_32 c_17 (by decide) rfl (by decide) ?_
          refine q_aload_n dL_law_239 rfl rfl ?_
          obtain ⟨r_18, h_19, e_20, hf⟩ := bd_ex hf
          refine g_Vi (vs := []) (st := []) dL_law_240 rfl (S_X7_clear X  h_1) e_20 mf_X7_clear ml_L_20 rfl rfl rfl rfl ?_
          refine q_aload_n dL_law_243 rfl rfl ?_
          obtain ⟨r_21, h_22, e_23, hf⟩ := bd_ex hf
          refine g_Vi (vs := []) (st := [(0, r_18)]) dL_law_244 rfl (S_X8_clear X  h_19) e_23 mf_X8_clear ml_L_24 rfl rfl rfl rfl ?_
          refine q_icmp_eq (tgt := 1013) dL_law_247 rfl (by decide) (fun c_24 => ?_) (fun c_24 => ?_)
          · replace hf := it_f hf (by omega)
            exact J_K_5 _ hf
          · replace hf := it_t hf (by omega)
            refine q_iconst dL_law_250 rfl rfl ?_
            exact g_breturn dL_law_251 rfl (Or.inl rfl) hf
        · replace hf := it_f hf c_17
          by_cases c_25 : sw_4 = 2
          · replace hf := it_t hf c_25
            refine g_tsw (c := 2) (off := 220) (tgt := 252) dL_law_32 c_25 (by decide) rfl (by decide) ?_
            refine q_aload_n dL_law_252 rfl rfl ?_
            obtain ⟨r_26, h_27, e_28, hf⟩ := bd_ex hf
            refine g_Vi (vs := []) (st := []) dL_law_253 rfl (S_X7_acts X  h_1) e_28 mf_X7_acts ml_L_25 rfl rfl rfl rfl ?_
            refine q_aload_n dL_law_256 rfl rfl ?_
            obtain ⟨r_29, h_30, e_31, hf⟩ := bd_ex hf
            refine g_Vi (vs := []) (st := [(0, r_26)]) dL_law_257 rfl (S_X8_acts X  h_27) e_31 mf_X8_acts ml_L_28 rfl rfl rfl rfl ?_
            refine q_icmp_eq (tgt := 1013) dL_law_260 rfl (by decide) (fun c_32 => ?_) (fun c_32 => ?_)
            · replace hf := it_f hf (by omega)
              exact J_K_5 _ hf
            · replace hf := it_t hf (by omega)
              refine q_iconst dL_law_263 rfl rfl ?_
              exact g_breturn dL_law_264 rfl (Or.inl rfl) hf
          · replace hf := it_f hf c_25
            by_cases c_33 : sw_4 = 3
            · replace hf := it_t hf c_33
              refine g_tsw (c := 3) (off := 233) (tgt := 265) dL_law_32 c_33 (by decide) rfl (by decide) ?_
              refine q_aload_n dL_law_265 rfl rfl ?_
              refine q_aload_n dL_law_266 rfl rfl ?_
              refine q_iload_n dL_law_267 rfl rfl ?_
              refine q_iconst dL_law_268 rfl rfl ?_
              refine q_iadd dL_law_269 rfl ?_
              obtain ⟨g_34, hf⟩ := gd_ex hf
              refine q_sload dL_law_270 rfl g_34 ?_
              refine q_aload_n dL_law_271 rfl rfl ?_
              refine q_iload_n dL_law_272 rfl rfl ?_
              refine q_iconst dL_law_273 rfl rfl ?_
              refine q_iadd dL_law_274 rfl ?_
              obtain ⟨g_35, hf⟩ := gd_ex hf
              refine q_sload dL_law_275 rfl g_35 ?_
              obtain ⟨r_36, h_37, e_38, hf⟩ := bd_ex hf
              refine g_Vi (vs := [(0, (X.2 (w32 (i_2 + 1)).toNat).toInt), (0, (X.2 (w32 (i_2 + 2)).toNat).toInt)]) (st := []) dL_law_276 rfl (S_X7_act X ((X.2 (w32 (i_2 + 1)).toNat).toInt) ((X.2 (w32 (i_2 + 2)).toNat).toInt) h_1) e_38 mf_X7_act ml_L_29 rfl rfl rfl rfl ?_
              refine q_aload_n dL_law_279 rfl rfl ?_
              refine q_aload_n dL_law_280 rfl rfl ?_
              refine q_iload_n dL_law_281 rfl rfl ?_
              refine q_iconst dL_law_282 rfl rfl ?_
              refine q_iadd dL_law_283 rfl ?_
              refine q_sload dL_law_284 rfl g_34 ?_
              refine q_aload_n dL_law_285 rfl rfl ?_
              refine q_iload_n dL_law_286 rfl rfl ?_
              refine q_iconst dL_law_287 rfl rfl ?_
              refine q_iadd dL_law_288 rfl ?_
              refine q_sload dL_law_289 rfl g_35 ?_
              obtain ⟨r_39, h_40, e_41, hf⟩ := bd_ex hf
              refine g_Vi (vs := [(0, (X.2 (w32 (i_2 + 1)).toNat).toInt), (0, (X.2 (w32 (i_2 + 2)).toNat).toInt)]) (st := [(0, r_36)]) dL_law_290 rfl (S_X8_act X ((X.2 (w32 (i_2 + 1)).toNat).toInt) ((X.2 (w32 (i_2 + 2)).toNat).toInt) h_37) e_41 mf_X8_act ml_L_33 rfl rfl rfl rfl ?_
              refine q_icmp_eq (tgt := 1013) dL_law_293 rfl (by decide) (fun c_42 => ?_) (fun c_42 => ?_)
              · replace hf := it_f hf (by omega)
                exact J_K_5 _ hf
              · replace hf := it_t hf (by omega)
                refine q_iconst dL_law_296 rfl rfl ?_
                exact g_breturn dL_law_297 rfl (Or.inl rfl) hf
            · replace hf := it_f hf c_33
              by_cases c_43 : sw_4 = 4
              · replace hf := it_t hf c_43
                refine g_tsw (c := 4) (off := 266) (tgt := 298) dL_law_32 c_43 (by decide) rfl (by decide) ?_
                refine q_aload_n dL_law_298 rfl rfl ?_
                refine q_aload_n dL_law_299 rfl rfl ?_
                refine q_iload_n dL_law_300 rfl rfl ?_
                refine q_iconst dL_law_301 rfl rfl ?_
                refine q_iadd dL_law_302 rfl ?_
                obtain ⟨g_44, hf⟩ := gd_ex hf
                refine q_sload dL_law_303 rfl g_44 ?_
                refine q_aload_n dL_law_304 rfl rfl ?_
                refine q_iload_n dL_law_305 rfl rfl ?_
                refine q_iconst dL_law_306 rfl rfl ?_
                refine q_iadd dL_law_307 rfl ?_
                obtain ⟨g_45, hf⟩ := gd_ex hf
                refine q_sload dL_law_308 rfl g_45 ?_
                obtain ⟨r_46, h_47, e_48, hf⟩ := bd_ex hf
                refine g_Vi (vs := [(0, (X.2 (w32 (i_2 + 1)).toNat).toInt), (0, (X.2 (w32 (i_2 + 2)).toNat).toInt)]) (st := []) dL_law_309 rfl (S_X7_feud X ((X.2 (w32 (i_2 + 1)).toNat).toInt) ((X.2 (w32 (i_2 + 2)).toNat).toInt) h_1) e_48 mf_X7_feud ml_L_34 rfl rfl rfl rfl ?_
                refine q_aload_n dL_law_312 rfl rfl ?_
                refine q_aload_n dL_law_313 rfl rfl ?_
                refine q_iload_n dL_law_314 rfl rfl ?_
                refine q_iconst dL_law_315 rfl rfl ?_
                refine q_iadd dL_law_316 rfl ?_
                refine q_sload dL_law_317 rfl g_44 ?_
                refine q_aload_n dL_law_318 rfl rfl ?_
                refine q_iload_n dL_law_319 rfl rfl ?_
                refine q_iconst dL_law_320 rfl rfl ?_
                refine q_iadd dL_law_321 rfl ?_
                refine q_sload dL_law_322 rfl g_45 ?_
                obtain ⟨r_49, h_50, e_51, hf⟩ := bd_ex hf
                refine g_Vi (vs := [(0, (X.2 (w32 (i_2 + 1)).toNat).toInt), (0, (X.2 (w32 (i_2 + 2)).toNat).toInt)]) (st := [(0, r_46)]) dL_law_323 rfl (S_X8_feud X ((X.2 (w32 (i_2 + 1)).toNat).toInt) ((X.2 (w32 (i_2 + 2)).toNat).toInt) h_47) e_51 mf_X8_feud ml_L_37 rfl rfl rfl rfl ?_
                refine q_icmp_eq (tgt := 1013) dL_law_326 rfl (by decide) (fun c_52 => ?_) (fun c_52 => ?_)
                · replace hf := it_f hf (by omega)
                  exact J_K_5 _ hf
                · replace hf := it_t hf (by omega)
                  refine q_iconst dL_law_329 rfl rfl ?_
                  exact g_breturn dL_law_330 rfl (Or.inl rfl) hf
              · replace hf := it_f hf c_43
                by_cases c_53 : sw_4 = 5
                · replace hf := it_t hf c_53
                  refine g_tsw (c := 5) (off := 299) (tgt := 331) dL_law_32 c_53 (by decide) rfl (by decide) ?_
                  refine q_aload_n dL_law_331 rfl rfl ?_
                  refine q_aload_n dL_law_332 rfl rfl ?_
                  refine q_iload_n dL_law_333 rfl rfl ?_
                  refine q_iconst dL_law_334 rfl rfl ?_
                  refine q_iadd dL_law_335 rfl ?_
                  obtain ⟨g_54, hf⟩ := gd_ex hf
                  refine q_sload dL_law_336 rfl g_54 ?_
                  refine q_aload_n dL_law_337 rfl rfl ?_
                  refine q_iload_n dL_law_338 rfl rfl ?_
                  refine q_iconst dL_law_339 rfl rfl ?_
                  refine q_iadd dL_law_340 rfl ?_
                  obtain ⟨g_55, hf⟩ := gd_ex hf
                  refine q_sload dL_law_341 rfl g_55 ?_
                  obtain ⟨r_56, h_57, e_58, hf⟩ := bd_ex hf
                  refine g_Vi (vs := [(0, (X.2 (w32 (i_2 + 1)).toNat).toInt), (0, (X.2 (w32 (i_2 + 2)).toNat).toInt)]) (st := []) dL_law_342 rfl (S_X7_tune X ((X.2 (w32 (i_2 + 1)).toNat).toInt) ((X.2 (w32 (i_2 + 2)).toNat).toInt) h_1) e_58 mf_X7_tune ml_L_38 rfl rfl rfl rfl ?_
                  refine q_aload_n dL_law_345 rfl rfl ?_
                  refine q_aload_n dL_law_346 rfl rfl ?_
                  refine q_iload_n dL_law_347 rfl rfl ?_
                  refine q_iconst dL_law_348 rfl rfl ?_
                  refine q_iadd dL_law_349 rfl ?_
                  refine q_sload dL_law_350 rfl g_54 ?_
                  refine q_aload_n dL_law_351 rfl rfl ?_
                  refine q_iload_n dL_law_352 rfl rfl ?_
                  refine q_iconst dL_law_353 rfl rfl ?_
                  refine q_iadd dL_law_354 rfl ?_
                  refine q_sload dL_law_355 rfl g_55 ?_
                  obtain ⟨r_59, h_60, e_61, hf⟩ := bd_ex hf
                  refine g_Vi (vs := [(0, (X.2 (w32 (i_2 + 1)).toNat).toInt), (0, (X.2 (w32 (i_2 + 2)).toNat).toInt)]) (st := [(0, r_56)]) dL_law_356 rfl (S_X8_tune X ((X.2 (w32 (i_2 + 1)).toNat).toInt) ((X.2 (w32 (i_2 + 2)).toNat).toInt) h_57) e_61 mf_X8_tune ml_L_41 rfl rfl rfl rfl ?_
                  refine q_icmp_eq (tgt := 1013) dL_law_359 rfl (by decide) (fun c_62 => ?_) (fun c_62 => ?_)
                  · replace hf := it_f hf (by omega)
                    exact J_K_5 _ hf
                  · replace hf := it_t hf (by omega)
                    refine q_iconst dL_law_362 rfl rfl ?_
                    exact g_breturn dL_law_363 rfl (Or.inl rfl) hf
                · replace hf := it_f hf c_53
                  by_cases c_63 : sw_4 = 6
                  · replace hf := it_t hf c_63
                    refine g_tsw (c := 6) (off := 332) (tgt := 364) dL_law_32 c_63 (by decide) rfl (by decide) ?_
                    refine q_aload_n dL_law_364 rfl rfl ?_
                    refine q_aload_n dL_law_365 rfl rfl ?_
                    refine q_iload_n dL_law_366 rfl rfl ?_
                    refine q_iconst dL_law_367 rfl rfl ?_
                    refine q_iadd dL_law_368 rfl ?_
                    obtain ⟨g_64, hf⟩ := gd_ex hf
                    refine q_sload dL_law_369 rfl g_64 ?_
                    refine q_aload_n dL_law_370 rfl rfl ?_
                    refine q_iload_n dL_law_371 rfl rfl ?_
                    refine q_iconst dL_law_372 rfl rfl ?_
                    refine q_iadd dL_law_373 rfl ?_
                    obtain ⟨g_65, hf⟩ := gd_ex hf
                    refine q_sload dL_law_374 rfl g_65 ?_
                    obtain ⟨r_66, h_67, e_68, hf⟩ := bd_ex hf
                    refine g_Vi (vs := [(0, (X.2 (w32 (i_2 + 1)).toNat).toInt), (0, (X.2 (w32 (i_2 + 2)).toNat).toInt)]) (st := []) dL_law_375 rfl (S_X7_family X ((X.2 (w32 (i_2 + 1)).toNat).toInt) ((X.2 (w32 (i_2 + 2)).toNat).toInt) h_1) e_68 mf_X7_family ml_L_42 rfl rfl rfl rfl ?_
                    refine q_aload_n dL_law_378 rfl rfl ?_
                    refine q_aload_n dL_law_379 rfl rfl ?_
                    refine q_iload_n dL_law_380 rfl rfl ?_
                    refine q_iconst dL_law_381 rfl rfl ?_
                    refine q_iadd dL_law_382 rfl ?_
                    refine q_sload dL_law_383 rfl g_64 ?_
                    refine q_aload_n dL_law_384 rfl rfl ?_
                    refine q_iload_n dL_law_385 rfl rfl ?_
                    refine q_iconst dL_law_386 rfl rfl ?_
                    refine q_iadd dL_law_387 rfl ?_
                    refine q_sload dL_law_388 rfl g_65 ?_
                    obtain ⟨r_69, h_70, e_71, hf⟩ := bd_ex hf
                    refine g_Vi (vs := [(0, (X.2 (w32 (i_2 + 1)).toNat).toInt), (0, (X.2 (w32 (i_2 + 2)).toNat).toInt)]) (st := [(0, r_66)]) dL_law_389 rfl (S_X8_family X ((X.2 (w32 (i_2 + 1)).toNat).toInt) ((X.2 (w32 (i_2 + 2)).toNat).toInt) h_67) e_71 mf_X8_family ml_L_45 rfl rfl rfl rfl ?_
                    refine q_icmp_eq (tgt := 1013) dL_law_392 rfl (by decide) (fun c_72 => ?_) (fun c_72 => ?_)
                    · replace hf := it_f hf (by omega)
                      exact J_K_5 _ hf
                    · replace hf := it_t hf (by omega)
                      refine q_iconst dL_law_395 rfl rfl ?_
                      exact g_breturn dL_law_396 rfl (Or.inl rfl) hf
                  · replace hf := it_f hf c_63
                    by_cases c_73 : sw_4 = 7
                    · replace hf := it_t hf c_73
                      refine g_tsw (c := 7) (off := 365) (tgt := 397) dL_law_32 c_73 (by decide) rfl (by decide) ?_
                      refine q_aload_n dL_law_397 rfl rfl ?_
                      refine q_aload_n dL_law_398 rfl rfl ?_
                      refine q_iload_n dL_law_399 rfl rfl ?_
                      refine q_iconst dL_law_400 rfl rfl ?_
                      refine q_iadd dL_law_401 rfl ?_
                      obtain ⟨g_74, hf⟩ := gd_ex hf
                      refine q_sload dL_law_402 rfl g_74 ?_
                      obtain ⟨r_75, h_76, e_77, hf⟩ := bd_ex hf
                      refine g_Vi (vs := [(0, (X.2 (w32 (i_2 + 1)).toNat).toInt)]) (st := []) dL_law_403 rfl (S_X7_place X ((X.2 (w32 (i_2 + 1)).toNat).toInt) h_1) e_77 mf_X7_place ml_L_46 rfl rfl rfl rfl ?_
                      refine q_aload_n dL_law_406 rfl rfl ?_
                      refine q_aload_n dL_law_407 rfl rfl ?_
                      refine q_iload_n dL_law_408 rfl rfl ?_
                      refine q_iconst dL_law_409 rfl rfl ?_
                      refine q_iadd dL_law_410 rfl ?_
                      refine q_sload dL_law_411 rfl g_74 ?_
                      obtain ⟨r_78, h_79, e_80, hf⟩ := bd_ex hf
                      refine g_Vi (vs := [(0, (X.2 (w32 (i_2 + 1)).toNat).toInt)]) (st := [(0, r_75)]) dL_law_412 rfl (S_X8_place X ((X.2 (w32 (i_2 + 1)).toNat).toInt) h_76) e_80 mf_X8_place ml_L_50 rfl rfl rfl rfl ?_
                      refine q_icmp_eq (tgt := 1013) dL_law_415 rfl (by decide) (fun c_81 => ?_) (fun c_81 => ?_)
                      · replace hf := it_f hf (by omega)
                        exact J_K_5 _ hf
                      · replace hf := it_t hf (by omega)
                        refine q_iconst dL_law_418 rfl rfl ?_
                        exact g_breturn dL_law_419 rfl (Or.inl rfl) hf
                    · replace hf := it_f hf c_73
                      by_cases c_82 : sw_4 = 8
                      · replace hf := it_t hf c_82
                        refine g_tsw (c := 8) (off := 388) (tgt := 420) dL_law_32 c_82 (by decide) rfl (by decide) ?_
                        refine q_aload_n dL_law_420 rfl rfl ?_
                        obtain ⟨r_83, h_84, e_85, hf⟩ := bd_ex hf
                        refine g_Vi (vs := []) (st := []) dL_law_421 rfl (S_X7_empty X  h_1) e_85 mf_X7_empty ml_L_51 rfl rfl rfl rfl ?_
                        refine q_aload_n dL_law_424 rfl rfl ?_
                        obtain ⟨r_86, h_87, e_88, hf⟩ := bd_ex hf
                        refine g_Vi (vs := []) (st := [(0, r_83)]) dL_law_425 rfl (S_X8_empty X  h_84) e_88 mf_X8_empty ml_L_54 rfl rfl rfl rfl ?_
                        refine q_icmp_eq (tgt := 1013) dL_law_428 rfl (by decide) (fun c_89 => ?_) (fun c_89 => ?_)
                        · replace hf := it_f hf (by omega)
                          exact J_K_5 _ hf
                        · replace hf := it_t hf (by omega)
                          refine q_iconst dL_law_431 rfl rfl ?_
                          exact g_breturn dL_law_432 rfl (Or.inl rfl) hf
                      · replace hf := it_f hf c_82
                        by_cases c_90 : sw_4 = 9
                        · replace hf := it_t hf c_90
                          refine g_tsw (c := 9) (off := 401) (tgt := 433) dL_law_32 c_90 (by decide) rfl (by decide) ?_
                          refine q_aload_n dL_law_433 rfl rfl ?_
                          refine q_aload_n dL_law_434 rfl rfl ?_
                          refine q_iload_n dL_law_435 rfl rfl ?_
                          refine q_iconst dL_law_436 rfl rfl ?_
                          refine q_iadd dL_law_437 rfl ?_
                          obtain ⟨g_91, hf⟩ := gd_ex hf
                          refine q_sload dL_law_438 rfl g_91 ?_
                          obtain ⟨r_92, h_93, e_94, hf⟩ := bd_ex hf
                          refine g_Vi (vs := [(0, (X.2 (w32 (i_2 + 1)).toNat).toInt)]) (st := []) dL_law_439 rfl (S_X7_rest X ((X.2 (w32 (i_2 + 1)).toNat).toInt) h_1) e_94 mf_X7_rest ml_L_55 rfl rfl rfl rfl ?_
                          refine q_aload_n dL_law_442 rfl rfl ?_
                          refine q_aload_n dL_law_443 rfl rfl ?_
                          refine q_iload_n dL_law_444 rfl rfl ?_
                          refine q_iconst dL_law_445 rfl rfl ?_
                          refine q_iadd dL_law_446 rfl ?_
                          refine q_sload dL_law_447 rfl g_91 ?_
                          obtain ⟨r_95, h_96, e_97, hf⟩ := bd_ex hf
                          refine g_Vi (vs := [(0, (X.2 (w32 (i_2 + 1)).toNat).toInt)]) (st := [(0, r_92)]) dL_law_448 rfl (S_X8_rest X ((X.2 (w32 (i_2 + 1)).toNat).toInt) h_93) e_97 mf_X8_rest ml_L_58 rfl rfl rfl rfl ?_
                          refine q_icmp_eq (tgt := 1013) dL_law_451 rfl (by decide) (fun c_98 => ?_) (fun c_98 => ?_)
                          · replace hf := it_f hf (by omega)
                            exact J_K_5 _ hf
                          · replace hf := it_t hf (by omega)
                            refine q_iconst dL_law_454 rfl rfl ?_
                            exact g_breturn dL_law_455 rfl (Or.inl rfl) hf
                        · replace hf := it_f hf c_90
                          by_cases c_99 : sw_4 = 10
                          · replace hf := it_t hf c_99
                            refine g_tsw (c := 10) (off := 424) (tgt := 456) dL_law_32 c_99 (by decide) rfl (by decide) ?_
                            refine q_aload_n dL_law_456 rfl rfl ?_
                            refine q_aload_n dL_law_457 rfl rfl ?_
                            refine q_iload_n dL_law_458 rfl rfl ?_
                            refine q_iconst dL_law_459 rfl rfl ?_
                            refine q_iadd dL_law_460 rfl ?_
                            obtain ⟨g_100, hf⟩ := gd_ex hf
                            refine q_sload dL_law_461 rfl g_100 ?_
                            obtain ⟨r_101, h_102, e_103, hf⟩ := bd_ex hf
                            refine g_Vi (vs := [(0, (X.2 (w32 (i_2 + 1)).toNat).toInt)]) (st := []) dL_law_462 rfl (S_X7_on X ((X.2 (w32 (i_2 + 1)).toNat).toInt) h_1) e_103 mf_X7_on ml_L_59 rfl rfl rfl rfl ?_
                            refine q_aload_n dL_law_465 rfl rfl ?_
                            refine q_aload_n dL_law_466 rfl rfl ?_
                            refine q_iload_n dL_law_467 rfl rfl ?_
                            refine q_iconst dL_law_468 rfl rfl ?_
                            refine q_iadd dL_law_469 rfl ?_
                            refine q_sload dL_law_470 rfl g_100 ?_
                            obtain ⟨r_104, h_105, e_106, hf⟩ := bd_ex hf
                            refine g_Vi (vs := [(0, (X.2 (w32 (i_2 + 1)).toNat).toInt)]) (st := [(0, r_101)]) dL_law_471 rfl (S_X8_on X ((X.2 (w32 (i_2 + 1)).toNat).toInt) h_102) e_106 mf_X8_on ml_L_62 rfl rfl rfl rfl ?_
                            refine q_icmp_eq (tgt := 1013) dL_law_474 rfl (by decide) (fun c_107 => ?_) (fun c_107 => ?_)
                            · replace hf := it_f hf (by omega)
                              exact J_K_5 _ hf
                            · replace hf := it_t hf (by omega)
                              refine q_iconst dL_law_477 rfl rfl ?_
                              exact g_breturn dL_law_478 rfl (Or.inl rfl) hf
                          · replace hf := it_f hf c_99
                            by_cases c_108 : sw_4 = 11
                            · replace hf := it_t hf c_108
                              refine g_tsw (c := 11) (off := 447) (tgt := 479) dL_law_32 c_108 (by decide) rfl (by decide) ?_
                              refine q_aload_n dL_law_479 rfl rfl ?_
                              refine q_aload_n dL_law_480 rfl rfl ?_
                              refine q_iload_n dL_law_481 rfl rfl ?_
                              refine q_iconst dL_law_482 rfl rfl ?_
                              refine q_iadd dL_law_483 rfl ?_
                              obtain ⟨g_109, hf⟩ := gd_ex hf
                              refine q_sload dL_law_484 rfl g_109 ?_
                              refine q_aload_n dL_law_485 rfl rfl ?_
                              refine q_iload_n dL_law_486 rfl rfl ?_
                              refine q_iconst dL_law_487 rfl rfl ?_
                              refine q_iadd dL_law_488 rfl ?_
                              obtain ⟨g_110, hf⟩ := gd_ex hf
                              refine q_sload dL_law_489 rfl g_110 ?_
                              obtain ⟨r_111, h_112, e_113, hf⟩ := bd_ex hf
                              refine g_Vi (vs := [(0, (X.2 (w32 (i_2 + 1)).toNat).toInt), (0, (X.2 (w32 (i_2 + 2)).toNat).toInt)]) (st := []) dL_law_490 rfl (S_X7_minute X ((X.2 (w32 (i_2 + 1)).toNat).toInt) ((X.2 (w32 (i_2 + 2)).toNat).toInt) h_1) e_113 mf_X7_minute ml_L_63 rfl rfl rfl rfl ?_
                              refine q_aload_n dL_law_493 rfl rfl ?_
                              refine q_aload_n dL_law_494 rfl rfl ?_
                              refine q_iload_n dL_law_495 rfl rfl ?_
                              refine q_iconst dL_law_496 rfl rfl ?_
                              refine q_iadd dL_law_497 rfl ?_
                              refine q_sload dL_law_498 rfl g_109 ?_
                              refine q_aload_n dL_law_499 rfl rfl ?_
                              refine q_iload_n dL_law_500 rfl rfl ?_
                              refine q_iconst dL_law_501 rfl rfl ?_
                              refine q_iadd dL_law_502 rfl ?_
                              refine q_sload dL_law_503 rfl g_110 ?_
                              obtain ⟨r_114, h_115, e_116, hf⟩ := bd_ex hf
                              refine g_Vi (vs := [(0, (X.2 (w32 (i_2 + 1)).toNat).toInt), (0, (X.2 (w32 (i_2 + 2)).toNat).toInt)]) (st := [(0, r_111)]) dL_law_504 rfl (S_X8_minute X ((X.2 (w32 (i_2 + 1)).toNat).toInt) ((X.2 (w32 (i_2 + 2)).toNat).toInt) h_112) e_116 mf_X8_minute ml_L_66 rfl rfl rfl rfl ?_
                              refine q_icmp_eq (tgt := 1013) dL_law_507 rfl (by decide) (fun c_117 => ?_) (fun c_117 => ?_)
                              · replace hf := it_f hf (by omega)
                                exact J_K_5 _ hf
                              · replace hf := it_t hf (by omega)
                                refine q_iconst dL_law_510 rfl rfl ?_
                                exact g_breturn dL_law_511 rfl (Or.inl rfl) hf
                            · replace hf := it_f hf c_108
                              by_cases c_118 : sw_4 = 12
                              · replace hf := it_t hf c_118
                                refine g_tsw (c := 12) (off := 480) (tgt := 512) dL_law_32 c_118 (by decide) rfl (by decide) ?_
                                refine q_aload_n dL_law_512 rfl rfl ?_
                                refine q_aload_n dL_law_513 rfl rfl ?_
                                refine q_iload_n dL_law_514 rfl rfl ?_
                                refine q_iconst dL_law_515 rfl rfl ?_
                                refine q_iadd dL_law_516 rfl ?_
                                obtain ⟨g_119, hf⟩ := gd_ex hf
                                refine q_sload dL_law_517 rfl g_119 ?_
                                obtain ⟨r_120, h_121, e_122, hf⟩ := bd_ex hf
                                refine g_Vi (vs := [(0, (X.2 (w32 (i_2 + 1)).toNat).toInt)]) (st := []) dL_law_518 rfl (S_X7_staged X ((X.2 (w32 (i_2 + 1)).toNat).toInt) h_1) e_122 mf_X7_staged ml_L_67 rfl rfl rfl rfl ?_
                                refine q_aload_n dL_law_521 rfl rfl ?_
                                refine q_aload_n dL_law_522 rfl rfl ?_
                                refine q_iload_n dL_law_523 rfl rfl ?_
                                refine q_iconst dL_law_524 rfl rfl ?_
                                refine q_iadd dL_law_525 rfl ?_
                                refine q_sload dL_law_526 rfl g_119 ?_
                                obtain ⟨r_123, h_124, e_125, hf⟩ := bd_ex hf
                                refine g_Vi (vs := [(0, (X.2 (w32 (i_2 + 1)).toNat).toInt)]) (st := [(0, r_120)]) dL_law_527 rfl (S_X8_staged X ((X.2 (w32 (i_2 + 1)).toNat).toInt) h_121) e_125 mf_X8_staged ml_L_70 rfl rfl rfl rfl ?_
                                refine q_icmp_eq (tgt := 1013) dL_law_530 rfl (by decide) (fun c_126 => ?_) (fun c_126 => ?_)
                                · replace hf := it_f hf (by omega)
                                  exact J_K_5 _ hf
                                · replace hf := it_t hf (by omega)
                                  refine q_iconst dL_law_533 rfl rfl ?_
                                  exact g_breturn dL_law_534 rfl (Or.inl rfl) hf
                              · replace hf := it_f hf c_118
                                by_cases c_127 : sw_4 = 13
                                · replace hf := it_t hf c_127
                                  refine g_tsw (c := 13) (off := 503) (tgt := 535) dL_law_32 c_127 (by decide) rfl (by decide) ?_
                                  refine q_aload_n dL_law_535 rfl rfl ?_
                                  refine q_aload_n dL_law_536 rfl rfl ?_
                                  refine q_iload_n dL_law_537 rfl rfl ?_
                                  refine q_iconst dL_law_538 rfl rfl ?_
                                  refine q_iadd dL_law_539 rfl ?_
                                  obtain ⟨g_128, hf⟩ := gd_ex hf
                                  refine q_sload dL_law_540 rfl g_128 ?_
                                  refine q_aload_n dL_law_541 rfl rfl ?_
                                  refine q_iload_n dL_law_542 rfl rfl ?_
                                  refine q_iconst dL_law_543 rfl rfl ?_
                                  refine q_iadd dL_law_544 rfl ?_
                                  obtain ⟨g_129, hf⟩ := gd_ex hf
                                  refine q_sload dL_law_545 rfl g_129 ?_
                                  obtain ⟨r_130, h_131, e_132, hf⟩ := bd_ex hf
                                  refine g_Vi (vs := [(0, (X.2 (w32 (i_2 + 1)).toNat).toInt), (0, (X.2 (w32 (i_2 + 2)).toNat).toInt)]) (st := []) dL_law_546 rfl (S_X7_night X ((X.2 (w32 (i_2 + 1)).toNat).toInt) ((X.2 (w32 (i_2 + 2)).toNat).toInt) h_1) e_132 mf_X7_night ml_L_71 rfl rfl rfl rfl ?_
                                  refine q_aload_n dL_law_549 rfl rfl ?_
                                  refine q_aload_n dL_law_550 rfl rfl ?_
                                  refine q_iload_n dL_law_551 rfl rfl ?_
                                  refine q_iconst dL_law_552 rfl rfl ?_
                                  refine q_iadd dL_law_553 rfl ?_
                                  refine q_sload dL_law_554 rfl g_128 ?_
                                  refine q_aload_n dL_law_555 rfl rfl ?_
                                  refine q_iload_n dL_law_556 rfl rfl ?_
                                  refine q_iconst dL_law_557 rfl rfl ?_
                                  refine q_iadd dL_law_558 rfl ?_
                                  refine q_sload dL_law_559 rfl g_129 ?_
                                  obtain ⟨r_133, h_134, e_135, hf⟩ := bd_ex hf
                                  refine g_Vi (vs := [(0, (X.2 (w32 (i_2 + 1)).toNat).toInt), (0, (X.2 (w32 (i_2 + 2)).toNat).toInt)]) (st := [(0, r_130)]) dL_law_560 rfl (S_X8_night X ((X.2 (w32 (i_2 + 1)).toNat).toInt) ((X.2 (w32 (i_2 + 2)).toNat).toInt) h_131) e_135 mf_X8_night ml_L_74 rfl rfl rfl rfl ?_
                                  refine q_icmp_eq (tgt := 1013) dL_law_563 rfl (by decide) (fun c_136 => ?_) (fun c_136 => ?_)
                                  · replace hf := it_f hf (by omega)
                                    exact J_K_5 _ hf
                                  · replace hf := it_t hf (by omega)
                                    refine q_iconst dL_law_566 rfl rfl ?_
                                    exact g_breturn dL_law_567 rfl (Or.inl rfl) hf
                                · replace hf := it_f hf c_127
                                  by_cases c_137 : sw_4 = 14
                                  · replace hf := it_t hf c_137
                                    refine g_tsw (c := 14) (off := 536) (tgt := 568) dL_law_32 c_137 (by decide) rfl (by decide) ?_
                                    refine q_aload_n dL_law_568 rfl rfl ?_
                                    refine q_aload_n dL_law_569 rfl rfl ?_
                                    refine q_iload_n dL_law_570 rfl rfl ?_
                                    refine q_iconst dL_law_571 rfl rfl ?_
                                    refine q_iadd dL_law_572 rfl ?_
                                    obtain ⟨g_138, hf⟩ := gd_ex hf
                                    refine q_sload dL_law_573 rfl g_138 ?_
                                    obtain ⟨r_139, h_140, e_141, hf⟩ := bd_ex hf
                                    refine g_Vi (vs := [(0, (X.2 (w32 (i_2 + 1)).toNat).toInt)]) (st := []) dL_law_574 rfl (S_X7_worth X ((X.2 (w32 (i_2 + 1)).toNat).toInt) h_1) e_141 mf_X7_worth ml_L_75 rfl rfl rfl rfl ?_
                                    refine q_aload_n dL_law_577 rfl rfl ?_
                                    refine q_aload_n dL_law_578 rfl rfl ?_
                                    refine q_iload_n dL_law_579 rfl rfl ?_
                                    refine q_iconst dL_law_580 rfl rfl ?_
                                    refine q_iadd dL_law_581 rfl ?_
                                    refine q_sload dL_law_582 rfl g_138 ?_
                                    obtain ⟨r_142, h_143, e_144, hf⟩ := bd_ex hf
                                    refine g_Vi (vs := [(0, (X.2 (w32 (i_2 + 1)).toNat).toInt)]) (st := [(0, r_139)]) dL_law_583 rfl (S_X8_worth X ((X.2 (w32 (i_2 + 1)).toNat).toInt) h_140) e_144 mf_X8_worth ml_L_78 rfl rfl rfl rfl ?_
                                    refine q_icmp_eq (tgt := 1013) dL_law_586 rfl (by decide) (fun c_145 => ?_) (fun c_145 => ?_)
                                    · replace hf := it_f hf (by omega)
                                      exact J_K_5 _ hf
                                    · replace hf := it_t hf (by omega)
                                      refine q_iconst dL_law_589 rfl rfl ?_
                                      exact g_breturn dL_law_590 rfl (Or.inl rfl) hf
                                  · replace hf := it_f hf c_137
                                    by_cases c_146 : sw_4 = 15
                                    · replace hf := it_t hf c_146
                                      refine g_tsw (c := 15) (off := 559) (tgt := 591) dL_law_32 c_146 (by decide) rfl (by decide) ?_
                                      refine q_aload_n dL_law_591 rfl rfl ?_
                                      refine q_aload_n dL_law_592 rfl rfl ?_
                                      refine q_iload_n dL_law_593 rfl rfl ?_
                                      refine q_iconst dL_law_594 rfl rfl ?_
                                      refine q_iadd dL_law_595 rfl ?_
                                      obtain ⟨g_147, hf⟩ := gd_ex hf
                                      refine q_sload dL_law_596 rfl g_147 ?_
                                      obtain ⟨r_148, h_149, e_150, hf⟩ := bd_ex hf
                                      refine g_Vi (vs := [(0, (X.2 (w32 (i_2 + 1)).toNat).toInt)]) (st := []) dL_law_597 rfl (S_X7_best X ((X.2 (w32 (i_2 + 1)).toNat).toInt) h_1) e_150 mf_X7_best ml_L_79 rfl rfl rfl rfl ?_
                                      refine q_aload_n dL_law_600 rfl rfl ?_
                                      refine q_aload_n dL_law_601 rfl rfl ?_
                                      refine q_iload_n dL_law_602 rfl rfl ?_
                                      refine q_iconst dL_law_603 rfl rfl ?_
                                      refine q_iadd dL_law_604 rfl ?_
                                      refine q_sload dL_law_605 rfl g_147 ?_
                                      obtain ⟨r_151, h_152, e_153, hf⟩ := bd_ex hf
                                      refine g_Vi (vs := [(0, (X.2 (w32 (i_2 + 1)).toNat).toInt)]) (st := [(0, r_148)]) dL_law_606 rfl (S_X8_best X ((X.2 (w32 (i_2 + 1)).toNat).toInt) h_149) e_153 mf_X8_best ml_L_82 rfl rfl rfl rfl ?_
                                      refine q_icmp_eq (tgt := 1013) dL_law_609 rfl (by decide) (fun c_154 => ?_) (fun c_154 => ?_)
                                      · replace hf := it_f hf (by omega)
                                        exact J_K_5 _ hf
                                      · replace hf := it_t hf (by omega)
                                        refine q_iconst dL_law_612 rfl rfl ?_
                                        exact g_breturn dL_law_613 rfl (Or.inl rfl) hf
                                    · replace hf := it_f hf c_146
                                      by_cases c_155 : sw_4 = 16
                                      · replace hf := it_t hf c_155
                                        refine g_tsw (c := 16) (off := 582) (tgt := 614) dL_law_32 c_155 (by decide) rfl (by decide) ?_
                                        refine q_aload_n dL_law_614 rfl rfl ?_
                                        obtain ⟨r_156, h_157, e_158, hf⟩ := bd_ex hf
                                        refine g_Vi (vs := []) (st := []) dL_law_615 rfl (S_X7_custom X  h_1) e_158 mf_X7_custom ml_L_83 rfl rfl rfl rfl ?_
                                        refine q_aload_n dL_law_618 rfl rfl ?_
                                        obtain ⟨r_159, h_160, e_161, hf⟩ := bd_ex hf
                                        refine g_Vi (vs := []) (st := [(0, r_156)]) dL_law_619 rfl (S_X8_custom X  h_157) e_161 mf_X8_custom ml_L_86 rfl rfl rfl rfl ?_
                                        refine q_icmp_eq (tgt := 1013) dL_law_622 rfl (by decide) (fun c_162 => ?_) (fun c_162 => ?_)
                                        · replace hf := it_f hf (by omega)
                                          exact J_K_5 _ hf
                                        · replace hf := it_t hf (by omega)
                                          refine q_iconst dL_law_625 rfl rfl ?_
                                          exact g_breturn dL_law_626 rfl (Or.inl rfl) hf
                                      · replace hf := it_f hf c_155
                                        by_cases c_163 : sw_4 = 17
                                        · replace hf := it_t hf c_163
                                          refine g_tsw (c := 17) (off := 595) (tgt := 627) dL_law_32 c_163 (by decide) rfl (by decide) ?_
                                          refine q_aload_n dL_law_627 rfl rfl ?_
                                          obtain ⟨r_164, h_165, e_166, hf⟩ := bd_ex hf
                                          refine g_Vi (vs := []) (st := []) dL_law_628 rfl (S_X7_when X  h_1) e_166 mf_X7_when ml_L_87 rfl rfl rfl rfl ?_
                                          refine q_aload_n dL_law_631 rfl rfl ?_
                                          obtain ⟨r_167, h_168, e_169, hf⟩ := bd_ex hf
                                          refine g_Vi (vs := []) (st := [(0, r_164)]) dL_law_632 rfl (S_X8_when X  h_165) e_169 mf_X8_when ml_L_90 rfl rfl rfl rfl ?_
                                          refine q_icmp_eq (tgt := 1013) dL_law_635 rfl (by decide) (fun c_170 => ?_) (fun c_170 => ?_)
                                          · replace hf := it_f hf (by omega)
                                            exact J_K_5 _ hf
                                          · replace hf := it_t hf (by omega)
                                            refine q_iconst dL_law_638 rfl rfl ?_
                                            exact g_breturn dL_law_639 rfl (Or.inl rfl) hf
                                        · replace hf := it_f hf c_163
                                          by_cases c_171 : sw_4 = 18
                                          · replace hf := it_t hf c_171
                                            refine g_tsw (c := 18) (off := 608) (tgt := 640) dL_law_32 c_171 (by decide) rfl (by decide) ?_
                                            refine q_aload_n dL_law_640 rfl rfl ?_
                                            refine q_aload_n dL_law_641 rfl rfl ?_
                                            refine q_iload_n dL_law_642 rfl rfl ?_
                                            refine q_iconst dL_law_643 rfl rfl ?_
                                            refine q_iadd dL_law_644 rfl ?_
                                            obtain ⟨g_172, hf⟩ := gd_ex hf
                                            refine q_sload dL_law_645 rfl g_172 ?_
                                            refine q_aload_n dL_law_646 rfl rfl ?_
                                            refine q_iload_n dL_law_647 rfl rfl ?_
                                            refine q_iconst dL_law_648 rfl rfl ?_
                                            refine q_iadd dL_law_649 rfl ?_
                                            obtain ⟨g_173, hf⟩ := gd_ex hf
                                            refine q_sload dL_law_650 rfl g_173 ?_
                                            obtain ⟨r_174, h_175, e_176, hf⟩ := bd_ex hf
                                            refine g_Vi (vs := [(0, (X.2 (w32 (i_2 + 1)).toNat).toInt), (0, (X.2 (w32 (i_2 + 2)).toNat).toInt)]) (st := []) dL_law_651 rfl (S_X7_ill X ((X.2 (w32 (i_2 + 1)).toNat).toInt) ((X.2 (w32 (i_2 + 2)).toNat).toInt) h_1) e_176 mf_X7_ill ml_L_91 rfl rfl rfl rfl ?_
                                            refine q_aload_n dL_law_654 rfl rfl ?_
                                            refine q_aload_n dL_law_655 rfl rfl ?_
                                            refine q_iload_n dL_law_656 rfl rfl ?_
                                            refine q_iconst dL_law_657 rfl rfl ?_
                                            refine q_iadd dL_law_658 rfl ?_
                                            refine q_sload dL_law_659 rfl g_172 ?_
                                            refine q_aload_n dL_law_660 rfl rfl ?_
                                            refine q_iload_n dL_law_661 rfl rfl ?_
                                            refine q_iconst dL_law_662 rfl rfl ?_
                                            refine q_iadd dL_law_663 rfl ?_
                                            refine q_sload dL_law_664 rfl g_173 ?_
                                            obtain ⟨r_177, h_178, e_179, hf⟩ := bd_ex hf
                                            refine g_Vi (vs := [(0, (X.2 (w32 (i_2 + 1)).toNat).toInt), (0, (X.2 (w32 (i_2 + 2)).toNat).toInt)]) (st := [(0, r_174)]) dL_law_665 rfl (S_X8_ill X ((X.2 (w32 (i_2 + 1)).toNat).toInt) ((X.2 (w32 (i_2 + 2)).toNat).toInt) h_175) e_179 mf_X8_ill ml_L_94 rfl rfl rfl rfl ?_
                                            refine q_icmp_eq (tgt := 1013) dL_law_668 rfl (by decide) (fun c_180 => ?_) (fun c_180 => ?_)
                                            · replace hf := it_f hf (by omega)
                                              exact J_K_5 _ hf
                                            · replace hf := it_t hf (by omega)
                                              refine q_iconst dL_law_671 rfl rfl ?_
                                              exact g_breturn dL_law_672 rfl (Or.inl rfl) hf
                                          · replace hf := it_f hf c_171
                                            by_cases c_181 : sw_4 = 19
                                            · replace hf := it_t hf c_181
                                              refine g_tsw (c := 19) (off := 641) (tgt := 673) dL_law_32 c_181 (by decide) rfl (by decide) ?_
                                              refine q_aload_n dL_law_673 rfl rfl ?_
                                              refine q_aload_n dL_law_674 rfl rfl ?_
                                              refine q_iload_n dL_law_675 rfl rfl ?_
                                              refine q_iconst dL_law_676 rfl rfl ?_
                                              refine q_iadd dL_law_677 rfl ?_
                                              obtain ⟨g_182, hf⟩ := gd_ex hf
                                              refine q_sload dL_law_678 rfl g_182 ?_
                                              obtain ⟨r_183, h_184, e_185, hf⟩ := bd_ex hf
                                              refine g_Vi (vs := [(0, (X.2 (w32 (i_2 + 1)).toNat).toInt)]) (st := []) dL_law_679 rfl (S_X7_halves X ((X.2 (w32 (i_2 + 1)).toNat).toInt) h_1) e_185 mf_X7_halves ml_L_95 rfl rfl rfl rfl ?_
                                              refine q_aload_n dL_law_682 rfl rfl ?_
                                              refine q_aload_n dL_law_683 rfl rfl ?_
                                              refine q_iload_n dL_law_684 rfl rfl ?_
                                              refine q_iconst dL_law_685 rfl rfl ?_
                                              refine q_iadd dL_law_686 rfl ?_
                                              refine q_sload dL_law_687 rfl g_182 ?_
                                              obtain ⟨r_186, h_187, e_188, hf⟩ := bd_ex hf
                                              refine g_Vi (vs := [(0, (X.2 (w32 (i_2 + 1)).toNat).toInt)]) (st := [(0, r_183)]) dL_law_688 rfl (S_X8_halves X ((X.2 (w32 (i_2 + 1)).toNat).toInt) h_184) e_188 mf_X8_halves ml_L_98 rfl rfl rfl rfl ?_
                                              refine q_icmp_eq (tgt := 1013) dL_law_691 rfl (by decide) (fun c_189 => ?_) (fun c_189 => ?_)
                                              · replace hf := it_f hf (by omega)
                                                exact J_K_5 _ hf
                                              · replace hf := it_t hf (by omega)
                                                refine q_iconst dL_law_694 rfl rfl ?_
                                                exact g_breturn dL_law_695 rfl (Or.inl rfl) hf
                                            · replace hf := it_f hf c_181
                                              by_cases c_190 : sw_4 = 20
                                              · replace hf := it_t hf c_190
                                                refine g_tsw (c := 20) (off := 664) (tgt := 696) dL_law_32 c_190 (by decide) rfl (by decide) ?_
                                                refine q_aload_n dL_law_696 rfl rfl ?_
                                                refine q_aload_n dL_law_697 rfl rfl ?_
                                                refine q_iload_n dL_law_698 rfl rfl ?_
                                                refine q_iconst dL_law_699 rfl rfl ?_
                                                refine q_iadd dL_law_700 rfl ?_
                                                obtain ⟨g_191, hf⟩ := gd_ex hf
                                                refine q_sload dL_law_701 rfl g_191 ?_
                                                refine q_aload_n dL_law_702 rfl rfl ?_
                                                refine q_iload_n dL_law_703 rfl rfl ?_
                                                refine q_iconst dL_law_704 rfl rfl ?_
                                                refine q_iadd dL_law_705 rfl ?_
                                                obtain ⟨g_192, hf⟩ := gd_ex hf
                                                refine q_sload dL_law_706 rfl g_192 ?_
                                                refine q_aload_n dL_law_707 rfl rfl ?_
                                                refine q_iload_n dL_law_708 rfl rfl ?_
                                                refine q_iconst dL_law_709 rfl rfl ?_
                                                refine q_iadd dL_law_710 rfl ?_
                                                obtain ⟨g_193, hf⟩ := gd_ex hf
                                                refine q_sload dL_law_711 rfl g_193 ?_
                                                refine q_aload_n dL_law_712 rfl rfl ?_
                                                refine q_iload_n dL_law_713 rfl rfl ?_
                                                refine q_iconst dL_law_714 rfl rfl ?_
                                                refine q_iadd dL_law_715 rfl ?_
                                                obtain ⟨g_194, hf⟩ := gd_ex hf
                                                refine q_sload dL_law_716 rfl g_194 ?_
                                                obtain ⟨r_195, h_196, e_197, hf⟩ := bd_ex hf
                                                refine g_Vi (vs := [(0, (X.2 (w32 (i_2 + 1)).toNat).toInt), (0, (X.2 (w32 (i_2 + 2)).toNat).toInt), (0, (X.2 (w32 (i_2 + 3)).toNat).toInt), (0, (X.2 (w32 (i_2 + 4)).toNat).toInt)]) (st := []) dL_law_717 rfl (S_X7_tryout X ((X.2 (w32 (i_2 + 1)).toNat).toInt) ((X.2 (w32 (i_2 + 2)).toNat).toInt) ((X.2 (w32 (i_2 + 3)).toNat).toInt) ((X.2 (w32 (i_2 + 4)).toNat).toInt) h_1) e_197 mf_X7_tryout ml_L_99 rfl rfl rfl rfl ?_
                                                refine q_aload_n dL_law_720 rfl rfl ?_
                                                refine q_aload_n dL_law_721 rfl rfl ?_
                                                refine q_iload_n dL_law_722 rfl rfl ?_
                                                refine q_iconst dL_law_723 rfl rfl ?_
                                                refine q_iadd dL_law_724 rfl ?_
                                                refine q_sload dL_law_725 rfl g_191 ?_
                                                refine q_aload_n dL_law_726 rfl rfl ?_
                                                refine q_iload_n dL_law_727 rfl rfl ?_
                                                refine q_iconst dL_law_728 rfl rfl ?_
                                                refine q_iadd dL_law_729 rfl ?_
                                                refine q_sload dL_law_730 rfl g_192 ?_
                                                refine q_aload_n dL_law_731 rfl rfl ?_
                                                refine q_iload_n dL_law_732 rfl rfl ?_
                                                refine q_iconst dL_law_733 rfl rfl ?_
                                                refine q_iadd dL_law_734 rfl ?_
                                                refine q_sload dL_law_735 rfl g_193 ?_
                                                refine q_aload_n dL_law_736 rfl rfl ?_
                                                refine q_iload_n dL_law_737 rfl rfl ?_
                                                refine q_iconst dL_law_738 rfl rfl ?_
                                                refine q_iadd dL_law_739 rfl ?_
                                                refine q_sload dL_law_740 rfl g_194 ?_
                                                obtain ⟨r_198, h_199, e_200, hf⟩ := bd_ex hf
                                                refine g_Vi (vs := [(0, (X.2 (w32 (i_2 + 1)).toNat).toInt), (0, (X.2 (w32 (i_2 + 2)).toNat).toInt), (0, (X.2 (w32 (i_2 + 3)).toNat).toInt), (0, (X.2 (w32 (i_2 + 4)).toNat).toInt)]) (st := [(0, r_195)]) dL_law_741 rfl (S_X8_tryout X ((X.2 (w32 (i_2 + 1)).toNat).toInt) ((X.2 (w32 (i_2 + 2)).toNat).toInt) ((X.2 (w32 (i_2 + 3)).toNat).toInt) ((X.2 (w32 (i_2 + 4)).toNat).toInt) h_196) e_200 mf_X8_tryout ml_L_103 rfl rfl rfl rfl ?_
                                                refine q_icmp_eq (tgt := 1013) dL_law_744 rfl (by decide) (fun c_201 => ?_) (fun c_201 => ?_)
                                                · replace hf := it_f hf (by omega)
                                                  exact J_K_5 _ hf
                                                · replace hf := it_t hf (by omega)
                                                  refine q_iconst dL_law_747 rfl rfl ?_
                                                  exact g_breturn dL_law_748 rfl (Or.inl rfl) hf
                                              · replace hf := it_f hf c_190
                                                by_cases c_202 : sw_4 = 21
                                                · replace hf := it_t hf c_202
                                                  refine g_tsw (c := 21) (off := 717) (tgt := 749) dL_law_32 c_202 (by decide) rfl (by decide) ?_
                                                  refine q_aload_n dL_law_749 rfl rfl ?_
                                                  refine q_aload_n dL_law_750 rfl rfl ?_
                                                  refine q_iload_n dL_law_751 rfl rfl ?_
                                                  refine q_iconst dL_law_752 rfl rfl ?_
                                                  refine q_iadd dL_law_753 rfl ?_
                                                  obtain ⟨g_203, hf⟩ := gd_ex hf
                                                  refine q_sload dL_law_754 rfl g_203 ?_
                                                  refine q_aload_n dL_law_755 rfl rfl ?_
                                                  refine q_iload_n dL_law_756 rfl rfl ?_
                                                  refine q_iconst dL_law_757 rfl rfl ?_
                                                  refine q_iadd dL_law_758 rfl ?_
                                                  obtain ⟨g_204, hf⟩ := gd_ex hf
                                                  refine q_sload dL_law_759 rfl g_204 ?_
                                                  refine q_aload_n dL_law_760 rfl rfl ?_
                                                  refine q_iload_n dL_law_761 rfl rfl ?_
                                                  refine q_iconst dL_law_762 rfl rfl ?_
                                                  refine q_iadd dL_law_763 rfl ?_
                                                  obtain ⟨g_205, hf⟩ := gd_ex hf
                                                  refine q_sload dL_law_764 rfl g_205 ?_
                                                  obtain ⟨r_206, h_207, e_208, hf⟩ := bd_ex hf
                                                  refine g_Vi (vs := [(0, (X.2 (w32 (i_2 + 1)).toNat).toInt), (0, (X.2 (w32 (i_2 + 2)).toNat).toInt), (0, (X.2 (w32 (i_2 + 3)).toNat).toInt)]) (st := []) dL_law_765 rfl (S_X7_mark X ((X.2 (w32 (i_2 + 1)).toNat).toInt) ((X.2 (w32 (i_2 + 2)).toNat).toInt) ((X.2 (w32 (i_2 + 3)).toNat).toInt) h_1) e_208 mf_X7_mark ml_L_104 rfl rfl rfl rfl ?_
                                                  refine q_aload_n dL_law_768 rfl rfl ?_
                                                  refine q_aload_n dL_law_769 rfl rfl ?_
                                                  refine q_iload_n dL_law_770 rfl rfl ?_
                                                  refine q_iconst dL_law_771 rfl rfl ?_
                                                  refine q_iadd dL_law_772 rfl ?_
                                                  refine q_sload dL_law_773 rfl g_203 ?_
                                                  refine q_aload_n dL_law_774 rfl rfl ?_
                                                  refine q_iload_n dL_law_775 rfl rfl ?_
                                                  refine q_iconst dL_law_776 rfl rfl ?_
                                                  refine q_iadd dL_law_777 rfl ?_
                                                  refine q_sload dL_law_778 rfl g_204 ?_
                                                  refine q_aload_n dL_law_779 rfl rfl ?_
                                                  refine q_iload_n dL_law_780 rfl rfl ?_
                                                  refine q_iconst dL_law_781 rfl rfl ?_
                                                  refine q_iadd dL_law_782 rfl ?_
                                                  refine q_sload dL_law_783 rfl g_205 ?_
                                                  obtain ⟨r_209, h_210, e_211, hf⟩ := bd_ex hf
                                                  refine g_Vi (vs := [(0, (X.2 (w32 (i_2 + 1)).toNat).toInt), (0, (X.2 (w32 (i_2 + 2)).toNat).toInt), (0, (X.2 (w32 (i_2 + 3)).toNat).toInt)]) (st := [(0, r_206)]) dL_law_784 rfl (S_X8_mark X ((X.2 (w32 (i_2 + 1)).toNat).toInt) ((X.2 (w32 (i_2 + 2)).toNat).toInt) ((X.2 (w32 (i_2 + 3)).toNat).toInt) h_207) e_211 mf_X8_mark ml_L_108 rfl rfl rfl rfl ?_
                                                  refine q_icmp_eq (tgt := 1013) dL_law_787 rfl (by decide) (fun c_212 => ?_) (fun c_212 => ?_)
                                                  · replace hf := it_f hf (by omega)
                                                    exact J_K_5 _ hf
                                                  · replace hf := it_t hf (by omega)
                                                    refine q_iconst dL_law_790 rfl rfl ?_
                                                    exact g_breturn dL_law_791 rfl (Or.inl rfl) hf
                                                · replace hf := it_f hf c_202
                                                  by_cases c_213 : sw_4 = 22
                                                  · replace hf := it_t hf c_213
                                                    refine g_tsw (c := 22) (off := 760) (tgt := 792) dL_law_32 c_213 (by decide) rfl (by decide) ?_
                                                    refine q_aload_n dL_law_792 rfl rfl ?_
                                                    refine q_aload_n dL_law_793 rfl rfl ?_
                                                    refine q_iload_n dL_law_794 rfl rfl ?_
                                                    refine q_iconst dL_law_795 rfl rfl ?_
                                                    refine q_iadd dL_law_796 rfl ?_
                                                    obtain ⟨g_214, hf⟩ := gd_ex hf
                                                    refine q_sload dL_law_797 rfl g_214 ?_
                                                    refine q_aload_n dL_law_798 rfl rfl ?_
                                                    refine q_iload_n dL_law_799 rfl rfl ?_
                                                    refine q_iconst dL_law_800 rfl rfl ?_
                                                    refine q_iadd dL_law_801 rfl ?_
                                                    obtain ⟨g_215, hf⟩ := gd_ex hf
                                                    refine q_sload dL_law_802 rfl g_215 ?_
                                                    obtain ⟨r_216, h_217, e_218, hf⟩ := bd_ex hf
                                                    refine g_Vi (vs := [(0, (X.2 (w32 (i_2 + 1)).toNat).toInt), (0, (X.2 (w32 (i_2 + 2)).toNat).toInt)]) (st := []) dL_law_803 rfl (S_X7_parted X ((X.2 (w32 (i_2 + 1)).toNat).toInt) ((X.2 (w32 (i_2 + 2)).toNat).toInt) h_1) e_218 mf_X7_parted ml_L_109 rfl rfl rfl rfl ?_
                                                    refine q_aload_n dL_law_806 rfl rfl ?_
                                                    refine q_aload_n dL_law_807 rfl rfl ?_
                                                    refine q_iload_n dL_law_808 rfl rfl ?_
                                                    refine q_iconst dL_law_809 rfl rfl ?_
                                                    refine q_iadd dL_law_810 rfl ?_
                                                    refine q_sload dL_law_811 rfl g_214 ?_
                                                    refine q_aload_n dL_law_812 rfl rfl ?_
                                                    refine q_iload_n dL_law_813 rfl rfl ?_
                                                    refine q_iconst dL_law_814 rfl rfl ?_
                                                    refine q_iadd dL_law_815 rfl ?_
                                                    refine q_sload dL_law_816 rfl g_215 ?_
                                                    obtain ⟨r_219, h_220, e_221, hf⟩ := bd_ex hf
                                                    refine g_Vi (vs := [(0, (X.2 (w32 (i_2 + 1)).toNat).toInt), (0, (X.2 (w32 (i_2 + 2)).toNat).toInt)]) (st := [(0, r_216)]) dL_law_817 rfl (S_X8_parted X ((X.2 (w32 (i_2 + 1)).toNat).toInt) ((X.2 (w32 (i_2 + 2)).toNat).toInt) h_217) e_221 mf_X8_parted ml_L_112 rfl rfl rfl rfl ?_
                                                    refine q_icmp_eq (tgt := 1013) dL_law_820 rfl (by decide) (fun c_222 => ?_) (fun c_222 => ?_)
                                                    · replace hf := it_f hf (by omega)
                                                      exact J_K_5 _ hf
                                                    · replace hf := it_t hf (by omega)
                                                      refine q_iconst dL_law_823 rfl rfl ?_
                                                      exact g_breturn dL_law_824 rfl (Or.inl rfl) hf
                                                  · replace hf := it_f hf c_213
                                                    by_cases c_223 : sw_4 = 23
                                                    · replace hf := it_t hf c_223
                                                      refine g_tsw (c := 23) (off := 793) (tgt := 825) dL_law_32 c_223 (by decide) rfl (by decide) ?_
                                                      refine q_aload_n dL_law_825 rfl rfl ?_
                                                      obtain ⟨r_224, h_225, e_226, hf⟩ := bd_ex hf
                                                      refine g_Vi (vs := []) (st := []) dL_law_826 rfl (S_X7_opener X  h_1) e_226 mf_X7_opener ml_L_113 rfl rfl rfl rfl ?_
                                                      refine q_aload_n dL_law_829 rfl rfl ?_
                                                      obtain ⟨r_227, h_228, e_229, hf⟩ := bd_ex hf
                                                      refine g_Vi (vs := []) (st := [(0, r_224)]) dL_law_830 rfl (S_X8_opener X  h_225) e_229 mf_X8_opener ml_L_116 rfl rfl rfl rfl ?_
                                                      refine q_icmp_eq (tgt := 1013) dL_law_833 rfl (by decide) (fun c_230 => ?_) (fun c_230 => ?_)
                                                      · replace hf := it_f hf (by omega)
                                                        exact J_K_5 _ hf
                                                      · replace hf := it_t hf (by omega)
                                                        refine q_iconst dL_law_836 rfl rfl ?_
                                                        exact g_breturn dL_law_837 rfl (Or.inl rfl) hf
                                                    · replace hf := it_f hf c_223
                                                      by_cases c_231 : sw_4 = 24
                                                      · replace hf := it_t hf c_231
                                                        refine g_tsw (c := 24) (off := 806) (tgt := 838) dL_law_32 c_231 (by decide) rfl (by decide) ?_
                                                        refine q_aload_n dL_law_838 rfl rfl ?_
                                                        refine q_aload_n dL_law_839 rfl rfl ?_
                                                        refine q_iload_n dL_law_840 rfl rfl ?_
                                                        refine q_iconst dL_law_841 rfl rfl ?_
                                                        refine q_iadd dL_law_842 rfl ?_
                                                        obtain ⟨g_232, hf⟩ := gd_ex hf
                                                        refine q_sload dL_law_843 rfl g_232 ?_
                                                        obtain ⟨r_233, h_234, e_235, hf⟩ := bd_ex hf
                                                        refine g_Vi (vs := [(0, (X.2 (w32 (i_2 + 1)).toNat).toInt)]) (st := []) dL_law_844 rfl (S_X7_hold X ((X.2 (w32 (i_2 + 1)).toNat).toInt) h_1) e_235 mf_X7_hold ml_L_117 rfl rfl rfl rfl ?_
                                                        refine q_aload_n dL_law_847 rfl rfl ?_
                                                        refine q_aload_n dL_law_848 rfl rfl ?_
                                                        refine q_iload_n dL_law_849 rfl rfl ?_
                                                        refine q_iconst dL_law_850 rfl rfl ?_
                                                        refine q_iadd dL_law_851 rfl ?_
                                                        refine q_sload dL_law_852 rfl g_232 ?_
                                                        obtain ⟨r_236, h_237, e_238, hf⟩ := bd_ex hf
                                                        refine g_Vi (vs := [(0, (X.2 (w32 (i_2 + 1)).toNat).toInt)]) (st := [(0, r_233)]) dL_law_853 rfl (S_X8_hold X ((X.2 (w32 (i_2 + 1)).toNat).toInt) h_234) e_238 mf_X8_hold ml_L_120 rfl rfl rfl rfl ?_
                                                        refine q_icmp_eq (tgt := 1013) dL_law_856 rfl (by decide) (fun c_239 => ?_) (fun c_239 => ?_)
                                                        · replace hf := it_f hf (by omega)
                                                          exact J_K_5 _ hf
                                                        · replace hf := it_t hf (by omega)
                                                          refine q_iconst dL_law_859 rfl rfl ?_
                                                          exact g_breturn dL_law_860 rfl (Or.inl rfl) hf
                                                      · replace hf := it_f hf c_231
                                                        by_cases c_240 : sw_4 = 25
                                                        · replace hf := it_t hf c_240
                                                          refine g_tsw (c := 25) (off := 829) (tgt := 861) dL_law_32 c_240 (by decide) rfl (by decide) ?_
                                                          refine q_aload_n dL_law_861 rfl rfl ?_
                                                          obtain ⟨r_241, h_242, e_243, hf⟩ := bd_ex hf
                                                          refine g_Vi (vs := []) (st := []) dL_law_862 rfl (S_X7_drawn X  h_1) e_243 mf_X7_drawn ml_L_121 rfl rfl rfl rfl ?_
                                                          refine q_aload_n dL_law_865 rfl rfl ?_
                                                          obtain ⟨r_244, h_245, e_246, hf⟩ := bd_ex hf
                                                          refine g_Vi (vs := []) (st := [(0, r_241)]) dL_law_866 rfl (S_X8_drawn X  h_242) e_246 mf_X8_drawn ml_L_124 rfl rfl rfl rfl ?_
                                                          refine q_icmp_eq (tgt := 1013) dL_law_869 rfl (by decide) (fun c_247 => ?_) (fun c_247 => ?_)
                                                          · replace hf := it_f hf (by omega)
                                                            exact J_K_5 _ hf
                                                          · replace hf := it_t hf (by omega)
                                                            refine q_iconst dL_law_872 rfl rfl ?_
                                                            exact g_breturn dL_law_873 rfl (Or.inl rfl) hf
                                                        · replace hf := it_f hf c_240
                                                          by_cases c_248 : sw_4 = 26
                                                          · replace hf := it_t hf c_248
                                                            refine g_tsw (c := 26) (off := 842) (tgt := 874) dL_law_32 c_248 (by decide) rfl (by decide) ?_
                                                            refine q_aload_n dL_law_874 rfl rfl ?_
                                                            refine q_aload_n dL_law_875 rfl rfl ?_
                                                            refine q_iload_n dL_law_876 rfl rfl ?_
                                                            refine q_iconst dL_law_877 rfl rfl ?_
                                                            refine q_iadd dL_law_878 rfl ?_
                                                            obtain ⟨g_249, hf⟩ := gd_ex hf
                                                            refine q_sload dL_law_879 rfl g_249 ?_
                                                            obtain ⟨r_250, h_251, e_252, hf⟩ := bd_ex hf
                                                            refine g_Vi (vs := [(0, (X.2 (w32 (i_2 + 1)).toNat).toInt)]) (st := []) dL_law_880 rfl (S_X7_lot X ((X.2 (w32 (i_2 + 1)).toNat).toInt) h_1) e_252 mf_X7_lot ml_L_125 rfl rfl rfl rfl ?_
                                                            refine q_aload_n dL_law_883 rfl rfl ?_
                                                            refine q_aload_n dL_law_884 rfl rfl ?_
                                                            refine q_iload_n dL_law_885 rfl rfl ?_
                                                            refine q_iconst dL_law_886 rfl rfl ?_
                                                            refine q_iadd dL_law_887 rfl ?_
                                                            refine q_sload dL_law_888 rfl g_249 ?_
                                                            obtain ⟨r_253, h_254, e_255, hf⟩ := bd_ex hf
                                                            refine g_Vi (vs := [(0, (X.2 (w32 (i_2 + 1)).toNat).toInt)]) (st := [(0, r_250)]) dL_law_889 rfl (S_X8_lot X ((X.2 (w32 (i_2 + 1)).toNat).toInt) h_251) e_255 mf_X8_lot ml_L_128 rfl rfl rfl rfl ?_
                                                            refine q_icmp_eq (tgt := 1013) dL_law_892 rfl (by decide) (fun c_256 => ?_) (fun c_256 => ?_)
                                                            · replace hf := it_f hf (by omega)
                                                              exact J_K_5 _ hf
                                                            · replace hf := it_t hf (by omega)
                                                              refine q_iconst dL_law_895 rfl rfl ?_
                                                              exact g_breturn dL_law_896 rfl (Or.inl rfl) hf
                                                          · replace hf := it_f hf c_248
                                                            by_cases c_257 : sw_4 = 27
                                                            · replace hf := it_t hf c_257
                                                              refine g_tsw (c := 27) (off := 865) (tgt := 897) dL_law_32 c_257 (by decide) rfl (by decide) ?_
                                                              refine q_aload_n dL_law_897 rfl rfl ?_
                                                              refine q_aload_n dL_law_898 rfl rfl ?_
                                                              refine q_iload_n dL_law_899 rfl rfl ?_
                                                              refine q_iconst dL_law_900 rfl rfl ?_
                                                              refine q_iadd dL_law_901 rfl ?_
                                                              obtain ⟨g_258, hf⟩ := gd_ex hf
                                                              refine q_sload dL_law_902 rfl g_258 ?_
                                                              refine q_aload_n dL_law_903 rfl rfl ?_
                                                              refine q_iload_n dL_law_904 rfl rfl ?_
                                                              refine q_iconst dL_law_905 rfl rfl ?_
                                                              refine q_iadd dL_law_906 rfl ?_
                                                              obtain ⟨g_259, hf⟩ := gd_ex hf
                                                              refine q_sload dL_law_907 rfl g_259 ?_
                                                              obtain ⟨r_260, h_261, e_262, hf⟩ := bd_ex hf
                                                              refine g_Vi (vs := [(0, (X.2 (w32 (i_2 + 1)).toNat).toInt), (0, (X.2 (w32 (i_2 + 2)).toNat).toInt)]) (st := []) dL_law_908 rfl (S_X7_rate X ((X.2 (w32 (i_2 + 1)).toNat).toInt) ((X.2 (w32 (i_2 + 2)).toNat).toInt) h_1) e_262 mf_X7_rate ml_L_129 rfl rfl rfl rfl ?_
                                                              refine q_aload_n dL_law_911 rfl rfl ?_
                                                              refine q_aload_n dL_law_912 rfl rfl ?_
                                                              refine q_iload_n dL_law_913 rfl rfl ?_
                                                              refine q_iconst dL_law_914 rfl rfl ?_
                                                              refine q_iadd dL_law_915 rfl ?_
                                                              refine q_sload dL_law_916 rfl g_258 ?_
                                                              refine q_aload_n dL_law_917 rfl rfl ?_
                                                              refine q_iload_n dL_law_918 rfl rfl ?_
                                                              refine q_iconst dL_law_919 rfl rfl ?_
                                                              refine q_iadd dL_law_920 rfl ?_
                                                              refine q_sload dL_law_921 rfl g_259 ?_
                                                              obtain ⟨r_263, h_264, e_265, hf⟩ := bd_ex hf
                                                              refine g_Vi (vs := [(0, (X.2 (w32 (i_2 + 1)).toNat).toInt), (0, (X.2 (w32 (i_2 + 2)).toNat).toInt)]) (st := [(0, r_260)]) dL_law_922 rfl (S_X8_rate X ((X.2 (w32 (i_2 + 1)).toNat).toInt) ((X.2 (w32 (i_2 + 2)).toNat).toInt) h_261) e_265 mf_X8_rate ml_L_132 rfl rfl rfl rfl ?_
                                                              refine q_icmp_eq (tgt := 1013) dL_law_925 rfl (by decide) (fun c_266 => ?_) (fun c_266 => ?_)
                                                              · replace hf := it_f hf (by omega)
                                                                exact J_K_5 _ hf
                                                              · replace hf := it_t hf (by omega)
                                                                refine q_iconst dL_law_928 rfl rfl ?_
                                                                exact g_breturn dL_law_929 rfl (Or.inl rfl) hf
                                                            · replace hf := it_f hf c_257
                                                              by_cases c_267 : sw_4 = 28
                                                              · replace hf := it_t hf c_267
                                                                refine g_tsw (c := 28) (off := 898) (tgt := 930) dL_law_32 c_267 (by decide) rfl (by decide) ?_
                                                                refine q_aload_n dL_law_930 rfl rfl ?_
                                                                refine q_aload_n dL_law_931 rfl rfl ?_
                                                                refine q_iload_n dL_law_932 rfl rfl ?_
                                                                refine q_iconst dL_law_933 rfl rfl ?_
                                                                refine q_iadd dL_law_934 rfl ?_
                                                                obtain ⟨g_268, hf⟩ := gd_ex hf
                                                                refine q_sload dL_law_935 rfl g_268 ?_
                                                                obtain ⟨r_269, h_270, e_271, hf⟩ := bd_ex hf
                                                                refine g_Vi (vs := [(0, (X.2 (w32 (i_2 + 1)).toNat).toInt)]) (st := []) dL_law_936 rfl (S_X7_keep X ((X.2 (w32 (i_2 + 1)).toNat).toInt) h_1) e_271 mf_X7_keep ml_L_133 rfl rfl rfl rfl ?_
                                                                refine q_aload_n dL_law_939 rfl rfl ?_
                                                                refine q_aload_n dL_law_940 rfl rfl ?_
                                                                refine q_iload_n dL_law_941 rfl rfl ?_
                                                                refine q_iconst dL_law_942 rfl rfl ?_
                                                                refine q_iadd dL_law_943 rfl ?_
                                                                refine q_sload dL_law_944 rfl g_268 ?_
                                                                obtain ⟨r_272, h_273, e_274, hf⟩ := bd_ex hf
                                                                refine g_Vi (vs := [(0, (X.2 (w32 (i_2 + 1)).toNat).toInt)]) (st := [(0, r_269)]) dL_law_945 rfl (S_X8_keep X ((X.2 (w32 (i_2 + 1)).toNat).toInt) h_270) e_274 mf_X8_keep ml_L_136 rfl rfl rfl rfl ?_
                                                                refine q_icmp_eq (tgt := 1013) dL_law_948 rfl (by decide) (fun c_275 => ?_) (fun c_275 => ?_)
                                                                · replace hf := it_f hf (by omega)
                                                                  exact J_K_5 _ hf
                                                                · replace hf := it_t hf (by omega)
                                                                  refine q_iconst dL_law_951 rfl rfl ?_
                                                                  exact g_breturn dL_law_952 rfl (Or.inl rfl) hf
                                                              · replace hf := it_f hf c_267
                                                                by_cases c_276 : sw_4 = 29
                                                                · replace hf := it_t hf c_276
                                                                  refine g_tsw (c := 29) (off := 921) (tgt := 953) dL_law_32 c_276 (by decide) rfl (by decide) ?_
                                                                  refine q_aload_n dL_law_953 rfl rfl ?_
                                                                  refine q_aload_n dL_law_954 rfl rfl ?_
                                                                  refine q_iload_n dL_law_955 rfl rfl ?_
                                                                  refine q_iconst dL_law_956 rfl rfl ?_
                                                                  refine q_iadd dL_law_957 rfl ?_
                                                                  obtain ⟨g_277, hf⟩ := gd_ex hf
                                                                  refine q_sload dL_law_958 rfl g_277 ?_
                                                                  obtain ⟨r_278, h_279, e_280, hf⟩ := bd_ex hf
                                                                  refine g_Vi (vs := [(0, (X.2 (w32 (i_2 + 1)).toNat).toInt)]) (st := []) dL_law_959 rfl (S_X7_back X ((X.2 (w32 (i_2 + 1)).toNat).toInt) h_1) e_280 mf_X7_back ml_L_137 rfl rfl rfl rfl ?_
                                                                  refine q_aload_n dL_law_962 rfl rfl ?_
                                                                  refine q_aload_n dL_law_963 rfl rfl ?_
                                                                  refine q_iload_n dL_law_964 rfl rfl ?_
                                                                  refine q_iconst dL_law_965 rfl rfl ?_
                                                                  refine q_iadd dL_law_966 rfl ?_
                                                                  refine q_sload dL_law_967 rfl g_277 ?_
                                                                  obtain ⟨r_281, h_282, e_283, hf⟩ := bd_ex hf
                                                                  refine g_Vi (vs := [(0, (X.2 (w32 (i_2 + 1)).toNat).toInt)]) (st := [(0, r_278)]) dL_law_968 rfl (S_X8_back X ((X.2 (w32 (i_2 + 1)).toNat).toInt) h_279) e_283 mf_X8_back ml_L_140 rfl rfl rfl rfl ?_
                                                                  refine q_icmp_eq (tgt := 1013) dL_law_971 rfl (by decide) (fun c_284 => ?_) (fun c_284 => ?_)
                                                                  · replace hf := it_f hf (by omega)
                                                                    exact J_K_5 _ hf
                                                                  · replace hf := it_t hf (by omega)
                                                                    refine q_iconst dL_law_974 rfl rfl ?_
                                                                    exact g_breturn dL_law_975 rfl (Or.inl rfl) hf
                                                                · replace hf := it_f hf c_276
                                                                  by_cases c_285 : sw_4 = 30
                                                                  · replace hf := it_t hf c_285
                                                                    refine g_tsw (c := 30) (off := 944) (tgt := 976) dL_law_32 c_285 (by decide) rfl (by decide) ?_
                                                                    refine q_aload_n dL_law_976 rfl rfl ?_
                                                                    refine q_aload_n dL_law_977 rfl rfl ?_
                                                                    refine q_iload_n dL_law_978 rfl rfl ?_
                                                                    refine q_iconst dL_law_979 rfl rfl ?_
                                                                    refine q_iadd dL_law_980 rfl ?_
                                                                    obtain ⟨g_286, hf⟩ := gd_ex hf
                                                                    refine q_sload dL_law_981 rfl g_286 ?_
                                                                    obtain ⟨r_287, h_288, e_289, hf⟩ := bd_ex hf
                                                                    refine g_Vi (vs := [(0, (X.2 (w32 (i_2 + 1)).toNat).toInt)]) (st := []) dL_law_982 rfl (S_X7_count X ((X.2 (w32 (i_2 + 1)).toNat).toInt) h_1) e_289 mf_X7_count ml_L_141 rfl rfl rfl rfl ?_
                                                                    refine q_aload_n dL_law_985 rfl rfl ?_
                                                                    refine q_aload_n dL_law_986 rfl rfl ?_
                                                                    refine q_iload_n dL_law_987 rfl rfl ?_
                                                                    refine q_iconst dL_law_988 rfl rfl ?_
                                                                    refine q_iadd dL_law_989 rfl ?_
                                                                    refine q_sload dL_law_990 rfl g_286 ?_
                                                                    obtain ⟨r_290, h_291, e_292, hf⟩ := bd_ex hf
                                                                    refine g_Vi (vs := [(0, (X.2 (w32 (i_2 + 1)).toNat).toInt)]) (st := [(0, r_287)]) dL_law_991 rfl (S_X8_count X ((X.2 (w32 (i_2 + 1)).toNat).toInt) h_288) e_292 mf_X8_count ml_L_144 rfl rfl rfl rfl ?_
                                                                    refine q_icmp_eq (tgt := 1013) dL_law_994 rfl (by decide) (fun c_293 => ?_) (fun c_293 => ?_)
                                                                    · replace hf := it_f hf (by omega)
                                                                      exact J_K_5 _ hf
                                                                    · replace hf := it_t hf (by omega)
                                                                      refine q_iconst dL_law_997 rfl rfl ?_
                                                                      exact g_breturn dL_law_998 rfl (Or.inl rfl) hf
                                                                  · replace hf := it_f hf c_285
                                                                    by_cases c_294 : sw_4 = 31
                                                                    · replace hf := it_t hf c_294
                                                                      refine g_tsw (c := 31) (off := 967) (tgt := 999) dL_law_32 c_294 (by decide) rfl (by decide) ?_
                                                                      refine q_aload_n dL_law_999 rfl rfl ?_
                                                                      obtain ⟨r_295, h_296, e_297, hf⟩ := bd_ex hf
                                                                      refine g_Vl (vs := []) (st := []) dL_law_1000 rfl (S_X7_trace X  h_1) e_297 mf_X7_trace ml_L_145 rfl rfl rfl rfl ?_
                                                                      refine q_aload_n dL_law_1003 rfl rfl ?_
                                                                      obtain ⟨r_298, h_299, e_300, hf⟩ := bd_ex hf
                                                                      refine g_Vl (vs := []) (st := [(1, r_295)]) dL_law_1004 rfl (S_X8_trace X  h_296) e_300 mf_X8_trace ml_L_149 rfl rfl rfl rfl ?_
                                                                      refine q_lcmp dL_law_1007 rfl ?_
                                                                      have lc := lcmp_iff r_295 r_298
                                                                      refine q_if_eq (tgt := 1013) dL_law_1008 rfl (by decide) (fun c_301 => ?_) (fun c_301 => ?_)
                                                                      · replace hf := it_f hf (by omega)
                                                                        exact J_K_5 _ hf
                                                                      · replace hf := it_t hf (by omega)
                                                                        refine q_iconst dL_law_1011 rfl rfl ?_
                                                                        exact g_breturn dL_law_1012 rfl (Or.inl rfl) hf
                                                                    · replace hf := it_f hf c_294
                                                                      refine g_tswD (tgt := 1013) dL_law_32 (by omega) (by decide) ?_
                                                                      exact J_K_5 _ hf
theorem S_law (X : XS) (hX : X.1 < 2147483648) (h : Mem) (r : Int × Mem) (hf : F_law X h = some r) : AJ X ML_law room_1 16 [(2, (-1)), (2, 1), (2, 56), (3, 0)] [] h (PB r) := by
  unfold F_law at hf
  refine q_iconst dL_law_16 rfl rfl ?_
  refine q_istore_n (ls' := [(2, (-1)), (2, 1), (2, 56), (0, 0)]) dL_law_17 rfl rfl (Nat.le_of_ble_eq_true rfl) rfl ?_
  refine SL_L_law_1 X   _ hX (fun i_306 h_305 hf => ?_) FU _ _ hf
  refine q_iconst dL_law_1019 rfl rfl ?_
  exact g_breturn dL_law_1020 rfl (Or.inr rfl) hf
