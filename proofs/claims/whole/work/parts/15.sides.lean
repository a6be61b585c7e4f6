/-! the shape, by name -/
theorem qc_0 : cw_cR 0 = some 8 := rfl
theorem qf_0_0 : cw_fR 0 8 0 = some (some 1) := rfl
theorem qf_0_1 : cw_fR 0 8 1 = some (some 10) := rfl
theorem qf_0_2 : cw_fR 0 8 2 = some (some 30) := rfl
theorem qf_0_3 : cw_fR 0 8 3 = some (some 36) := rfl
theorem qf_0_4 : cw_fR 0 8 4 = some (some 66) := rfl
theorem qf_0_5 : cw_fR 0 8 5 = some (some 140) := rfl
theorem qf_0_6 : cw_fR 0 8 6 = some none := rfl
theorem qf_0_7 : cw_fR 0 8 7 = some none := rfl
theorem qf_0_8 : cw_fR 0 8 8 = some none := rfl
theorem qc_1 : cw_cR 1 = some 6 := rfl
theorem qf_1_0 : cw_fR 1 6 0 = some (some 2) := rfl
theorem qf_1_1 : cw_fR 1 6 1 = some (some 3) := rfl
theorem qf_1_2 : cw_fR 1 6 2 = some (some 4) := rfl
theorem qf_1_3 : cw_fR 1 6 3 = some (some 5) := rfl
theorem qf_1_4 : cw_fR 1 6 4 = some (some 6) := rfl
theorem qf_1_5 : cw_fR 1 6 5 = some (some 7) := rfl
theorem qf_1_6 : cw_fR 1 6 6 = some (some 8) := rfl
theorem qf_1_7 : cw_fR 1 6 7 = some (some 9) := rfl
theorem qf_1_8 : cw_fR 1 6 8 = some none := rfl
theorem qf_1_9 : cw_fR 1 6 9 = some none := rfl
theorem qf_1_10 : cw_fR 1 6 10 = some none := rfl
theorem qf_1_11 : cw_fR 1 6 11 = some none := rfl
theorem qc_10 : cw_cR 10 = some 7 := rfl
theorem qf_10_0 : cw_fR 10 7 0 = some (some 11) := rfl
theorem qf_10_1 : cw_fR 10 7 1 = some (some 12) := rfl
theorem qf_10_2 : cw_fR 10 7 2 = some (some 13) := rfl
theorem qf_10_3 : cw_fR 10 7 3 = some (some 14) := rfl
theorem qf_10_4 : cw_fR 10 7 4 = some none := rfl
theorem qf_10_5 : cw_fR 10 7 5 = some none := rfl
theorem qf_10_6 : cw_fR 10 7 6 = some none := rfl
theorem qc_30 : cw_cR 30 = some 3 := rfl
theorem qf_30_0 : cw_fR 30 3 0 = some (some 31) := rfl
theorem qf_30_1 : cw_fR 30 3 1 = some (some 32) := rfl
theorem qf_30_2 : cw_fR 30 3 2 = some (some 33) := rfl
theorem qf_30_3 : cw_fR 30 3 3 = some (some 34) := rfl
theorem qf_30_4 : cw_fR 30 3 4 = some (some 35) := rfl
theorem qf_30_5 : cw_fR 30 3 5 = some none := rfl
theorem qf_30_6 : cw_fR 30 3 6 = some none := rfl
theorem qf_30_7 : cw_fR 30 3 7 = some none := rfl
theorem qf_30_8 : cw_fR 30 3 8 = some none := rfl
theorem qf_30_9 : cw_fR 30 3 9 = some none := rfl
theorem qc_36 : cw_cR 36 = some 4 := rfl
theorem qf_36_0 : cw_fR 36 4 0 = some (some 37) := rfl
theorem qf_36_1 : cw_fR 36 4 1 = some (some 46) := rfl
theorem qf_36_2 : cw_fR 36 4 2 = some none := rfl
theorem qf_36_3 : cw_fR 36 4 3 = some none := rfl
theorem qf_36_4 : cw_fR 36 4 4 = some none := rfl
theorem qc_37 : cw_cR 37 = some 6 := rfl
theorem qf_37_0 : cw_fR 37 6 0 = some (some 38) := rfl
theorem qf_37_1 : cw_fR 37 6 1 = some (some 39) := rfl
theorem qf_37_2 : cw_fR 37 6 2 = some (some 40) := rfl
theorem qf_37_3 : cw_fR 37 6 3 = some (some 41) := rfl
theorem qf_37_4 : cw_fR 37 6 4 = some (some 42) := rfl
theorem qf_37_5 : cw_fR 37 6 5 = some (some 43) := rfl
theorem qf_37_6 : cw_fR 37 6 6 = some (some 44) := rfl
theorem qf_37_7 : cw_fR 37 6 7 = some (some 45) := rfl
theorem qf_37_8 : cw_fR 37 6 8 = some none := rfl
theorem qf_37_9 : cw_fR 37 6 9 = some none := rfl
theorem qf_37_10 : cw_fR 37 6 10 = some none := rfl
theorem qf_37_11 : cw_fR 37 6 11 = some none := rfl
theorem qc_46 : cw_cR 46 = some 7 := rfl
theorem qf_46_0 : cw_fR 46 7 0 = some (some 47) := rfl
theorem qf_46_1 : cw_fR 46 7 1 = some (some 48) := rfl
theorem qf_46_2 : cw_fR 46 7 2 = some (some 49) := rfl
theorem qf_46_3 : cw_fR 46 7 3 = some (some 50) := rfl
theorem qf_46_4 : cw_fR 46 7 4 = some none := rfl
theorem qf_46_5 : cw_fR 46 7 5 = some none := rfl
theorem qf_46_6 : cw_fR 46 7 6 = some none := rfl
theorem qc_66 : cw_cR 66 = some 0 := rfl
theorem qf_66_0 : cw_fR 66 0 0 = some (some 67) := rfl
theorem qf_66_1 : cw_fR 66 0 1 = some none := rfl
theorem qf_66_2 : cw_fR 66 0 2 = some none := rfl
theorem qc_140 : cw_cR 140 = some 5 := rfl
theorem qf_140_0 : cw_fR 140 5 0 = some (some 141) := rfl
theorem qf_140_1 : cw_fR 140 5 1 = some (some 142) := rfl
theorem qf_140_2 : cw_fR 140 5 2 = some (some 143) := rfl
theorem qf_140_3 : cw_fR 140 5 3 = some (some 144) := rfl
theorem qf_140_4 : cw_fR 140 5 4 = some (some 145) := rfl
theorem qf_140_5 : cw_fR 140 5 5 = some none := rfl
theorem qf_140_6 : cw_fR 140 5 6 = some none := rfl
theorem qf_140_7 : cw_fR 140 5 7 = some none := rfl
theorem qf_140_8 : cw_fR 140 5 8 = some none := rfl
theorem qc_146 : cw_cR 146 = some 9 := rfl
theorem qf_146_0 : cw_fR 146 9 0 = some (some 147) := rfl
theorem qf_146_1 : cw_fR 146 9 1 = some none := rfl
theorem qf_146_2 : cw_fR 146 9 2 = some (some 148) := rfl
theorem qf_146_3 : cw_fR 146 9 3 = some none := rfl
theorem qf_146_4 : cw_fR 146 9 4 = some none := rfl
theorem qf_146_5 : cw_fR 146 9 5 = some none := rfl
theorem qf_146_6 : cw_fR 146 9 6 = some none := rfl
theorem qf_146_7 : cw_fR 146 9 7 = some (some 149) := rfl
theorem qf_146_8 : cw_fR 146 9 8 = some (some 150) := rfl
theorem qf_146_9 : cw_fR 146 9 9 = some (some 151) := rfl
theorem qf_146_10 : cw_fR 146 9 10 = some (some 152) := rfl
theorem qf_146_11 : cw_fR 146 9 11 = some (some 153) := rfl
theorem qf_146_12 : cw_fR 146 9 12 = some (some 154) := rfl
theorem qf_146_13 : cw_fR 146 9 13 = some none := rfl
theorem qf_146_14 : cw_fR 146 9 14 = some (some 155) := rfl
theorem qf_146_15 : cw_fR 146 9 15 = some (some 156) := rfl
theorem qf_146_16 : cw_fR 146 9 16 = some (some 157) := rfl
theorem qf_146_17 : cw_fR 146 9 17 = some (some 158) := rfl
theorem qf_146_18 : cw_fR 146 9 18 = some (some 159) := rfl
theorem qf_146_19 : cw_fR 146 9 19 = some (some 160) := rfl
theorem qf_146_20 : cw_fR 146 9 20 = some (some 161) := rfl
theorem qf_146_21 : cw_fR 146 9 21 = some (some 162) := rfl
theorem qf_146_22 : cw_fR 146 9 22 = some (some 163) := rfl
theorem qf_146_23 : cw_fR 146 9 23 = some (some 164) := rfl
theorem qf_146_24 : cw_fR 146 9 24 = some (some 165) := rfl
theorem qf_146_25 : cw_fR 146 9 25 = some none := rfl
theorem qf_146_26 : cw_fR 146 9 26 = some none := rfl
theorem qf_146_27 : cw_fR 146 9 27 = some none := rfl
theorem qf_146_28 : cw_fR 146 9 28 = some none := rfl
theorem qf_146_29 : cw_fR 146 9 29 = some (some 166) := rfl
theorem qf_146_30 : cw_fR 146 9 30 = some (some 167) := rfl
theorem qf_146_31 : cw_fR 146 9 31 = some (some 168) := rfl
theorem qf_146_32 : cw_fR 146 9 32 = some none := rfl
theorem qf_146_33 : cw_fR 146 9 33 = some none := rfl
theorem qf_146_34 : cw_fR 146 9 34 = some (some 169) := rfl
theorem qf_146_35 : cw_fR 146 9 35 = some (some 170) := rfl
theorem qf_146_36 : cw_fR 146 9 36 = some none := rfl
theorem qf_146_37 : cw_fR 146 9 37 = some none := rfl
theorem qf_146_38 : cw_fR 146 9 38 = some (some 171) := rfl
theorem qf_146_39 : cw_fR 146 9 39 = some none := rfl
theorem qf_146_40 : cw_fR 146 9 40 = some none := rfl
theorem qf_146_41 : cw_fR 146 9 41 = some (some 172) := rfl
theorem qf_146_42 : cw_fR 146 9 42 = some none := rfl
theorem qf_146_43 : cw_fR 146 9 43 = some (some 173) := rfl
theorem qf_146_44 : cw_fR 146 9 44 = some (some 174) := rfl
theorem qa_2 : cw_aR 2 = some (0, 8, 0, 0) := rfl
theorem qa_3 : cw_aR 3 = some (0, 8, 0, 0) := rfl
theorem qa_4 : cw_aR 4 = some (0, 8, 0, 0) := rfl
theorem qa_5 : cw_aR 5 = some (0, 8, 0, 0) := rfl
theorem qa_6 : cw_aR 6 = some (0, 8, 0, 0) := rfl
theorem qa_7 : cw_aR 7 = some (0, 15, 0, 0) := rfl
theorem qa_8 : cw_aR 8 = some (0, 15, 0, 0) := rfl
theorem qa_9 : cw_aR 9 = some (0, 15, 0, 0) := rfl
theorem qa_11 : cw_aR 11 = some (3, 15, 15, 1) := rfl
theorem qa_14 : cw_aR 14 = some (0, 15, 0, 0) := rfl
theorem qa_31 : cw_aR 31 = some (0, 15, 0, 0) := rfl
theorem qa_32 : cw_aR 32 = some (0, 15, 0, 0) := rfl
theorem qa_33 : cw_aR 33 = some (0, 15, 0, 0) := rfl
theorem qa_34 : cw_aR 34 = some (0, 15, 0, 0) := rfl
theorem qa_35 : cw_aR 35 = some (1, 15, 0, 0) := rfl
theorem qa_38 : cw_aR 38 = some (0, 8, 0, 0) := rfl
theorem qa_39 : cw_aR 39 = some (0, 8, 0, 0) := rfl
theorem qa_40 : cw_aR 40 = some (0, 8, 0, 0) := rfl
theorem qa_41 : cw_aR 41 = some (0, 8, 0, 0) := rfl
theorem qa_42 : cw_aR 42 = some (0, 8, 0, 0) := rfl
theorem qa_43 : cw_aR 43 = some (0, 15, 0, 0) := rfl
theorem qa_44 : cw_aR 44 = some (0, 15, 0, 0) := rfl
theorem qa_45 : cw_aR 45 = some (0, 15, 0, 0) := rfl
theorem qa_47 : cw_aR 47 = some (3, 15, 51, 1) := rfl
theorem qa_50 : cw_aR 50 = some (0, 15, 0, 0) := rfl
theorem qa_67 : cw_aR 67 = some (2, 8, 68, 9) := rfl
theorem qa_141 : cw_aR 141 = some (0, 60, 0, 0) := rfl
theorem qa_142 : cw_aR 142 = some (0, 61, 0, 0) := rfl
theorem qa_143 : cw_aR 143 = some (0, 61, 0, 0) := rfl
theorem qa_144 : cw_aR 144 = some (0, 7, 0, 0) := rfl
theorem qa_145 : cw_aR 145 = some (0, 7, 0, 0) := rfl
theorem qa_147 : cw_aR 147 = some (0, 3, 0, 0) := rfl
theorem qa_148 : cw_aR 148 = some (0, 32, 0, 0) := rfl
theorem qa_149 : cw_aR 149 = some (0, 8, 0, 0) := rfl
theorem qa_150 : cw_aR 150 = some (0, 15, 0, 0) := rfl
theorem qa_151 : cw_aR 151 = some (0, 15, 0, 0) := rfl
theorem qa_152 : cw_aR 152 = some (0, 15, 0, 0) := rfl
theorem qa_153 : cw_aR 153 = some (0, 15, 0, 0) := rfl
theorem qa_154 : cw_aR 154 = some (0, 60, 0, 0) := rfl
theorem qa_155 : cw_aR 155 = some (0, 704, 0, 0) := rfl
theorem qa_156 : cw_aR 156 = some (0, 15, 0, 0) := rfl
theorem qa_157 : cw_aR 157 = some (0, 15, 0, 0) := rfl
theorem qa_158 : cw_aR 158 = some (0, 15, 0, 0) := rfl
theorem qa_159 : cw_aR 159 = some (0, 15, 0, 0) := rfl
theorem qa_160 : cw_aR 160 = some (0, 15, 0, 0) := rfl
theorem qa_161 : cw_aR 161 = some (0, 15, 0, 0) := rfl
theorem qa_162 : cw_aR 162 = some (0, 15, 0, 0) := rfl
theorem qa_163 : cw_aR 163 = some (0, 15, 0, 0) := rfl
theorem qa_164 : cw_aR 164 = some (0, 15, 0, 0) := rfl
theorem qa_165 : cw_aR 165 = some (0, 15, 0, 0) := rfl
theorem qa_166 : cw_aR 166 = some (0, 15, 0, 0) := rfl
theorem qa_167 : cw_aR 167 = some (0, 15, 0, 0) := rfl
theorem qa_168 : cw_aR 168 = some (0, 15, 0, 0) := rfl
theorem qa_169 : cw_aR 169 = some (0, 15, 0, 0) := rfl
theorem qa_170 : cw_aR 170 = some (0, 60, 0, 0) := rfl
theorem qa_171 : cw_aR 171 = some (0, 60, 0, 0) := rfl
theorem qa_172 : cw_aR 172 = some (0, 8, 0, 0) := rfl
theorem qa_173 : cw_aR 173 = some (0, 60, 0, 0) := rfl
theorem qa_174 : cw_aR 174 = some (0, 60, 0, 0) := rfl
