/-! the tables' rows, by program -/
theorem fl_1_12 : oFld 1 12 = some (1, 0) := by decide +kernel
theorem fl_1_18 : oFld 1 18 = some (1, 1) := by decide +kernel
theorem fl_1_22 : oFld 1 22 = some (1, 2) := by decide +kernel
theorem fl_1_30 : oFld 1 30 = some (1, 3) := by decide +kernel
theorem fl_1_34 : oFld 1 34 = some (1, 4) := by decide +kernel
theorem fl_1_37 : oFld 1 37 = some (1, 5) := by decide +kernel
theorem fl_1_40 : oFld 1 40 = some (1, 6) := by decide +kernel
theorem fl_1_64 : oFld 1 64 = some (2, 0) := by decide +kernel
theorem fl_1_84 : oFld 1 84 = some (4, 0) := by decide +kernel
theorem fl_1_97 : oFld 1 97 = some (7, 0) := by decide +kernel
theorem fl_2_9 : oFld 2 9 = some (2, 2) := by decide +kernel
theorem fl_2_19 : oFld 2 19 = some (2, 0) := by decide +kernel
theorem fl_2_23 : oFld 2 23 = some (2, 1) := by decide +kernel
theorem fl_2_34 : oFld 2 34 = some (1, 0) := by decide +kernel
theorem fl_2_40 : oFld 2 40 = some (4, 0) := by decide +kernel
theorem fl_3_9 : oFld 3 9 = some (3, 3) := by decide +kernel
theorem fl_3_15 : oFld 3 15 = some (3, 4) := by decide +kernel
theorem fl_3_18 : oFld 3 18 = some (3, 2) := by decide +kernel
theorem fl_3_72 : oFld 3 72 = some (3, 0) := by decide +kernel
theorem fl_3_75 : oFld 3 75 = some (3, 1) := by decide +kernel
theorem fl_3_84 : oFld 3 84 = some (7, 0) := by decide +kernel
theorem fl_4_9 : oFld 4 9 = some (4, 1) := by decide +kernel
theorem fl_4_15 : oFld 4 15 = some (4, 0) := by decide +kernel
theorem fl_5_9 : oFld 5 9 = some (5, 5) := by decide +kernel
theorem fl_5_21 : oFld 5 21 = some (5, 0) := by decide +kernel
theorem fl_5_25 : oFld 5 25 = some (4, 0) := by decide +kernel
theorem fl_5_34 : oFld 5 34 = some (3, 1) := by decide +kernel
theorem fl_5_37 : oFld 5 37 = some (5, 1) := by decide +kernel
theorem fl_5_49 : oFld 5 49 = some (5, 2) := by decide +kernel
theorem fl_5_52 : oFld 5 52 = some (5, 3) := by decide +kernel
theorem fl_5_58 : oFld 5 58 = some (5, 4) := by decide +kernel
theorem fl_6_22 : oFld 6 22 = some (6, 0) := by decide +kernel
theorem fl_6_26 : oFld 6 26 = some (6, 1) := by decide +kernel
theorem fl_6_29 : oFld 6 29 = some (6, 2) := by decide +kernel
theorem fl_6_32 : oFld 6 32 = some (1, 0) := by decide +kernel
theorem fl_6_38 : oFld 6 38 = some (4, 0) := by decide +kernel
theorem fl_6_55 : oFld 6 55 = some (1, 3) := by decide +kernel
theorem fl_6_59 : oFld 6 59 = some (7, 0) := by decide +kernel
theorem fl_7_15 : oFld 7 15 = some (7, 1) := by decide +kernel
theorem fl_7_21 : oFld 7 21 = some (7, 2) := by decide +kernel
theorem fl_7_24 : oFld 7 24 = some (7, 0) := by decide +kernel
theorem fl_8_9 : oFld 8 9 = some (8, 0) := by decide +kernel
theorem fl_8_13 : oFld 8 13 = some (8, 1) := by decide +kernel
theorem fl_8_16 : oFld 8 16 = some (8, 2) := by decide +kernel
theorem fl_9_9 : oFld 9 9 = some (9, 3) := by decide +kernel
theorem fl_9_15 : oFld 9 15 = some (9, 4) := by decide +kernel
theorem fl_9_20 : oFld 9 20 = some (9, 5) := by decide +kernel
theorem fl_9_24 : oFld 9 24 = some (9, 0) := by decide +kernel
theorem fl_9_28 : oFld 9 28 = some (9, 2) := by decide +kernel
theorem fl_9_31 : oFld 9 31 = some (9, 1) := by decide +kernel
theorem fl_9_46 : oFld 9 46 = some (0, 0) := by decide +kernel
theorem fl_9_52 : oFld 9 52 = some (0, 1) := by decide +kernel
theorem fl_9_55 : oFld 9 55 = some (0, 2) := by decide +kernel
theorem fl_9_61 : oFld 9 61 = some (0, 3) := by decide +kernel
theorem fl_10_12 : oFld 10 12 = some (10, 0) := by decide +kernel
theorem fl_10_18 : oFld 10 18 = some (10, 1) := by decide +kernel
theorem fl_10_24 : oFld 10 24 = some (10, 3) := by decide +kernel
theorem fl_10_31 : oFld 10 31 = some (10, 4) := by decide +kernel
theorem fl_10_38 : oFld 10 38 = some (10, 5) := by decide +kernel
theorem fl_10_45 : oFld 10 45 = some (10, 6) := by decide +kernel
theorem fl_10_49 : oFld 10 49 = some (10, 7) := by decide +kernel
theorem fl_10_55 : oFld 10 55 = some (10, 8) := by decide +kernel
theorem fl_10_62 : oFld 10 62 = some (10, 9) := by decide +kernel
theorem fl_10_69 : oFld 10 69 = some (10, 10) := by decide +kernel
theorem fl_10_73 : oFld 10 73 = some (1, 0) := by decide +kernel
theorem fl_10_76 : oFld 10 76 = some (4, 0) := by decide +kernel
theorem fl_10_132 : oFld 10 132 = some (3, 1) := by decide +kernel
theorem fl_10_145 : oFld 10 145 = some (9, 0) := by decide +kernel
theorem fl_10_154 : oFld 10 154 = some (9, 1) := by decide +kernel
theorem fl_10_165 : oFld 10 165 = some (0, 0) := by decide +kernel
theorem fl_10_173 : oFld 10 173 = some (0, 1) := by decide +kernel
theorem fl_10_176 : oFld 10 176 = some (0, 2) := by decide +kernel
theorem fl_10_179 : oFld 10 179 = some (0, 3) := by decide +kernel
theorem fl_10_192 : oFld 10 192 = some (2, 0) := by decide +kernel
theorem fl_10_209 : oFld 10 209 = some (2, 1) := by decide +kernel
theorem fl_10_222 : oFld 10 222 = some (3, 0) := by decide +kernel
theorem fl_10_234 : oFld 10 234 = some (5, 3) := by decide +kernel
theorem fl_10_237 : oFld 10 237 = some (5, 4) := by decide +kernel
theorem fl_10_244 : oFld 10 244 = some (5, 0) := by decide +kernel
theorem fl_10_247 : oFld 10 247 = some (5, 1) := by decide +kernel
theorem fl_10_250 : oFld 10 250 = some (5, 2) := by decide +kernel
theorem fl_10_265 : oFld 10 265 = some (1, 3) := by decide +kernel
theorem fl_10_284 : oFld 10 284 = some (6, 0) := by decide +kernel
theorem fl_10_287 : oFld 10 287 = some (6, 1) := by decide +kernel
theorem fl_10_290 : oFld 10 290 = some (6, 2) := by decide +kernel
theorem fl_10_293 : oFld 10 293 = some (1, 4) := by decide +kernel
theorem fl_10_313 : oFld 10 313 = some (1, 5) := by decide +kernel
theorem fl_10_316 : oFld 10 316 = some (7, 0) := by decide +kernel
theorem fl_10_330 : oFld 10 330 = some (1, 6) := by decide +kernel
theorem fl_10_350 : oFld 10 350 = some (10, 2) := by decide +kernel
theorem fl_11_11 : oFld 11 11 = some (11, 0) := by decide +kernel
theorem fl_11_15 : oFld 11 15 = some (11, 1) := by decide +kernel
theorem fl_11_18 : oFld 11 18 = some (11, 2) := by decide +kernel
theorem fl_11_21 : oFld 11 21 = some (11, 4) := by decide +kernel
theorem fl_11_24 : oFld 11 24 = some (11, 5) := by decide +kernel
theorem fl_11_27 : oFld 11 27 = some (11, 8) := by decide +kernel
theorem fl_11_30 : oFld 11 30 = some (11, 12) := by decide +kernel
theorem fl_11_33 : oFld 11 33 = some (11, 13) := by decide +kernel
theorem fl_11_36 : oFld 11 36 = some (11, 18) := by decide +kernel
theorem fl_11_39 : oFld 11 39 = some (11, 19) := by decide +kernel
theorem fl_11_42 : oFld 11 42 = some (11, 20) := by decide +kernel
theorem fl_11_45 : oFld 11 45 = some (11, 21) := by decide +kernel
theorem fl_11_50 : oFld 11 50 = some (11, 22) := by decide +kernel
theorem fl_11_53 : oFld 11 53 = some (11, 23) := by decide +kernel
theorem fl_11_112 : oFld 11 112 = some (11, 9) := by decide +kernel
theorem fl_11_116 : oFld 11 116 = some (11, 6) := by decide +kernel
theorem fl_11_125 : oFld 11 125 = some (11, 7) := by decide +kernel
theorem fl_11_159 : oFld 11 159 = some (11, 10) := by decide +kernel
theorem fl_11_162 : oFld 11 162 = some (11, 11) := by decide +kernel
theorem fl_11_171 : oFld 11 171 = some (11, 17) := by decide +kernel
theorem fl_11_174 : oFld 11 174 = some (11, 16) := by decide +kernel
theorem fl_11_177 : oFld 11 177 = some (11, 14) := by decide +kernel
theorem fl_11_180 : oFld 11 180 = some (11, 15) := by decide +kernel
theorem fl_11_266 : oFld 11 266 = some (11, 3) := by decide +kernel
theorem lk_1_43 : oLink 1 43 = some (1, 4) := by decide +kernel
theorem lk_1_49 : oLink 1 49 = some (0, 18) := by decide +kernel
theorem lk_1_53 : oLink 1 53 = some (0, 14) := by decide +kernel
theorem lk_1_57 : oLink 1 57 = some (0, 15) := by decide +kernel
theorem lk_1_61 : oLink 1 61 = some (0, 41) := by decide +kernel
theorem lk_1_70 : oLink 1 70 = some (0, 47) := by decide +kernel
theorem lk_1_73 : oLink 1 73 = some (0, 24) := by decide +kernel
theorem lk_1_77 : oLink 1 77 = some (0, 26) := by decide +kernel
theorem lk_1_81 : oLink 1 81 = some (0, 27) := by decide +kernel
theorem lk_1_87 : oLink 1 87 = some (1, 28) := by decide +kernel
theorem lk_1_90 : oLink 1 90 = some (0, 16) := by decide +kernel
theorem lk_1_94 : oLink 1 94 = some (0, 63) := by decide +kernel
theorem lk_1_98 : oLink 1 98 = some (0, 80) := by decide +kernel
theorem lk_1_101 : oLink 1 101 = some (0, 81) := by decide +kernel
theorem lk_1_104 : oLink 1 104 = some (0, 22) := by decide +kernel
theorem lk_1_107 : oLink 1 107 = some (0, 79) := by decide +kernel
theorem lk_1_110 : oLink 1 110 = some (1, 83) := by decide +kernel
theorem lk_1_113 : oLink 1 113 = some (1, 35) := by decide +kernel
theorem lk_1_118 : oLink 1 118 = some (0, 71) := by decide +kernel
theorem lk_1_122 : oLink 1 122 = some (5, 0) := by decide +kernel
theorem lk_1_128 : oLink 1 128 = some (0, 128) := by decide +kernel
theorem lk_2_15 : oLink 2 15 = some (0, 44) := by decide +kernel
theorem lk_2_26 : oLink 2 26 = some (1, 45) := by decide +kernel
theorem lk_2_30 : oLink 2 30 = some (0, 46) := by decide +kernel
theorem lk_2_44 : oLink 2 44 = some (1, 28) := by decide +kernel
theorem lk_2_48 : oLink 2 48 = some (0, 48) := by decide +kernel
theorem lk_2_51 : oLink 2 51 = some (0, 23) := by decide +kernel
theorem lk_2_55 : oLink 2 55 = some (0, 47) := by decide +kernel
theorem lk_2_59 : oLink 2 59 = some (0, 22) := by decide +kernel
theorem lk_2_62 : oLink 2 62 = some (0, 18) := by decide +kernel
theorem lk_3_22 : oLink 3 22 = some (0, 34) := by decide +kernel
theorem lk_3_26 : oLink 3 26 = some (0, 38) := by decide +kernel
theorem lk_3_29 : oLink 3 29 = some (0, 26) := by decide +kernel
theorem lk_3_35 : oLink 3 35 = some (7, 0) := by decide +kernel
theorem lk_3_41 : oLink 3 41 = some (1, 35) := by decide +kernel
theorem lk_3_47 : oLink 3 47 = some (0, 36) := by decide +kernel
theorem lk_3_50 : oLink 3 50 = some (1, 28) := by decide +kernel
theorem lk_3_56 : oLink 3 56 = some (0, 37) := by decide +kernel
theorem lk_3_60 : oLink 3 60 = some (6, 0) := by decide +kernel
theorem lk_3_63 : oLink 3 63 = some (0, 16) := by decide +kernel
theorem lk_3_66 : oLink 3 66 = some (1, 4) := by decide +kernel
theorem lk_3_78 : oLink 3 78 = some (0, 39) := by decide +kernel
theorem lk_3_81 : oLink 3 81 = some (0, 22) := by decide +kernel
theorem lk_3_89 : oLink 3 89 = some (0, 80) := by decide +kernel
theorem lk_3_92 : oLink 3 92 = some (0, 41) := by decide +kernel
theorem lk_3_95 : oLink 3 95 = some (0, 81) := by decide +kernel
theorem lk_4_19 : oLink 4 19 = some (0, 15) := by decide +kernel
theorem lk_4_23 : oLink 4 23 = some (0, 16) := by decide +kernel
theorem lk_4_27 : oLink 4 27 = some (0, 14) := by decide +kernel
theorem lk_4_31 : oLink 4 31 = some (1, 35) := by decide +kernel
theorem lk_4_37 : oLink 4 37 = some (0, 26) := by decide +kernel
theorem lk_4_41 : oLink 4 41 = some (0, 76) := by decide +kernel
theorem lk_4_44 : oLink 4 44 = some (0, 22) := by decide +kernel
theorem lk_4_47 : oLink 4 47 = some (6, 0) := by decide +kernel
theorem lk_4_52 : oLink 4 52 = some (0, 17) := by decide +kernel
theorem lk_4_56 : oLink 4 56 = some (0, 115) := by decide +kernel
theorem lk_4_60 : oLink 4 60 = some (7, 0) := by decide +kernel
theorem lk_4_63 : oLink 4 63 = some (5, 0) := by decide +kernel
theorem lk_5_15 : oLink 5 15 = some (0, 26) := by decide +kernel
theorem lk_5_28 : oLink 5 28 = some (0, 89) := by decide +kernel
theorem lk_5_40 : oLink 5 40 = some (1, 28) := by decide +kernel
theorem lk_5_46 : oLink 5 46 = some (0, 76) := by decide +kernel
theorem lk_5_55 : oLink 5 55 = some (0, 86) := by decide +kernel
theorem lk_5_61 : oLink 5 61 = some (1, 35) := by decide +kernel
theorem lk_5_66 : oLink 5 66 = some (0, 87) := by decide +kernel
theorem lk_6_7 : oLink 6 7 = some (0, 99) := by decide +kernel
theorem lk_6_13 : oLink 6 13 = some (0, 101) := by decide +kernel
theorem lk_6_16 : oLink 6 16 = some (0, 102) := by decide +kernel
theorem lk_6_19 : oLink 6 19 = some (0, 103) := by decide +kernel
theorem lk_6_43 : oLink 6 43 = some (0, 79) := by decide +kernel
theorem lk_6_47 : oLink 6 47 = some (0, 22) := by decide +kernel
theorem lk_6_51 : oLink 6 51 = some (0, 100) := by decide +kernel
theorem lk_6_64 : oLink 6 64 = some (0, 80) := by decide +kernel
theorem lk_6_68 : oLink 6 68 = some (0, 27) := by decide +kernel
theorem lk_6_71 : oLink 6 71 = some (1, 83) := by decide +kernel
theorem lk_6_74 : oLink 6 74 = some (0, 23) := by decide +kernel
theorem lk_6_78 : oLink 6 78 = some (0, 63) := by decide +kernel
theorem lk_6_81 : oLink 6 81 = some (0, 18) := by decide +kernel
theorem lk_7_9 : oLink 7 9 = some (6, 0) := by decide +kernel
theorem lk_7_28 : oLink 7 28 = some (0, 92) := by decide +kernel
theorem lk_7_32 : oLink 7 32 = some (0, 80) := by decide +kernel
theorem lk_7_36 : oLink 7 36 = some (0, 81) := by decide +kernel
theorem lk_7_39 : oLink 7 39 = some (0, 94) := by decide +kernel
theorem lk_8_20 : oLink 8 20 = some (1, 4) := by decide +kernel
theorem lk_8_26 : oLink 8 26 = some (0, 120) := by decide +kernel
theorem lk_8_30 : oLink 8 30 = some (0, 122) := by decide +kernel
theorem lk_8_34 : oLink 8 34 = some (0, 123) := by decide +kernel
theorem lk_8_37 : oLink 8 37 = some (1, 133) := by decide +kernel
theorem lk_8_40 : oLink 8 40 = some (0, 125) := by decide +kernel
theorem lk_8_44 : oLink 8 44 = some (1, 137) := by decide +kernel
theorem lk_8_48 : oLink 8 48 = some (5, 0) := by decide +kernel
theorem lk_9_34 : oLink 9 34 = some (0, 55) := by decide +kernel
theorem lk_9_38 : oLink 9 38 = some (0, 56) := by decide +kernel
theorem lk_9_42 : oLink 9 42 = some (0, 57) := by decide +kernel
theorem lk_9_49 : oLink 9 49 = some (0, 58) := by decide +kernel
theorem lk_9_58 : oLink 9 58 = some (0, 59) := by decide +kernel
theorem lk_10_80 : oLink 10 80 = some (0, 14) := by decide +kernel
theorem lk_10_84 : oLink 10 84 = some (0, 16) := by decide +kernel
theorem lk_10_88 : oLink 10 88 = some (0, 17) := by decide +kernel
theorem lk_10_92 : oLink 10 92 = some (0, 18) := by decide +kernel
theorem lk_10_96 : oLink 10 96 = some (0, 19) := by decide +kernel
theorem lk_10_100 : oLink 10 100 = some (0, 22) := by decide +kernel
theorem lk_10_103 : oLink 10 103 = some (0, 23) := by decide +kernel
theorem lk_10_107 : oLink 10 107 = some (0, 24) := by decide +kernel
theorem lk_10_111 : oLink 10 111 = some (0, 25) := by decide +kernel
theorem lk_10_115 : oLink 10 115 = some (0, 15) := by decide +kernel
theorem lk_10_118 : oLink 10 118 = some (1, 30) := by decide +kernel
theorem lk_10_121 : oLink 10 121 = some (1, 32) := by decide +kernel
theorem lk_10_124 : oLink 10 124 = some (0, 33) := by decide +kernel
theorem lk_10_128 : oLink 10 128 = some (0, 40) := by decide +kernel
theorem lk_10_134 : oLink 10 134 = some (0, 43) := by decide +kernel
theorem lk_10_138 : oLink 10 138 = some (0, 49) := by decide +kernel
theorem lk_10_142 : oLink 10 142 = some (0, 52) := by decide +kernel
theorem lk_10_148 : oLink 10 148 = some (0, 54) := by decide +kernel
theorem lk_10_151 : oLink 10 151 = some (0, 60) := by decide +kernel
theorem lk_10_157 : oLink 10 157 = some (0, 55) := by decide +kernel
theorem lk_10_161 : oLink 10 161 = some (0, 61) := by decide +kernel
theorem lk_10_170 : oLink 10 170 = some (0, 12) := by decide +kernel
theorem lk_10_182 : oLink 10 182 = some (0, 13) := by decide +kernel
theorem lk_10_186 : oLink 10 186 = some (0, 21) := by decide +kernel
theorem lk_10_189 : oLink 10 189 = some (0, 62) := by decide +kernel
theorem lk_10_193 : oLink 10 193 = some (0, 47) := by decide +kernel
theorem lk_10_196 : oLink 10 196 = some (0, 67) := by decide +kernel
theorem lk_10_199 : oLink 10 199 = some (0, 68) := by decide +kernel
theorem lk_10_202 : oLink 10 202 = some (0, 69) := by decide +kernel
theorem lk_10_205 : oLink 10 205 = some (0, 71) := by decide +kernel
theorem lk_10_212 : oLink 10 212 = some (0, 72) := by decide +kernel
theorem lk_10_215 : oLink 10 215 = some (0, 41) := by decide +kernel
theorem lk_10_216 : oLink 10 216 = some (0, 75) := by decide +kernel
theorem lk_10_219 : oLink 10 219 = some (0, 77) := by decide +kernel
theorem lk_10_225 : oLink 10 225 = some (0, 78) := by decide +kernel
theorem lk_10_228 : oLink 10 228 = some (0, 82) := by decide +kernel
theorem lk_10_231 : oLink 10 231 = some (0, 85) := by decide +kernel
theorem lk_10_240 : oLink 10 240 = some (0, 88) := by decide +kernel
theorem lk_10_253 : oLink 10 253 = some (0, 26) := by decide +kernel
theorem lk_10_256 : oLink 10 256 = some (0, 36) := by decide +kernel
theorem lk_10_259 : oLink 10 259 = some (0, 63) := by decide +kernel
theorem lk_10_262 : oLink 10 262 = some (0, 64) := by decide +kernel
theorem lk_10_269 : oLink 10 269 = some (0, 92) := by decide +kernel
theorem lk_10_274 : oLink 10 274 = some (0, 93) := by decide +kernel
theorem lk_10_277 : oLink 10 277 = some (0, 94) := by decide +kernel
theorem lk_10_279 : oLink 10 279 = some (0, 96) := by decide +kernel
theorem lk_10_282 : oLink 10 282 = some (0, 98) := by decide +kernel
theorem lk_10_296 : oLink 10 296 = some (0, 105) := by decide +kernel
theorem lk_10_300 : oLink 10 300 = some (0, 107) := by decide +kernel
theorem lk_10_306 : oLink 10 306 = some (1, 109) := by decide +kernel
theorem lk_10_310 : oLink 10 310 = some (1, 110) := by decide +kernel
theorem lk_10_317 : oLink 10 317 = some (0, 80) := by decide +kernel
theorem lk_10_320 : oLink 10 320 = some (0, 81) := by decide +kernel
theorem lk_10_323 : oLink 10 323 = some (0, 114) := by decide +kernel
theorem lk_10_326 : oLink 10 326 = some (0, 116) := by decide +kernel
theorem lk_10_333 : oLink 10 333 = some (0, 120) := by decide +kernel
theorem lk_10_334 : oLink 10 334 = some (0, 121) := by decide +kernel
theorem lk_10_337 : oLink 10 337 = some (0, 122) := by decide +kernel
theorem lk_10_340 : oLink 10 340 = some (0, 123) := by decide +kernel
theorem lk_10_343 : oLink 10 343 = some (0, 124) := by decide +kernel
theorem lk_10_347 : oLink 10 347 = some (0, 127) := by decide +kernel
theorem lk_10_354 : oLink 10 354 = some (0, 132) := by decide +kernel
theorem lk_10_357 : oLink 10 357 = some (0, 136) := by decide +kernel
theorem lk_10_361 : oLink 10 361 = some (0, 125) := by decide +kernel
theorem lk_10_365 : oLink 10 365 = some (0, 140) := by decide +kernel
theorem lk_11_57 : oLink 11 57 = some (1, 146) := by decide +kernel
theorem lk_11_61 : oLink 11 61 = some (0, 145) := by decide +kernel
theorem lk_11_65 : oLink 11 65 = some (0, 147) := by decide +kernel
theorem lk_11_69 : oLink 11 69 = some (5, 0) := by decide +kernel
theorem lk_11_75 : oLink 11 75 = some (0, 149) := by decide +kernel
theorem lk_11_79 : oLink 11 79 = some (0, 144) := by decide +kernel
theorem lk_11_83 : oLink 11 83 = some (0, 148) := by decide +kernel
theorem lk_11_87 : oLink 11 87 = some (0, 150) := by decide +kernel
theorem lk_11_91 : oLink 11 91 = some (0, 153) := by decide +kernel
theorem lk_11_94 : oLink 11 94 = some (0, 154) := by decide +kernel
theorem lk_11_98 : oLink 11 98 = some (0, 155) := by decide +kernel
theorem lk_11_102 : oLink 11 102 = some (1, 157) := by decide +kernel
theorem lk_11_105 : oLink 11 105 = some (0, 159) := by decide +kernel
theorem lk_11_108 : oLink 11 108 = some (0, 162) := by decide +kernel
theorem lk_11_119 : oLink 11 119 = some (0, 169) := by decide +kernel
theorem lk_11_122 : oLink 11 122 = some (0, 170) := by decide +kernel
theorem lk_11_128 : oLink 11 128 = some (0, 172) := by decide +kernel
theorem lk_11_131 : oLink 11 131 = some (0, 142) := by decide +kernel
theorem lk_11_134 : oLink 11 134 = some (0, 173) := by decide +kernel
theorem lk_11_137 : oLink 11 137 = some (0, 143) := by decide +kernel
theorem lk_11_141 : oLink 11 141 = some (0, 152) := by decide +kernel
theorem lk_11_144 : oLink 11 144 = some (0, 174) := by decide +kernel
theorem lk_11_147 : oLink 11 147 = some (0, 168) := by decide +kernel
theorem lk_11_150 : oLink 11 150 = some (0, 171) := by decide +kernel
theorem lk_11_153 : oLink 11 153 = some (0, 164) := by decide +kernel
theorem lk_11_156 : oLink 11 156 = some (0, 163) := by decide +kernel
theorem lk_11_165 : oLink 11 165 = some (0, 178) := by decide +kernel
theorem lk_11_168 : oLink 11 168 = some (0, 177) := by decide +kernel
theorem lk_11_183 : oLink 11 183 = some (0, 160) := by decide +kernel
theorem lk_11_186 : oLink 11 186 = some (1, 182) := by decide +kernel
theorem lk_11_190 : oLink 11 190 = some (6, 0) := by decide +kernel
theorem lk_11_195 : oLink 11 195 = some (0, 181) := by decide +kernel
theorem lk_11_198 : oLink 11 198 = some (0, 185) := by decide +kernel
theorem lk_11_201 : oLink 11 201 = some (0, 184) := by decide +kernel
theorem lk_11_205 : oLink 11 205 = some (0, 186) := by decide +kernel
theorem lk_11_208 : oLink 11 208 = some (0, 187) := by decide +kernel
theorem lk_11_211 : oLink 11 211 = some (1, 188) := by decide +kernel
theorem lk_11_214 : oLink 11 214 = some (0, 192) := by decide +kernel
theorem lk_11_217 : oLink 11 217 = some (0, 191) := by decide +kernel
theorem lk_11_220 : oLink 11 220 = some (0, 190) := by decide +kernel
theorem lk_11_223 : oLink 11 223 = some (0, 193) := by decide +kernel
theorem lk_11_226 : oLink 11 226 = some (0, 194) := by decide +kernel
theorem lk_11_229 : oLink 11 229 = some (0, 196) := by decide +kernel
theorem lk_11_232 : oLink 11 232 = some (0, 200) := by decide +kernel
theorem lk_11_235 : oLink 11 235 = some (0, 202) := by decide +kernel
theorem lk_11_239 : oLink 11 239 = some (0, 204) := by decide +kernel
theorem lk_11_242 : oLink 11 242 = some (1, 207) := by decide +kernel
theorem lk_11_247 : oLink 11 247 = some (1, 206) := by decide +kernel
theorem lk_11_251 : oLink 11 251 = some (7, 0) := by decide +kernel
theorem lk_11_254 : oLink 11 254 = some (0, 211) := by decide +kernel
theorem lk_11_257 : oLink 11 257 = some (0, 212) := by decide +kernel
theorem lk_11_260 : oLink 11 260 = some (0, 213) := by decide +kernel
theorem lk_11_263 : oLink 11 263 = some (1, 217) := by decide +kernel
theorem lk_11_270 : oLink 11 270 = some (1, 223) := by decide +kernel
theorem lk_12_13 : oLink 12 13 = some (0, 12) := by decide +kernel
theorem lk_12_17 : oLink 12 17 = some (0, 142) := by decide +kernel
theorem lk_12_18 : oLink 12 18 = some (0, 13) := by decide +kernel
theorem lk_12_22 : oLink 12 22 = some (0, 143) := by decide +kernel
theorem lk_12_23 : oLink 12 23 = some (0, 20) := by decide +kernel
theorem lk_12_27 : oLink 12 27 = some (0, 151) := by decide +kernel
theorem lk_12_28 : oLink 12 28 = some (0, 21) := by decide +kernel
theorem lk_12_31 : oLink 12 31 = some (0, 152) := by decide +kernel
theorem lk_12_32 : oLink 12 32 = some (0, 29) := by decide +kernel
theorem lk_12_36 : oLink 12 36 = some (0, 156) := by decide +kernel
theorem lk_12_37 : oLink 12 37 = some (0, 31) := by decide +kernel
theorem lk_12_40 : oLink 12 40 = some (0, 158) := by decide +kernel
theorem lk_12_41 : oLink 12 41 = some (0, 42) := by decide +kernel
theorem lk_12_44 : oLink 12 44 = some (0, 161) := by decide +kernel
theorem lk_12_45 : oLink 12 45 = some (0, 50) := by decide +kernel
theorem lk_12_48 : oLink 12 48 = some (0, 165) := by decide +kernel
theorem lk_12_49 : oLink 12 49 = some (0, 51) := by decide +kernel
theorem lk_12_52 : oLink 12 52 = some (0, 166) := by decide +kernel
theorem lk_12_53 : oLink 12 53 = some (0, 53) := by decide +kernel
theorem lk_12_56 : oLink 12 56 = some (0, 167) := by decide +kernel
theorem lk_12_57 : oLink 12 57 = some (0, 65) := by decide +kernel
theorem lk_12_60 : oLink 12 60 = some (0, 175) := by decide +kernel
theorem lk_12_61 : oLink 12 61 = some (0, 66) := by decide +kernel
theorem lk_12_64 : oLink 12 64 = some (0, 176) := by decide +kernel
theorem lk_12_65 : oLink 12 65 = some (0, 70) := by decide +kernel
theorem lk_12_68 : oLink 12 68 = some (0, 180) := by decide +kernel
theorem lk_12_69 : oLink 12 69 = some (0, 73) := by decide +kernel
theorem lk_12_72 : oLink 12 72 = some (0, 179) := by decide +kernel
theorem lk_12_73 : oLink 12 73 = some (0, 74) := by decide +kernel
theorem lk_12_76 : oLink 12 76 = some (0, 183) := by decide +kernel
theorem lk_12_77 : oLink 12 77 = some (0, 84) := by decide +kernel
theorem lk_12_80 : oLink 12 80 = some (0, 189) := by decide +kernel
theorem lk_12_81 : oLink 12 81 = some (0, 90) := by decide +kernel
theorem lk_12_84 : oLink 12 84 = some (0, 195) := by decide +kernel
theorem lk_12_85 : oLink 12 85 = some (0, 62) := by decide +kernel
theorem lk_12_88 : oLink 12 88 = some (0, 174) := by decide +kernel
theorem lk_12_89 : oLink 12 89 = some (0, 91) := by decide +kernel
theorem lk_12_92 : oLink 12 92 = some (0, 197) := by decide +kernel
theorem lk_12_93 : oLink 12 93 = some (0, 95) := by decide +kernel
theorem lk_12_96 : oLink 12 96 = some (0, 198) := by decide +kernel
theorem lk_12_97 : oLink 12 97 = some (0, 97) := by decide +kernel
theorem lk_12_100 : oLink 12 100 = some (0, 199) := by decide +kernel
theorem lk_12_101 : oLink 12 101 = some (0, 104) := by decide +kernel
theorem lk_12_104 : oLink 12 104 = some (0, 201) := by decide +kernel
theorem lk_12_105 : oLink 12 105 = some (0, 106) := by decide +kernel
theorem lk_12_108 : oLink 12 108 = some (0, 203) := by decide +kernel
theorem lk_12_109 : oLink 12 109 = some (0, 108) := by decide +kernel
theorem lk_12_113 : oLink 12 113 = some (0, 205) := by decide +kernel
theorem lk_12_114 : oLink 12 114 = some (0, 111) := by decide +kernel
theorem lk_12_118 : oLink 12 118 = some (0, 208) := by decide +kernel
theorem lk_12_119 : oLink 12 119 = some (0, 112) := by decide +kernel
theorem lk_12_122 : oLink 12 122 = some (0, 209) := by decide +kernel
theorem lk_12_123 : oLink 12 123 = some (0, 113) := by decide +kernel
theorem lk_12_126 : oLink 12 126 = some (0, 210) := by decide +kernel
theorem lk_12_127 : oLink 12 127 = some (0, 117) := by decide +kernel
theorem lk_12_130 : oLink 12 130 = some (0, 214) := by decide +kernel
theorem lk_12_131 : oLink 12 131 = some (0, 118) := by decide +kernel
theorem lk_12_134 : oLink 12 134 = some (0, 215) := by decide +kernel
theorem lk_12_135 : oLink 12 135 = some (0, 119) := by decide +kernel
theorem lk_12_138 : oLink 12 138 = some (0, 216) := by decide +kernel
theorem lk_12_139 : oLink 12 139 = some (0, 126) := by decide +kernel
theorem lk_12_142 : oLink 12 142 = some (0, 218) := by decide +kernel
theorem lk_12_143 : oLink 12 143 = some (0, 129) := by decide +kernel
theorem lk_12_146 : oLink 12 146 = some (0, 219) := by decide +kernel
theorem lk_12_147 : oLink 12 147 = some (0, 130) := by decide +kernel
theorem lk_12_150 : oLink 12 150 = some (0, 220) := by decide +kernel
theorem lk_12_151 : oLink 12 151 = some (0, 131) := by decide +kernel
theorem lk_12_154 : oLink 12 154 = some (0, 221) := by decide +kernel
theorem lk_12_157 : oLink 12 157 = some (0, 135) := by decide +kernel
theorem lk_12_161 : oLink 12 161 = some (0, 222) := by decide +kernel
theorem lk_12_162 : oLink 12 162 = some (0, 138) := by decide +kernel
theorem lk_12_166 : oLink 12 166 = some (0, 224) := by decide +kernel
theorem lk_12_167 : oLink 12 167 = some (0, 139) := by decide +kernel
theorem lk_12_171 : oLink 12 171 = some (0, 225) := by decide +kernel
theorem lk_15_13 : oLink 15 13 = some (1, 134) := by decide +kernel
theorem mt_0 : (oMt 0).2.2.2.2.1 = 10 ∧ (oMt 0).2.2.2.2.2.1 = 0 ∧ (oMt 0).2.2.2.2.2.2.1 = false := by decide +kernel
theorem mt_1 : (oMt 1).2.2.2.2.1 = 1 ∧ (oMt 1).2.2.2.2.2.1 = 0 ∧ (oMt 1).2.2.2.2.2.2.1 = false := by decide +kernel
theorem mt_2 : (oMt 2).2.2.2.2.1 = 4 ∧ (oMt 2).2.2.2.2.2.1 = 0 ∧ (oMt 2).2.2.2.2.2.2.1 = false := by decide +kernel
theorem mt_3 : (oMt 3).2.2.2.2.1 = 7 ∧ (oMt 3).2.2.2.2.2.1 = 1 ∧ (oMt 3).2.2.2.2.2.2.1 = false := by decide +kernel
theorem mt_4 : (oMt 4).2.2.2.2.2.1 = 2 ∧ (oMt 4).2.2.2.2.2.2.1 = true := by decide +kernel
theorem mt_5 : (oMt 5).2.2.2.2.1 = 9 ∧ (oMt 5).2.2.2.2.2.1 = 0 ∧ (oMt 5).2.2.2.2.2.2.1 = false := by decide +kernel
theorem mt_6 : (oMt 6).2.2.2.2.1 = 0 ∧ (oMt 6).2.2.2.2.2.1 = 0 ∧ (oMt 6).2.2.2.2.2.2.1 = false := by decide +kernel
theorem mt_7 : (oMt 7).2.2.2.2.1 = 8 ∧ (oMt 7).2.2.2.2.2.1 = 0 ∧ (oMt 7).2.2.2.2.2.2.1 = false := by decide +kernel
theorem mt_8 : (oMt 8).2.2.2.2.1 = 3 ∧ (oMt 8).2.2.2.2.2.1 = 0 ∧ (oMt 8).2.2.2.2.2.2.1 = false := by decide +kernel
theorem mt_9 : (oMt 9).2.2.2.2.1 = 2 ∧ (oMt 9).2.2.2.2.2.1 = 0 ∧ (oMt 9).2.2.2.2.2.2.1 = false := by decide +kernel
theorem mt_10 : (oMt 10).2.2.2.2.1 = 5 ∧ (oMt 10).2.2.2.2.2.1 = 0 ∧ (oMt 10).2.2.2.2.2.2.1 = false := by decide +kernel
theorem mt_11 : (oMt 11).2.2.2.2.1 = 6 ∧ (oMt 11).2.2.2.2.2.1 = 0 ∧ (oMt 11).2.2.2.2.2.2.1 = false := by decide +kernel
theorem mt_12 : (oMt 12).2.2.2.2.1 = 10 ∧ (oMt 12).2.2.2.2.2.1 = 0 ∧ (oMt 12).2.2.2.2.2.2.1 = false := by decide +kernel
theorem mt_13 : (oMt 13).2.2.2.2.1 = 10 ∧ (oMt 13).2.2.2.2.2.1 = 3 ∧ (oMt 13).2.2.2.2.2.2.1 = false := by decide +kernel
theorem mt_14 : (oMt 14).2.2.2.2.1 = 4 ∧ (oMt 14).2.2.2.2.2.1 = 2 ∧ (oMt 14).2.2.2.2.2.2.1 = false := by decide +kernel
theorem mt_15 : (oMt 15).2.2.2.2.1 = 4 ∧ (oMt 15).2.2.2.2.2.1 = 1 ∧ (oMt 15).2.2.2.2.2.2.1 = false := by decide +kernel
theorem mt_16 : (oMt 16).2.2.2.2.1 = 4 ∧ (oMt 16).2.2.2.2.2.1 = 2 ∧ (oMt 16).2.2.2.2.2.2.1 = false := by decide +kernel
theorem mt_17 : (oMt 17).2.2.2.2.1 = 4 ∧ (oMt 17).2.2.2.2.2.1 = 3 ∧ (oMt 17).2.2.2.2.2.2.1 = false := by decide +kernel
theorem mt_18 : (oMt 18).2.2.2.2.1 = 1 ∧ (oMt 18).2.2.2.2.2.1 = 1 ∧ (oMt 18).2.2.2.2.2.2.1 = false := by decide +kernel
theorem mt_19 : (oMt 19).2.2.2.2.1 = 1 ∧ (oMt 19).2.2.2.2.2.1 = 1 ∧ (oMt 19).2.2.2.2.2.2.1 = false := by decide +kernel
theorem mt_20 : (oMt 20).2.2.2.2.1 = 10 ∧ (oMt 20).2.2.2.2.2.1 = 2 ∧ (oMt 20).2.2.2.2.2.2.1 = false := by decide +kernel
theorem mt_21 : (oMt 21).2.2.2.2.1 = 10 ∧ (oMt 21).2.2.2.2.2.1 = 2 ∧ (oMt 21).2.2.2.2.2.2.1 = false := by decide +kernel
theorem mt_22 : (oMt 22).2.2.2.2.1 = 4 ∧ (oMt 22).2.2.2.2.2.1 = 2 ∧ (oMt 22).2.2.2.2.2.2.1 = false := by decide +kernel
theorem mt_23 : (oMt 23).2.2.2.2.1 = 1 ∧ (oMt 23).2.2.2.2.2.1 = 1 ∧ (oMt 23).2.2.2.2.2.2.1 = false := by decide +kernel
theorem mt_24 : (oMt 24).2.2.2.2.1 = 1 ∧ (oMt 24).2.2.2.2.2.1 = 2 ∧ (oMt 24).2.2.2.2.2.2.1 = false := by decide +kernel
theorem mt_25 : (oMt 25).2.2.2.2.1 = 1 ∧ (oMt 25).2.2.2.2.2.1 = 0 ∧ (oMt 25).2.2.2.2.2.2.1 = false := by decide +kernel
theorem mt_26 : (oMt 26).2.2.2.2.1 = 4 ∧ (oMt 26).2.2.2.2.2.1 = 0 ∧ (oMt 26).2.2.2.2.2.2.1 = false := by decide +kernel
theorem mt_27 : (oMt 27).2.2.2.2.1 = 1 ∧ (oMt 27).2.2.2.2.2.1 = 1 ∧ (oMt 27).2.2.2.2.2.2.1 = false := by decide +kernel
theorem mt_28 : (oMt 28).2.2.2.2.2.1 = 2 ∧ (oMt 28).2.2.2.2.2.2.1 = true := by decide +kernel
theorem mt_29 : (oMt 29).2.2.2.2.1 = 10 ∧ (oMt 29).2.2.2.2.2.1 = 1 ∧ (oMt 29).2.2.2.2.2.2.1 = false := by decide +kernel
theorem mt_30 : (oMt 30).2.2.2.2.2.1 = 1 ∧ (oMt 30).2.2.2.2.2.2.1 = true := by decide +kernel
theorem mt_31 : (oMt 31).2.2.2.2.1 = 10 ∧ (oMt 31).2.2.2.2.2.1 = 1 ∧ (oMt 31).2.2.2.2.2.2.1 = false := by decide +kernel
theorem mt_32 : (oMt 32).2.2.2.2.2.1 = 1 ∧ (oMt 32).2.2.2.2.2.2.1 = true := by decide +kernel
theorem mt_33 : (oMt 33).2.2.2.2.1 = 3 ∧ (oMt 33).2.2.2.2.2.1 = 2 ∧ (oMt 33).2.2.2.2.2.2.1 = false := by decide +kernel
theorem mt_34 : (oMt 34).2.2.2.2.1 = 3 ∧ (oMt 34).2.2.2.2.2.1 = 1 ∧ (oMt 34).2.2.2.2.2.2.1 = false := by decide +kernel
theorem mt_35 : (oMt 35).2.2.2.2.2.1 = 1 ∧ (oMt 35).2.2.2.2.2.2.1 = true := by decide +kernel
theorem mt_36 : (oMt 36).2.2.2.2.1 = 3 ∧ (oMt 36).2.2.2.2.2.1 = 1 ∧ (oMt 36).2.2.2.2.2.2.1 = false := by decide +kernel
theorem mt_37 : (oMt 37).2.2.2.2.1 = 3 ∧ (oMt 37).2.2.2.2.2.1 = 4 ∧ (oMt 37).2.2.2.2.2.2.1 = false := by decide +kernel
theorem mt_38 : (oMt 38).2.2.2.2.1 = 3 ∧ (oMt 38).2.2.2.2.2.1 = 1 ∧ (oMt 38).2.2.2.2.2.2.1 = false := by decide +kernel
theorem mt_39 : (oMt 39).2.2.2.2.1 = 3 ∧ (oMt 39).2.2.2.2.2.1 = 4 ∧ (oMt 39).2.2.2.2.2.2.1 = false := by decide +kernel
theorem mt_40 : (oMt 40).2.2.2.2.1 = 1 ∧ (oMt 40).2.2.2.2.2.1 = 1 ∧ (oMt 40).2.2.2.2.2.2.1 = false := by decide +kernel
theorem mt_41 : (oMt 41).2.2.2.2.1 = 3 ∧ (oMt 41).2.2.2.2.2.1 = 1 ∧ (oMt 41).2.2.2.2.2.2.1 = false := by decide +kernel
theorem mt_42 : (oMt 42).2.2.2.2.1 = 10 ∧ (oMt 42).2.2.2.2.2.1 = 1 ∧ (oMt 42).2.2.2.2.2.2.1 = false := by decide +kernel
theorem mt_43 : (oMt 43).2.2.2.2.1 = 2 ∧ (oMt 43).2.2.2.2.2.1 = 1 ∧ (oMt 43).2.2.2.2.2.2.1 = false := by decide +kernel
theorem mt_44 : (oMt 44).2.2.2.2.1 = 2 ∧ (oMt 44).2.2.2.2.2.1 = 3 ∧ (oMt 44).2.2.2.2.2.2.1 = false := by decide +kernel
theorem mt_45 : (oMt 45).2.2.2.2.2.1 = 4 ∧ (oMt 45).2.2.2.2.2.2.1 = true := by decide +kernel
theorem mt_46 : (oMt 46).2.2.2.2.1 = 2 ∧ (oMt 46).2.2.2.2.2.1 = 1 ∧ (oMt 46).2.2.2.2.2.2.1 = false := by decide +kernel
theorem mt_47 : (oMt 47).2.2.2.2.1 = 2 ∧ (oMt 47).2.2.2.2.2.1 = 1 ∧ (oMt 47).2.2.2.2.2.2.1 = false := by decide +kernel
theorem mt_48 : (oMt 48).2.2.2.2.1 = 2 ∧ (oMt 48).2.2.2.2.2.1 = 3 ∧ (oMt 48).2.2.2.2.2.2.1 = false := by decide +kernel
theorem mt_49 : (oMt 49).2.2.2.2.1 = 1 ∧ (oMt 49).2.2.2.2.2.1 = 1 ∧ (oMt 49).2.2.2.2.2.2.1 = false := by decide +kernel
theorem mt_50 : (oMt 50).2.2.2.2.1 = 10 ∧ (oMt 50).2.2.2.2.2.1 = 1 ∧ (oMt 50).2.2.2.2.2.2.1 = false := by decide +kernel
theorem mt_51 : (oMt 51).2.2.2.2.1 = 10 ∧ (oMt 51).2.2.2.2.2.1 = 1 ∧ (oMt 51).2.2.2.2.2.2.1 = false := by decide +kernel
theorem mt_52 : (oMt 52).2.2.2.2.1 = 9 ∧ (oMt 52).2.2.2.2.2.1 = 1 ∧ (oMt 52).2.2.2.2.2.2.1 = false := by decide +kernel
theorem mt_53 : (oMt 53).2.2.2.2.1 = 10 ∧ (oMt 53).2.2.2.2.2.1 = 0 ∧ (oMt 53).2.2.2.2.2.2.1 = false := by decide +kernel
theorem mt_54 : (oMt 54).2.2.2.2.1 = 9 ∧ (oMt 54).2.2.2.2.2.1 = 0 ∧ (oMt 54).2.2.2.2.2.2.1 = false := by decide +kernel
theorem mt_55 : (oMt 55).2.2.2.2.1 = 9 ∧ (oMt 55).2.2.2.2.2.1 = 1 ∧ (oMt 55).2.2.2.2.2.2.1 = false := by decide +kernel
theorem mt_56 : (oMt 56).2.2.2.2.1 = 9 ∧ (oMt 56).2.2.2.2.2.1 = 1 ∧ (oMt 56).2.2.2.2.2.2.1 = false := by decide +kernel
theorem mt_57 : (oMt 57).2.2.2.2.1 = 9 ∧ (oMt 57).2.2.2.2.2.1 = 0 ∧ (oMt 57).2.2.2.2.2.2.1 = false := by decide +kernel
theorem mt_58 : (oMt 58).2.2.2.2.1 = 9 ∧ (oMt 58).2.2.2.2.2.1 = 0 ∧ (oMt 58).2.2.2.2.2.2.1 = false := by decide +kernel
theorem mt_59 : (oMt 59).2.2.2.2.1 = 9 ∧ (oMt 59).2.2.2.2.2.1 = 0 ∧ (oMt 59).2.2.2.2.2.2.1 = false := by decide +kernel
theorem mt_60 : (oMt 60).2.2.2.2.1 = 10 ∧ (oMt 60).2.2.2.2.2.1 = 0 ∧ (oMt 60).2.2.2.2.2.2.1 = false := by decide +kernel
theorem mt_61 : (oMt 61).2.2.2.2.1 = 10 ∧ (oMt 61).2.2.2.2.2.1 = 1 ∧ (oMt 61).2.2.2.2.2.2.1 = false := by decide +kernel
theorem mt_62 : (oMt 62).2.2.2.2.1 = 10 ∧ (oMt 62).2.2.2.2.2.1 = 2 ∧ (oMt 62).2.2.2.2.2.2.1 = false := by decide +kernel
theorem mt_63 : (oMt 63).2.2.2.2.1 = 1 ∧ (oMt 63).2.2.2.2.2.1 = 1 ∧ (oMt 63).2.2.2.2.2.2.1 = false := by decide +kernel
theorem mt_64 : (oMt 64).2.2.2.2.1 = 1 ∧ (oMt 64).2.2.2.2.2.1 = 2 ∧ (oMt 64).2.2.2.2.2.2.1 = false := by decide +kernel
theorem mt_65 : (oMt 65).2.2.2.2.1 = 10 ∧ (oMt 65).2.2.2.2.2.1 = 1 ∧ (oMt 65).2.2.2.2.2.2.1 = false := by decide +kernel
theorem mt_66 : (oMt 66).2.2.2.2.1 = 10 ∧ (oMt 66).2.2.2.2.2.1 = 2 ∧ (oMt 66).2.2.2.2.2.2.1 = false := by decide +kernel
theorem mt_67 : (oMt 67).2.2.2.2.1 = 2 ∧ (oMt 67).2.2.2.2.2.1 = 1 ∧ (oMt 67).2.2.2.2.2.2.1 = false := by decide +kernel
theorem mt_68 : (oMt 68).2.2.2.2.1 = 2 ∧ (oMt 68).2.2.2.2.2.1 = 1 ∧ (oMt 68).2.2.2.2.2.2.1 = false := by decide +kernel
theorem mt_69 : (oMt 69).2.2.2.2.1 = 2 ∧ (oMt 69).2.2.2.2.2.1 = 1 ∧ (oMt 69).2.2.2.2.2.2.1 = false := by decide +kernel
theorem mt_70 : (oMt 70).2.2.2.2.1 = 10 ∧ (oMt 70).2.2.2.2.2.1 = 0 ∧ (oMt 70).2.2.2.2.2.2.1 = false := by decide +kernel
theorem mt_71 : (oMt 71).2.2.2.2.1 = 4 ∧ (oMt 71).2.2.2.2.2.1 = 1 ∧ (oMt 71).2.2.2.2.2.2.1 = false := by decide +kernel
theorem mt_72 : (oMt 72).2.2.2.2.1 = 4 ∧ (oMt 72).2.2.2.2.2.1 = 2 ∧ (oMt 72).2.2.2.2.2.2.1 = false := by decide +kernel
theorem mt_73 : (oMt 73).2.2.2.2.1 = 10 ∧ (oMt 73).2.2.2.2.2.1 = 2 ∧ (oMt 73).2.2.2.2.2.2.1 = false := by decide +kernel
theorem mt_74 : (oMt 74).2.2.2.2.1 = 10 ∧ (oMt 74).2.2.2.2.2.1 = 1 ∧ (oMt 74).2.2.2.2.2.2.1 = false := by decide +kernel
theorem mt_75 : (oMt 75).2.2.2.2.1 = 4 ∧ (oMt 75).2.2.2.2.2.1 = 0 ∧ (oMt 75).2.2.2.2.2.2.1 = false := by decide +kernel
theorem mt_76 : (oMt 76).2.2.2.2.1 = 4 ∧ (oMt 76).2.2.2.2.2.1 = 1 ∧ (oMt 76).2.2.2.2.2.2.1 = false := by decide +kernel
theorem mt_77 : (oMt 77).2.2.2.2.1 = 1 ∧ (oMt 77).2.2.2.2.2.1 = 0 ∧ (oMt 77).2.2.2.2.2.2.1 = false := by decide +kernel
theorem mt_78 : (oMt 78).2.2.2.2.1 = 1 ∧ (oMt 78).2.2.2.2.2.1 = 0 ∧ (oMt 78).2.2.2.2.2.2.1 = false := by decide +kernel
theorem mt_79 : (oMt 79).2.2.2.2.1 = 1 ∧ (oMt 79).2.2.2.2.2.1 = 2 ∧ (oMt 79).2.2.2.2.2.2.1 = false := by decide +kernel
theorem mt_80 : (oMt 80).2.2.2.2.1 = 7 ∧ (oMt 80).2.2.2.2.2.1 = 1 ∧ (oMt 80).2.2.2.2.2.2.1 = false := by decide +kernel
theorem mt_81 : (oMt 81).2.2.2.2.1 = 7 ∧ (oMt 81).2.2.2.2.2.1 = 1 ∧ (oMt 81).2.2.2.2.2.2.1 = false := by decide +kernel
theorem mt_82 : (oMt 82).2.2.2.2.1 = 1 ∧ (oMt 82).2.2.2.2.2.1 = 0 ∧ (oMt 82).2.2.2.2.2.2.1 = false := by decide +kernel
theorem mt_83 : (oMt 83).2.2.2.2.2.1 = 1 ∧ (oMt 83).2.2.2.2.2.2.1 = true := by decide +kernel
theorem mt_84 : (oMt 84).2.2.2.2.1 = 10 ∧ (oMt 84).2.2.2.2.2.1 = 1 ∧ (oMt 84).2.2.2.2.2.2.1 = false := by decide +kernel
theorem mt_85 : (oMt 85).2.2.2.2.1 = 5 ∧ (oMt 85).2.2.2.2.2.1 = 1 ∧ (oMt 85).2.2.2.2.2.2.1 = false := by decide +kernel
theorem mt_86 : (oMt 86).2.2.2.2.1 = 5 ∧ (oMt 86).2.2.2.2.2.1 = 1 ∧ (oMt 86).2.2.2.2.2.2.1 = false := by decide +kernel
theorem mt_87 : (oMt 87).2.2.2.2.1 = 5 ∧ (oMt 87).2.2.2.2.2.1 = 2 ∧ (oMt 87).2.2.2.2.2.2.1 = false := by decide +kernel
theorem mt_88 : (oMt 88).2.2.2.2.1 = 5 ∧ (oMt 88).2.2.2.2.2.1 = 2 ∧ (oMt 88).2.2.2.2.2.2.1 = false := by decide +kernel
theorem mt_89 : (oMt 89).2.2.2.2.1 = 3 ∧ (oMt 89).2.2.2.2.2.1 = 1 ∧ (oMt 89).2.2.2.2.2.2.1 = false := by decide +kernel
theorem mt_90 : (oMt 90).2.2.2.2.1 = 10 ∧ (oMt 90).2.2.2.2.2.1 = 1 ∧ (oMt 90).2.2.2.2.2.2.1 = false := by decide +kernel
theorem mt_91 : (oMt 91).2.2.2.2.1 = 10 ∧ (oMt 91).2.2.2.2.2.1 = 2 ∧ (oMt 91).2.2.2.2.2.2.1 = false := by decide +kernel
theorem mt_92 : (oMt 92).2.2.2.2.1 = 7 ∧ (oMt 92).2.2.2.2.2.1 = 0 ∧ (oMt 92).2.2.2.2.2.2.1 = false := by decide +kernel
theorem mt_93 : (oMt 93).2.2.2.2.1 = 4 ∧ (oMt 93).2.2.2.2.2.1 = 1 ∧ (oMt 93).2.2.2.2.2.2.1 = false := by decide +kernel
theorem mt_94 : (oMt 94).2.2.2.2.1 = 7 ∧ (oMt 94).2.2.2.2.2.1 = 2 ∧ (oMt 94).2.2.2.2.2.2.1 = false := by decide +kernel
theorem mt_95 : (oMt 95).2.2.2.2.1 = 10 ∧ (oMt 95).2.2.2.2.2.1 = 0 ∧ (oMt 95).2.2.2.2.2.2.1 = false := by decide +kernel
theorem mt_96 : (oMt 96).2.2.2.2.1 = 4 ∧ (oMt 96).2.2.2.2.2.1 = 1 ∧ (oMt 96).2.2.2.2.2.2.1 = false := by decide +kernel
theorem mt_97 : (oMt 97).2.2.2.2.1 = 10 ∧ (oMt 97).2.2.2.2.2.1 = 1 ∧ (oMt 97).2.2.2.2.2.2.1 = false := by decide +kernel
theorem mt_98 : (oMt 98).2.2.2.2.1 = 6 ∧ (oMt 98).2.2.2.2.2.1 = 1 ∧ (oMt 98).2.2.2.2.2.2.1 = false := by decide +kernel
theorem mt_99 : (oMt 99).2.2.2.2.1 = 6 ∧ (oMt 99).2.2.2.2.2.1 = 1 ∧ (oMt 99).2.2.2.2.2.2.1 = false := by decide +kernel
theorem mt_100 : (oMt 100).2.2.2.2.1 = 6 ∧ (oMt 100).2.2.2.2.2.1 = 3 ∧ (oMt 100).2.2.2.2.2.2.1 = false := by decide +kernel
theorem mt_101 : (oMt 101).2.2.2.2.1 = 6 ∧ (oMt 101).2.2.2.2.2.1 = 1 ∧ (oMt 101).2.2.2.2.2.2.1 = false := by decide +kernel
theorem mt_102 : (oMt 102).2.2.2.2.1 = 6 ∧ (oMt 102).2.2.2.2.2.1 = 1 ∧ (oMt 102).2.2.2.2.2.2.1 = false := by decide +kernel
theorem mt_103 : (oMt 103).2.2.2.2.1 = 6 ∧ (oMt 103).2.2.2.2.2.1 = 1 ∧ (oMt 103).2.2.2.2.2.2.1 = false := by decide +kernel
theorem mt_104 : (oMt 104).2.2.2.2.1 = 10 ∧ (oMt 104).2.2.2.2.2.1 = 2 ∧ (oMt 104).2.2.2.2.2.2.1 = false := by decide +kernel
theorem mt_105 : (oMt 105).2.2.2.2.1 = 10 ∧ (oMt 105).2.2.2.2.2.1 = 3 ∧ (oMt 105).2.2.2.2.2.2.1 = false := by decide +kernel
theorem mt_106 : (oMt 106).2.2.2.2.1 = 10 ∧ (oMt 106).2.2.2.2.2.1 = 3 ∧ (oMt 106).2.2.2.2.2.2.1 = false := by decide +kernel
theorem mt_107 : (oMt 107).2.2.2.2.1 = 3 ∧ (oMt 107).2.2.2.2.2.1 = 1 ∧ (oMt 107).2.2.2.2.2.2.1 = false := by decide +kernel
theorem mt_108 : (oMt 108).2.2.2.2.1 = 10 ∧ (oMt 108).2.2.2.2.2.1 = 3 ∧ (oMt 108).2.2.2.2.2.2.1 = false := by decide +kernel
theorem mt_109 : (oMt 109).2.2.2.2.2.1 = 3 ∧ (oMt 109).2.2.2.2.2.2.1 = true := by decide +kernel
theorem mt_110 : (oMt 110).2.2.2.2.2.1 = 2 ∧ (oMt 110).2.2.2.2.2.2.1 = true := by decide +kernel
theorem mt_111 : (oMt 111).2.2.2.2.1 = 10 ∧ (oMt 111).2.2.2.2.2.1 = 1 ∧ (oMt 111).2.2.2.2.2.2.1 = false := by decide +kernel
theorem mt_112 : (oMt 112).2.2.2.2.1 = 10 ∧ (oMt 112).2.2.2.2.2.1 = 2 ∧ (oMt 112).2.2.2.2.2.2.1 = false := by decide +kernel
theorem mt_113 : (oMt 113).2.2.2.2.1 = 10 ∧ (oMt 113).2.2.2.2.2.1 = 1 ∧ (oMt 113).2.2.2.2.2.2.1 = false := by decide +kernel
theorem mt_114 : (oMt 114).2.2.2.2.1 = 4 ∧ (oMt 114).2.2.2.2.2.1 = 2 ∧ (oMt 114).2.2.2.2.2.2.1 = false := by decide +kernel
theorem mt_115 : (oMt 115).2.2.2.2.1 = 4 ∧ (oMt 115).2.2.2.2.2.1 = 4 ∧ (oMt 115).2.2.2.2.2.2.1 = false := by decide +kernel
theorem mt_116 : (oMt 116).2.2.2.2.1 = 3 ∧ (oMt 116).2.2.2.2.2.1 = 2 ∧ (oMt 116).2.2.2.2.2.2.1 = false := by decide +kernel
theorem mt_117 : (oMt 117).2.2.2.2.1 = 10 ∧ (oMt 117).2.2.2.2.2.1 = 2 ∧ (oMt 117).2.2.2.2.2.2.1 = false := by decide +kernel
theorem mt_118 : (oMt 118).2.2.2.2.1 = 10 ∧ (oMt 118).2.2.2.2.2.1 = 0 ∧ (oMt 118).2.2.2.2.2.2.1 = false := by decide +kernel
theorem mt_119 : (oMt 119).2.2.2.2.1 = 10 ∧ (oMt 119).2.2.2.2.2.1 = 2 ∧ (oMt 119).2.2.2.2.2.2.1 = false := by decide +kernel
theorem mt_120 : (oMt 120).2.2.2.2.1 = 8 ∧ (oMt 120).2.2.2.2.2.1 = 1 ∧ (oMt 120).2.2.2.2.2.2.1 = false := by decide +kernel
theorem mt_121 : (oMt 121).2.2.2.2.1 = 8 ∧ (oMt 121).2.2.2.2.2.1 = 1 ∧ (oMt 121).2.2.2.2.2.2.1 = false := by decide +kernel
theorem mt_122 : (oMt 122).2.2.2.2.1 = 8 ∧ (oMt 122).2.2.2.2.2.1 = 1 ∧ (oMt 122).2.2.2.2.2.2.1 = false := by decide +kernel
theorem mt_123 : (oMt 123).2.2.2.2.1 = 8 ∧ (oMt 123).2.2.2.2.2.1 = 1 ∧ (oMt 123).2.2.2.2.2.2.1 = false := by decide +kernel
theorem mt_124 : (oMt 124).2.2.2.2.1 = 8 ∧ (oMt 124).2.2.2.2.2.1 = 2 ∧ (oMt 124).2.2.2.2.2.2.1 = false := by decide +kernel
theorem mt_125 : (oMt 125).2.2.2.2.1 = 8 ∧ (oMt 125).2.2.2.2.2.1 = 3 ∧ (oMt 125).2.2.2.2.2.2.1 = false := by decide +kernel
theorem mt_126 : (oMt 126).2.2.2.2.1 = 10 ∧ (oMt 126).2.2.2.2.2.1 = 0 ∧ (oMt 126).2.2.2.2.2.2.1 = false := by decide +kernel
theorem mt_127 : (oMt 127).2.2.2.2.1 = 1 ∧ (oMt 127).2.2.2.2.2.1 = 1 ∧ (oMt 127).2.2.2.2.2.2.1 = false := by decide +kernel
theorem mt_128 : (oMt 128).2.2.2.2.1 = 7 ∧ (oMt 128).2.2.2.2.2.1 = 1 ∧ (oMt 128).2.2.2.2.2.2.1 = false := by decide +kernel
theorem mt_129 : (oMt 129).2.2.2.2.1 = 10 ∧ (oMt 129).2.2.2.2.2.1 = 0 ∧ (oMt 129).2.2.2.2.2.2.1 = false := by decide +kernel
theorem mt_130 : (oMt 130).2.2.2.2.1 = 10 ∧ (oMt 130).2.2.2.2.2.1 = 1 ∧ (oMt 130).2.2.2.2.2.2.1 = false := by decide +kernel
theorem mt_131 : (oMt 131).2.2.2.2.1 = 10 ∧ (oMt 131).2.2.2.2.2.1 = 3 ∧ (oMt 131).2.2.2.2.2.2.1 = false := by decide +kernel
theorem mt_132 : (oMt 132).2.2.2.2.1 = 8 ∧ (oMt 132).2.2.2.2.2.1 = 3 ∧ (oMt 132).2.2.2.2.2.2.1 = false := by decide +kernel
theorem mt_133 : (oMt 133).2.2.2.2.2.1 = 4 ∧ (oMt 133).2.2.2.2.2.2.1 = true := by decide +kernel
theorem mt_134 : (oMt 134).2.2.2.2.2.1 = 3 ∧ (oMt 134).2.2.2.2.2.2.1 = true := by decide +kernel
theorem mt_135 : (oMt 135).2.2.2.2.1 = 10 ∧ (oMt 135).2.2.2.2.2.1 = 3 ∧ (oMt 135).2.2.2.2.2.2.1 = false := by decide +kernel
theorem mt_136 : (oMt 136).2.2.2.2.1 = 8 ∧ (oMt 136).2.2.2.2.2.1 = 3 ∧ (oMt 136).2.2.2.2.2.2.1 = false := by decide +kernel
theorem mt_137 : (oMt 137).2.2.2.2.2.1 = 2 ∧ (oMt 137).2.2.2.2.2.2.1 = true := by decide +kernel
theorem mt_138 : (oMt 138).2.2.2.2.1 = 10 ∧ (oMt 138).2.2.2.2.2.1 = 2 ∧ (oMt 138).2.2.2.2.2.2.1 = false := by decide +kernel
theorem mt_139 : (oMt 139).2.2.2.2.1 = 10 ∧ (oMt 139).2.2.2.2.2.1 = 5 ∧ (oMt 139).2.2.2.2.2.2.1 = false := by decide +kernel
theorem mt_140 : (oMt 140).2.2.2.2.1 = 8 ∧ (oMt 140).2.2.2.2.2.1 = 5 ∧ (oMt 140).2.2.2.2.2.2.1 = false := by decide +kernel
theorem mt_141 : (oMt 141).2.2.2.2.1 = 11 ∧ (oMt 141).2.2.2.2.2.1 = 0 ∧ (oMt 141).2.2.2.2.2.2.1 = false := by decide +kernel
theorem mt_142 : (oMt 142).2.2.2.2.1 = 11 ∧ (oMt 142).2.2.2.2.2.1 = 0 ∧ (oMt 142).2.2.2.2.2.2.1 = false := by decide +kernel
theorem mt_143 : (oMt 143).2.2.2.2.1 = 11 ∧ (oMt 143).2.2.2.2.2.1 = 3 ∧ (oMt 143).2.2.2.2.2.2.1 = false := by decide +kernel
theorem mt_144 : (oMt 144).2.2.2.2.1 = 11 ∧ (oMt 144).2.2.2.2.2.1 = 2 ∧ (oMt 144).2.2.2.2.2.2.1 = false := by decide +kernel
theorem mt_145 : (oMt 145).2.2.2.2.1 = 11 ∧ (oMt 145).2.2.2.2.2.1 = 1 ∧ (oMt 145).2.2.2.2.2.2.1 = false := by decide +kernel
theorem mt_146 : (oMt 146).2.2.2.2.2.1 = 3 ∧ (oMt 146).2.2.2.2.2.2.1 = true := by decide +kernel
theorem mt_147 : (oMt 147).2.2.2.2.1 = 11 ∧ (oMt 147).2.2.2.2.2.1 = 2 ∧ (oMt 147).2.2.2.2.2.2.1 = false := by decide +kernel
theorem mt_148 : (oMt 148).2.2.2.2.1 = 11 ∧ (oMt 148).2.2.2.2.2.1 = 3 ∧ (oMt 148).2.2.2.2.2.2.1 = false := by decide +kernel
theorem mt_149 : (oMt 149).2.2.2.2.1 = 11 ∧ (oMt 149).2.2.2.2.2.1 = 1 ∧ (oMt 149).2.2.2.2.2.2.1 = false := by decide +kernel
theorem mt_150 : (oMt 150).2.2.2.2.1 = 11 ∧ (oMt 150).2.2.2.2.2.1 = 1 ∧ (oMt 150).2.2.2.2.2.2.1 = false := by decide +kernel
theorem mt_151 : (oMt 151).2.2.2.2.1 = 11 ∧ (oMt 151).2.2.2.2.2.1 = 2 ∧ (oMt 151).2.2.2.2.2.2.1 = false := by decide +kernel
theorem mt_152 : (oMt 152).2.2.2.2.1 = 11 ∧ (oMt 152).2.2.2.2.2.1 = 2 ∧ (oMt 152).2.2.2.2.2.2.1 = false := by decide +kernel
theorem mt_153 : (oMt 153).2.2.2.2.1 = 11 ∧ (oMt 153).2.2.2.2.2.1 = 2 ∧ (oMt 153).2.2.2.2.2.2.1 = false := by decide +kernel
theorem mt_154 : (oMt 154).2.2.2.2.1 = 11 ∧ (oMt 154).2.2.2.2.2.1 = 2 ∧ (oMt 154).2.2.2.2.2.2.1 = false := by decide +kernel
theorem mt_155 : (oMt 155).2.2.2.2.1 = 11 ∧ (oMt 155).2.2.2.2.2.1 = 0 ∧ (oMt 155).2.2.2.2.2.2.1 = false := by decide +kernel
theorem mt_156 : (oMt 156).2.2.2.2.1 = 11 ∧ (oMt 156).2.2.2.2.2.1 = 1 ∧ (oMt 156).2.2.2.2.2.2.1 = false := by decide +kernel
theorem mt_157 : (oMt 157).2.2.2.2.2.1 = 2 ∧ (oMt 157).2.2.2.2.2.2.1 = true := by decide +kernel
theorem mt_158 : (oMt 158).2.2.2.2.1 = 11 ∧ (oMt 158).2.2.2.2.2.1 = 1 ∧ (oMt 158).2.2.2.2.2.2.1 = false := by decide +kernel
theorem mt_159 : (oMt 159).2.2.2.2.1 = 11 ∧ (oMt 159).2.2.2.2.2.1 = 2 ∧ (oMt 159).2.2.2.2.2.2.1 = false := by decide +kernel
theorem mt_160 : (oMt 160).2.2.2.2.1 = 11 ∧ (oMt 160).2.2.2.2.2.1 = 3 ∧ (oMt 160).2.2.2.2.2.2.1 = false := by decide +kernel
theorem mt_161 : (oMt 161).2.2.2.2.1 = 11 ∧ (oMt 161).2.2.2.2.2.1 = 1 ∧ (oMt 161).2.2.2.2.2.2.1 = false := by decide +kernel
theorem mt_162 : (oMt 162).2.2.2.2.1 = 11 ∧ (oMt 162).2.2.2.2.2.1 = 0 ∧ (oMt 162).2.2.2.2.2.2.1 = false := by decide +kernel
theorem mt_163 : (oMt 163).2.2.2.2.1 = 11 ∧ (oMt 163).2.2.2.2.2.1 = 1 ∧ (oMt 163).2.2.2.2.2.2.1 = false := by decide +kernel
theorem mt_164 : (oMt 164).2.2.2.2.1 = 11 ∧ (oMt 164).2.2.2.2.2.1 = 2 ∧ (oMt 164).2.2.2.2.2.2.1 = false := by decide +kernel
theorem mt_165 : (oMt 165).2.2.2.2.1 = 11 ∧ (oMt 165).2.2.2.2.2.1 = 1 ∧ (oMt 165).2.2.2.2.2.2.1 = false := by decide +kernel
theorem mt_166 : (oMt 166).2.2.2.2.1 = 11 ∧ (oMt 166).2.2.2.2.2.1 = 1 ∧ (oMt 166).2.2.2.2.2.2.1 = false := by decide +kernel
theorem mt_167 : (oMt 167).2.2.2.2.1 = 11 ∧ (oMt 167).2.2.2.2.2.1 = 0 ∧ (oMt 167).2.2.2.2.2.2.1 = false := by decide +kernel
theorem mt_168 : (oMt 168).2.2.2.2.1 = 11 ∧ (oMt 168).2.2.2.2.2.1 = 0 ∧ (oMt 168).2.2.2.2.2.2.1 = false := by decide +kernel
theorem mt_169 : (oMt 169).2.2.2.2.1 = 11 ∧ (oMt 169).2.2.2.2.2.1 = 2 ∧ (oMt 169).2.2.2.2.2.2.1 = false := by decide +kernel
theorem mt_170 : (oMt 170).2.2.2.2.1 = 11 ∧ (oMt 170).2.2.2.2.2.1 = 1 ∧ (oMt 170).2.2.2.2.2.2.1 = false := by decide +kernel
theorem mt_171 : (oMt 171).2.2.2.2.1 = 11 ∧ (oMt 171).2.2.2.2.2.1 = 1 ∧ (oMt 171).2.2.2.2.2.2.1 = false := by decide +kernel
theorem mt_172 : (oMt 172).2.2.2.2.1 = 11 ∧ (oMt 172).2.2.2.2.2.1 = 1 ∧ (oMt 172).2.2.2.2.2.2.1 = false := by decide +kernel
theorem mt_173 : (oMt 173).2.2.2.2.1 = 11 ∧ (oMt 173).2.2.2.2.2.1 = 1 ∧ (oMt 173).2.2.2.2.2.2.1 = false := by decide +kernel
theorem mt_174 : (oMt 174).2.2.2.2.1 = 11 ∧ (oMt 174).2.2.2.2.2.1 = 2 ∧ (oMt 174).2.2.2.2.2.2.1 = false := by decide +kernel
theorem mt_175 : (oMt 175).2.2.2.2.1 = 11 ∧ (oMt 175).2.2.2.2.2.1 = 1 ∧ (oMt 175).2.2.2.2.2.2.1 = false := by decide +kernel
theorem mt_176 : (oMt 176).2.2.2.2.1 = 11 ∧ (oMt 176).2.2.2.2.2.1 = 2 ∧ (oMt 176).2.2.2.2.2.2.1 = false := by decide +kernel
theorem mt_177 : (oMt 177).2.2.2.2.1 = 11 ∧ (oMt 177).2.2.2.2.2.1 = 0 ∧ (oMt 177).2.2.2.2.2.2.1 = false := by decide +kernel
theorem mt_178 : (oMt 178).2.2.2.2.1 = 11 ∧ (oMt 178).2.2.2.2.2.1 = 1 ∧ (oMt 178).2.2.2.2.2.2.1 = false := by decide +kernel
theorem mt_179 : (oMt 179).2.2.2.2.1 = 11 ∧ (oMt 179).2.2.2.2.2.1 = 2 ∧ (oMt 179).2.2.2.2.2.2.1 = false := by decide +kernel
theorem mt_180 : (oMt 180).2.2.2.2.1 = 11 ∧ (oMt 180).2.2.2.2.2.1 = 0 ∧ (oMt 180).2.2.2.2.2.2.1 = false := by decide +kernel
theorem mt_181 : (oMt 181).2.2.2.2.1 = 11 ∧ (oMt 181).2.2.2.2.2.1 = 0 ∧ (oMt 181).2.2.2.2.2.2.1 = false := by decide +kernel
theorem mt_182 : (oMt 182).2.2.2.2.2.1 = 2 ∧ (oMt 182).2.2.2.2.2.2.1 = true := by decide +kernel
theorem mt_183 : (oMt 183).2.2.2.2.1 = 11 ∧ (oMt 183).2.2.2.2.2.1 = 1 ∧ (oMt 183).2.2.2.2.2.2.1 = false := by decide +kernel
theorem mt_184 : (oMt 184).2.2.2.2.1 = 11 ∧ (oMt 184).2.2.2.2.2.1 = 1 ∧ (oMt 184).2.2.2.2.2.2.1 = false := by decide +kernel
theorem mt_185 : (oMt 185).2.2.2.2.1 = 11 ∧ (oMt 185).2.2.2.2.2.1 = 2 ∧ (oMt 185).2.2.2.2.2.2.1 = false := by decide +kernel
theorem mt_186 : (oMt 186).2.2.2.2.1 = 11 ∧ (oMt 186).2.2.2.2.2.1 = 0 ∧ (oMt 186).2.2.2.2.2.2.1 = false := by decide +kernel
theorem mt_187 : (oMt 187).2.2.2.2.1 = 11 ∧ (oMt 187).2.2.2.2.2.1 = 0 ∧ (oMt 187).2.2.2.2.2.2.1 = false := by decide +kernel
theorem mt_188 : (oMt 188).2.2.2.2.2.1 = 1 ∧ (oMt 188).2.2.2.2.2.2.1 = true := by decide +kernel
theorem mt_189 : (oMt 189).2.2.2.2.1 = 11 ∧ (oMt 189).2.2.2.2.2.1 = 1 ∧ (oMt 189).2.2.2.2.2.2.1 = false := by decide +kernel
theorem mt_190 : (oMt 190).2.2.2.2.1 = 11 ∧ (oMt 190).2.2.2.2.2.1 = 0 ∧ (oMt 190).2.2.2.2.2.2.1 = false := by decide +kernel
theorem mt_191 : (oMt 191).2.2.2.2.1 = 11 ∧ (oMt 191).2.2.2.2.2.1 = 1 ∧ (oMt 191).2.2.2.2.2.2.1 = false := by decide +kernel
theorem mt_192 : (oMt 192).2.2.2.2.1 = 11 ∧ (oMt 192).2.2.2.2.2.1 = 1 ∧ (oMt 192).2.2.2.2.2.2.1 = false := by decide +kernel
theorem mt_193 : (oMt 193).2.2.2.2.1 = 11 ∧ (oMt 193).2.2.2.2.2.1 = 0 ∧ (oMt 193).2.2.2.2.2.2.1 = false := by decide +kernel
theorem mt_194 : (oMt 194).2.2.2.2.1 = 11 ∧ (oMt 194).2.2.2.2.2.1 = 1 ∧ (oMt 194).2.2.2.2.2.2.1 = false := by decide +kernel
theorem mt_195 : (oMt 195).2.2.2.2.1 = 11 ∧ (oMt 195).2.2.2.2.2.1 = 1 ∧ (oMt 195).2.2.2.2.2.2.1 = false := by decide +kernel
theorem mt_196 : (oMt 196).2.2.2.2.1 = 11 ∧ (oMt 196).2.2.2.2.2.1 = 1 ∧ (oMt 196).2.2.2.2.2.2.1 = false := by decide +kernel
theorem mt_197 : (oMt 197).2.2.2.2.1 = 11 ∧ (oMt 197).2.2.2.2.2.1 = 2 ∧ (oMt 197).2.2.2.2.2.2.1 = false := by decide +kernel
theorem mt_198 : (oMt 198).2.2.2.2.1 = 11 ∧ (oMt 198).2.2.2.2.2.1 = 0 ∧ (oMt 198).2.2.2.2.2.2.1 = false := by decide +kernel
theorem mt_199 : (oMt 199).2.2.2.2.1 = 11 ∧ (oMt 199).2.2.2.2.2.1 = 1 ∧ (oMt 199).2.2.2.2.2.2.1 = false := by decide +kernel
theorem mt_200 : (oMt 200).2.2.2.2.1 = 11 ∧ (oMt 200).2.2.2.2.2.1 = 1 ∧ (oMt 200).2.2.2.2.2.2.1 = false := by decide +kernel
theorem mt_201 : (oMt 201).2.2.2.2.1 = 11 ∧ (oMt 201).2.2.2.2.2.1 = 2 ∧ (oMt 201).2.2.2.2.2.2.1 = false := by decide +kernel
theorem mt_202 : (oMt 202).2.2.2.2.1 = 11 ∧ (oMt 202).2.2.2.2.2.1 = 4 ∧ (oMt 202).2.2.2.2.2.2.1 = false := by decide +kernel
theorem mt_203 : (oMt 203).2.2.2.2.1 = 11 ∧ (oMt 203).2.2.2.2.2.1 = 3 ∧ (oMt 203).2.2.2.2.2.2.1 = false := by decide +kernel
theorem mt_204 : (oMt 204).2.2.2.2.1 = 11 ∧ (oMt 204).2.2.2.2.2.1 = 0 ∧ (oMt 204).2.2.2.2.2.2.1 = false := by decide +kernel
theorem mt_205 : (oMt 205).2.2.2.2.1 = 11 ∧ (oMt 205).2.2.2.2.2.1 = 3 ∧ (oMt 205).2.2.2.2.2.2.1 = false := by decide +kernel
theorem mt_206 : (oMt 206).2.2.2.2.2.1 = 3 ∧ (oMt 206).2.2.2.2.2.2.1 = true := by decide +kernel
theorem mt_207 : (oMt 207).2.2.2.2.2.1 = 2 ∧ (oMt 207).2.2.2.2.2.2.1 = true := by decide +kernel
theorem mt_208 : (oMt 208).2.2.2.2.1 = 11 ∧ (oMt 208).2.2.2.2.2.1 = 1 ∧ (oMt 208).2.2.2.2.2.2.1 = false := by decide +kernel
theorem mt_209 : (oMt 209).2.2.2.2.1 = 11 ∧ (oMt 209).2.2.2.2.2.1 = 2 ∧ (oMt 209).2.2.2.2.2.2.1 = false := by decide +kernel
theorem mt_210 : (oMt 210).2.2.2.2.1 = 11 ∧ (oMt 210).2.2.2.2.2.1 = 1 ∧ (oMt 210).2.2.2.2.2.2.1 = false := by decide +kernel
theorem mt_211 : (oMt 211).2.2.2.2.1 = 11 ∧ (oMt 211).2.2.2.2.2.1 = 0 ∧ (oMt 211).2.2.2.2.2.2.1 = false := by decide +kernel
theorem mt_212 : (oMt 212).2.2.2.2.1 = 11 ∧ (oMt 212).2.2.2.2.2.1 = 2 ∧ (oMt 212).2.2.2.2.2.2.1 = false := by decide +kernel
theorem mt_213 : (oMt 213).2.2.2.2.1 = 11 ∧ (oMt 213).2.2.2.2.2.1 = 0 ∧ (oMt 213).2.2.2.2.2.2.1 = false := by decide +kernel
theorem mt_214 : (oMt 214).2.2.2.2.1 = 11 ∧ (oMt 214).2.2.2.2.2.1 = 2 ∧ (oMt 214).2.2.2.2.2.2.1 = false := by decide +kernel
theorem mt_215 : (oMt 215).2.2.2.2.1 = 11 ∧ (oMt 215).2.2.2.2.2.1 = 0 ∧ (oMt 215).2.2.2.2.2.2.1 = false := by decide +kernel
theorem mt_216 : (oMt 216).2.2.2.2.1 = 11 ∧ (oMt 216).2.2.2.2.2.1 = 2 ∧ (oMt 216).2.2.2.2.2.2.1 = false := by decide +kernel
theorem mt_217 : (oMt 217).2.2.2.2.2.1 = 1 ∧ (oMt 217).2.2.2.2.2.2.1 = true := by decide +kernel
theorem mt_218 : (oMt 218).2.2.2.2.1 = 11 ∧ (oMt 218).2.2.2.2.2.1 = 0 ∧ (oMt 218).2.2.2.2.2.2.1 = false := by decide +kernel
theorem mt_219 : (oMt 219).2.2.2.2.1 = 11 ∧ (oMt 219).2.2.2.2.2.1 = 0 ∧ (oMt 219).2.2.2.2.2.2.1 = false := by decide +kernel
theorem mt_220 : (oMt 220).2.2.2.2.1 = 11 ∧ (oMt 220).2.2.2.2.2.1 = 1 ∧ (oMt 220).2.2.2.2.2.2.1 = false := by decide +kernel
theorem mt_221 : (oMt 221).2.2.2.2.1 = 11 ∧ (oMt 221).2.2.2.2.2.1 = 3 ∧ (oMt 221).2.2.2.2.2.2.1 = false := by decide +kernel
theorem mt_222 : (oMt 222).2.2.2.2.1 = 11 ∧ (oMt 222).2.2.2.2.2.1 = 3 ∧ (oMt 222).2.2.2.2.2.2.1 = false := by decide +kernel
theorem mt_223 : (oMt 223).2.2.2.2.2.1 = 2 ∧ (oMt 223).2.2.2.2.2.2.1 = true := by decide +kernel
theorem mt_224 : (oMt 224).2.2.2.2.1 = 11 ∧ (oMt 224).2.2.2.2.2.1 = 2 ∧ (oMt 224).2.2.2.2.2.2.1 = false := by decide +kernel
theorem mt_225 : (oMt 225).2.2.2.2.1 = 11 ∧ (oMt 225).2.2.2.2.2.1 = 5 ∧ (oMt 225).2.2.2.2.2.2.1 = false := by decide +kernel
