/-! the law's loop (by program) -/
def μL_law : Mt := (x, code, 4, ret)
theorem lk_L_102 : Cond.methodLink μL_law.1.cls 102 μX9_hermits.1 ∈ gtb := gm 1755 (by decide +kernel) rfl
theorem lk_L_103 : Cond.methodLink μL_law.1.cls 103 μX8_cut.1 ∈ gtb := gm 1070 (by decide +kernel) rfl
theorem lk_L_106 : Cond.methodLink μL_law.1.cls 106 μX9_cut.1 ∈ gtb := gm 1720 (by decide +kernel) rfl
theorem lk_L_107 : Cond.methodLink μL_law.1.cls 107 μX8_ring.1 ∈ gtb := gm 1080 (by decide +kernel) rfl
theorem lk_L_110 : Cond.methodLink μL_law.1.cls 110 μX9_ring.1 ∈ gtb := gm 1759 (by decide +kernel) rfl
theorem lk_L_111 : Cond.methodLink μL_law.1.cls 111 μX8_save.1 ∈ gtb := gm 973 (by decide +kernel) rfl
theorem lk_L_114 : Cond.methodLink μL_law.1.cls 114 μX9_save.1 ∈ gtb := gm 1770 (by decide +kernel) rfl
theorem lk_L_115 : Cond.methodLink μL_law.1.cls 115 μX8_boost.1 ∈ gtb := gm 981 (by decide +kernel) rfl
theorem lk_L_118 : Cond.methodLink μL_law.1.cls 118 μX9_boost.1 ∈ gtb := gm 1774 (by decide +kernel) rfl
theorem lk_L_119 : Cond.methodLink μL_law.1.cls 119 μX8_pricks.1 ∈ gtb := gm 989 (by decide +kernel) rfl
theorem lk_L_122 : Cond.methodLink μL_law.1.cls 122 μX9_pricks.1 ∈ gtb := gm 1778 (by decide +kernel) rfl
theorem lk_L_123 : Cond.methodLink μL_law.1.cls 123 μX8_thirds.1 ∈ gtb := gm 838 (by decide +kernel) rfl
theorem lk_L_126 : Cond.methodLink μL_law.1.cls 126 μX9_thirds.1 ∈ gtb := gm 1794 (by decide +kernel) rfl
theorem lk_L_127 : Cond.methodLink μL_law.1.cls 127 μX8_sleepers.1 ∈ gtb := gm 842 (by decide +kernel) rfl
theorem lk_L_13 : Cond.methodLink μL_law.1.cls 13 μX8_feed.1 ∈ gtb := gm 465 (by decide +kernel) rfl
theorem lk_L_130 : Cond.methodLink μL_law.1.cls 130 μX9_sleepers.1 ∈ gtb := gm 1798 (by decide +kernel) rfl
theorem lk_L_131 : Cond.methodLink μL_law.1.cls 131 μX8_king.1 ∈ gtb := gm 846 (by decide +kernel) rfl
theorem lk_L_134 : Cond.methodLink μL_law.1.cls 134 μX9_king.1 ∈ gtb := gm 1802 (by decide +kernel) rfl
theorem lk_L_135 : Cond.methodLink μL_law.1.cls 135 μX8_restless.1 ∈ gtb := gm 850 (by decide +kernel) rfl
theorem lk_L_138 : Cond.methodLink μL_law.1.cls 138 μX9_restless.1 ∈ gtb := gm 1806 (by decide +kernel) rfl
theorem lk_L_139 : Cond.methodLink μL_law.1.cls 139 μX8_brides.1 ∈ gtb := gm 854 (by decide +kernel) rfl
theorem lk_L_142 : Cond.methodLink μL_law.1.cls 142 μX9_brides.1 ∈ gtb := gm 1810 (by decide +kernel) rfl
theorem lk_L_143 : Cond.methodLink μL_law.1.cls 143 μX8_acres.1 ∈ gtb := gm 858 (by decide +kernel) rfl
theorem lk_L_146 : Cond.methodLink μL_law.1.cls 146 μX9_acres.1 ∈ gtb := gm 1814 (by decide +kernel) rfl
theorem lk_L_147 : Cond.methodLink μL_law.1.cls 147 μX8_law.1 ∈ gtb := gm 862 (by decide +kernel) rfl
theorem lk_L_150 : Cond.methodLink μL_law.1.cls 150 μX9_law.1 ∈ gtb := gm 1818 (by decide +kernel) rfl
theorem lk_L_151 : Cond.methodLink μL_law.1.cls 151 μX8_aunts.1 ∈ gtb := gm 869 (by decide +kernel) rfl
theorem lk_L_154 : Cond.methodLink μL_law.1.cls 154 μX9_aunts.1 ∈ gtb := gm 1822 (by decide +kernel) rfl
theorem lk_L_155 : Cond.methodLink μL_law.1.cls 155 μX8_odds.1 ∈ gtb := gm 1011 (by decide +kernel) rfl
theorem lk_L_158 : Cond.methodLink μL_law.1.cls 158 μX9_odds.1 ∈ gtb := gm 1826 (by decide +kernel) rfl
theorem lk_L_159 : Cond.methodLink μL_law.1.cls 159 μX8_lies.1 ∈ gtb := gm 1092 (by decide +kernel) rfl
theorem lk_L_162 : Cond.methodLink μL_law.1.cls 162 μX9_lies.1 ∈ gtb := gm 1833 (by decide +kernel) rfl
theorem lk_L_163 : Cond.methodLink μL_law.1.cls 163 μX8_seen.1 ∈ gtb := gm 1096 (by decide +kernel) rfl
theorem lk_L_167 : Cond.methodLink μL_law.1.cls 167 μX9_seen.1 ∈ gtb := gm 1837 (by decide +kernel) rfl
theorem lk_L_168 : Cond.methodLink μL_law.1.cls 168 μX8_untell.1 ∈ gtb := gm 1104 (by decide +kernel) rfl
theorem lk_L_17 : Cond.methodLink μL_law.1.cls 17 μX9_feed.1 ∈ gtb := gm 1357 (by decide +kernel) rfl
theorem lk_L_172 : Cond.methodLink μL_law.1.cls 172 μX9_untell.1 ∈ gtb := gm 1841 (by decide +kernel) rfl
theorem lk_L_173 : Cond.methodLink μL_law.1.cls 173 μX8_later.1 ∈ gtb := gm 1112 (by decide +kernel) rfl
theorem lk_L_176 : Cond.methodLink μL_law.1.cls 176 μX9_later.1 ∈ gtb := gm 1845 (by decide +kernel) rfl
theorem lk_L_177 : Cond.methodLink μL_law.1.cls 177 μX8_fits.1 ∈ gtb := gm 1117 (by decide +kernel) rfl
theorem lk_L_18 : Cond.methodLink μL_law.1.cls 18 μX8_end.1 ∈ gtb := gm 473 (by decide +kernel) rfl
theorem lk_L_180 : Cond.methodLink μL_law.1.cls 180 μX9_fits.1 ∈ gtb := gm 1850 (by decide +kernel) rfl
theorem lk_L_181 : Cond.methodLink μL_law.1.cls 181 μX8_sure.1 ∈ gtb := gm 1135 (by decide +kernel) rfl
theorem lk_L_184 : Cond.methodLink μL_law.1.cls 184 μX9_sure.1 ∈ gtb := gm 1862 (by decide +kernel) rfl
theorem lk_L_185 : Cond.methodLink μL_law.1.cls 185 μX8_ask.1 ∈ gtb := gm 1147 (by decide +kernel) rfl
theorem lk_L_188 : Cond.methodLink μL_law.1.cls 188 μX9_ask.1 ∈ gtb := gm 1866 (by decide +kernel) rfl
theorem lk_L_189 : Cond.methodLink μL_law.1.cls 189 μX8_image.1 ∈ gtb := gm 938 (by decide +kernel) rfl
theorem lk_L_192 : Cond.methodLink μL_law.1.cls 192 μX9_image.1 ∈ gtb := gm 1874 (by decide +kernel) rfl
theorem lk_L_193 : Cond.methodLink μL_law.1.cls 193 μX8_back.1 ∈ gtb := gm 943 (by decide +kernel) rfl
theorem lk_L_196 : Cond.methodLink μL_law.1.cls 196 μX9_back.1 ∈ gtb := gm 1881 (by decide +kernel) rfl
theorem lk_L_197 : Cond.methodLink μL_law.1.cls 197 μX8_about.1 ∈ gtb := gm 1156 (by decide +kernel) rfl
theorem lk_L_200 : Cond.methodLink μL_law.1.cls 200 μX9_about.1 ∈ gtb := gm 1885 (by decide +kernel) rfl
theorem lk_L_22 : Cond.methodLink μL_law.1.cls 22 μX9_end.1 ∈ gtb := gm 1365 (by decide +kernel) rfl
theorem lk_L_23 : Cond.methodLink μL_law.1.cls 23 μX8_shire.1 ∈ gtb := gm 477 (by decide +kernel) rfl
theorem lk_L_27 : Cond.methodLink μL_law.1.cls 27 μX9_shire.1 ∈ gtb := gm 1369 (by decide +kernel) rfl
theorem lk_L_28 : Cond.methodLink μL_law.1.cls 28 μX8_fault.1 ∈ gtb := gm 781 (by decide +kernel) rfl
theorem lk_L_31 : Cond.methodLink μL_law.1.cls 31 μX9_fault.1 ∈ gtb := gm 1573 (by decide +kernel) rfl
theorem lk_L_32 : Cond.methodLink μL_law.1.cls 32 μX8_lord.1 ∈ gtb := gm 785 (by decide +kernel) rfl
theorem lk_L_36 : Cond.methodLink μL_law.1.cls 36 μX9_lord.1 ∈ gtb := gm 1577 (by decide +kernel) rfl
theorem lk_L_37 : Cond.methodLink μL_law.1.cls 37 μX8_corner.1 ∈ gtb := gm 819 (by decide +kernel) rfl
theorem lk_L_40 : Cond.methodLink μL_law.1.cls 40 μX9_corner.1 ∈ gtb := gm 1613 (by decide +kernel) rfl
theorem lk_L_41 : Cond.methodLink μL_law.1.cls 41 μX8_wall.1 ∈ gtb := gm 824 (by decide +kernel) rfl
theorem lk_L_44 : Cond.methodLink μL_law.1.cls 44 μX9_wall.1 ∈ gtb := gm 1620 (by decide +kernel) rfl
theorem lk_L_45 : Cond.methodLink μL_law.1.cls 45 μX8_season.1 ∈ gtb := gm 873 (by decide +kernel) rfl
theorem lk_L_48 : Cond.methodLink μL_law.1.cls 48 μX9_season.1 ∈ gtb := gm 1632 (by decide +kernel) rfl
theorem lk_L_49 : Cond.methodLink μL_law.1.cls 49 μX8_flip.1 ∈ gtb := gm 899 (by decide +kernel) rfl
theorem lk_L_52 : Cond.methodLink μL_law.1.cls 52 μX9_flip.1 ∈ gtb := gm 1664 (by decide +kernel) rfl
theorem lk_L_53 : Cond.methodLink μL_law.1.cls 53 μX8_pop.1 ∈ gtb := gm 904 (by decide +kernel) rfl
theorem lk_L_56 : Cond.methodLink μL_law.1.cls 56 μX9_pop.1 ∈ gtb := gm 1668 (by decide +kernel) rfl
theorem lk_L_57 : Cond.methodLink μL_law.1.cls 57 μX8_gift.1 ∈ gtb := gm 913 (by decide +kernel) rfl
theorem lk_L_60 : Cond.methodLink μL_law.1.cls 60 μX9_gift.1 ∈ gtb := gm 1676 (by decide +kernel) rfl
theorem lk_L_61 : Cond.methodLink μL_law.1.cls 61 μX8_undo.1 ∈ gtb := gm 918 (by decide +kernel) rfl
theorem lk_L_65 : Cond.methodLink μL_law.1.cls 65 μX9_undo.1 ∈ gtb := gm 1680 (by decide +kernel) rfl
theorem lk_L_66 : Cond.methodLink μL_law.1.cls 66 μX8_redo.1 ∈ gtb := gm 930 (by decide +kernel) rfl
theorem lk_L_69 : Cond.methodLink μL_law.1.cls 69 μX9_redo.1 ∈ gtb := gm 1688 (by decide +kernel) rfl
theorem lk_L_70 : Cond.methodLink μL_law.1.cls 70 μX8_will.1 ∈ gtb := gm 948 (by decide +kernel) rfl
theorem lk_L_74 : Cond.methodLink μL_law.1.cls 74 μX9_will.1 ∈ gtb := gm 1692 (by decide +kernel) rfl
theorem lk_L_75 : Cond.methodLink μL_law.1.cls 75 μX8_sides.1 ∈ gtb := gm 961 (by decide +kernel) rfl
theorem lk_L_78 : Cond.methodLink μL_law.1.cls 78 μX9_sides.1 ∈ gtb := gm 1700 (by decide +kernel) rfl
theorem lk_L_79 : Cond.methodLink μL_law.1.cls 79 μX8_left.1 ∈ gtb := gm 965 (by decide +kernel) rfl
theorem lk_L_82 : Cond.methodLink μL_law.1.cls 82 μX9_left.1 ∈ gtb := gm 1704 (by decide +kernel) rfl
theorem lk_L_83 : Cond.methodLink μL_law.1.cls 83 μX8_ending.1 ∈ gtb := gm 969 (by decide +kernel) rfl
theorem lk_L_86 : Cond.methodLink μL_law.1.cls 86 μX9_ending.1 ∈ gtb := gm 1708 (by decide +kernel) rfl
theorem lk_L_87 : Cond.methodLink μL_law.1.cls 87 μX8_far.1 ∈ gtb := gm 1018 (by decide +kernel) rfl
theorem lk_L_90 : Cond.methodLink μL_law.1.cls 90 μX9_far.1 ∈ gtb := gm 1712 (by decide +kernel) rfl
theorem lk_L_91 : Cond.methodLink μL_law.1.cls 91 μX8_banners.1 ∈ gtb := gm 1028 (by decide +kernel) rfl
theorem lk_L_94 : Cond.methodLink μL_law.1.cls 94 μX9_banners.1 ∈ gtb := gm 1724 (by decide +kernel) rfl
theorem lk_L_95 : Cond.methodLink μL_law.1.cls 95 μX8_peace.1 ∈ gtb := gm 1050 (by decide +kernel) rfl
theorem lk_L_98 : Cond.methodLink μL_law.1.cls 98 μX9_peace.1 ∈ gtb := gm 1739 (by decide +kernel) rfl
theorem lk_L_99 : Cond.methodLink μL_law.1.cls 99 μX8_hermits.1 ∈ gtb := gm 1062 (by decide +kernel) rfl
theorem dL_law_0 : decode μL_law.2.1 0 = .ok (.new 7, 3) := by decide +kernel
theorem dL_law_3 : decode μL_law.2.1 3 = .ok (.dup, 1) := by decide +kernel
theorem dL_law_4 : decode μL_law.2.1 4 = .ok (.invokespecial 9, 3) := by decide +kernel
theorem dL_law_7 : decode μL_law.2.1 7 = .ok (.astore_n 1, 1) := by decide +kernel
theorem dL_law_8 : decode μL_law.2.1 8 = .ok (.new 10, 3) := by decide +kernel
theorem dL_law_11 : decode μL_law.2.1 11 = .ok (.dup, 1) := by decide +kernel
theorem dL_law_12 : decode μL_law.2.1 12 = .ok (.invokespecial 12, 3) := by decide +kernel
theorem dL_law_15 : decode μL_law.2.1 15 = .ok (.astore_n 2, 1) := by decide +kernel
theorem dL_law_16 : decode μL_law.2.1 16 = .ok (.iconst 0, 1) := by decide +kernel
theorem dL_law_17 : decode μL_law.2.1 17 = .ok (.istore_n 3, 1) := by decide +kernel
theorem dL_law_18 : decode μL_law.2.1 18 = .ok (.iload_n 3, 1) := by decide +kernel
theorem dL_law_19 : decode μL_law.2.1 19 = .ok (.aload_n 0, 1) := by decide +kernel
theorem dL_law_20 : decode μL_law.2.1 20 = .ok (.arraylength, 1) := by decide +kernel
theorem dL_law_21 : decode μL_law.2.1 21 = .ok (.bipush 6, 2) := by decide +kernel
theorem dL_law_23 : decode μL_law.2.1 23 = .ok (.isub, 1) := by decide +kernel
theorem dL_law_24 : decode μL_law.2.1 24 = .ok (.if_icmp .gt 1401, 3) := by decide +kernel
theorem dL_law_27 : decode μL_law.2.1 27 = .ok (.aload_n 0, 1) := by decide +kernel
theorem dL_law_28 : decode μL_law.2.1 28 = .ok (.iload_n 3, 1) := by decide +kernel
theorem dL_law_29 : decode μL_law.2.1 29 = .ok (.iaload, 1) := by decide +kernel
theorem dL_law_30 : decode μL_law.2.1 30 = .ok (.bipush 63, 2) := by decide +kernel
theorem dL_law_32 : decode μL_law.2.1 32 = .ok (.iand, 1) := by decide +kernel
theorem dL_law_33 : decode μL_law.2.1 33 = .ok (.tableswitch 1386 0 44 #[195, 258, 281, 294, 317, 350, 383, 416, 429, 462, 495, 528, 541, 554, 597, 630, 653, 676, 709, 722, 735, 758, 801, 824, 857, 900, 933, 946, 959, 972, 985, 998, 1011, 1034, 1067, 1100, 1123, 1182, 1205, 1228, 1251, 1284, 1317, 1340, 1363], 195) := by decide +kernel
theorem dL_law_228 : decode μL_law.2.1 228 = .ok (.aload_n 1, 1) := by decide +kernel
theorem dL_law_229 : decode μL_law.2.1 229 = .ok (.aload_n 0, 1) := by decide +kernel
theorem dL_law_230 : decode μL_law.2.1 230 = .ok (.iload_n 3, 1) := by decide +kernel
theorem dL_law_231 : decode μL_law.2.1 231 = .ok (.iconst 1, 1) := by decide +kernel
theorem dL_law_232 : decode μL_law.2.1 232 = .ok (.iadd, 1) := by decide +kernel
theorem dL_law_233 : decode μL_law.2.1 233 = .ok (.iaload, 1) := by decide +kernel
theorem dL_law_234 : decode μL_law.2.1 234 = .ok (.aload_n 0, 1) := by decide +kernel
theorem dL_law_235 : decode μL_law.2.1 235 = .ok (.iload_n 3, 1) := by decide +kernel
theorem dL_law_236 : decode μL_law.2.1 236 = .ok (.iconst 2, 1) := by decide +kernel
theorem dL_law_237 : decode μL_law.2.1 237 = .ok (.iadd, 1) := by decide +kernel
theorem dL_law_238 : decode μL_law.2.1 238 = .ok (.iaload, 1) := by decide +kernel
theorem dL_law_239 : decode μL_law.2.1 239 = .ok (.aload_n 0, 1) := by decide +kernel
theorem dL_law_240 : decode μL_law.2.1 240 = .ok (.iload_n 3, 1) := by decide +kernel
theorem dL_law_241 : decode μL_law.2.1 241 = .ok (.iconst 3, 1) := by decide +kernel
theorem dL_law_242 : decode μL_law.2.1 242 = .ok (.iadd, 1) := by decide +kernel
theorem dL_law_243 : decode μL_law.2.1 243 = .ok (.iaload, 1) := by decide +kernel
theorem dL_law_244 : decode μL_law.2.1 244 = .ok (.aload_n 0, 1) := by decide +kernel
theorem dL_law_245 : decode μL_law.2.1 245 = .ok (.iload_n 3, 1) := by decide +kernel
theorem dL_law_246 : decode μL_law.2.1 246 = .ok (.iconst 4, 1) := by decide +kernel
theorem dL_law_247 : decode μL_law.2.1 247 = .ok (.iadd, 1) := by decide +kernel
theorem dL_law_248 : decode μL_law.2.1 248 = .ok (.iaload, 1) := by decide +kernel
theorem dL_law_249 : decode μL_law.2.1 249 = .ok (.aload_n 0, 1) := by decide +kernel
theorem dL_law_250 : decode μL_law.2.1 250 = .ok (.iload_n 3, 1) := by decide +kernel
theorem dL_law_251 : decode μL_law.2.1 251 = .ok (.iconst 5, 1) := by decide +kernel
theorem dL_law_252 : decode μL_law.2.1 252 = .ok (.iadd, 1) := by decide +kernel
theorem dL_law_253 : decode μL_law.2.1 253 = .ok (.iaload, 1) := by decide +kernel
theorem dL_law_254 : decode μL_law.2.1 254 = .ok (.invokevirtual 13, 3) := by decide +kernel
theorem dL_law_257 : decode μL_law.2.1 257 = .ok (.aload_n 2, 1) := by decide +kernel
theorem dL_law_258 : decode μL_law.2.1 258 = .ok (.aload_n 0, 1) := by decide +kernel
theorem dL_law_259 : decode μL_law.2.1 259 = .ok (.iload_n 3, 1) := by decide +kernel
theorem dL_law_260 : decode μL_law.2.1 260 = .ok (.iconst 1, 1) := by decide +kernel
theorem dL_law_261 : decode μL_law.2.1 261 = .ok (.iadd, 1) := by decide +kernel
theorem dL_law_262 : decode μL_law.2.1 262 = .ok (.iaload, 1) := by decide +kernel
theorem dL_law_263 : decode μL_law.2.1 263 = .ok (.aload_n 0, 1) := by decide +kernel
theorem dL_law_264 : decode μL_law.2.1 264 = .ok (.iload_n 3, 1) := by decide +kernel
theorem dL_law_265 : decode μL_law.2.1 265 = .ok (.iconst 2, 1) := by decide +kernel
theorem dL_law_266 : decode μL_law.2.1 266 = .ok (.iadd, 1) := by decide +kernel
theorem dL_law_267 : decode μL_law.2.1 267 = .ok (.iaload, 1) := by decide +kernel
theorem dL_law_268 : decode μL_law.2.1 268 = .ok (.aload_n 0, 1) := by decide +kernel
theorem dL_law_269 : decode μL_law.2.1 269 = .ok (.iload_n 3, 1) := by decide +kernel
theorem dL_law_270 : decode μL_law.2.1 270 = .ok (.iconst 3, 1) := by decide +kernel
theorem dL_law_271 : decode μL_law.2.1 271 = .ok (.iadd, 1) := by decide +kernel
theorem dL_law_272 : decode μL_law.2.1 272 = .ok (.iaload, 1) := by decide +kernel
theorem dL_law_273 : decode μL_law.2.1 273 = .ok (.aload_n 0, 1) := by decide +kernel
theorem dL_law_274 : decode μL_law.2.1 274 = .ok (.iload_n 3, 1) := by decide +kernel
theorem dL_law_275 : decode μL_law.2.1 275 = .ok (.iconst 4, 1) := by decide +kernel
theorem dL_law_276 : decode μL_law.2.1 276 = .ok (.iadd, 1) := by decide +kernel
theorem dL_law_277 : decode μL_law.2.1 277 = .ok (.iaload, 1) := by decide +kernel
theorem dL_law_278 : decode μL_law.2.1 278 = .ok (.aload_n 0, 1) := by decide +kernel
theorem dL_law_279 : decode μL_law.2.1 279 = .ok (.iload_n 3, 1) := by decide +kernel
theorem dL_law_280 : decode μL_law.2.1 280 = .ok (.iconst 5, 1) := by decide +kernel
theorem dL_law_281 : decode μL_law.2.1 281 = .ok (.iadd, 1) := by decide +kernel
theorem dL_law_282 : decode μL_law.2.1 282 = .ok (.iaload, 1) := by decide +kernel
theorem dL_law_283 : decode μL_law.2.1 283 = .ok (.invokevirtual 17, 3) := by decide +kernel
theorem dL_law_286 : decode μL_law.2.1 286 = .ok (.if_icmp .eq 1133, 3) := by decide +kernel
theorem dL_law_289 : decode μL_law.2.1 289 = .ok (.iconst 0, 1) := by decide +kernel
theorem dL_law_290 : decode μL_law.2.1 290 = .ok (.ireturn, 1) := by decide +kernel
theorem dL_law_291 : decode μL_law.2.1 291 = .ok (.aload_n 1, 1) := by decide +kernel
theorem dL_law_292 : decode μL_law.2.1 292 = .ok (.aload_n 0, 1) := by decide +kernel
theorem dL_law_293 : decode μL_law.2.1 293 = .ok (.iload_n 3, 1) := by decide +kernel
theorem dL_law_294 : decode μL_law.2.1 294 = .ok (.iconst 1, 1) := by decide +kernel
theorem dL_law_295 : decode μL_law.2.1 295 = .ok (.iadd, 1) := by decide +kernel
theorem dL_law_296 : decode μL_law.2.1 296 = .ok (.iaload, 1) := by decide +kernel
theorem dL_law_297 : decode μL_law.2.1 297 = .ok (.invokevirtual 18, 3) := by decide +kernel
theorem dL_law_300 : decode μL_law.2.1 300 = .ok (.aload_n 2, 1) := by decide +kernel
theorem dL_law_301 : decode μL_law.2.1 301 = .ok (.aload_n 0, 1) := by decide +kernel
theorem dL_law_302 : decode μL_law.2.1 302 = .ok (.iload_n 3, 1) := by decide +kernel
theorem dL_law_303 : decode μL_law.2.1 303 = .ok (.iconst 1, 1) := by decide +kernel
theorem dL_law_304 : decode μL_law.2.1 304 = .ok (.iadd, 1) := by decide +kernel
theorem dL_law_305 : decode μL_law.2.1 305 = .ok (.iaload, 1) := by decide +kernel
theorem dL_law_306 : decode μL_law.2.1 306 = .ok (.invokevirtual 22, 3) := by decide +kernel
theorem dL_law_309 : decode μL_law.2.1 309 = .ok (.if_icmp .eq 1110, 3) := by decide +kernel
theorem dL_law_312 : decode μL_law.2.1 312 = .ok (.iconst 0, 1) := by decide +kernel
theorem dL_law_313 : decode μL_law.2.1 313 = .ok (.ireturn, 1) := by decide +kernel
theorem dL_law_314 : decode μL_law.2.1 314 = .ok (.aload_n 1, 1) := by decide +kernel
theorem dL_law_315 : decode μL_law.2.1 315 = .ok (.invokevirtual 23, 3) := by decide +kernel
theorem dL_law_318 : decode μL_law.2.1 318 = .ok (.aload_n 2, 1) := by decide +kernel
theorem dL_law_319 : decode μL_law.2.1 319 = .ok (.invokevirtual 27, 3) := by decide +kernel
theorem dL_law_322 : decode μL_law.2.1 322 = .ok (.if_icmp .eq 1097, 3) := by decide +kernel
theorem dL_law_325 : decode μL_law.2.1 325 = .ok (.iconst 0, 1) := by decide +kernel
theorem dL_law_326 : decode μL_law.2.1 326 = .ok (.ireturn, 1) := by decide +kernel
theorem dL_law_327 : decode μL_law.2.1 327 = .ok (.aload_n 1, 1) := by decide +kernel
theorem dL_law_328 : decode μL_law.2.1 328 = .ok (.aload_n 0, 1) := by decide +kernel
theorem dL_law_329 : decode μL_law.2.1 329 = .ok (.iload_n 3, 1) := by decide +kernel
theorem dL_law_330 : decode μL_law.2.1 330 = .ok (.iconst 1, 1) := by decide +kernel
theorem dL_law_331 : decode μL_law.2.1 331 = .ok (.iadd, 1) := by decide +kernel
theorem dL_law_332 : decode μL_law.2.1 332 = .ok (.iaload, 1) := by decide +kernel
theorem dL_law_333 : decode μL_law.2.1 333 = .ok (.invokevirtual 28, 3) := by decide +kernel
theorem dL_law_336 : decode μL_law.2.1 336 = .ok (.aload_n 2, 1) := by decide +kernel
theorem dL_law_337 : decode μL_law.2.1 337 = .ok (.aload_n 0, 1) := by decide +kernel
theorem dL_law_338 : decode μL_law.2.1 338 = .ok (.iload_n 3, 1) := by decide +kernel
theorem dL_law_339 : decode μL_law.2.1 339 = .ok (.iconst 1, 1) := by decide +kernel
theorem dL_law_340 : decode μL_law.2.1 340 = .ok (.iadd, 1) := by decide +kernel
theorem dL_law_341 : decode μL_law.2.1 341 = .ok (.iaload, 1) := by decide +kernel
theorem dL_law_342 : decode μL_law.2.1 342 = .ok (.invokevirtual 31, 3) := by decide +kernel
theorem dL_law_345 : decode μL_law.2.1 345 = .ok (.if_icmp .eq 1074, 3) := by decide +kernel
theorem dL_law_348 : decode μL_law.2.1 348 = .ok (.iconst 0, 1) := by decide +kernel
theorem dL_law_349 : decode μL_law.2.1 349 = .ok (.ireturn, 1) := by decide +kernel
theorem dL_law_350 : decode μL_law.2.1 350 = .ok (.aload_n 1, 1) := by decide +kernel
theorem dL_law_351 : decode μL_law.2.1 351 = .ok (.aload_n 0, 1) := by decide +kernel
theorem dL_law_352 : decode μL_law.2.1 352 = .ok (.iload_n 3, 1) := by decide +kernel
theorem dL_law_353 : decode μL_law.2.1 353 = .ok (.iconst 1, 1) := by decide +kernel
theorem dL_law_354 : decode μL_law.2.1 354 = .ok (.iadd, 1) := by decide +kernel
theorem dL_law_355 : decode μL_law.2.1 355 = .ok (.iaload, 1) := by decide +kernel
theorem dL_law_356 : decode μL_law.2.1 356 = .ok (.aload_n 0, 1) := by decide +kernel
theorem dL_law_357 : decode μL_law.2.1 357 = .ok (.iload_n 3, 1) := by decide +kernel
theorem dL_law_358 : decode μL_law.2.1 358 = .ok (.iconst 2, 1) := by decide +kernel
theorem dL_law_359 : decode μL_law.2.1 359 = .ok (.iadd, 1) := by decide +kernel
theorem dL_law_360 : decode μL_law.2.1 360 = .ok (.iaload, 1) := by decide +kernel
theorem dL_law_361 : decode μL_law.2.1 361 = .ok (.invokevirtual 32, 3) := by decide +kernel
theorem dL_law_364 : decode μL_law.2.1 364 = .ok (.aload_n 2, 1) := by decide +kernel
theorem dL_law_365 : decode μL_law.2.1 365 = .ok (.aload_n 0, 1) := by decide +kernel
theorem dL_law_366 : decode μL_law.2.1 366 = .ok (.iload_n 3, 1) := by decide +kernel
theorem dL_law_367 : decode μL_law.2.1 367 = .ok (.iconst 1, 1) := by decide +kernel
theorem dL_law_368 : decode μL_law.2.1 368 = .ok (.iadd, 1) := by decide +kernel
theorem dL_law_369 : decode μL_law.2.1 369 = .ok (.iaload, 1) := by decide +kernel
theorem dL_law_370 : decode μL_law.2.1 370 = .ok (.aload_n 0, 1) := by decide +kernel
theorem dL_law_371 : decode μL_law.2.1 371 = .ok (.iload_n 3, 1) := by decide +kernel
theorem dL_law_372 : decode μL_law.2.1 372 = .ok (.iconst 2, 1) := by decide +kernel
theorem dL_law_373 : decode μL_law.2.1 373 = .ok (.iadd, 1) := by decide +kernel
theorem dL_law_374 : decode μL_law.2.1 374 = .ok (.iaload, 1) := by decide +kernel
theorem dL_law_375 : decode μL_law.2.1 375 = .ok (.invokevirtual 36, 3) := by decide +kernel
theorem dL_law_378 : decode μL_law.2.1 378 = .ok (.if_icmp .eq 1041, 3) := by decide +kernel
theorem dL_law_381 : decode μL_law.2.1 381 = .ok (.iconst 0, 1) := by decide +kernel
theorem dL_law_382 : decode μL_law.2.1 382 = .ok (.ireturn, 1) := by decide +kernel
theorem dL_law_383 : decode μL_law.2.1 383 = .ok (.aload_n 1, 1) := by decide +kernel
theorem dL_law_384 : decode μL_law.2.1 384 = .ok (.aload_n 0, 1) := by decide +kernel
theorem dL_law_385 : decode μL_law.2.1 385 = .ok (.iload_n 3, 1) := by decide +kernel
theorem dL_law_386 : decode μL_law.2.1 386 = .ok (.iconst 1, 1) := by decide +kernel
theorem dL_law_387 : decode μL_law.2.1 387 = .ok (.iadd, 1) := by decide +kernel
theorem dL_law_388 : decode μL_law.2.1 388 = .ok (.iaload, 1) := by decide +kernel
theorem dL_law_389 : decode μL_law.2.1 389 = .ok (.aload_n 0, 1) := by decide +kernel
theorem dL_law_390 : decode μL_law.2.1 390 = .ok (.iload_n 3, 1) := by decide +kernel
theorem dL_law_391 : decode μL_law.2.1 391 = .ok (.iconst 2, 1) := by decide +kernel
theorem dL_law_392 : decode μL_law.2.1 392 = .ok (.iadd, 1) := by decide +kernel
theorem dL_law_393 : decode μL_law.2.1 393 = .ok (.iaload, 1) := by decide +kernel
theorem dL_law_394 : decode μL_law.2.1 394 = .ok (.invokevirtual 37, 3) := by decide +kernel
theorem dL_law_397 : decode μL_law.2.1 397 = .ok (.aload_n 2, 1) := by decide +kernel
theorem dL_law_398 : decode μL_law.2.1 398 = .ok (.aload_n 0, 1) := by decide +kernel
theorem dL_law_399 : decode μL_law.2.1 399 = .ok (.iload_n 3, 1) := by decide +kernel
theorem dL_law_400 : decode μL_law.2.1 400 = .ok (.iconst 1, 1) := by decide +kernel
theorem dL_law_401 : decode μL_law.2.1 401 = .ok (.iadd, 1) := by decide +kernel
theorem dL_law_402 : decode μL_law.2.1 402 = .ok (.iaload, 1) := by decide +kernel
theorem dL_law_403 : decode μL_law.2.1 403 = .ok (.aload_n 0, 1) := by decide +kernel
theorem dL_law_404 : decode μL_law.2.1 404 = .ok (.iload_n 3, 1) := by decide +kernel
theorem dL_law_405 : decode μL_law.2.1 405 = .ok (.iconst 2, 1) := by decide +kernel
theorem dL_law_406 : decode μL_law.2.1 406 = .ok (.iadd, 1) := by decide +kernel
theorem dL_law_407 : decode μL_law.2.1 407 = .ok (.iaload, 1) := by decide +kernel
theorem dL_law_408 : decode μL_law.2.1 408 = .ok (.invokevirtual 40, 3) := by decide +kernel
theorem dL_law_411 : decode μL_law.2.1 411 = .ok (.if_icmp .eq 1008, 3) := by decide +kernel
theorem dL_law_414 : decode μL_law.2.1 414 = .ok (.iconst 0, 1) := by decide +kernel
theorem dL_law_415 : decode μL_law.2.1 415 = .ok (.ireturn, 1) := by decide +kernel
theorem dL_law_416 : decode μL_law.2.1 416 = .ok (.aload_n 1, 1) := by decide +kernel
theorem dL_law_417 : decode μL_law.2.1 417 = .ok (.aload_n 0, 1) := by decide +kernel
theorem dL_law_418 : decode μL_law.2.1 418 = .ok (.iload_n 3, 1) := by decide +kernel
theorem dL_law_419 : decode μL_law.2.1 419 = .ok (.iconst 1, 1) := by decide +kernel
theorem dL_law_420 : decode μL_law.2.1 420 = .ok (.iadd, 1) := by decide +kernel
theorem dL_law_421 : decode μL_law.2.1 421 = .ok (.iaload, 1) := by decide +kernel
theorem dL_law_422 : decode μL_law.2.1 422 = .ok (.aload_n 0, 1) := by decide +kernel
theorem dL_law_423 : decode μL_law.2.1 423 = .ok (.iload_n 3, 1) := by decide +kernel
theorem dL_law_424 : decode μL_law.2.1 424 = .ok (.iconst 2, 1) := by decide +kernel
theorem dL_law_425 : decode μL_law.2.1 425 = .ok (.iadd, 1) := by decide +kernel
theorem dL_law_426 : decode μL_law.2.1 426 = .ok (.iaload, 1) := by decide +kernel
theorem dL_law_427 : decode μL_law.2.1 427 = .ok (.invokevirtual 41, 3) := by decide +kernel
theorem dL_law_430 : decode μL_law.2.1 430 = .ok (.aload_n 2, 1) := by decide +kernel
theorem dL_law_431 : decode μL_law.2.1 431 = .ok (.aload_n 0, 1) := by decide +kernel
theorem dL_law_432 : decode μL_law.2.1 432 = .ok (.iload_n 3, 1) := by decide +kernel
theorem dL_law_433 : decode μL_law.2.1 433 = .ok (.iconst 1, 1) := by decide +kernel
theorem dL_law_434 : decode μL_law.2.1 434 = .ok (.iadd, 1) := by decide +kernel
theorem dL_law_435 : decode μL_law.2.1 435 = .ok (.iaload, 1) := by decide +kernel
theorem dL_law_436 : decode μL_law.2.1 436 = .ok (.aload_n 0, 1) := by decide +kernel
theorem dL_law_437 : decode μL_law.2.1 437 = .ok (.iload_n 3, 1) := by decide +kernel
theorem dL_law_438 : decode μL_law.2.1 438 = .ok (.iconst 2, 1) := by decide +kernel
theorem dL_law_439 : decode μL_law.2.1 439 = .ok (.iadd, 1) := by decide +kernel
theorem dL_law_440 : decode μL_law.2.1 440 = .ok (.iaload, 1) := by decide +kernel
theorem dL_law_441 : decode μL_law.2.1 441 = .ok (.invokevirtual 44, 3) := by decide +kernel
theorem dL_law_444 : decode μL_law.2.1 444 = .ok (.if_icmp .eq 975, 3) := by decide +kernel
theorem dL_law_447 : decode μL_law.2.1 447 = .ok (.iconst 0, 1) := by decide +kernel
theorem dL_law_448 : decode μL_law.2.1 448 = .ok (.ireturn, 1) := by decide +kernel
theorem dL_law_449 : decode μL_law.2.1 449 = .ok (.aload_n 1, 1) := by decide +kernel
theorem dL_law_450 : decode μL_law.2.1 450 = .ok (.invokevirtual 45, 3) := by decide +kernel
theorem dL_law_453 : decode μL_law.2.1 453 = .ok (.aload_n 2, 1) := by decide +kernel
theorem dL_law_454 : decode μL_law.2.1 454 = .ok (.invokevirtual 48, 3) := by decide +kernel
theorem dL_law_457 : decode μL_law.2.1 457 = .ok (.if_icmp .eq 962, 3) := by decide +kernel
theorem dL_law_460 : decode μL_law.2.1 460 = .ok (.iconst 0, 1) := by decide +kernel
theorem dL_law_461 : decode μL_law.2.1 461 = .ok (.ireturn, 1) := by decide +kernel
theorem dL_law_462 : decode μL_law.2.1 462 = .ok (.aload_n 1, 1) := by decide +kernel
theorem dL_law_463 : decode μL_law.2.1 463 = .ok (.aload_n 0, 1) := by decide +kernel
theorem dL_law_464 : decode μL_law.2.1 464 = .ok (.iload_n 3, 1) := by decide +kernel
theorem dL_law_465 : decode μL_law.2.1 465 = .ok (.iconst 1, 1) := by decide +kernel
theorem dL_law_466 : decode μL_law.2.1 466 = .ok (.iadd, 1) := by decide +kernel
theorem dL_law_467 : decode μL_law.2.1 467 = .ok (.iaload, 1) := by decide +kernel
theorem dL_law_468 : decode μL_law.2.1 468 = .ok (.aload_n 0, 1) := by decide +kernel
theorem dL_law_469 : decode μL_law.2.1 469 = .ok (.iload_n 3, 1) := by decide +kernel
theorem dL_law_470 : decode μL_law.2.1 470 = .ok (.iconst 2, 1) := by decide +kernel
theorem dL_law_471 : decode μL_law.2.1 471 = .ok (.iadd, 1) := by decide +kernel
theorem dL_law_472 : decode μL_law.2.1 472 = .ok (.iaload, 1) := by decide +kernel
theorem dL_law_473 : decode μL_law.2.1 473 = .ok (.invokevirtual 49, 3) := by decide +kernel
theorem dL_law_476 : decode μL_law.2.1 476 = .ok (.aload_n 2, 1) := by decide +kernel
theorem dL_law_477 : decode μL_law.2.1 477 = .ok (.aload_n 0, 1) := by decide +kernel
theorem dL_law_478 : decode μL_law.2.1 478 = .ok (.iload_n 3, 1) := by decide +kernel
theorem dL_law_479 : decode μL_law.2.1 479 = .ok (.iconst 1, 1) := by decide +kernel
theorem dL_law_480 : decode μL_law.2.1 480 = .ok (.iadd, 1) := by decide +kernel
theorem dL_law_481 : decode μL_law.2.1 481 = .ok (.iaload, 1) := by decide +kernel
theorem dL_law_482 : decode μL_law.2.1 482 = .ok (.aload_n 0, 1) := by decide +kernel
theorem dL_law_483 : decode μL_law.2.1 483 = .ok (.iload_n 3, 1) := by decide +kernel
theorem dL_law_484 : decode μL_law.2.1 484 = .ok (.iconst 2, 1) := by decide +kernel
theorem dL_law_485 : decode μL_law.2.1 485 = .ok (.iadd, 1) := by decide +kernel
theorem dL_law_486 : decode μL_law.2.1 486 = .ok (.iaload, 1) := by decide +kernel
theorem dL_law_487 : decode μL_law.2.1 487 = .ok (.invokevirtual 52, 3) := by decide +kernel
theorem dL_law_490 : decode μL_law.2.1 490 = .ok (.if_icmp .eq 929, 3) := by decide +kernel
theorem dL_law_493 : decode μL_law.2.1 493 = .ok (.iconst 0, 1) := by decide +kernel
theorem dL_law_494 : decode μL_law.2.1 494 = .ok (.ireturn, 1) := by decide +kernel
theorem dL_law_495 : decode μL_law.2.1 495 = .ok (.aload_n 1, 1) := by decide +kernel
theorem dL_law_496 : decode μL_law.2.1 496 = .ok (.aload_n 0, 1) := by decide +kernel
theorem dL_law_497 : decode μL_law.2.1 497 = .ok (.iload_n 3, 1) := by decide +kernel
theorem dL_law_498 : decode μL_law.2.1 498 = .ok (.iconst 1, 1) := by decide +kernel
theorem dL_law_499 : decode μL_law.2.1 499 = .ok (.iadd, 1) := by decide +kernel
theorem dL_law_500 : decode μL_law.2.1 500 = .ok (.iaload, 1) := by decide +kernel
theorem dL_law_501 : decode μL_law.2.1 501 = .ok (.aload_n 0, 1) := by decide +kernel
theorem dL_law_502 : decode μL_law.2.1 502 = .ok (.iload_n 3, 1) := by decide +kernel
theorem dL_law_503 : decode μL_law.2.1 503 = .ok (.iconst 2, 1) := by decide +kernel
theorem dL_law_504 : decode μL_law.2.1 504 = .ok (.iadd, 1) := by decide +kernel
theorem dL_law_505 : decode μL_law.2.1 505 = .ok (.iaload, 1) := by decide +kernel
theorem dL_law_506 : decode μL_law.2.1 506 = .ok (.invokevirtual 53, 3) := by decide +kernel
theorem dL_law_509 : decode μL_law.2.1 509 = .ok (.aload_n 2, 1) := by decide +kernel
theorem dL_law_510 : decode μL_law.2.1 510 = .ok (.aload_n 0, 1) := by decide +kernel
theorem dL_law_511 : decode μL_law.2.1 511 = .ok (.iload_n 3, 1) := by decide +kernel
theorem dL_law_512 : decode μL_law.2.1 512 = .ok (.iconst 1, 1) := by decide +kernel
theorem dL_law_513 : decode μL_law.2.1 513 = .ok (.iadd, 1) := by decide +kernel
theorem dL_law_514 : decode μL_law.2.1 514 = .ok (.iaload, 1) := by decide +kernel
theorem dL_law_515 : decode μL_law.2.1 515 = .ok (.aload_n 0, 1) := by decide +kernel
theorem dL_law_516 : decode μL_law.2.1 516 = .ok (.iload_n 3, 1) := by decide +kernel
theorem dL_law_517 : decode μL_law.2.1 517 = .ok (.iconst 2, 1) := by decide +kernel
theorem dL_law_518 : decode μL_law.2.1 518 = .ok (.iadd, 1) := by decide +kernel
theorem dL_law_519 : decode μL_law.2.1 519 = .ok (.iaload, 1) := by decide +kernel
theorem dL_law_520 : decode μL_law.2.1 520 = .ok (.invokevirtual 56, 3) := by decide +kernel
theorem dL_law_523 : decode μL_law.2.1 523 = .ok (.if_icmp .eq 896, 3) := by decide +kernel
theorem dL_law_526 : decode μL_law.2.1 526 = .ok (.iconst 0, 1) := by decide +kernel
theorem dL_law_527 : decode μL_law.2.1 527 = .ok (.ireturn, 1) := by decide +kernel
theorem dL_law_528 : decode μL_law.2.1 528 = .ok (.aload_n 1, 1) := by decide +kernel
theorem dL_law_529 : decode μL_law.2.1 529 = .ok (.aload_n 0, 1) := by decide +kernel
theorem dL_law_530 : decode μL_law.2.1 530 = .ok (.iload_n 3, 1) := by decide +kernel
theorem dL_law_531 : decode μL_law.2.1 531 = .ok (.iconst 1, 1) := by decide +kernel
theorem dL_law_532 : decode μL_law.2.1 532 = .ok (.iadd, 1) := by decide +kernel
theorem dL_law_533 : decode μL_law.2.1 533 = .ok (.iaload, 1) := by decide +kernel
theorem dL_law_534 : decode μL_law.2.1 534 = .ok (.aload_n 0, 1) := by decide +kernel
theorem dL_law_535 : decode μL_law.2.1 535 = .ok (.iload_n 3, 1) := by decide +kernel
theorem dL_law_536 : decode μL_law.2.1 536 = .ok (.iconst 2, 1) := by decide +kernel
theorem dL_law_537 : decode μL_law.2.1 537 = .ok (.iadd, 1) := by decide +kernel
theorem dL_law_538 : decode μL_law.2.1 538 = .ok (.iaload, 1) := by decide +kernel
theorem dL_law_539 : decode μL_law.2.1 539 = .ok (.invokevirtual 57, 3) := by decide +kernel
theorem dL_law_542 : decode μL_law.2.1 542 = .ok (.aload_n 2, 1) := by decide +kernel
theorem dL_law_543 : decode μL_law.2.1 543 = .ok (.aload_n 0, 1) := by decide +kernel
theorem dL_law_544 : decode μL_law.2.1 544 = .ok (.iload_n 3, 1) := by decide +kernel
theorem dL_law_545 : decode μL_law.2.1 545 = .ok (.iconst 1, 1) := by decide +kernel
theorem dL_law_546 : decode μL_law.2.1 546 = .ok (.iadd, 1) := by decide +kernel
theorem dL_law_547 : decode μL_law.2.1 547 = .ok (.iaload, 1) := by decide +kernel
theorem dL_law_548 : decode μL_law.2.1 548 = .ok (.aload_n 0, 1) := by decide +kernel
theorem dL_law_549 : decode μL_law.2.1 549 = .ok (.iload_n 3, 1) := by decide +kernel
theorem dL_law_550 : decode μL_law.2.1 550 = .ok (.iconst 2, 1) := by decide +kernel
theorem dL_law_551 : decode μL_law.2.1 551 = .ok (.iadd, 1) := by decide +kernel
theorem dL_law_552 : decode μL_law.2.1 552 = .ok (.iaload, 1) := by decide +kernel
theorem dL_law_553 : decode μL_law.2.1 553 = .ok (.invokevirtual 60, 3) := by decide +kernel
theorem dL_law_556 : decode μL_law.2.1 556 = .ok (.if_icmp .eq 863, 3) := by decide +kernel
theorem dL_law_559 : decode μL_law.2.1 559 = .ok (.iconst 0, 1) := by decide +kernel
theorem dL_law_560 : decode μL_law.2.1 560 = .ok (.ireturn, 1) := by decide +kernel
theorem dL_law_561 : decode μL_law.2.1 561 = .ok (.aload_n 1, 1) := by decide +kernel
theorem dL_law_562 : decode μL_law.2.1 562 = .ok (.invokevirtual 61, 3) := by decide +kernel
theorem dL_law_565 : decode μL_law.2.1 565 = .ok (.aload_n 2, 1) := by decide +kernel
theorem dL_law_566 : decode μL_law.2.1 566 = .ok (.invokevirtual 65, 3) := by decide +kernel
theorem dL_law_569 : decode μL_law.2.1 569 = .ok (.if_icmp .eq 850, 3) := by decide +kernel
theorem dL_law_572 : decode μL_law.2.1 572 = .ok (.iconst 0, 1) := by decide +kernel
theorem dL_law_573 : decode μL_law.2.1 573 = .ok (.ireturn, 1) := by decide +kernel
theorem dL_law_574 : decode μL_law.2.1 574 = .ok (.aload_n 1, 1) := by decide +kernel
theorem dL_law_575 : decode μL_law.2.1 575 = .ok (.invokevirtual 66, 3) := by decide +kernel
theorem dL_law_578 : decode μL_law.2.1 578 = .ok (.aload_n 2, 1) := by decide +kernel
theorem dL_law_579 : decode μL_law.2.1 579 = .ok (.invokevirtual 69, 3) := by decide +kernel
theorem dL_law_582 : decode μL_law.2.1 582 = .ok (.if_icmp .eq 837, 3) := by decide +kernel
theorem dL_law_585 : decode μL_law.2.1 585 = .ok (.iconst 0, 1) := by decide +kernel
theorem dL_law_586 : decode μL_law.2.1 586 = .ok (.ireturn, 1) := by decide +kernel
theorem dL_law_587 : decode μL_law.2.1 587 = .ok (.aload_n 1, 1) := by decide +kernel
theorem dL_law_588 : decode μL_law.2.1 588 = .ok (.aload_n 0, 1) := by decide +kernel
theorem dL_law_589 : decode μL_law.2.1 589 = .ok (.iload_n 3, 1) := by decide +kernel
theorem dL_law_590 : decode μL_law.2.1 590 = .ok (.iconst 1, 1) := by decide +kernel
theorem dL_law_591 : decode μL_law.2.1 591 = .ok (.iadd, 1) := by decide +kernel
theorem dL_law_592 : decode μL_law.2.1 592 = .ok (.iaload, 1) := by decide +kernel
theorem dL_law_593 : decode μL_law.2.1 593 = .ok (.aload_n 0, 1) := by decide +kernel
theorem dL_law_594 : decode μL_law.2.1 594 = .ok (.iload_n 3, 1) := by decide +kernel
theorem dL_law_595 : decode μL_law.2.1 595 = .ok (.iconst 2, 1) := by decide +kernel
theorem dL_law_596 : decode μL_law.2.1 596 = .ok (.iadd, 1) := by decide +kernel
theorem dL_law_597 : decode μL_law.2.1 597 = .ok (.iaload, 1) := by decide +kernel
theorem dL_law_598 : decode μL_law.2.1 598 = .ok (.aload_n 0, 1) := by decide +kernel
theorem dL_law_599 : decode μL_law.2.1 599 = .ok (.iload_n 3, 1) := by decide +kernel
theorem dL_law_600 : decode μL_law.2.1 600 = .ok (.iconst 3, 1) := by decide +kernel
theorem dL_law_601 : decode μL_law.2.1 601 = .ok (.iadd, 1) := by decide +kernel
theorem dL_law_602 : decode μL_law.2.1 602 = .ok (.iaload, 1) := by decide +kernel
theorem dL_law_603 : decode μL_law.2.1 603 = .ok (.invokevirtual 70, 3) := by decide +kernel
theorem dL_law_606 : decode μL_law.2.1 606 = .ok (.aload_n 2, 1) := by decide +kernel
theorem dL_law_607 : decode μL_law.2.1 607 = .ok (.aload_n 0, 1) := by decide +kernel
theorem dL_law_608 : decode μL_law.2.1 608 = .ok (.iload_n 3, 1) := by decide +kernel
theorem dL_law_609 : decode μL_law.2.1 609 = .ok (.iconst 1, 1) := by decide +kernel
theorem dL_law_610 : decode μL_law.2.1 610 = .ok (.iadd, 1) := by decide +kernel
theorem dL_law_611 : decode μL_law.2.1 611 = .ok (.iaload, 1) := by decide +kernel
theorem dL_law_612 : decode μL_law.2.1 612 = .ok (.aload_n 0, 1) := by decide +kernel
theorem dL_law_613 : decode μL_law.2.1 613 = .ok (.iload_n 3, 1) := by decide +kernel
theorem dL_law_614 : decode μL_law.2.1 614 = .ok (.iconst 2, 1) := by decide +kernel
theorem dL_law_615 : decode μL_law.2.1 615 = .ok (.iadd, 1) := by decide +kernel
theorem dL_law_616 : decode μL_law.2.1 616 = .ok (.iaload, 1) := by decide +kernel
theorem dL_law_617 : decode μL_law.2.1 617 = .ok (.aload_n 0, 1) := by decide +kernel
theorem dL_law_618 : decode μL_law.2.1 618 = .ok (.iload_n 3, 1) := by decide +kernel
theorem dL_law_619 : decode μL_law.2.1 619 = .ok (.iconst 3, 1) := by decide +kernel
theorem dL_law_620 : decode μL_law.2.1 620 = .ok (.iadd, 1) := by decide +kernel
theorem dL_law_621 : decode μL_law.2.1 621 = .ok (.iaload, 1) := by decide +kernel
theorem dL_law_622 : decode μL_law.2.1 622 = .ok (.invokevirtual 74, 3) := by decide +kernel
theorem dL_law_625 : decode μL_law.2.1 625 = .ok (.if_icmp .eq 794, 3) := by decide +kernel
theorem dL_law_628 : decode μL_law.2.1 628 = .ok (.iconst 0, 1) := by decide +kernel
theorem dL_law_629 : decode μL_law.2.1 629 = .ok (.ireturn, 1) := by decide +kernel
theorem dL_law_630 : decode μL_law.2.1 630 = .ok (.aload_n 1, 1) := by decide +kernel
theorem dL_law_631 : decode μL_law.2.1 631 = .ok (.aload_n 0, 1) := by decide +kernel
theorem dL_law_632 : decode μL_law.2.1 632 = .ok (.iload_n 3, 1) := by decide +kernel
theorem dL_law_633 : decode μL_law.2.1 633 = .ok (.iconst 1, 1) := by decide +kernel
theorem dL_law_634 : decode μL_law.2.1 634 = .ok (.iadd, 1) := by decide +kernel
theorem dL_law_635 : decode μL_law.2.1 635 = .ok (.iaload, 1) := by decide +kernel
theorem dL_law_636 : decode μL_law.2.1 636 = .ok (.aload_n 0, 1) := by decide +kernel
theorem dL_law_637 : decode μL_law.2.1 637 = .ok (.iload_n 3, 1) := by decide +kernel
theorem dL_law_638 : decode μL_law.2.1 638 = .ok (.iconst 2, 1) := by decide +kernel
theorem dL_law_639 : decode μL_law.2.1 639 = .ok (.iadd, 1) := by decide +kernel
theorem dL_law_640 : decode μL_law.2.1 640 = .ok (.iaload, 1) := by decide +kernel
theorem dL_law_641 : decode μL_law.2.1 641 = .ok (.invokevirtual 75, 3) := by decide +kernel
theorem dL_law_644 : decode μL_law.2.1 644 = .ok (.aload_n 2, 1) := by decide +kernel
theorem dL_law_645 : decode μL_law.2.1 645 = .ok (.aload_n 0, 1) := by decide +kernel
theorem dL_law_646 : decode μL_law.2.1 646 = .ok (.iload_n 3, 1) := by decide +kernel
theorem dL_law_647 : decode μL_law.2.1 647 = .ok (.iconst 1, 1) := by decide +kernel
theorem dL_law_648 : decode μL_law.2.1 648 = .ok (.iadd, 1) := by decide +kernel
theorem dL_law_649 : decode μL_law.2.1 649 = .ok (.iaload, 1) := by decide +kernel
theorem dL_law_650 : decode μL_law.2.1 650 = .ok (.aload_n 0, 1) := by decide +kernel
theorem dL_law_651 : decode μL_law.2.1 651 = .ok (.iload_n 3, 1) := by decide +kernel
theorem dL_law_652 : decode μL_law.2.1 652 = .ok (.iconst 2, 1) := by decide +kernel
theorem dL_law_653 : decode μL_law.2.1 653 = .ok (.iadd, 1) := by decide +kernel
theorem dL_law_654 : decode μL_law.2.1 654 = .ok (.iaload, 1) := by decide +kernel
theorem dL_law_655 : decode μL_law.2.1 655 = .ok (.invokevirtual 78, 3) := by decide +kernel
theorem dL_law_658 : decode μL_law.2.1 658 = .ok (.if_icmp .eq 761, 3) := by decide +kernel
theorem dL_law_661 : decode μL_law.2.1 661 = .ok (.iconst 0, 1) := by decide +kernel
theorem dL_law_662 : decode μL_law.2.1 662 = .ok (.ireturn, 1) := by decide +kernel
theorem dL_law_663 : decode μL_law.2.1 663 = .ok (.aload_n 1, 1) := by decide +kernel
theorem dL_law_664 : decode μL_law.2.1 664 = .ok (.aload_n 0, 1) := by decide +kernel
theorem dL_law_665 : decode μL_law.2.1 665 = .ok (.iload_n 3, 1) := by decide +kernel
theorem dL_law_666 : decode μL_law.2.1 666 = .ok (.iconst 1, 1) := by decide +kernel
theorem dL_law_667 : decode μL_law.2.1 667 = .ok (.iadd, 1) := by decide +kernel
theorem dL_law_668 : decode μL_law.2.1 668 = .ok (.iaload, 1) := by decide +kernel
theorem dL_law_669 : decode μL_law.2.1 669 = .ok (.invokevirtual 79, 3) := by decide +kernel
theorem dL_law_672 : decode μL_law.2.1 672 = .ok (.aload_n 2, 1) := by decide +kernel
theorem dL_law_673 : decode μL_law.2.1 673 = .ok (.aload_n 0, 1) := by decide +kernel
theorem dL_law_674 : decode μL_law.2.1 674 = .ok (.iload_n 3, 1) := by decide +kernel
theorem dL_law_675 : decode μL_law.2.1 675 = .ok (.iconst 1, 1) := by decide +kernel
theorem dL_law_676 : decode μL_law.2.1 676 = .ok (.iadd, 1) := by decide +kernel
theorem dL_law_677 : decode μL_law.2.1 677 = .ok (.iaload, 1) := by decide +kernel
theorem dL_law_678 : decode μL_law.2.1 678 = .ok (.invokevirtual 82, 3) := by decide +kernel
theorem dL_law_681 : decode μL_law.2.1 681 = .ok (.if_icmp .eq 738, 3) := by decide +kernel
theorem dL_law_684 : decode μL_law.2.1 684 = .ok (.iconst 0, 1) := by decide +kernel
theorem dL_law_685 : decode μL_law.2.1 685 = .ok (.ireturn, 1) := by decide +kernel
theorem dL_law_686 : decode μL_law.2.1 686 = .ok (.aload_n 1, 1) := by decide +kernel
theorem dL_law_687 : decode μL_law.2.1 687 = .ok (.aload_n 0, 1) := by decide +kernel
theorem dL_law_688 : decode μL_law.2.1 688 = .ok (.iload_n 3, 1) := by decide +kernel
theorem dL_law_689 : decode μL_law.2.1 689 = .ok (.iconst 1, 1) := by decide +kernel
theorem dL_law_690 : decode μL_law.2.1 690 = .ok (.iadd, 1) := by decide +kernel
theorem dL_law_691 : decode μL_law.2.1 691 = .ok (.iaload, 1) := by decide +kernel
theorem dL_law_692 : decode μL_law.2.1 692 = .ok (.invokevirtual 83, 3) := by decide +kernel
theorem dL_law_695 : decode μL_law.2.1 695 = .ok (.aload_n 2, 1) := by decide +kernel
theorem dL_law_696 : decode μL_law.2.1 696 = .ok (.aload_n 0, 1) := by decide +kernel
theorem dL_law_697 : decode μL_law.2.1 697 = .ok (.iload_n 3, 1) := by decide +kernel
theorem dL_law_698 : decode μL_law.2.1 698 = .ok (.iconst 1, 1) := by decide +kernel
theorem dL_law_699 : decode μL_law.2.1 699 = .ok (.iadd, 1) := by decide +kernel
theorem dL_law_700 : decode μL_law.2.1 700 = .ok (.iaload, 1) := by decide +kernel
theorem dL_law_701 : decode μL_law.2.1 701 = .ok (.invokevirtual 86, 3) := by decide +kernel
theorem dL_law_704 : decode μL_law.2.1 704 = .ok (.if_icmp .eq 715, 3) := by decide +kernel
theorem dL_law_707 : decode μL_law.2.1 707 = .ok (.iconst 0, 1) := by decide +kernel
theorem dL_law_708 : decode μL_law.2.1 708 = .ok (.ireturn, 1) := by decide +kernel
theorem dL_law_709 : decode μL_law.2.1 709 = .ok (.aload_n 1, 1) := by decide +kernel
theorem dL_law_710 : decode μL_law.2.1 710 = .ok (.aload_n 0, 1) := by decide +kernel
theorem dL_law_711 : decode μL_law.2.1 711 = .ok (.iload_n 3, 1) := by decide +kernel
theorem dL_law_712 : decode μL_law.2.1 712 = .ok (.iconst 1, 1) := by decide +kernel
theorem dL_law_713 : decode μL_law.2.1 713 = .ok (.iadd, 1) := by decide +kernel
theorem dL_law_714 : decode μL_law.2.1 714 = .ok (.iaload, 1) := by decide +kernel
theorem dL_law_715 : decode μL_law.2.1 715 = .ok (.aload_n 0, 1) := by decide +kernel
theorem dL_law_716 : decode μL_law.2.1 716 = .ok (.iload_n 3, 1) := by decide +kernel
theorem dL_law_717 : decode μL_law.2.1 717 = .ok (.iconst 2, 1) := by decide +kernel
theorem dL_law_718 : decode μL_law.2.1 718 = .ok (.iadd, 1) := by decide +kernel
theorem dL_law_719 : decode μL_law.2.1 719 = .ok (.iaload, 1) := by decide +kernel
theorem dL_law_720 : decode μL_law.2.1 720 = .ok (.invokevirtual 87, 3) := by decide +kernel
theorem dL_law_723 : decode μL_law.2.1 723 = .ok (.aload_n 2, 1) := by decide +kernel
theorem dL_law_724 : decode μL_law.2.1 724 = .ok (.aload_n 0, 1) := by decide +kernel
theorem dL_law_725 : decode μL_law.2.1 725 = .ok (.iload_n 3, 1) := by decide +kernel
theorem dL_law_726 : decode μL_law.2.1 726 = .ok (.iconst 1, 1) := by decide +kernel
theorem dL_law_727 : decode μL_law.2.1 727 = .ok (.iadd, 1) := by decide +kernel
theorem dL_law_728 : decode μL_law.2.1 728 = .ok (.iaload, 1) := by decide +kernel
theorem dL_law_729 : decode μL_law.2.1 729 = .ok (.aload_n 0, 1) := by decide +kernel
theorem dL_law_730 : decode μL_law.2.1 730 = .ok (.iload_n 3, 1) := by decide +kernel
theorem dL_law_731 : decode μL_law.2.1 731 = .ok (.iconst 2, 1) := by decide +kernel
theorem dL_law_732 : decode μL_law.2.1 732 = .ok (.iadd, 1) := by decide +kernel
theorem dL_law_733 : decode μL_law.2.1 733 = .ok (.iaload, 1) := by decide +kernel
theorem dL_law_734 : decode μL_law.2.1 734 = .ok (.invokevirtual 90, 3) := by decide +kernel
theorem dL_law_737 : decode μL_law.2.1 737 = .ok (.if_icmp .eq 682, 3) := by decide +kernel
theorem dL_law_740 : decode μL_law.2.1 740 = .ok (.iconst 0, 1) := by decide +kernel
theorem dL_law_741 : decode μL_law.2.1 741 = .ok (.ireturn, 1) := by decide +kernel
theorem dL_law_742 : decode μL_law.2.1 742 = .ok (.aload_n 1, 1) := by decide +kernel
theorem dL_law_743 : decode μL_law.2.1 743 = .ok (.invokevirtual 91, 3) := by decide +kernel
theorem dL_law_746 : decode μL_law.2.1 746 = .ok (.aload_n 2, 1) := by decide +kernel
theorem dL_law_747 : decode μL_law.2.1 747 = .ok (.invokevirtual 94, 3) := by decide +kernel
theorem dL_law_750 : decode μL_law.2.1 750 = .ok (.if_icmp .eq 669, 3) := by decide +kernel
theorem dL_law_753 : decode μL_law.2.1 753 = .ok (.iconst 0, 1) := by decide +kernel
theorem dL_law_754 : decode μL_law.2.1 754 = .ok (.ireturn, 1) := by decide +kernel
theorem dL_law_755 : decode μL_law.2.1 755 = .ok (.aload_n 1, 1) := by decide +kernel
theorem dL_law_756 : decode μL_law.2.1 756 = .ok (.invokevirtual 95, 3) := by decide +kernel
theorem dL_law_759 : decode μL_law.2.1 759 = .ok (.aload_n 2, 1) := by decide +kernel
theorem dL_law_760 : decode μL_law.2.1 760 = .ok (.invokevirtual 98, 3) := by decide +kernel
theorem dL_law_763 : decode μL_law.2.1 763 = .ok (.if_icmp .eq 656, 3) := by decide +kernel
theorem dL_law_766 : decode μL_law.2.1 766 = .ok (.iconst 0, 1) := by decide +kernel
theorem dL_law_767 : decode μL_law.2.1 767 = .ok (.ireturn, 1) := by decide +kernel
theorem dL_law_768 : decode μL_law.2.1 768 = .ok (.aload_n 1, 1) := by decide +kernel
theorem dL_law_769 : decode μL_law.2.1 769 = .ok (.aload_n 0, 1) := by decide +kernel
theorem dL_law_770 : decode μL_law.2.1 770 = .ok (.iload_n 3, 1) := by decide +kernel
theorem dL_law_771 : decode μL_law.2.1 771 = .ok (.iconst 1, 1) := by decide +kernel
theorem dL_law_772 : decode μL_law.2.1 772 = .ok (.iadd, 1) := by decide +kernel
theorem dL_law_773 : decode μL_law.2.1 773 = .ok (.iaload, 1) := by decide +kernel
theorem dL_law_774 : decode μL_law.2.1 774 = .ok (.invokevirtual 99, 3) := by decide +kernel
theorem dL_law_777 : decode μL_law.2.1 777 = .ok (.aload_n 2, 1) := by decide +kernel
theorem dL_law_778 : decode μL_law.2.1 778 = .ok (.aload_n 0, 1) := by decide +kernel
theorem dL_law_779 : decode μL_law.2.1 779 = .ok (.iload_n 3, 1) := by decide +kernel
theorem dL_law_780 : decode μL_law.2.1 780 = .ok (.iconst 1, 1) := by decide +kernel
theorem dL_law_781 : decode μL_law.2.1 781 = .ok (.iadd, 1) := by decide +kernel
theorem dL_law_782 : decode μL_law.2.1 782 = .ok (.iaload, 1) := by decide +kernel
theorem dL_law_783 : decode μL_law.2.1 783 = .ok (.invokevirtual 102, 3) := by decide +kernel
theorem dL_law_786 : decode μL_law.2.1 786 = .ok (.if_icmp .eq 633, 3) := by decide +kernel
theorem dL_law_789 : decode μL_law.2.1 789 = .ok (.iconst 0, 1) := by decide +kernel
theorem dL_law_790 : decode μL_law.2.1 790 = .ok (.ireturn, 1) := by decide +kernel
theorem dL_law_791 : decode μL_law.2.1 791 = .ok (.aload_n 1, 1) := by decide +kernel
theorem dL_law_792 : decode μL_law.2.1 792 = .ok (.aload_n 0, 1) := by decide +kernel
theorem dL_law_793 : decode μL_law.2.1 793 = .ok (.iload_n 3, 1) := by decide +kernel
theorem dL_law_794 : decode μL_law.2.1 794 = .ok (.iconst 1, 1) := by decide +kernel
theorem dL_law_795 : decode μL_law.2.1 795 = .ok (.iadd, 1) := by decide +kernel
theorem dL_law_796 : decode μL_law.2.1 796 = .ok (.iaload, 1) := by decide +kernel
theorem dL_law_797 : decode μL_law.2.1 797 = .ok (.aload_n 0, 1) := by decide +kernel
theorem dL_law_798 : decode μL_law.2.1 798 = .ok (.iload_n 3, 1) := by decide +kernel
theorem dL_law_799 : decode μL_law.2.1 799 = .ok (.iconst 2, 1) := by decide +kernel
theorem dL_law_800 : decode μL_law.2.1 800 = .ok (.iadd, 1) := by decide +kernel
theorem dL_law_801 : decode μL_law.2.1 801 = .ok (.iaload, 1) := by decide +kernel
theorem dL_law_802 : decode μL_law.2.1 802 = .ok (.aload_n 0, 1) := by decide +kernel
theorem dL_law_803 : decode μL_law.2.1 803 = .ok (.iload_n 3, 1) := by decide +kernel
theorem dL_law_804 : decode μL_law.2.1 804 = .ok (.iconst 3, 1) := by decide +kernel
theorem dL_law_805 : decode μL_law.2.1 805 = .ok (.iadd, 1) := by decide +kernel
theorem dL_law_806 : decode μL_law.2.1 806 = .ok (.iaload, 1) := by decide +kernel
theorem dL_law_807 : decode μL_law.2.1 807 = .ok (.invokevirtual 103, 3) := by decide +kernel
theorem dL_law_810 : decode μL_law.2.1 810 = .ok (.aload_n 2, 1) := by decide +kernel
theorem dL_law_811 : decode μL_law.2.1 811 = .ok (.aload_n 0, 1) := by decide +kernel
theorem dL_law_812 : decode μL_law.2.1 812 = .ok (.iload_n 3, 1) := by decide +kernel
theorem dL_law_813 : decode μL_law.2.1 813 = .ok (.iconst 1, 1) := by decide +kernel
theorem dL_law_814 : decode μL_law.2.1 814 = .ok (.iadd, 1) := by decide +kernel
theorem dL_law_815 : decode μL_law.2.1 815 = .ok (.iaload, 1) := by decide +kernel
theorem dL_law_816 : decode μL_law.2.1 816 = .ok (.aload_n 0, 1) := by decide +kernel
theorem dL_law_817 : decode μL_law.2.1 817 = .ok (.iload_n 3, 1) := by decide +kernel
theorem dL_law_818 : decode μL_law.2.1 818 = .ok (.iconst 2, 1) := by decide +kernel
theorem dL_law_819 : decode μL_law.2.1 819 = .ok (.iadd, 1) := by decide +kernel
theorem dL_law_820 : decode μL_law.2.1 820 = .ok (.iaload, 1) := by decide +kernel
theorem dL_law_821 : decode μL_law.2.1 821 = .ok (.aload_n 0, 1) := by decide +kernel
theorem dL_law_822 : decode μL_law.2.1 822 = .ok (.iload_n 3, 1) := by decide +kernel
theorem dL_law_823 : decode μL_law.2.1 823 = .ok (.iconst 3, 1) := by decide +kernel
theorem dL_law_824 : decode μL_law.2.1 824 = .ok (.iadd, 1) := by decide +kernel
theorem dL_law_825 : decode μL_law.2.1 825 = .ok (.iaload, 1) := by decide +kernel
theorem dL_law_826 : decode μL_law.2.1 826 = .ok (.invokevirtual 106, 3) := by decide +kernel
theorem dL_law_829 : decode μL_law.2.1 829 = .ok (.if_icmp .eq 590, 3) := by decide +kernel
theorem dL_law_832 : decode μL_law.2.1 832 = .ok (.iconst 0, 1) := by decide +kernel
theorem dL_law_833 : decode μL_law.2.1 833 = .ok (.ireturn, 1) := by decide +kernel
theorem dL_law_834 : decode μL_law.2.1 834 = .ok (.aload_n 1, 1) := by decide +kernel
theorem dL_law_835 : decode μL_law.2.1 835 = .ok (.aload_n 0, 1) := by decide +kernel
theorem dL_law_836 : decode μL_law.2.1 836 = .ok (.iload_n 3, 1) := by decide +kernel
theorem dL_law_837 : decode μL_law.2.1 837 = .ok (.iconst 1, 1) := by decide +kernel
theorem dL_law_838 : decode μL_law.2.1 838 = .ok (.iadd, 1) := by decide +kernel
theorem dL_law_839 : decode μL_law.2.1 839 = .ok (.iaload, 1) := by decide +kernel
theorem dL_law_840 : decode μL_law.2.1 840 = .ok (.invokevirtual 107, 3) := by decide +kernel
theorem dL_law_843 : decode μL_law.2.1 843 = .ok (.aload_n 2, 1) := by decide +kernel
theorem dL_law_844 : decode μL_law.2.1 844 = .ok (.aload_n 0, 1) := by decide +kernel
theorem dL_law_845 : decode μL_law.2.1 845 = .ok (.iload_n 3, 1) := by decide +kernel
theorem dL_law_846 : decode μL_law.2.1 846 = .ok (.iconst 1, 1) := by decide +kernel
theorem dL_law_847 : decode μL_law.2.1 847 = .ok (.iadd, 1) := by decide +kernel
theorem dL_law_848 : decode μL_law.2.1 848 = .ok (.iaload, 1) := by decide +kernel
theorem dL_law_849 : decode μL_law.2.1 849 = .ok (.invokevirtual 110, 3) := by decide +kernel
theorem dL_law_852 : decode μL_law.2.1 852 = .ok (.if_icmp .eq 567, 3) := by decide +kernel
theorem dL_law_855 : decode μL_law.2.1 855 = .ok (.iconst 0, 1) := by decide +kernel
theorem dL_law_856 : decode μL_law.2.1 856 = .ok (.ireturn, 1) := by decide +kernel
theorem dL_law_857 : decode μL_law.2.1 857 = .ok (.aload_n 1, 1) := by decide +kernel
theorem dL_law_858 : decode μL_law.2.1 858 = .ok (.aload_n 0, 1) := by decide +kernel
theorem dL_law_859 : decode μL_law.2.1 859 = .ok (.iload_n 3, 1) := by decide +kernel
theorem dL_law_860 : decode μL_law.2.1 860 = .ok (.iconst 1, 1) := by decide +kernel
theorem dL_law_861 : decode μL_law.2.1 861 = .ok (.iadd, 1) := by decide +kernel
theorem dL_law_862 : decode μL_law.2.1 862 = .ok (.iaload, 1) := by decide +kernel
theorem dL_law_863 : decode μL_law.2.1 863 = .ok (.aload_n 0, 1) := by decide +kernel
theorem dL_law_864 : decode μL_law.2.1 864 = .ok (.iload_n 3, 1) := by decide +kernel
theorem dL_law_865 : decode μL_law.2.1 865 = .ok (.iconst 2, 1) := by decide +kernel
theorem dL_law_866 : decode μL_law.2.1 866 = .ok (.iadd, 1) := by decide +kernel
theorem dL_law_867 : decode μL_law.2.1 867 = .ok (.iaload, 1) := by decide +kernel
theorem dL_law_868 : decode μL_law.2.1 868 = .ok (.invokevirtual 111, 3) := by decide +kernel
theorem dL_law_871 : decode μL_law.2.1 871 = .ok (.aload_n 2, 1) := by decide +kernel
theorem dL_law_872 : decode μL_law.2.1 872 = .ok (.aload_n 0, 1) := by decide +kernel
theorem dL_law_873 : decode μL_law.2.1 873 = .ok (.iload_n 3, 1) := by decide +kernel
theorem dL_law_874 : decode μL_law.2.1 874 = .ok (.iconst 1, 1) := by decide +kernel
theorem dL_law_875 : decode μL_law.2.1 875 = .ok (.iadd, 1) := by decide +kernel
theorem dL_law_876 : decode μL_law.2.1 876 = .ok (.iaload, 1) := by decide +kernel
theorem dL_law_877 : decode μL_law.2.1 877 = .ok (.aload_n 0, 1) := by decide +kernel
theorem dL_law_878 : decode μL_law.2.1 878 = .ok (.iload_n 3, 1) := by decide +kernel
theorem dL_law_879 : decode μL_law.2.1 879 = .ok (.iconst 2, 1) := by decide +kernel
theorem dL_law_880 : decode μL_law.2.1 880 = .ok (.iadd, 1) := by decide +kernel
theorem dL_law_881 : decode μL_law.2.1 881 = .ok (.iaload, 1) := by decide +kernel
theorem dL_law_882 : decode μL_law.2.1 882 = .ok (.invokevirtual 114, 3) := by decide +kernel
theorem dL_law_885 : decode μL_law.2.1 885 = .ok (.if_icmp .eq 534, 3) := by decide +kernel
theorem dL_law_888 : decode μL_law.2.1 888 = .ok (.iconst 0, 1) := by decide +kernel
theorem dL_law_889 : decode μL_law.2.1 889 = .ok (.ireturn, 1) := by decide +kernel
theorem dL_law_890 : decode μL_law.2.1 890 = .ok (.aload_n 1, 1) := by decide +kernel
theorem dL_law_891 : decode μL_law.2.1 891 = .ok (.aload_n 0, 1) := by decide +kernel
theorem dL_law_892 : decode μL_law.2.1 892 = .ok (.iload_n 3, 1) := by decide +kernel
theorem dL_law_893 : decode μL_law.2.1 893 = .ok (.iconst 1, 1) := by decide +kernel
theorem dL_law_894 : decode μL_law.2.1 894 = .ok (.iadd, 1) := by decide +kernel
theorem dL_law_895 : decode μL_law.2.1 895 = .ok (.iaload, 1) := by decide +kernel
theorem dL_law_896 : decode μL_law.2.1 896 = .ok (.aload_n 0, 1) := by decide +kernel
theorem dL_law_897 : decode μL_law.2.1 897 = .ok (.iload_n 3, 1) := by decide +kernel
theorem dL_law_898 : decode μL_law.2.1 898 = .ok (.iconst 2, 1) := by decide +kernel
theorem dL_law_899 : decode μL_law.2.1 899 = .ok (.iadd, 1) := by decide +kernel
theorem dL_law_900 : decode μL_law.2.1 900 = .ok (.iaload, 1) := by decide +kernel
theorem dL_law_901 : decode μL_law.2.1 901 = .ok (.aload_n 0, 1) := by decide +kernel
theorem dL_law_902 : decode μL_law.2.1 902 = .ok (.iload_n 3, 1) := by decide +kernel
theorem dL_law_903 : decode μL_law.2.1 903 = .ok (.iconst 3, 1) := by decide +kernel
theorem dL_law_904 : decode μL_law.2.1 904 = .ok (.iadd, 1) := by decide +kernel
theorem dL_law_905 : decode μL_law.2.1 905 = .ok (.iaload, 1) := by decide +kernel
theorem dL_law_906 : decode μL_law.2.1 906 = .ok (.invokevirtual 115, 3) := by decide +kernel
theorem dL_law_909 : decode μL_law.2.1 909 = .ok (.aload_n 2, 1) := by decide +kernel
theorem dL_law_910 : decode μL_law.2.1 910 = .ok (.aload_n 0, 1) := by decide +kernel
theorem dL_law_911 : decode μL_law.2.1 911 = .ok (.iload_n 3, 1) := by decide +kernel
theorem dL_law_912 : decode μL_law.2.1 912 = .ok (.iconst 1, 1) := by decide +kernel
theorem dL_law_913 : decode μL_law.2.1 913 = .ok (.iadd, 1) := by decide +kernel
theorem dL_law_914 : decode μL_law.2.1 914 = .ok (.iaload, 1) := by decide +kernel
theorem dL_law_915 : decode μL_law.2.1 915 = .ok (.aload_n 0, 1) := by decide +kernel
theorem dL_law_916 : decode μL_law.2.1 916 = .ok (.iload_n 3, 1) := by decide +kernel
theorem dL_law_917 : decode μL_law.2.1 917 = .ok (.iconst 2, 1) := by decide +kernel
theorem dL_law_918 : decode μL_law.2.1 918 = .ok (.iadd, 1) := by decide +kernel
theorem dL_law_919 : decode μL_law.2.1 919 = .ok (.iaload, 1) := by decide +kernel
theorem dL_law_920 : decode μL_law.2.1 920 = .ok (.aload_n 0, 1) := by decide +kernel
theorem dL_law_921 : decode μL_law.2.1 921 = .ok (.iload_n 3, 1) := by decide +kernel
theorem dL_law_922 : decode μL_law.2.1 922 = .ok (.iconst 3, 1) := by decide +kernel
theorem dL_law_923 : decode μL_law.2.1 923 = .ok (.iadd, 1) := by decide +kernel
theorem dL_law_924 : decode μL_law.2.1 924 = .ok (.iaload, 1) := by decide +kernel
theorem dL_law_925 : decode μL_law.2.1 925 = .ok (.invokevirtual 118, 3) := by decide +kernel
theorem dL_law_928 : decode μL_law.2.1 928 = .ok (.if_icmp .eq 491, 3) := by decide +kernel
theorem dL_law_931 : decode μL_law.2.1 931 = .ok (.iconst 0, 1) := by decide +kernel
theorem dL_law_932 : decode μL_law.2.1 932 = .ok (.ireturn, 1) := by decide +kernel
theorem dL_law_933 : decode μL_law.2.1 933 = .ok (.aload_n 1, 1) := by decide +kernel
theorem dL_law_934 : decode μL_law.2.1 934 = .ok (.aload_n 0, 1) := by decide +kernel
theorem dL_law_935 : decode μL_law.2.1 935 = .ok (.iload_n 3, 1) := by decide +kernel
theorem dL_law_936 : decode μL_law.2.1 936 = .ok (.iconst 1, 1) := by decide +kernel
theorem dL_law_937 : decode μL_law.2.1 937 = .ok (.iadd, 1) := by decide +kernel
theorem dL_law_938 : decode μL_law.2.1 938 = .ok (.iaload, 1) := by decide +kernel
theorem dL_law_939 : decode μL_law.2.1 939 = .ok (.aload_n 0, 1) := by decide +kernel
theorem dL_law_940 : decode μL_law.2.1 940 = .ok (.iload_n 3, 1) := by decide +kernel
theorem dL_law_941 : decode μL_law.2.1 941 = .ok (.iconst 2, 1) := by decide +kernel
theorem dL_law_942 : decode μL_law.2.1 942 = .ok (.iadd, 1) := by decide +kernel
theorem dL_law_943 : decode μL_law.2.1 943 = .ok (.iaload, 1) := by decide +kernel
theorem dL_law_944 : decode μL_law.2.1 944 = .ok (.invokevirtual 119, 3) := by decide +kernel
theorem dL_law_947 : decode μL_law.2.1 947 = .ok (.aload_n 2, 1) := by decide +kernel
theorem dL_law_948 : decode μL_law.2.1 948 = .ok (.aload_n 0, 1) := by decide +kernel
theorem dL_law_949 : decode μL_law.2.1 949 = .ok (.iload_n 3, 1) := by decide +kernel
theorem dL_law_950 : decode μL_law.2.1 950 = .ok (.iconst 1, 1) := by decide +kernel
theorem dL_law_951 : decode μL_law.2.1 951 = .ok (.iadd, 1) := by decide +kernel
theorem dL_law_952 : decode μL_law.2.1 952 = .ok (.iaload, 1) := by decide +kernel
theorem dL_law_953 : decode μL_law.2.1 953 = .ok (.aload_n 0, 1) := by decide +kernel
theorem dL_law_954 : decode μL_law.2.1 954 = .ok (.iload_n 3, 1) := by decide +kernel
theorem dL_law_955 : decode μL_law.2.1 955 = .ok (.iconst 2, 1) := by decide +kernel
theorem dL_law_956 : decode μL_law.2.1 956 = .ok (.iadd, 1) := by decide +kernel
theorem dL_law_957 : decode μL_law.2.1 957 = .ok (.iaload, 1) := by decide +kernel
theorem dL_law_958 : decode μL_law.2.1 958 = .ok (.invokevirtual 122, 3) := by decide +kernel
theorem dL_law_961 : decode μL_law.2.1 961 = .ok (.if_icmp .eq 458, 3) := by decide +kernel
theorem dL_law_964 : decode μL_law.2.1 964 = .ok (.iconst 0, 1) := by decide +kernel
theorem dL_law_965 : decode μL_law.2.1 965 = .ok (.ireturn, 1) := by decide +kernel
theorem dL_law_966 : decode μL_law.2.1 966 = .ok (.aload_n 1, 1) := by decide +kernel
theorem dL_law_967 : decode μL_law.2.1 967 = .ok (.invokevirtual 123, 3) := by decide +kernel
theorem dL_law_970 : decode μL_law.2.1 970 = .ok (.aload_n 2, 1) := by decide +kernel
theorem dL_law_971 : decode μL_law.2.1 971 = .ok (.invokevirtual 126, 3) := by decide +kernel
theorem dL_law_974 : decode μL_law.2.1 974 = .ok (.if_icmp .eq 445, 3) := by decide +kernel
theorem dL_law_977 : decode μL_law.2.1 977 = .ok (.iconst 0, 1) := by decide +kernel
theorem dL_law_978 : decode μL_law.2.1 978 = .ok (.ireturn, 1) := by decide +kernel
theorem dL_law_979 : decode μL_law.2.1 979 = .ok (.aload_n 1, 1) := by decide +kernel
theorem dL_law_980 : decode μL_law.2.1 980 = .ok (.invokevirtual 127, 3) := by decide +kernel
theorem dL_law_983 : decode μL_law.2.1 983 = .ok (.aload_n 2, 1) := by decide +kernel
theorem dL_law_984 : decode μL_law.2.1 984 = .ok (.invokevirtual 130, 3) := by decide +kernel
theorem dL_law_987 : decode μL_law.2.1 987 = .ok (.if_icmp .eq 432, 3) := by decide +kernel
theorem dL_law_990 : decode μL_law.2.1 990 = .ok (.iconst 0, 1) := by decide +kernel
theorem dL_law_991 : decode μL_law.2.1 991 = .ok (.ireturn, 1) := by decide +kernel
theorem dL_law_992 : decode μL_law.2.1 992 = .ok (.aload_n 1, 1) := by decide +kernel
theorem dL_law_993 : decode μL_law.2.1 993 = .ok (.invokevirtual 131, 3) := by decide +kernel
theorem dL_law_996 : decode μL_law.2.1 996 = .ok (.aload_n 2, 1) := by decide +kernel
theorem dL_law_997 : decode μL_law.2.1 997 = .ok (.invokevirtual 134, 3) := by decide +kernel
theorem dL_law_1000 : decode μL_law.2.1 1000 = .ok (.if_icmp .eq 419, 3) := by decide +kernel
theorem dL_law_1003 : decode μL_law.2.1 1003 = .ok (.iconst 0, 1) := by decide +kernel
theorem dL_law_1004 : decode μL_law.2.1 1004 = .ok (.ireturn, 1) := by decide +kernel
theorem dL_law_1005 : decode μL_law.2.1 1005 = .ok (.aload_n 1, 1) := by decide +kernel
theorem dL_law_1006 : decode μL_law.2.1 1006 = .ok (.invokevirtual 135, 3) := by decide +kernel
theorem dL_law_1009 : decode μL_law.2.1 1009 = .ok (.aload_n 2, 1) := by decide +kernel
theorem dL_law_1010 : decode μL_law.2.1 1010 = .ok (.invokevirtual 138, 3) := by decide +kernel
theorem dL_law_1013 : decode μL_law.2.1 1013 = .ok (.if_icmp .eq 406, 3) := by decide +kernel
theorem dL_law_1016 : decode μL_law.2.1 1016 = .ok (.iconst 0, 1) := by decide +kernel
theorem dL_law_1017 : decode μL_law.2.1 1017 = .ok (.ireturn, 1) := by decide +kernel
theorem dL_law_1018 : decode μL_law.2.1 1018 = .ok (.aload_n 1, 1) := by decide +kernel
theorem dL_law_1019 : decode μL_law.2.1 1019 = .ok (.invokevirtual 139, 3) := by decide +kernel
theorem dL_law_1022 : decode μL_law.2.1 1022 = .ok (.aload_n 2, 1) := by decide +kernel
theorem dL_law_1023 : decode μL_law.2.1 1023 = .ok (.invokevirtual 142, 3) := by decide +kernel
theorem dL_law_1026 : decode μL_law.2.1 1026 = .ok (.if_icmp .eq 393, 3) := by decide +kernel
theorem dL_law_1029 : decode μL_law.2.1 1029 = .ok (.iconst 0, 1) := by decide +kernel
theorem dL_law_1030 : decode μL_law.2.1 1030 = .ok (.ireturn, 1) := by decide +kernel
theorem dL_law_1031 : decode μL_law.2.1 1031 = .ok (.aload_n 1, 1) := by decide +kernel
theorem dL_law_1032 : decode μL_law.2.1 1032 = .ok (.invokevirtual 143, 3) := by decide +kernel
theorem dL_law_1035 : decode μL_law.2.1 1035 = .ok (.aload_n 2, 1) := by decide +kernel
theorem dL_law_1036 : decode μL_law.2.1 1036 = .ok (.invokevirtual 146, 3) := by decide +kernel
theorem dL_law_1039 : decode μL_law.2.1 1039 = .ok (.if_icmp .eq 380, 3) := by decide +kernel
theorem dL_law_1042 : decode μL_law.2.1 1042 = .ok (.iconst 0, 1) := by decide +kernel
theorem dL_law_1043 : decode μL_law.2.1 1043 = .ok (.ireturn, 1) := by decide +kernel
theorem dL_law_1044 : decode μL_law.2.1 1044 = .ok (.aload_n 1, 1) := by decide +kernel
theorem dL_law_1045 : decode μL_law.2.1 1045 = .ok (.aload_n 0, 1) := by decide +kernel
theorem dL_law_1046 : decode μL_law.2.1 1046 = .ok (.iload_n 3, 1) := by decide +kernel
theorem dL_law_1047 : decode μL_law.2.1 1047 = .ok (.iconst 1, 1) := by decide +kernel
theorem dL_law_1048 : decode μL_law.2.1 1048 = .ok (.iadd, 1) := by decide +kernel
theorem dL_law_1049 : decode μL_law.2.1 1049 = .ok (.iaload, 1) := by decide +kernel
theorem dL_law_1050 : decode μL_law.2.1 1050 = .ok (.invokevirtual 147, 3) := by decide +kernel
theorem dL_law_1053 : decode μL_law.2.1 1053 = .ok (.aload_n 2, 1) := by decide +kernel
theorem dL_law_1054 : decode μL_law.2.1 1054 = .ok (.aload_n 0, 1) := by decide +kernel
theorem dL_law_1055 : decode μL_law.2.1 1055 = .ok (.iload_n 3, 1) := by decide +kernel
theorem dL_law_1056 : decode μL_law.2.1 1056 = .ok (.iconst 1, 1) := by decide +kernel
theorem dL_law_1057 : decode μL_law.2.1 1057 = .ok (.iadd, 1) := by decide +kernel
theorem dL_law_1058 : decode μL_law.2.1 1058 = .ok (.iaload, 1) := by decide +kernel
theorem dL_law_1059 : decode μL_law.2.1 1059 = .ok (.invokevirtual 150, 3) := by decide +kernel
theorem dL_law_1062 : decode μL_law.2.1 1062 = .ok (.if_icmp .eq 357, 3) := by decide +kernel
theorem dL_law_1065 : decode μL_law.2.1 1065 = .ok (.iconst 0, 1) := by decide +kernel
theorem dL_law_1066 : decode μL_law.2.1 1066 = .ok (.ireturn, 1) := by decide +kernel
theorem dL_law_1067 : decode μL_law.2.1 1067 = .ok (.aload_n 1, 1) := by decide +kernel
theorem dL_law_1068 : decode μL_law.2.1 1068 = .ok (.aload_n 0, 1) := by decide +kernel
theorem dL_law_1069 : decode μL_law.2.1 1069 = .ok (.iload_n 3, 1) := by decide +kernel
theorem dL_law_1070 : decode μL_law.2.1 1070 = .ok (.iconst 1, 1) := by decide +kernel
theorem dL_law_1071 : decode μL_law.2.1 1071 = .ok (.iadd, 1) := by decide +kernel
theorem dL_law_1072 : decode μL_law.2.1 1072 = .ok (.iaload, 1) := by decide +kernel
theorem dL_law_1073 : decode μL_law.2.1 1073 = .ok (.aload_n 0, 1) := by decide +kernel
theorem dL_law_1074 : decode μL_law.2.1 1074 = .ok (.iload_n 3, 1) := by decide +kernel
theorem dL_law_1075 : decode μL_law.2.1 1075 = .ok (.iconst 2, 1) := by decide +kernel
theorem dL_law_1076 : decode μL_law.2.1 1076 = .ok (.iadd, 1) := by decide +kernel
theorem dL_law_1077 : decode μL_law.2.1 1077 = .ok (.iaload, 1) := by decide +kernel
theorem dL_law_1078 : decode μL_law.2.1 1078 = .ok (.invokevirtual 151, 3) := by decide +kernel
theorem dL_law_1081 : decode μL_law.2.1 1081 = .ok (.aload_n 2, 1) := by decide +kernel
theorem dL_law_1082 : decode μL_law.2.1 1082 = .ok (.aload_n 0, 1) := by decide +kernel
theorem dL_law_1083 : decode μL_law.2.1 1083 = .ok (.iload_n 3, 1) := by decide +kernel
theorem dL_law_1084 : decode μL_law.2.1 1084 = .ok (.iconst 1, 1) := by decide +kernel
theorem dL_law_1085 : decode μL_law.2.1 1085 = .ok (.iadd, 1) := by decide +kernel
theorem dL_law_1086 : decode μL_law.2.1 1086 = .ok (.iaload, 1) := by decide +kernel
theorem dL_law_1087 : decode μL_law.2.1 1087 = .ok (.aload_n 0, 1) := by decide +kernel
theorem dL_law_1088 : decode μL_law.2.1 1088 = .ok (.iload_n 3, 1) := by decide +kernel
theorem dL_law_1089 : decode μL_law.2.1 1089 = .ok (.iconst 2, 1) := by decide +kernel
theorem dL_law_1090 : decode μL_law.2.1 1090 = .ok (.iadd, 1) := by decide +kernel
theorem dL_law_1091 : decode μL_law.2.1 1091 = .ok (.iaload, 1) := by decide +kernel
theorem dL_law_1092 : decode μL_law.2.1 1092 = .ok (.invokevirtual 154, 3) := by decide +kernel
theorem dL_law_1095 : decode μL_law.2.1 1095 = .ok (.if_icmp .eq 324, 3) := by decide +kernel
theorem dL_law_1098 : decode μL_law.2.1 1098 = .ok (.iconst 0, 1) := by decide +kernel
theorem dL_law_1099 : decode μL_law.2.1 1099 = .ok (.ireturn, 1) := by decide +kernel
theorem dL_law_1100 : decode μL_law.2.1 1100 = .ok (.aload_n 1, 1) := by decide +kernel
theorem dL_law_1101 : decode μL_law.2.1 1101 = .ok (.aload_n 0, 1) := by decide +kernel
theorem dL_law_1102 : decode μL_law.2.1 1102 = .ok (.iload_n 3, 1) := by decide +kernel
theorem dL_law_1103 : decode μL_law.2.1 1103 = .ok (.iconst 1, 1) := by decide +kernel
theorem dL_law_1104 : decode μL_law.2.1 1104 = .ok (.iadd, 1) := by decide +kernel
theorem dL_law_1105 : decode μL_law.2.1 1105 = .ok (.iaload, 1) := by decide +kernel
theorem dL_law_1106 : decode μL_law.2.1 1106 = .ok (.aload_n 0, 1) := by decide +kernel
theorem dL_law_1107 : decode μL_law.2.1 1107 = .ok (.iload_n 3, 1) := by decide +kernel
theorem dL_law_1108 : decode μL_law.2.1 1108 = .ok (.iconst 2, 1) := by decide +kernel
theorem dL_law_1109 : decode μL_law.2.1 1109 = .ok (.iadd, 1) := by decide +kernel
theorem dL_law_1110 : decode μL_law.2.1 1110 = .ok (.iaload, 1) := by decide +kernel
theorem dL_law_1111 : decode μL_law.2.1 1111 = .ok (.invokevirtual 155, 3) := by decide +kernel
theorem dL_law_1114 : decode μL_law.2.1 1114 = .ok (.aload_n 2, 1) := by decide +kernel
theorem dL_law_1115 : decode μL_law.2.1 1115 = .ok (.aload_n 0, 1) := by decide +kernel
theorem dL_law_1116 : decode μL_law.2.1 1116 = .ok (.iload_n 3, 1) := by decide +kernel
theorem dL_law_1117 : decode μL_law.2.1 1117 = .ok (.iconst 1, 1) := by decide +kernel
theorem dL_law_1118 : decode μL_law.2.1 1118 = .ok (.iadd, 1) := by decide +kernel
theorem dL_law_1119 : decode μL_law.2.1 1119 = .ok (.iaload, 1) := by decide +kernel
theorem dL_law_1120 : decode μL_law.2.1 1120 = .ok (.aload_n 0, 1) := by decide +kernel
theorem dL_law_1121 : decode μL_law.2.1 1121 = .ok (.iload_n 3, 1) := by decide +kernel
theorem dL_law_1122 : decode μL_law.2.1 1122 = .ok (.iconst 2, 1) := by decide +kernel
theorem dL_law_1123 : decode μL_law.2.1 1123 = .ok (.iadd, 1) := by decide +kernel
theorem dL_law_1124 : decode μL_law.2.1 1124 = .ok (.iaload, 1) := by decide +kernel
theorem dL_law_1125 : decode μL_law.2.1 1125 = .ok (.invokevirtual 158, 3) := by decide +kernel
theorem dL_law_1128 : decode μL_law.2.1 1128 = .ok (.if_icmp .eq 291, 3) := by decide +kernel
theorem dL_law_1131 : decode μL_law.2.1 1131 = .ok (.iconst 0, 1) := by decide +kernel
theorem dL_law_1132 : decode μL_law.2.1 1132 = .ok (.ireturn, 1) := by decide +kernel
theorem dL_law_1133 : decode μL_law.2.1 1133 = .ok (.aload_n 1, 1) := by decide +kernel
theorem dL_law_1134 : decode μL_law.2.1 1134 = .ok (.aload_n 0, 1) := by decide +kernel
theorem dL_law_1135 : decode μL_law.2.1 1135 = .ok (.iload_n 3, 1) := by decide +kernel
theorem dL_law_1136 : decode μL_law.2.1 1136 = .ok (.iconst 1, 1) := by decide +kernel
theorem dL_law_1137 : decode μL_law.2.1 1137 = .ok (.iadd, 1) := by decide +kernel
theorem dL_law_1138 : decode μL_law.2.1 1138 = .ok (.iaload, 1) := by decide +kernel
theorem dL_law_1139 : decode μL_law.2.1 1139 = .ok (.invokevirtual 159, 3) := by decide +kernel
theorem dL_law_1142 : decode μL_law.2.1 1142 = .ok (.aload_n 2, 1) := by decide +kernel
theorem dL_law_1143 : decode μL_law.2.1 1143 = .ok (.aload_n 0, 1) := by decide +kernel
theorem dL_law_1144 : decode μL_law.2.1 1144 = .ok (.iload_n 3, 1) := by decide +kernel
theorem dL_law_1145 : decode μL_law.2.1 1145 = .ok (.iconst 1, 1) := by decide +kernel
theorem dL_law_1146 : decode μL_law.2.1 1146 = .ok (.iadd, 1) := by decide +kernel
theorem dL_law_1147 : decode μL_law.2.1 1147 = .ok (.iaload, 1) := by decide +kernel
theorem dL_law_1148 : decode μL_law.2.1 1148 = .ok (.invokevirtual 162, 3) := by decide +kernel
theorem dL_law_1151 : decode μL_law.2.1 1151 = .ok (.if_icmp .eq 268, 3) := by decide +kernel
theorem dL_law_1154 : decode μL_law.2.1 1154 = .ok (.iconst 0, 1) := by decide +kernel
theorem dL_law_1155 : decode μL_law.2.1 1155 = .ok (.ireturn, 1) := by decide +kernel
theorem dL_law_1156 : decode μL_law.2.1 1156 = .ok (.aload_n 1, 1) := by decide +kernel
theorem dL_law_1157 : decode μL_law.2.1 1157 = .ok (.aload_n 0, 1) := by decide +kernel
theorem dL_law_1158 : decode μL_law.2.1 1158 = .ok (.iload_n 3, 1) := by decide +kernel
theorem dL_law_1159 : decode μL_law.2.1 1159 = .ok (.iconst 1, 1) := by decide +kernel
theorem dL_law_1160 : decode μL_law.2.1 1160 = .ok (.iadd, 1) := by decide +kernel
theorem dL_law_1161 : decode μL_law.2.1 1161 = .ok (.iaload, 1) := by decide +kernel
theorem dL_law_1162 : decode μL_law.2.1 1162 = .ok (.aload_n 0, 1) := by decide +kernel
theorem dL_law_1163 : decode μL_law.2.1 1163 = .ok (.iload_n 3, 1) := by decide +kernel
theorem dL_law_1164 : decode μL_law.2.1 1164 = .ok (.iconst 2, 1) := by decide +kernel
theorem dL_law_1165 : decode μL_law.2.1 1165 = .ok (.iadd, 1) := by decide +kernel
theorem dL_law_1166 : decode μL_law.2.1 1166 = .ok (.iaload, 1) := by decide +kernel
theorem dL_law_1167 : decode μL_law.2.1 1167 = .ok (.aload_n 0, 1) := by decide +kernel
theorem dL_law_1168 : decode μL_law.2.1 1168 = .ok (.iload_n 3, 1) := by decide +kernel
theorem dL_law_1169 : decode μL_law.2.1 1169 = .ok (.iconst 3, 1) := by decide +kernel
theorem dL_law_1170 : decode μL_law.2.1 1170 = .ok (.iadd, 1) := by decide +kernel
theorem dL_law_1171 : decode μL_law.2.1 1171 = .ok (.iaload, 1) := by decide +kernel
theorem dL_law_1172 : decode μL_law.2.1 1172 = .ok (.ifCond .eq 7, 3) := by decide +kernel
theorem dL_law_1175 : decode μL_law.2.1 1175 = .ok (.iconst 1, 1) := by decide +kernel
theorem dL_law_1176 : decode μL_law.2.1 1176 = .ok (.goto 4, 3) := by decide +kernel
theorem dL_law_1179 : decode μL_law.2.1 1179 = .ok (.iconst 0, 1) := by decide +kernel
theorem dL_law_1180 : decode μL_law.2.1 1180 = .ok (.invokevirtual 163, 3) := by decide +kernel
theorem dL_law_1183 : decode μL_law.2.1 1183 = .ok (.aload_n 2, 1) := by decide +kernel
theorem dL_law_1184 : decode μL_law.2.1 1184 = .ok (.aload_n 0, 1) := by decide +kernel
theorem dL_law_1185 : decode μL_law.2.1 1185 = .ok (.iload_n 3, 1) := by decide +kernel
theorem dL_law_1186 : decode μL_law.2.1 1186 = .ok (.iconst 1, 1) := by decide +kernel
theorem dL_law_1187 : decode μL_law.2.1 1187 = .ok (.iadd, 1) := by decide +kernel
theorem dL_law_1188 : decode μL_law.2.1 1188 = .ok (.iaload, 1) := by decide +kernel
theorem dL_law_1189 : decode μL_law.2.1 1189 = .ok (.aload_n 0, 1) := by decide +kernel
theorem dL_law_1190 : decode μL_law.2.1 1190 = .ok (.iload_n 3, 1) := by decide +kernel
theorem dL_law_1191 : decode μL_law.2.1 1191 = .ok (.iconst 2, 1) := by decide +kernel
theorem dL_law_1192 : decode μL_law.2.1 1192 = .ok (.iadd, 1) := by decide +kernel
theorem dL_law_1193 : decode μL_law.2.1 1193 = .ok (.iaload, 1) := by decide +kernel
theorem dL_law_1194 : decode μL_law.2.1 1194 = .ok (.aload_n 0, 1) := by decide +kernel
theorem dL_law_1195 : decode μL_law.2.1 1195 = .ok (.iload_n 3, 1) := by decide +kernel
theorem dL_law_1196 : decode μL_law.2.1 1196 = .ok (.iconst 3, 1) := by decide +kernel
theorem dL_law_1197 : decode μL_law.2.1 1197 = .ok (.iadd, 1) := by decide +kernel
theorem dL_law_1198 : decode μL_law.2.1 1198 = .ok (.iaload, 1) := by decide +kernel
theorem dL_law_1199 : decode μL_law.2.1 1199 = .ok (.ifCond .eq 7, 3) := by decide +kernel
theorem dL_law_1202 : decode μL_law.2.1 1202 = .ok (.iconst 1, 1) := by decide +kernel
theorem dL_law_1203 : decode μL_law.2.1 1203 = .ok (.goto 4, 3) := by decide +kernel
theorem dL_law_1206 : decode μL_law.2.1 1206 = .ok (.iconst 0, 1) := by decide +kernel
theorem dL_law_1207 : decode μL_law.2.1 1207 = .ok (.invokevirtual 167, 3) := by decide +kernel
theorem dL_law_1210 : decode μL_law.2.1 1210 = .ok (.if_icmp .eq 209, 3) := by decide +kernel
theorem dL_law_1213 : decode μL_law.2.1 1213 = .ok (.iconst 0, 1) := by decide +kernel
theorem dL_law_1214 : decode μL_law.2.1 1214 = .ok (.ireturn, 1) := by decide +kernel
theorem dL_law_1215 : decode μL_law.2.1 1215 = .ok (.aload_n 1, 1) := by decide +kernel
theorem dL_law_1216 : decode μL_law.2.1 1216 = .ok (.aload_n 0, 1) := by decide +kernel
theorem dL_law_1217 : decode μL_law.2.1 1217 = .ok (.iload_n 3, 1) := by decide +kernel
theorem dL_law_1218 : decode μL_law.2.1 1218 = .ok (.iconst 1, 1) := by decide +kernel
theorem dL_law_1219 : decode μL_law.2.1 1219 = .ok (.iadd, 1) := by decide +kernel
theorem dL_law_1220 : decode μL_law.2.1 1220 = .ok (.iaload, 1) := by decide +kernel
theorem dL_law_1221 : decode μL_law.2.1 1221 = .ok (.invokevirtual 168, 3) := by decide +kernel
theorem dL_law_1224 : decode μL_law.2.1 1224 = .ok (.aload_n 2, 1) := by decide +kernel
theorem dL_law_1225 : decode μL_law.2.1 1225 = .ok (.aload_n 0, 1) := by decide +kernel
theorem dL_law_1226 : decode μL_law.2.1 1226 = .ok (.iload_n 3, 1) := by decide +kernel
theorem dL_law_1227 : decode μL_law.2.1 1227 = .ok (.iconst 1, 1) := by decide +kernel
theorem dL_law_1228 : decode μL_law.2.1 1228 = .ok (.iadd, 1) := by decide +kernel
theorem dL_law_1229 : decode μL_law.2.1 1229 = .ok (.iaload, 1) := by decide +kernel
theorem dL_law_1230 : decode μL_law.2.1 1230 = .ok (.invokevirtual 172, 3) := by decide +kernel
theorem dL_law_1233 : decode μL_law.2.1 1233 = .ok (.if_icmp .eq 186, 3) := by decide +kernel
theorem dL_law_1236 : decode μL_law.2.1 1236 = .ok (.iconst 0, 1) := by decide +kernel
theorem dL_law_1237 : decode μL_law.2.1 1237 = .ok (.ireturn, 1) := by decide +kernel
theorem dL_law_1238 : decode μL_law.2.1 1238 = .ok (.aload_n 1, 1) := by decide +kernel
theorem dL_law_1239 : decode μL_law.2.1 1239 = .ok (.aload_n 0, 1) := by decide +kernel
theorem dL_law_1240 : decode μL_law.2.1 1240 = .ok (.iload_n 3, 1) := by decide +kernel
theorem dL_law_1241 : decode μL_law.2.1 1241 = .ok (.iconst 1, 1) := by decide +kernel
theorem dL_law_1242 : decode μL_law.2.1 1242 = .ok (.iadd, 1) := by decide +kernel
theorem dL_law_1243 : decode μL_law.2.1 1243 = .ok (.iaload, 1) := by decide +kernel
theorem dL_law_1244 : decode μL_law.2.1 1244 = .ok (.invokevirtual 173, 3) := by decide +kernel
theorem dL_law_1247 : decode μL_law.2.1 1247 = .ok (.aload_n 2, 1) := by decide +kernel
theorem dL_law_1248 : decode μL_law.2.1 1248 = .ok (.aload_n 0, 1) := by decide +kernel
theorem dL_law_1249 : decode μL_law.2.1 1249 = .ok (.iload_n 3, 1) := by decide +kernel
theorem dL_law_1250 : decode μL_law.2.1 1250 = .ok (.iconst 1, 1) := by decide +kernel
theorem dL_law_1251 : decode μL_law.2.1 1251 = .ok (.iadd, 1) := by decide +kernel
theorem dL_law_1252 : decode μL_law.2.1 1252 = .ok (.iaload, 1) := by decide +kernel
theorem dL_law_1253 : decode μL_law.2.1 1253 = .ok (.invokevirtual 176, 3) := by decide +kernel
theorem dL_law_1256 : decode μL_law.2.1 1256 = .ok (.if_icmp .eq 163, 3) := by decide +kernel
theorem dL_law_1259 : decode μL_law.2.1 1259 = .ok (.iconst 0, 1) := by decide +kernel
theorem dL_law_1260 : decode μL_law.2.1 1260 = .ok (.ireturn, 1) := by decide +kernel
theorem dL_law_1261 : decode μL_law.2.1 1261 = .ok (.aload_n 1, 1) := by decide +kernel
theorem dL_law_1262 : decode μL_law.2.1 1262 = .ok (.aload_n 0, 1) := by decide +kernel
theorem dL_law_1263 : decode μL_law.2.1 1263 = .ok (.iload_n 3, 1) := by decide +kernel
theorem dL_law_1264 : decode μL_law.2.1 1264 = .ok (.iconst 1, 1) := by decide +kernel
theorem dL_law_1265 : decode μL_law.2.1 1265 = .ok (.iadd, 1) := by decide +kernel
theorem dL_law_1266 : decode μL_law.2.1 1266 = .ok (.iaload, 1) := by decide +kernel
theorem dL_law_1267 : decode μL_law.2.1 1267 = .ok (.invokevirtual 177, 3) := by decide +kernel
theorem dL_law_1270 : decode μL_law.2.1 1270 = .ok (.aload_n 2, 1) := by decide +kernel
theorem dL_law_1271 : decode μL_law.2.1 1271 = .ok (.aload_n 0, 1) := by decide +kernel
theorem dL_law_1272 : decode μL_law.2.1 1272 = .ok (.iload_n 3, 1) := by decide +kernel
theorem dL_law_1273 : decode μL_law.2.1 1273 = .ok (.iconst 1, 1) := by decide +kernel
theorem dL_law_1274 : decode μL_law.2.1 1274 = .ok (.iadd, 1) := by decide +kernel
theorem dL_law_1275 : decode μL_law.2.1 1275 = .ok (.iaload, 1) := by decide +kernel
theorem dL_law_1276 : decode μL_law.2.1 1276 = .ok (.invokevirtual 180, 3) := by decide +kernel
theorem dL_law_1279 : decode μL_law.2.1 1279 = .ok (.if_icmp .eq 140, 3) := by decide +kernel
theorem dL_law_1282 : decode μL_law.2.1 1282 = .ok (.iconst 0, 1) := by decide +kernel
theorem dL_law_1283 : decode μL_law.2.1 1283 = .ok (.ireturn, 1) := by decide +kernel
theorem dL_law_1284 : decode μL_law.2.1 1284 = .ok (.aload_n 1, 1) := by decide +kernel
theorem dL_law_1285 : decode μL_law.2.1 1285 = .ok (.aload_n 0, 1) := by decide +kernel
theorem dL_law_1286 : decode μL_law.2.1 1286 = .ok (.iload_n 3, 1) := by decide +kernel
theorem dL_law_1287 : decode μL_law.2.1 1287 = .ok (.iconst 1, 1) := by decide +kernel
theorem dL_law_1288 : decode μL_law.2.1 1288 = .ok (.iadd, 1) := by decide +kernel
theorem dL_law_1289 : decode μL_law.2.1 1289 = .ok (.iaload, 1) := by decide +kernel
theorem dL_law_1290 : decode μL_law.2.1 1290 = .ok (.aload_n 0, 1) := by decide +kernel
theorem dL_law_1291 : decode μL_law.2.1 1291 = .ok (.iload_n 3, 1) := by decide +kernel
theorem dL_law_1292 : decode μL_law.2.1 1292 = .ok (.iconst 2, 1) := by decide +kernel
theorem dL_law_1293 : decode μL_law.2.1 1293 = .ok (.iadd, 1) := by decide +kernel
theorem dL_law_1294 : decode μL_law.2.1 1294 = .ok (.iaload, 1) := by decide +kernel
theorem dL_law_1295 : decode μL_law.2.1 1295 = .ok (.invokevirtual 181, 3) := by decide +kernel
theorem dL_law_1298 : decode μL_law.2.1 1298 = .ok (.aload_n 2, 1) := by decide +kernel
theorem dL_law_1299 : decode μL_law.2.1 1299 = .ok (.aload_n 0, 1) := by decide +kernel
theorem dL_law_1300 : decode μL_law.2.1 1300 = .ok (.iload_n 3, 1) := by decide +kernel
theorem dL_law_1301 : decode μL_law.2.1 1301 = .ok (.iconst 1, 1) := by decide +kernel
theorem dL_law_1302 : decode μL_law.2.1 1302 = .ok (.iadd, 1) := by decide +kernel
theorem dL_law_1303 : decode μL_law.2.1 1303 = .ok (.iaload, 1) := by decide +kernel
theorem dL_law_1304 : decode μL_law.2.1 1304 = .ok (.aload_n 0, 1) := by decide +kernel
theorem dL_law_1305 : decode μL_law.2.1 1305 = .ok (.iload_n 3, 1) := by decide +kernel
theorem dL_law_1306 : decode μL_law.2.1 1306 = .ok (.iconst 2, 1) := by decide +kernel
theorem dL_law_1307 : decode μL_law.2.1 1307 = .ok (.iadd, 1) := by decide +kernel
theorem dL_law_1308 : decode μL_law.2.1 1308 = .ok (.iaload, 1) := by decide +kernel
theorem dL_law_1309 : decode μL_law.2.1 1309 = .ok (.invokevirtual 184, 3) := by decide +kernel
theorem dL_law_1312 : decode μL_law.2.1 1312 = .ok (.if_icmp .eq 107, 3) := by decide +kernel
theorem dL_law_1315 : decode μL_law.2.1 1315 = .ok (.iconst 0, 1) := by decide +kernel
theorem dL_law_1316 : decode μL_law.2.1 1316 = .ok (.ireturn, 1) := by decide +kernel
theorem dL_law_1317 : decode μL_law.2.1 1317 = .ok (.aload_n 1, 1) := by decide +kernel
theorem dL_law_1318 : decode μL_law.2.1 1318 = .ok (.aload_n 0, 1) := by decide +kernel
theorem dL_law_1319 : decode μL_law.2.1 1319 = .ok (.iload_n 3, 1) := by decide +kernel
theorem dL_law_1320 : decode μL_law.2.1 1320 = .ok (.iconst 1, 1) := by decide +kernel
theorem dL_law_1321 : decode μL_law.2.1 1321 = .ok (.iadd, 1) := by decide +kernel
theorem dL_law_1322 : decode μL_law.2.1 1322 = .ok (.iaload, 1) := by decide +kernel
theorem dL_law_1323 : decode μL_law.2.1 1323 = .ok (.aload_n 0, 1) := by decide +kernel
theorem dL_law_1324 : decode μL_law.2.1 1324 = .ok (.iload_n 3, 1) := by decide +kernel
theorem dL_law_1325 : decode μL_law.2.1 1325 = .ok (.iconst 2, 1) := by decide +kernel
theorem dL_law_1326 : decode μL_law.2.1 1326 = .ok (.iadd, 1) := by decide +kernel
theorem dL_law_1327 : decode μL_law.2.1 1327 = .ok (.iaload, 1) := by decide +kernel
theorem dL_law_1328 : decode μL_law.2.1 1328 = .ok (.invokevirtual 185, 3) := by decide +kernel
theorem dL_law_1331 : decode μL_law.2.1 1331 = .ok (.aload_n 2, 1) := by decide +kernel
theorem dL_law_1332 : decode μL_law.2.1 1332 = .ok (.aload_n 0, 1) := by decide +kernel
theorem dL_law_1333 : decode μL_law.2.1 1333 = .ok (.iload_n 3, 1) := by decide +kernel
theorem dL_law_1334 : decode μL_law.2.1 1334 = .ok (.iconst 1, 1) := by decide +kernel
theorem dL_law_1335 : decode μL_law.2.1 1335 = .ok (.iadd, 1) := by decide +kernel
theorem dL_law_1336 : decode μL_law.2.1 1336 = .ok (.iaload, 1) := by decide +kernel
theorem dL_law_1337 : decode μL_law.2.1 1337 = .ok (.aload_n 0, 1) := by decide +kernel
theorem dL_law_1338 : decode μL_law.2.1 1338 = .ok (.iload_n 3, 1) := by decide +kernel
theorem dL_law_1339 : decode μL_law.2.1 1339 = .ok (.iconst 2, 1) := by decide +kernel
theorem dL_law_1340 : decode μL_law.2.1 1340 = .ok (.iadd, 1) := by decide +kernel
theorem dL_law_1341 : decode μL_law.2.1 1341 = .ok (.iaload, 1) := by decide +kernel
theorem dL_law_1342 : decode μL_law.2.1 1342 = .ok (.invokevirtual 188, 3) := by decide +kernel
theorem dL_law_1345 : decode μL_law.2.1 1345 = .ok (.if_icmp .eq 74, 3) := by decide +kernel
theorem dL_law_1348 : decode μL_law.2.1 1348 = .ok (.iconst 0, 1) := by decide +kernel
theorem dL_law_1349 : decode μL_law.2.1 1349 = .ok (.ireturn, 1) := by decide +kernel
theorem dL_law_1350 : decode μL_law.2.1 1350 = .ok (.aload_n 1, 1) := by decide +kernel
theorem dL_law_1351 : decode μL_law.2.1 1351 = .ok (.aload_n 0, 1) := by decide +kernel
theorem dL_law_1352 : decode μL_law.2.1 1352 = .ok (.iload_n 3, 1) := by decide +kernel
theorem dL_law_1353 : decode μL_law.2.1 1353 = .ok (.iconst 1, 1) := by decide +kernel
theorem dL_law_1354 : decode μL_law.2.1 1354 = .ok (.iadd, 1) := by decide +kernel
theorem dL_law_1355 : decode μL_law.2.1 1355 = .ok (.iaload, 1) := by decide +kernel
theorem dL_law_1356 : decode μL_law.2.1 1356 = .ok (.invokevirtual 189, 3) := by decide +kernel
theorem dL_law_1359 : decode μL_law.2.1 1359 = .ok (.aload_n 2, 1) := by decide +kernel
theorem dL_law_1360 : decode μL_law.2.1 1360 = .ok (.aload_n 0, 1) := by decide +kernel
theorem dL_law_1361 : decode μL_law.2.1 1361 = .ok (.iload_n 3, 1) := by decide +kernel
theorem dL_law_1362 : decode μL_law.2.1 1362 = .ok (.iconst 1, 1) := by decide +kernel
theorem dL_law_1363 : decode μL_law.2.1 1363 = .ok (.iadd, 1) := by decide +kernel
theorem dL_law_1364 : decode μL_law.2.1 1364 = .ok (.iaload, 1) := by decide +kernel
theorem dL_law_1365 : decode μL_law.2.1 1365 = .ok (.invokevirtual 192, 3) := by decide +kernel
theorem dL_law_1368 : decode μL_law.2.1 1368 = .ok (.if_icmp .eq 51, 3) := by decide +kernel
theorem dL_law_1371 : decode μL_law.2.1 1371 = .ok (.iconst 0, 1) := by decide +kernel
theorem dL_law_1372 : decode μL_law.2.1 1372 = .ok (.ireturn, 1) := by decide +kernel
theorem dL_law_1373 : decode μL_law.2.1 1373 = .ok (.aload_n 1, 1) := by decide +kernel
theorem dL_law_1374 : decode μL_law.2.1 1374 = .ok (.aload_n 0, 1) := by decide +kernel
theorem dL_law_1375 : decode μL_law.2.1 1375 = .ok (.iload_n 3, 1) := by decide +kernel
theorem dL_law_1376 : decode μL_law.2.1 1376 = .ok (.iconst 1, 1) := by decide +kernel
theorem dL_law_1377 : decode μL_law.2.1 1377 = .ok (.iadd, 1) := by decide +kernel
theorem dL_law_1378 : decode μL_law.2.1 1378 = .ok (.iaload, 1) := by decide +kernel
theorem dL_law_1379 : decode μL_law.2.1 1379 = .ok (.invokevirtual 193, 3) := by decide +kernel
theorem dL_law_1382 : decode μL_law.2.1 1382 = .ok (.aload_n 2, 1) := by decide +kernel
theorem dL_law_1383 : decode μL_law.2.1 1383 = .ok (.aload_n 0, 1) := by decide +kernel
theorem dL_law_1384 : decode μL_law.2.1 1384 = .ok (.iload_n 3, 1) := by decide +kernel
theorem dL_law_1385 : decode μL_law.2.1 1385 = .ok (.iconst 1, 1) := by decide +kernel
theorem dL_law_1386 : decode μL_law.2.1 1386 = .ok (.iadd, 1) := by decide +kernel
theorem dL_law_1387 : decode μL_law.2.1 1387 = .ok (.iaload, 1) := by decide +kernel
theorem dL_law_1388 : decode μL_law.2.1 1388 = .ok (.invokevirtual 196, 3) := by decide +kernel
theorem dL_law_1391 : decode μL_law.2.1 1391 = .ok (.if_icmp .eq 28, 3) := by decide +kernel
theorem dL_law_1394 : decode μL_law.2.1 1394 = .ok (.iconst 0, 1) := by decide +kernel
theorem dL_law_1395 : decode μL_law.2.1 1395 = .ok (.ireturn, 1) := by decide +kernel
theorem dL_law_1396 : decode μL_law.2.1 1396 = .ok (.aload_n 1, 1) := by decide +kernel
theorem dL_law_1397 : decode μL_law.2.1 1397 = .ok (.aload_n 0, 1) := by decide +kernel
theorem dL_law_1398 : decode μL_law.2.1 1398 = .ok (.iload_n 3, 1) := by decide +kernel
theorem dL_law_1399 : decode μL_law.2.1 1399 = .ok (.iconst 1, 1) := by decide +kernel
theorem dL_law_1400 : decode μL_law.2.1 1400 = .ok (.iadd, 1) := by decide +kernel
theorem dL_law_1401 : decode μL_law.2.1 1401 = .ok (.iaload, 1) := by decide +kernel
theorem dL_law_1402 : decode μL_law.2.1 1402 = .ok (.invokevirtual 197, 3) := by decide +kernel
theorem dL_law_1405 : decode μL_law.2.1 1405 = .ok (.aload_n 2, 1) := by decide +kernel
theorem dL_law_1406 : decode μL_law.2.1 1406 = .ok (.aload_n 0, 1) := by decide +kernel
theorem dL_law_1407 : decode μL_law.2.1 1407 = .ok (.iload_n 3, 1) := by decide +kernel
theorem dL_law_1408 : decode μL_law.2.1 1408 = .ok (.iconst 1, 1) := by decide +kernel
theorem dL_law_1409 : decode μL_law.2.1 1409 = .ok (.iadd, 1) := by decide +kernel
theorem dL_law_1410 : decode μL_law.2.1 1410 = .ok (.iaload, 1) := by decide +kernel
theorem dL_law_1411 : decode μL_law.2.1 1411 = .ok (.invokevirtual 200, 3) := by decide +kernel
theorem dL_law_1414 : decode μL_law.2.1 1414 = .ok (.if_icmp .eq 5, 3) := by decide +kernel
theorem dL_law_1417 : decode μL_law.2.1 1417 = .ok (.iconst 0, 1) := by decide +kernel
theorem dL_law_1418 : decode μL_law.2.1 1418 = .ok (.ireturn, 1) := by decide +kernel
theorem dL_law_1419 : decode μL_law.2.1 1419 = .ok (.iinc 3 6, 3) := by decide +kernel
theorem dL_law_1422 : decode μL_law.2.1 1422 = .ok (.goto (-1404), 3) := by decide +kernel
theorem dL_law_1425 : decode μL_law.2.1 1425 = .ok (.iconst 1, 1) := by decide +kernel
theorem dL_law_1426 : decode μL_law.2.1 1426 = .ok (.ireturn, 1) := by decide +kernel
set_option maxRecDepth 20000 in
theorem sg_L_law_18 {d : Nat} {x3 : Int32} {M : Mem} {K : (Int32 → Mem → Prop)} (h : (if (Int32.ofNat (sl M)) - 6 < x3 then K 1 M else (vp_in x3 (sl M) ∧ (((ri M SC (nx x3)) &&& 63 = 0 → RI (d + 1) μL_law 228 [(0, .ref SC), (1, .ref 0), (2, .ref 58), (3, .int x3)] [] M K) ∧ ((ri M SC (nx x3)) &&& 63 = 1 → RI (d + 1) μL_law 291 [(0, .ref SC), (1, .ref 0), (2, .ref 58), (3, .int x3)] [] M K) ∧ ((ri M SC (nx x3)) &&& 63 = 2 → RI (d + 1) μL_law 314 [(0, .ref SC), (1, .ref 0), (2, .ref 58), (3, .int x3)] [] M K) ∧ ((ri M SC (nx x3)) &&& 63 = 3 → RI (d + 1) μL_law 327 [(0, .ref SC), (1, .ref 0), (2, .ref 58), (3, .int x3)] [] M K) ∧ ((ri M SC (nx x3)) &&& 63 = 4 → RI (d + 1) μL_law 350 [(0, .ref SC), (1, .ref 0), (2, .ref 58), (3, .int x3)] [] M K) ∧ ((ri M SC (nx x3)) &&& 63 = 5 → RI (d + 1) μL_law 383 [(0, .ref SC), (1, .ref 0), (2, .ref 58), (3, .int x3)] [] M K) ∧ ((ri M SC (nx x3)) &&& 63 = 6 → RI (d + 1) μL_law 416 [(0, .ref SC), (1, .ref 0), (2, .ref 58), (3, .int x3)] [] M K) ∧ ((ri M SC (nx x3)) &&& 63 = 7 → RI (d + 1) μL_law 449 [(0, .ref SC), (1, .ref 0), (2, .ref 58), (3, .int x3)] [] M K) ∧ ((ri M SC (nx x3)) &&& 63 = 8 → RI (d + 1) μL_law 462 [(0, .ref SC), (1, .ref 0), (2, .ref 58), (3, .int x3)] [] M K) ∧ ((ri M SC (nx x3)) &&& 63 = 9 → RI (d + 1) μL_law 495 [(0, .ref SC), (1, .ref 0), (2, .ref 58), (3, .int x3)] [] M K) ∧ ((ri M SC (nx x3)) &&& 63 = 10 → RI (d + 1) μL_law 528 [(0, .ref SC), (1, .ref 0), (2, .ref 58), (3, .int x3)] [] M K) ∧ ((ri M SC (nx x3)) &&& 63 = 11 → RI (d + 1) μL_law 561 [(0, .ref SC), (1, .ref 0), (2, .ref 58), (3, .int x3)] [] M K) ∧ ((ri M SC (nx x3)) &&& 63 = 12 → RI (d + 1) μL_law 574 [(0, .ref SC), (1, .ref 0), (2, .ref 58), (3, .int x3)] [] M K) ∧ ((ri M SC (nx x3)) &&& 63 = 13 → RI (d + 1) μL_law 587 [(0, .ref SC), (1, .ref 0), (2, .ref 58), (3, .int x3)] [] M K) ∧ ((ri M SC (nx x3)) &&& 63 = 14 → RI (d + 1) μL_law 630 [(0, .ref SC), (1, .ref 0), (2, .ref 58), (3, .int x3)] [] M K) ∧ ((ri M SC (nx x3)) &&& 63 = 15 → RI (d + 1) μL_law 663 [(0, .ref SC), (1, .ref 0), (2, .ref 58), (3, .int x3)] [] M K) ∧ ((ri M SC (nx x3)) &&& 63 = 16 → RI (d + 1) μL_law 686 [(0, .ref SC), (1, .ref 0), (2, .ref 58), (3, .int x3)] [] M K) ∧ ((ri M SC (nx x3)) &&& 63 = 17 → RI (d + 1) μL_law 709 [(0, .ref SC), (1, .ref 0), (2, .ref 58), (3, .int x3)] [] M K) ∧ ((ri M SC (nx x3)) &&& 63 = 18 → RI (d + 1) μL_law 742 [(0, .ref SC), (1, .ref 0), (2, .ref 58), (3, .int x3)] [] M K) ∧ ((ri M SC (nx x3)) &&& 63 = 19 → RI (d + 1) μL_law 755 [(0, .ref SC), (1, .ref 0), (2, .ref 58), (3, .int x3)] [] M K) ∧ ((ri M SC (nx x3)) &&& 63 = 20 → RI (d + 1) μL_law 768 [(0, .ref SC), (1, .ref 0), (2, .ref 58), (3, .int x3)] [] M K) ∧ ((ri M SC (nx x3)) &&& 63 = 21 → RI (d + 1) μL_law 791 [(0, .ref SC), (1, .ref 0), (2, .ref 58), (3, .int x3)] [] M K) ∧ ((ri M SC (nx x3)) &&& 63 = 22 → RI (d + 1) μL_law 834 [(0, .ref SC), (1, .ref 0), (2, .ref 58), (3, .int x3)] [] M K) ∧ ((ri M SC (nx x3)) &&& 63 = 23 → RI (d + 1) μL_law 857 [(0, .ref SC), (1, .ref 0), (2, .ref 58), (3, .int x3)] [] M K) ∧ ((ri M SC (nx x3)) &&& 63 = 24 → RI (d + 1) μL_law 890 [(0, .ref SC), (1, .ref 0), (2, .ref 58), (3, .int x3)] [] M K) ∧ ((ri M SC (nx x3)) &&& 63 = 25 → RI (d + 1) μL_law 933 [(0, .ref SC), (1, .ref 0), (2, .ref 58), (3, .int x3)] [] M K) ∧ ((ri M SC (nx x3)) &&& 63 = 26 → RI (d + 1) μL_law 966 [(0, .ref SC), (1, .ref 0), (2, .ref 58), (3, .int x3)] [] M K) ∧ ((ri M SC (nx x3)) &&& 63 = 27 → RI (d + 1) μL_law 979 [(0, .ref SC), (1, .ref 0), (2, .ref 58), (3, .int x3)] [] M K) ∧ ((ri M SC (nx x3)) &&& 63 = 28 → RI (d + 1) μL_law 992 [(0, .ref SC), (1, .ref 0), (2, .ref 58), (3, .int x3)] [] M K) ∧ ((ri M SC (nx x3)) &&& 63 = 29 → RI (d + 1) μL_law 1005 [(0, .ref SC), (1, .ref 0), (2, .ref 58), (3, .int x3)] [] M K) ∧ ((ri M SC (nx x3)) &&& 63 = 30 → RI (d + 1) μL_law 1018 [(0, .ref SC), (1, .ref 0), (2, .ref 58), (3, .int x3)] [] M K) ∧ ((ri M SC (nx x3)) &&& 63 = 31 → RI (d + 1) μL_law 1031 [(0, .ref SC), (1, .ref 0), (2, .ref 58), (3, .int x3)] [] M K) ∧ ((ri M SC (nx x3)) &&& 63 = 32 → RI (d + 1) μL_law 1044 [(0, .ref SC), (1, .ref 0), (2, .ref 58), (3, .int x3)] [] M K) ∧ ((ri M SC (nx x3)) &&& 63 = 33 → RI (d + 1) μL_law 1067 [(0, .ref SC), (1, .ref 0), (2, .ref 58), (3, .int x3)] [] M K) ∧ ((ri M SC (nx x3)) &&& 63 = 34 → RI (d + 1) μL_law 1100 [(0, .ref SC), (1, .ref 0), (2, .ref 58), (3, .int x3)] [] M K) ∧ ((ri M SC (nx x3)) &&& 63 = 35 → RI (d + 1) μL_law 1133 [(0, .ref SC), (1, .ref 0), (2, .ref 58), (3, .int x3)] [] M K) ∧ ((ri M SC (nx x3)) &&& 63 = 36 → RI (d + 1) μL_law 1156 [(0, .ref SC), (1, .ref 0), (2, .ref 58), (3, .int x3)] [] M K) ∧ ((ri M SC (nx x3)) &&& 63 = 37 → RI (d + 1) μL_law 1215 [(0, .ref SC), (1, .ref 0), (2, .ref 58), (3, .int x3)] [] M K) ∧ ((ri M SC (nx x3)) &&& 63 = 38 → RI (d + 1) μL_law 1238 [(0, .ref SC), (1, .ref 0), (2, .ref 58), (3, .int x3)] [] M K) ∧ ((ri M SC (nx x3)) &&& 63 = 39 → RI (d + 1) μL_law 1261 [(0, .ref SC), (1, .ref 0), (2, .ref 58), (3, .int x3)] [] M K) ∧ ((ri M SC (nx x3)) &&& 63 = 40 → RI (d + 1) μL_law 1284 [(0, .ref SC), (1, .ref 0), (2, .ref 58), (3, .int x3)] [] M K) ∧ ((ri M SC (nx x3)) &&& 63 = 41 → RI (d + 1) μL_law 1317 [(0, .ref SC), (1, .ref 0), (2, .ref 58), (3, .int x3)] [] M K) ∧ ((ri M SC (nx x3)) &&& 63 = 42 → RI (d + 1) μL_law 1350 [(0, .ref SC), (1, .ref 0), (2, .ref 58), (3, .int x3)] [] M K) ∧ ((ri M SC (nx x3)) &&& 63 = 43 → RI (d + 1) μL_law 1373 [(0, .ref SC), (1, .ref 0), (2, .ref 58), (3, .int x3)] [] M K) ∧ ((ri M SC (nx x3)) &&& 63 = 44 → RI (d + 1) μL_law 1396 [(0, .ref SC), (1, .ref 0), (2, .ref 58), (3, .int x3)] [] M K) ∧ (((ri M SC (nx x3)) &&& 63).toInt < 0 ∨ 44 < ((ri M SC (nx x3)) &&& 63).toInt → RI (d + 1) μL_law 18 [(0, .ref SC), (1, .ref 0), (2, .ref 58), (3, .int (x3 + 6))] [] M K))))) : RI (d + 1) μL_law 18 [(0, .ref SC), (1, .ref 0), (2, .ref 58), (3, .int x3)] [] M K := by
  show Rn (d + 1) μL_law 18 [(0, .ref SC), (1, .ref 0), (2, .ref 58), (3, .int x3)] [] M _
  refine rn_iload_n (i := 3) (x := x3) dL_law_18 rfl (by simp) ?_
  refine rn_aload_n (i := 0) (x := SC) dL_law_19 rfl (by simp) ?_
  refine rn_slen dL_law_20 ?_
  refine rn_bipush (v := 6) dL_law_21 rfl ?_
  refine rn_isub dL_law_23 ?_
  refine rn_icmp_gt (tgt := 1425) dL_law_24 (by decide) (ite_go h (fun hc h => ?_) (fun hc h => ?_))
  · refine rn_iconst (v := 1) dL_law_1425 rfl ?_
    exact rn_zret dL_law_1426 rfl (by decide) ⟨_, rfl, h⟩
  · refine rn_aload_n (i := 0) (x := SC) dL_law_27 rfl (by simp) ?_
    refine rn_iload_n (i := 3) (x := x3) dL_law_28 rfl (by simp) ?_
    obtain ⟨hi, h⟩ := h
    refine rn_sld dL_law_29 hi ?_
    refine rn_bipush (v := 63) dL_law_30 rfl ?_
    refine rn_iand dL_law_32 ?_
    by_cases hlo : ((ri M SC (nx x3)) &&& 63).toInt < 0
    · have h := h.2.2.2.2.2.2.2.2.2.2.2.2.2.2.2.2.2.2.2.2.2.2.2.2.2.2.2.2.2.2.2.2.2.2.2.2.2.2.2.2.2.2.2.2.2 (Or.inl hlo)
      refine rn_tswitch (tgt := 1419) dL_law_33 (Or.inl ⟨Or.inl hlo, by decide⟩) ?_
      refine rn_iinc (x := x3) (v := x3 + 6) (lv' := [(0, .ref SC), (1, .ref 0), (2, .ref 58), (3, .int (x3 + 6))]) dL_law_1419 (by simp) rfl (by decide) rfl rfl ?_
      refine rn_goto (tgt := 18) dL_law_1422 (by decide) ?_
      exact h
    by_cases hhi : 44 < ((ri M SC (nx x3)) &&& 63).toInt
    · have h := h.2.2.2.2.2.2.2.2.2.2.2.2.2.2.2.2.2.2.2.2.2.2.2.2.2.2.2.2.2.2.2.2.2.2.2.2.2.2.2.2.2.2.2.2.2 (Or.inr hhi)
      refine rn_tswitch (tgt := 1419) dL_law_33 (Or.inl ⟨Or.inr hhi, by decide⟩) ?_
      refine rn_iinc (x := x3) (v := x3 + 6) (lv' := [(0, .ref SC), (1, .ref 0), (2, .ref 58), (3, .int (x3 + 6))]) dL_law_1419 (by simp) rfl (by decide) rfl rfl ?_
      refine rn_goto (tgt := 18) dL_law_1422 (by decide) ?_
      exact h
    have hv : ((ri M SC (nx x3)) &&& 63).toInt = 0 ∨ ((ri M SC (nx x3)) &&& 63).toInt = 1 ∨ ((ri M SC (nx x3)) &&& 63).toInt = 2 ∨ ((ri M SC (nx x3)) &&& 63).toInt = 3 ∨ ((ri M SC (nx x3)) &&& 63).toInt = 4 ∨ ((ri M SC (nx x3)) &&& 63).toInt = 5 ∨ ((ri M SC (nx x3)) &&& 63).toInt = 6 ∨ ((ri M SC (nx x3)) &&& 63).toInt = 7 ∨ ((ri M SC (nx x3)) &&& 63).toInt = 8 ∨ ((ri M SC (nx x3)) &&& 63).toInt = 9 ∨ ((ri M SC (nx x3)) &&& 63).toInt = 10 ∨ ((ri M SC (nx x3)) &&& 63).toInt = 11 ∨ ((ri M SC (nx x3)) &&& 63).toInt = 12 ∨ ((ri M SC (nx x3)) &&& 63).toInt = 13 ∨ ((ri M SC (nx x3)) &&& 63).toInt = 14 ∨ ((ri M SC (nx x3)) &&& 63).toInt = 15 ∨ ((ri M SC (nx x3)) &&& 63).toInt = 16 ∨ ((ri M SC (nx x3)) &&& 63).toInt = 17 ∨ ((ri M SC (nx x3)) &&& 63).toInt = 18 ∨ ((ri M SC (nx x3)) &&& 63).toInt = 19 ∨ ((ri M SC (nx x3)) &&& 63).toInt = 20 ∨ ((ri M SC (nx x3)) &&& 63).toInt = 21 ∨ ((ri M SC (nx x3)) &&& 63).toInt = 22 ∨ ((ri M SC (nx x3)) &&& 63).toInt = 23 ∨ ((ri M SC (nx x3)) &&& 63).toInt = 24 ∨ ((ri M SC (nx x3)) &&& 63).toInt = 25 ∨ ((ri M SC (nx x3)) &&& 63).toInt = 26 ∨ ((ri M SC (nx x3)) &&& 63).toInt = 27 ∨ ((ri M SC (nx x3)) &&& 63).toInt = 28 ∨ ((ri M SC (nx x3)) &&& 63).toInt = 29 ∨ ((ri M SC (nx x3)) &&& 63).toInt = 30 ∨ ((ri M SC (nx x3)) &&& 63).toInt = 31 ∨ ((ri M SC (nx x3)) &&& 63).toInt = 32 ∨ ((ri M SC (nx x3)) &&& 63).toInt = 33 ∨ ((ri M SC (nx x3)) &&& 63).toInt = 34 ∨ ((ri M SC (nx x3)) &&& 63).toInt = 35 ∨ ((ri M SC (nx x3)) &&& 63).toInt = 36 ∨ ((ri M SC (nx x3)) &&& 63).toInt = 37 ∨ ((ri M SC (nx x3)) &&& 63).toInt = 38 ∨ ((ri M SC (nx x3)) &&& 63).toInt = 39 ∨ ((ri M SC (nx x3)) &&& 63).toInt = 40 ∨ ((ri M SC (nx x3)) &&& 63).toInt = 41 ∨ ((ri M SC (nx x3)) &&& 63).toInt = 42 ∨ ((ri M SC (nx x3)) &&& 63).toInt = 43 ∨ ((ri M SC (nx x3)) &&& 63).toInt = 44 := by omega
    rcases hv with hv | hv | hv | hv | hv | hv | hv | hv | hv | hv | hv | hv | hv | hv | hv | hv | hv | hv | hv | hv | hv | hv | hv | hv | hv | hv | hv | hv | hv | hv | hv | hv | hv | hv | hv | hv | hv | hv | hv | hv | hv | hv | hv | hv | hv
    · have h := h.1 (Int32.toInt_inj.mp hv)
      refine rn_tswitch (tgt := 228) dL_law_33 (Or.inr ⟨hlo, hhi, _, by rw [hv]; rfl, by decide⟩) ?_
      exact h
    · have h := h.2.1 (Int32.toInt_inj.mp hv)
      refine rn_tswitch (tgt := 291) dL_law_33 (Or.inr ⟨hlo, hhi, _, by rw [hv]; rfl, by decide⟩) ?_
      exact h
    · have h := h.2.2.1 (Int32.toInt_inj.mp hv)
      refine rn_tswitch (tgt := 314) dL_law_33 (Or.inr ⟨hlo, hhi, _, by rw [hv]; rfl, by decide⟩) ?_
      exact h
    · have h := h.2.2.2.1 (Int32.toInt_inj.mp hv)
      refine rn_tswitch (tgt := 327) dL_law_33 (Or.inr ⟨hlo, hhi, _, by rw [hv]; rfl, by decide⟩) ?_
      exact h
    · have h := h.2.2.2.2.1 (Int32.toInt_inj.mp hv)
      refine rn_tswitch (tgt := 350) dL_law_33 (Or.inr ⟨hlo, hhi, _, by rw [hv]; rfl, by decide⟩) ?_
      exact h
    · have h := h.2.2.2.2.2.1 (Int32.toInt_inj.mp hv)
      refine rn_tswitch (tgt := 383) dL_law_33 (Or.inr ⟨hlo, hhi, _, by rw [hv]; rfl, by decide⟩) ?_
      exact h
    · have h := h.2.2.2.2.2.2.1 (Int32.toInt_inj.mp hv)
      refine rn_tswitch (tgt := 416) dL_law_33 (Or.inr ⟨hlo, hhi, _, by rw [hv]; rfl, by decide⟩) ?_
      exact h
    · have h := h.2.2.2.2.2.2.2.1 (Int32.toInt_inj.mp hv)
      refine rn_tswitch (tgt := 449) dL_law_33 (Or.inr ⟨hlo, hhi, _, by rw [hv]; rfl, by decide⟩) ?_
      exact h
    · have h := h.2.2.2.2.2.2.2.2.1 (Int32.toInt_inj.mp hv)
      refine rn_tswitch (tgt := 462) dL_law_33 (Or.inr ⟨hlo, hhi, _, by rw [hv]; rfl, by decide⟩) ?_
      exact h
    · have h := h.2.2.2.2.2.2.2.2.2.1 (Int32.toInt_inj.mp hv)
      refine rn_tswitch (tgt := 495) dL_law_33 (Or.inr ⟨hlo, hhi, _, by rw [hv]; rfl, by decide⟩) ?_
      exact h
    · have h := h.2.2.2.2.2.2.2.2.2.2.1 (Int32.toInt_inj.mp hv)
      refine rn_tswitch (tgt := 528) dL_law_33 (Or.inr ⟨hlo, hhi, _, by rw [hv]; rfl, by decide⟩) ?_
      exact h
    · have h := h.2.2.2.2.2.2.2.2.2.2.2.1 (Int32.toInt_inj.mp hv)
      refine rn_tswitch (tgt := 561) dL_law_33 (Or.inr ⟨hlo, hhi, _, by rw [hv]; rfl, by decide⟩) ?_
      exact h
    · have h := h.2.2.2.2.2.2.2.2.2.2.2.2.1 (Int32.toInt_inj.mp hv)
      refine rn_tswitch (tgt := 574) dL_law_33 (Or.inr ⟨hlo, hhi, _, by rw [hv]; rfl, by decide⟩) ?_
      exact h
    · have h := h.2.2.2.2.2.2.2.2.2.2.2.2.2.1 (Int32.toInt_inj.mp hv)
      refine rn_tswitch (tgt := 587) dL_law_33 (Or.inr ⟨hlo, hhi, _, by rw [hv]; rfl, by decide⟩) ?_
      exact h
    · have h := h.2.2.2.2.2.2.2.2.2.2.2.2.2.2.1 (Int32.toInt_inj.mp hv)
      refine rn_tswitch (tgt := 630) dL_law_33 (Or.inr ⟨hlo, hhi, _, by rw [hv]; rfl, by decide⟩) ?_
      exact h
    · have h := h.2.2.2.2.2.2.2.2.2.2.2.2.2.2.2.1 (Int32.toInt_inj.mp hv)
      refine rn_tswitch (tgt := 663) dL_law_33 (Or.inr ⟨hlo, hhi, _, by rw [hv]; rfl, by decide⟩) ?_
      exact h
    · have h := h.2.2.2.2.2.2.2.2.2.2.2.2.2.2.2.2.1 (Int32.toInt_inj.mp hv)
      refine rn_tswitch (tgt := 686) dL_law_33 (Or.inr ⟨hlo, hhi, _, by rw [hv]; rfl, by decide⟩) ?_
      exact h
    · have h := h.2.2.2.2.2.2.2.2.2.2.2.2.2.2.2.2.2.1 (Int32.toInt_inj.mp hv)
      refine rn_tswitch (tgt := 709) dL_law_33 (Or.inr ⟨hlo, hhi, _, by rw [hv]; rfl, by decide⟩) ?_
      exact h
    · have h := h.2.2.2.2.2.2.2.2.2.2.2.2.2.2.2.2.2.2.1 (Int32.toInt_inj.mp hv)
      refine rn_tswitch (tgt := 742) dL_law_33 (Or.inr ⟨hlo, hhi, _, by rw [hv]; rfl, by decide⟩) ?_
      exact h
    · have h := h.2.2.2.2.2.2.2.2.2.2.2.2.2.2.2.2.2.2.2.1 (Int32.toInt_inj.mp hv)
      refine rn_tswitch (tgt := 755) dL_law_33 (Or.inr ⟨hlo, hhi, _, by rw [hv]; rfl, by decide⟩) ?_
      exact h
    · have h := h.2.2.2.2.2.2.2.2.2.2.2.2.2.2.2.2.2.2.2.2.1 (Int32.toInt_inj.mp hv)
      refine rn_tswitch (tgt := 768) dL_law_33 (Or.inr ⟨hlo, hhi, _, by rw [hv]; rfl, by decide⟩) ?_
      exact h
    · have h := h.2.2.2.2.2.2.2.2.2.2.2.2.2.2.2.2.2.2.2.2.2.1 (Int32.toInt_inj.mp hv)
      refine rn_tswitch (tgt := 791) dL_law_33 (Or.inr ⟨hlo, hhi, _, by rw [hv]; rfl, by decide⟩) ?_
      exact h
    · have h := h.2.2.2.2.2.2.2.2.2.2.2.2.2.2.2.2.2.2.2.2.2.2.1 (Int32.toInt_inj.mp hv)
      refine rn_tswitch (tgt := 834) dL_law_33 (Or.inr ⟨hlo, hhi, _, by rw [hv]; rfl, by decide⟩) ?_
      exact h
    · have h := h.2.2.2.2.2.2.2.2.2.2.2.2.2.2.2.2.2.2.2.2.2.2.2.1 (Int32.toInt_inj.mp hv)
      refine rn_tswitch (tgt := 857) dL_law_33 (Or.inr ⟨hlo, hhi, _, by rw [hv]; rfl, by decide⟩) ?_
      exact h
    · have h := h.2.2.2.2.2.2.2.2.2.2.2.2.2.2.2.2.2.2.2.2.2.2.2.2.1 (Int32.toInt_inj.mp hv)
      refine rn_tswitch (tgt := 890) dL_law_33 (Or.inr ⟨hlo, hhi, _, by rw [hv]; rfl, by decide⟩) ?_
      exact h
    · have h := h.2.2.2.2.2.2.2.2.2.2.2.2.2.2.2.2.2.2.2.2.2.2.2.2.2.1 (Int32.toInt_inj.mp hv)
      refine rn_tswitch (tgt := 933) dL_law_33 (Or.inr ⟨hlo, hhi, _, by rw [hv]; rfl, by decide⟩) ?_
      exact h
    · have h := h.2.2.2.2.2.2.2.2.2.2.2.2.2.2.2.2.2.2.2.2.2.2.2.2.2.2.1 (Int32.toInt_inj.mp hv)
      refine rn_tswitch (tgt := 966) dL_law_33 (Or.inr ⟨hlo, hhi, _, by rw [hv]; rfl, by decide⟩) ?_
      exact h
    · have h := h.2.2.2.2.2.2.2.2.2.2.2.2.2.2.2.2.2.2.2.2.2.2.2.2.2.2.2.1 (Int32.toInt_inj.mp hv)
      refine rn_tswitch (tgt := 979) dL_law_33 (Or.inr ⟨hlo, hhi, _, by rw [hv]; rfl, by decide⟩) ?_
      exact h
    · have h := h.2.2.2.2.2.2.2.2.2.2.2.2.2.2.2.2.2.2.2.2.2.2.2.2.2.2.2.2.1 (Int32.toInt_inj.mp hv)
      refine rn_tswitch (tgt := 992) dL_law_33 (Or.inr ⟨hlo, hhi, _, by rw [hv]; rfl, by decide⟩) ?_
      exact h
    · have h := h.2.2.2.2.2.2.2.2.2.2.2.2.2.2.2.2.2.2.2.2.2.2.2.2.2.2.2.2.2.1 (Int32.toInt_inj.mp hv)
      refine rn_tswitch (tgt := 1005) dL_law_33 (Or.inr ⟨hlo, hhi, _, by rw [hv]; rfl, by decide⟩) ?_
      exact h
    · have h := h.2.2.2.2.2.2.2.2.2.2.2.2.2.2.2.2.2.2.2.2.2.2.2.2.2.2.2.2.2.2.1 (Int32.toInt_inj.mp hv)
      refine rn_tswitch (tgt := 1018) dL_law_33 (Or.inr ⟨hlo, hhi, _, by rw [hv]; rfl, by decide⟩) ?_
      exact h
    · have h := h.2.2.2.2.2.2.2.2.2.2.2.2.2.2.2.2.2.2.2.2.2.2.2.2.2.2.2.2.2.2.2.1 (Int32.toInt_inj.mp hv)
      refine rn_tswitch (tgt := 1031) dL_law_33 (Or.inr ⟨hlo, hhi, _, by rw [hv]; rfl, by decide⟩) ?_
      exact h
    · have h := h.2.2.2.2.2.2.2.2.2.2.2.2.2.2.2.2.2.2.2.2.2.2.2.2.2.2.2.2.2.2.2.2.1 (Int32.toInt_inj.mp hv)
      refine rn_tswitch (tgt := 1044) dL_law_33 (Or.inr ⟨hlo, hhi, _, by rw [hv]; rfl, by decide⟩) ?_
      exact h
    · have h := h.2.2.2.2.2.2.2.2.2.2.2.2.2.2.2.2.2.2.2.2.2.2.2.2.2.2.2.2.2.2.2.2.2.1 (Int32.toInt_inj.mp hv)
      refine rn_tswitch (tgt := 1067) dL_law_33 (Or.inr ⟨hlo, hhi, _, by rw [hv]; rfl, by decide⟩) ?_
      exact h
    · have h := h.2.2.2.2.2.2.2.2.2.2.2.2.2.2.2.2.2.2.2.2.2.2.2.2.2.2.2.2.2.2.2.2.2.2.1 (Int32.toInt_inj.mp hv)
      refine rn_tswitch (tgt := 1100) dL_law_33 (Or.inr ⟨hlo, hhi, _, by rw [hv]; rfl, by decide⟩) ?_
      exact h
    · have h := h.2.2.2.2.2.2.2.2.2.2.2.2.2.2.2.2.2.2.2.2.2.2.2.2.2.2.2.2.2.2.2.2.2.2.2.1 (Int32.toInt_inj.mp hv)
      refine rn_tswitch (tgt := 1133) dL_law_33 (Or.inr ⟨hlo, hhi, _, by rw [hv]; rfl, by decide⟩) ?_
      exact h
    · have h := h.2.2.2.2.2.2.2.2.2.2.2.2.2.2.2.2.2.2.2.2.2.2.2.2.2.2.2.2.2.2.2.2.2.2.2.2.1 (Int32.toInt_inj.mp hv)
      refine rn_tswitch (tgt := 1156) dL_law_33 (Or.inr ⟨hlo, hhi, _, by rw [hv]; rfl, by decide⟩) ?_
      exact h
    · have h := h.2.2.2.2.2.2.2.2.2.2.2.2.2.2.2.2.2.2.2.2.2.2.2.2.2.2.2.2.2.2.2.2.2.2.2.2.2.1 (Int32.toInt_inj.mp hv)
      refine rn_tswitch (tgt := 1215) dL_law_33 (Or.inr ⟨hlo, hhi, _, by rw [hv]; rfl, by decide⟩) ?_
      exact h
    · have h := h.2.2.2.2.2.2.2.2.2.2.2.2.2.2.2.2.2.2.2.2.2.2.2.2.2.2.2.2.2.2.2.2.2.2.2.2.2.2.1 (Int32.toInt_inj.mp hv)
      refine rn_tswitch (tgt := 1238) dL_law_33 (Or.inr ⟨hlo, hhi, _, by rw [hv]; rfl, by decide⟩) ?_
      exact h
    · have h := h.2.2.2.2.2.2.2.2.2.2.2.2.2.2.2.2.2.2.2.2.2.2.2.2.2.2.2.2.2.2.2.2.2.2.2.2.2.2.2.1 (Int32.toInt_inj.mp hv)
      refine rn_tswitch (tgt := 1261) dL_law_33 (Or.inr ⟨hlo, hhi, _, by rw [hv]; rfl, by decide⟩) ?_
      exact h
    · have h := h.2.2.2.2.2.2.2.2.2.2.2.2.2.2.2.2.2.2.2.2.2.2.2.2.2.2.2.2.2.2.2.2.2.2.2.2.2.2.2.2.1 (Int32.toInt_inj.mp hv)
      refine rn_tswitch (tgt := 1284) dL_law_33 (Or.inr ⟨hlo, hhi, _, by rw [hv]; rfl, by decide⟩) ?_
      exact h
    · have h := h.2.2.2.2.2.2.2.2.2.2.2.2.2.2.2.2.2.2.2.2.2.2.2.2.2.2.2.2.2.2.2.2.2.2.2.2.2.2.2.2.2.1 (Int32.toInt_inj.mp hv)
      refine rn_tswitch (tgt := 1317) dL_law_33 (Or.inr ⟨hlo, hhi, _, by rw [hv]; rfl, by decide⟩) ?_
      exact h
    · have h := h.2.2.2.2.2.2.2.2.2.2.2.2.2.2.2.2.2.2.2.2.2.2.2.2.2.2.2.2.2.2.2.2.2.2.2.2.2.2.2.2.2.2.1 (Int32.toInt_inj.mp hv)
      refine rn_tswitch (tgt := 1350) dL_law_33 (Or.inr ⟨hlo, hhi, _, by rw [hv]; rfl, by decide⟩) ?_
      exact h
    · have h := h.2.2.2.2.2.2.2.2.2.2.2.2.2.2.2.2.2.2.2.2.2.2.2.2.2.2.2.2.2.2.2.2.2.2.2.2.2.2.2.2.2.2.2.1 (Int32.toInt_inj.mp hv)
      refine rn_tswitch (tgt := 1373) dL_law_33 (Or.inr ⟨hlo, hhi, _, by rw [hv]; rfl, by decide⟩) ?_
      exact h
    · have h := h.2.2.2.2.2.2.2.2.2.2.2.2.2.2.2.2.2.2.2.2.2.2.2.2.2.2.2.2.2.2.2.2.2.2.2.2.2.2.2.2.2.2.2.2.1 (Int32.toInt_inj.mp hv)
      refine rn_tswitch (tgt := 1396) dL_law_33 (Or.inr ⟨hlo, hhi, _, by rw [hv]; rfl, by decide⟩) ?_
      exact h
set_option maxRecDepth 20000 in
theorem sg_L_law_228 {d : Nat} {x3 : Int32} {M : Mem} {K : (Int32 → Mem → Prop)} (h : (vp_in (x3 + 1) (sl M) ∧ (vp_in (x3 + 2) (sl M) ∧ (vp_in (x3 + 3) (sl M) ∧ (vp_in (x3 + 4) (sl M) ∧ (vp_in (x3 + 5) (sl M) ∧ (CI d μX8_feed [.ref 0, .int (ri M SC (nx (x3 + 1))), .int (ri M SC (nx (x3 + 2))), .int (ri M SC (nx (x3 + 3))), .int (ri M SC (nx (x3 + 4))), .int (ri M SC (nx (x3 + 5)))] M (fun r2 M1 => (vp_in (x3 + 1) (sl M1) ∧ (vp_in (x3 + 2) (sl M1) ∧ (vp_in (x3 + 3) (sl M1) ∧ (vp_in (x3 + 4) (sl M1) ∧ (vp_in (x3 + 5) (sl M1) ∧ (CI d μX9_feed [.ref 58, .int (ri M1 SC (nx (x3 + 1))), .int (ri M1 SC (nx (x3 + 2))), .int (ri M1 SC (nx (x3 + 3))), .int (ri M1 SC (nx (x3 + 4))), .int (ri M1 SC (nx (x3 + 5)))] M1 (fun r4 M3 => (if r2 = r4 then RI (d + 1) μL_law 18 [(0, .ref SC), (1, .ref 0), (2, .ref 58), (3, .int (x3 + 6))] [] M3 K else K 0 M3)))))))))))))))) : RI (d + 1) μL_law 228 [(0, .ref SC), (1, .ref 0), (2, .ref 58), (3, .int x3)] [] M K := by
  show Rn (d + 1) μL_law 228 [(0, .ref SC), (1, .ref 0), (2, .ref 58), (3, .int x3)] [] M _
  refine rn_aload_n (i := 1) (x := 0) dL_law_228 rfl (by simp) ?_
  refine rn_aload_n (i := 0) (x := SC) dL_law_229 rfl (by simp) ?_
  refine rn_iload_n (i := 3) (x := x3) dL_law_230 rfl (by simp) ?_
  refine rn_iconst (v := 1) dL_law_231 rfl ?_
  refine rn_iadd dL_law_232 ?_
  obtain ⟨hi, h⟩ := h
  refine rn_sld dL_law_233 hi ?_
  refine rn_aload_n (i := 0) (x := SC) dL_law_234 rfl (by simp) ?_
  refine rn_iload_n (i := 3) (x := x3) dL_law_235 rfl (by simp) ?_
  refine rn_iconst (v := 2) dL_law_236 rfl ?_
  refine rn_iadd dL_law_237 ?_
  obtain ⟨hi, h⟩ := h
  refine rn_sld dL_law_238 hi ?_
  refine rn_aload_n (i := 0) (x := SC) dL_law_239 rfl (by simp) ?_
  refine rn_iload_n (i := 3) (x := x3) dL_law_240 rfl (by simp) ?_
  refine rn_iconst (v := 3) dL_law_241 rfl ?_
  refine rn_iadd dL_law_242 ?_
  obtain ⟨hi, h⟩ := h
  refine rn_sld dL_law_243 hi ?_
  refine rn_aload_n (i := 0) (x := SC) dL_law_244 rfl (by simp) ?_
  refine rn_iload_n (i := 3) (x := x3) dL_law_245 rfl (by simp) ?_
  refine rn_iconst (v := 4) dL_law_246 rfl ?_
  refine rn_iadd dL_law_247 ?_
  obtain ⟨hi, h⟩ := h
  refine rn_sld dL_law_248 hi ?_
  refine rn_aload_n (i := 0) (x := SC) dL_law_249 rfl (by simp) ?_
  refine rn_iload_n (i := 3) (x := x3) dL_law_250 rfl (by simp) ?_
  refine rn_iconst (v := 5) dL_law_251 rfl ?_
  refine rn_iadd dL_law_252 ?_
  obtain ⟨hi, h⟩ := h
  refine rn_sld dL_law_253 hi ?_
  refine rn_callVi (as := [.int (ri M SC (nx (x3 + 1))), .int (ri M SC (nx (x3 + 2))), .int (ri M SC (nx (x3 + 3))), .int (ri M SC (nx (x3 + 4))), .int (ri M SC (nx (x3 + 5)))]) (st := []) dL_law_254 mf_X8_feed lk_L_13 im_X8_feed rfl rfl rfl rfl (Nat.le_of_ble_eq_true rfl) (Nat.le_of_ble_eq_true rfl) rfl (RI.mono h (fun r2 M1 h => ?_))
  refine rn_aload_n (i := 2) (x := 58) dL_law_257 rfl (by simp) ?_
  refine rn_aload_n (i := 0) (x := SC) dL_law_258 rfl (by simp) ?_
  refine rn_iload_n (i := 3) (x := x3) dL_law_259 rfl (by simp) ?_
  refine rn_iconst (v := 1) dL_law_260 rfl ?_
  refine rn_iadd dL_law_261 ?_
  obtain ⟨hi, h⟩ := h
  refine rn_sld dL_law_262 hi ?_
  refine rn_aload_n (i := 0) (x := SC) dL_law_263 rfl (by simp) ?_
  refine rn_iload_n (i := 3) (x := x3) dL_law_264 rfl (by simp) ?_
  refine rn_iconst (v := 2) dL_law_265 rfl ?_
  refine rn_iadd dL_law_266 ?_
  obtain ⟨hi, h⟩ := h
  refine rn_sld dL_law_267 hi ?_
  refine rn_aload_n (i := 0) (x := SC) dL_law_268 rfl (by simp) ?_
  refine rn_iload_n (i := 3) (x := x3) dL_law_269 rfl (by simp) ?_
  refine rn_iconst (v := 3) dL_law_270 rfl ?_
  refine rn_iadd dL_law_271 ?_
  obtain ⟨hi, h⟩ := h
  refine rn_sld dL_law_272 hi ?_
  refine rn_aload_n (i := 0) (x := SC) dL_law_273 rfl (by simp) ?_
  refine rn_iload_n (i := 3) (x := x3) dL_law_274 rfl (by simp) ?_
  refine rn_iconst (v := 4) dL_law_275 rfl ?_
  refine rn_iadd dL_law_276 ?_
  obtain ⟨hi, h⟩ := h
  refine rn_sld dL_law_277 hi ?_
  refine rn_aload_n (i := 0) (x := SC) dL_law_278 rfl (by simp) ?_
  refine rn_iload_n (i := 3) (x := x3) dL_law_279 rfl (by simp) ?_
  refine rn_iconst (v := 5) dL_law_280 rfl ?_
  refine rn_iadd dL_law_281 ?_
  obtain ⟨hi, h⟩ := h
  refine rn_sld dL_law_282 hi ?_
  refine rn_callVi (as := [.int (ri M1 SC (nx (x3 + 1))), .int (ri M1 SC (nx (x3 + 2))), .int (ri M1 SC (nx (x3 + 3))), .int (ri M1 SC (nx (x3 + 4))), .int (ri M1 SC (nx (x3 + 5)))]) (st := [.int r2]) dL_law_283 mf_X9_feed lk_L_17 im_X9_feed rfl rfl rfl rfl (Nat.le_of_ble_eq_true rfl) (Nat.le_of_ble_eq_true rfl) rfl (RI.mono h (fun r4 M3 h => ?_))
  refine rn_icmp_eq (tgt := 1419) dL_law_286 (by decide) (ite_go h (fun hc h => ?_) (fun hc h => ?_))
  · refine rn_iinc (x := x3) (v := x3 + 6) (lv' := [(0, .ref SC), (1, .ref 0), (2, .ref 58), (3, .int (x3 + 6))]) dL_law_1419 (by simp) rfl (by decide) rfl rfl ?_
    refine rn_goto (tgt := 18) dL_law_1422 (by decide) ?_
    exact h
  · refine rn_iconst (v := 0) dL_law_289 rfl ?_
    exact rn_zret dL_law_290 rfl (by decide) ⟨_, rfl, h⟩
set_option maxRecDepth 20000 in
theorem sg_L_law_291 {d : Nat} {x3 : Int32} {M : Mem} {K : (Int32 → Mem → Prop)} (h : (vp_in (x3 + 1) (sl M) ∧ (CI d μX8_end [.ref 0, .int (ri M SC (nx (x3 + 1)))] M (fun r2 M1 => (vp_in (x3 + 1) (sl M1) ∧ (CI d μX9_end [.ref 58, .int (ri M1 SC (nx (x3 + 1)))] M1 (fun r4 M3 => (if r2 = r4 then RI (d + 1) μL_law 18 [(0, .ref SC), (1, .ref 0), (2, .ref 58), (3, .int (x3 + 6))] [] M3 K else K 0 M3)))))))) : RI (d + 1) μL_law 291 [(0, .ref SC), (1, .ref 0), (2, .ref 58), (3, .int x3)] [] M K := by
  show Rn (d + 1) μL_law 291 [(0, .ref SC), (1, .ref 0), (2, .ref 58), (3, .int x3)] [] M _
  refine rn_aload_n (i := 1) (x := 0) dL_law_291 rfl (by simp) ?_
  refine rn_aload_n (i := 0) (x := SC) dL_law_292 rfl (by simp) ?_
  refine rn_iload_n (i := 3) (x := x3) dL_law_293 rfl (by simp) ?_
  refine rn_iconst (v := 1) dL_law_294 rfl ?_
  refine rn_iadd dL_law_295 ?_
  obtain ⟨hi, h⟩ := h
  refine rn_sld dL_law_296 hi ?_
  refine rn_callVi (as := [.int (ri M SC (nx (x3 + 1)))]) (st := []) dL_law_297 mf_X8_end lk_L_18 im_X8_end rfl rfl rfl rfl (Nat.le_of_ble_eq_true rfl) (Nat.le_of_ble_eq_true rfl) rfl (RI.mono h (fun r2 M1 h => ?_))
  refine rn_aload_n (i := 2) (x := 58) dL_law_300 rfl (by simp) ?_
  refine rn_aload_n (i := 0) (x := SC) dL_law_301 rfl (by simp) ?_
  refine rn_iload_n (i := 3) (x := x3) dL_law_302 rfl (by simp) ?_
  refine rn_iconst (v := 1) dL_law_303 rfl ?_
  refine rn_iadd dL_law_304 ?_
  obtain ⟨hi, h⟩ := h
  refine rn_sld dL_law_305 hi ?_
  refine rn_callVi (as := [.int (ri M1 SC (nx (x3 + 1)))]) (st := [.int r2]) dL_law_306 mf_X9_end lk_L_22 im_X9_end rfl rfl rfl rfl (Nat.le_of_ble_eq_true rfl) (Nat.le_of_ble_eq_true rfl) rfl (RI.mono h (fun r4 M3 h => ?_))
  refine rn_icmp_eq (tgt := 1419) dL_law_309 (by decide) (ite_go h (fun hc h => ?_) (fun hc h => ?_))
  · refine rn_iinc (x := x3) (v := x3 + 6) (lv' := [(0, .ref SC), (1, .ref 0), (2, .ref 58), (3, .int (x3 + 6))]) dL_law_1419 (by simp) rfl (by decide) rfl rfl ?_
    refine rn_goto (tgt := 18) dL_law_1422 (by decide) ?_
    exact h
  · refine rn_iconst (v := 0) dL_law_312 rfl ?_
    exact rn_zret dL_law_313 rfl (by decide) ⟨_, rfl, h⟩
set_option maxRecDepth 20000 in
theorem sg_L_law_314 {d : Nat} {x3 : Int32} {M : Mem} {K : (Int32 → Mem → Prop)} (h : (CI d μX8_shire [.ref 0] M (fun r2 M1 => (CI d μX9_shire [.ref 58] M1 (fun r4 M3 => (if r2 = r4 then RI (d + 1) μL_law 18 [(0, .ref SC), (1, .ref 0), (2, .ref 58), (3, .int (x3 + 6))] [] M3 K else K 0 M3)))))) : RI (d + 1) μL_law 314 [(0, .ref SC), (1, .ref 0), (2, .ref 58), (3, .int x3)] [] M K := by
  show Rn (d + 1) μL_law 314 [(0, .ref SC), (1, .ref 0), (2, .ref 58), (3, .int x3)] [] M _
  refine rn_aload_n (i := 1) (x := 0) dL_law_314 rfl (by simp) ?_
  refine rn_callVi (as := []) (st := []) dL_law_315 mf_X8_shire lk_L_23 im_X8_shire rfl rfl rfl rfl (Nat.le_of_ble_eq_true rfl) (Nat.le_of_ble_eq_true rfl) rfl (RI.mono h (fun r2 M1 h => ?_))
  refine rn_aload_n (i := 2) (x := 58) dL_law_318 rfl (by simp) ?_
  refine rn_callVi (as := []) (st := [.int r2]) dL_law_319 mf_X9_shire lk_L_27 im_X9_shire rfl rfl rfl rfl (Nat.le_of_ble_eq_true rfl) (Nat.le_of_ble_eq_true rfl) rfl (RI.mono h (fun r4 M3 h => ?_))
  refine rn_icmp_eq (tgt := 1419) dL_law_322 (by decide) (ite_go h (fun hc h => ?_) (fun hc h => ?_))
  · refine rn_iinc (x := x3) (v := x3 + 6) (lv' := [(0, .ref SC), (1, .ref 0), (2, .ref 58), (3, .int (x3 + 6))]) dL_law_1419 (by simp) rfl (by decide) rfl rfl ?_
    refine rn_goto (tgt := 18) dL_law_1422 (by decide) ?_
    exact h
  · refine rn_iconst (v := 0) dL_law_325 rfl ?_
    exact rn_zret dL_law_326 rfl (by decide) ⟨_, rfl, h⟩
set_option maxRecDepth 20000 in
theorem sg_L_law_327 {d : Nat} {x3 : Int32} {M : Mem} {K : (Int32 → Mem → Prop)} (h : (vp_in (x3 + 1) (sl M) ∧ (CI d μX8_fault [.ref 0, .int (ri M SC (nx (x3 + 1)))] M (fun r2 M1 => (vp_in (x3 + 1) (sl M1) ∧ (CI d μX9_fault [.ref 58, .int (ri M1 SC (nx (x3 + 1)))] M1 (fun r4 M3 => (if r2 = r4 then RI (d + 1) μL_law 18 [(0, .ref SC), (1, .ref 0), (2, .ref 58), (3, .int (x3 + 6))] [] M3 K else K 0 M3)))))))) : RI (d + 1) μL_law 327 [(0, .ref SC), (1, .ref 0), (2, .ref 58), (3, .int x3)] [] M K := by
  show Rn (d + 1) μL_law 327 [(0, .ref SC), (1, .ref 0), (2, .ref 58), (3, .int x3)] [] M _
  refine rn_aload_n (i := 1) (x := 0) dL_law_327 rfl (by simp) ?_
  refine rn_aload_n (i := 0) (x := SC) dL_law_328 rfl (by simp) ?_
  refine rn_iload_n (i := 3) (x := x3) dL_law_329 rfl (by simp) ?_
  refine rn_iconst (v := 1) dL_law_330 rfl ?_
  refine rn_iadd dL_law_331 ?_
  obtain ⟨hi, h⟩ := h
  refine rn_sld dL_law_332 hi ?_
  refine rn_callVi (as := [.int (ri M SC (nx (x3 + 1)))]) (st := []) dL_law_333 mf_X8_fault lk_L_28 im_X8_fault rfl rfl rfl rfl (Nat.le_of_ble_eq_true rfl) (Nat.le_of_ble_eq_true rfl) rfl (RI.mono h (fun r2 M1 h => ?_))
  refine rn_aload_n (i := 2) (x := 58) dL_law_336 rfl (by simp) ?_
  refine rn_aload_n (i := 0) (x := SC) dL_law_337 rfl (by simp) ?_
  refine rn_iload_n (i := 3) (x := x3) dL_law_338 rfl (by simp) ?_
  refine rn_iconst (v := 1) dL_law_339 rfl ?_
  refine rn_iadd dL_law_340 ?_
  obtain ⟨hi, h⟩ := h
  refine rn_sld dL_law_341 hi ?_
  refine rn_callVi (as := [.int (ri M1 SC (nx (x3 + 1)))]) (st := [.int r2]) dL_law_342 mf_X9_fault lk_L_31 im_X9_fault rfl rfl rfl rfl (Nat.le_of_ble_eq_true rfl) (Nat.le_of_ble_eq_true rfl) rfl (RI.mono h (fun r4 M3 h => ?_))
  refine rn_icmp_eq (tgt := 1419) dL_law_345 (by decide) (ite_go h (fun hc h => ?_) (fun hc h => ?_))
  · refine rn_iinc (x := x3) (v := x3 + 6) (lv' := [(0, .ref SC), (1, .ref 0), (2, .ref 58), (3, .int (x3 + 6))]) dL_law_1419 (by simp) rfl (by decide) rfl rfl ?_
    refine rn_goto (tgt := 18) dL_law_1422 (by decide) ?_
    exact h
  · refine rn_iconst (v := 0) dL_law_348 rfl ?_
    exact rn_zret dL_law_349 rfl (by decide) ⟨_, rfl, h⟩
set_option maxRecDepth 20000 in
theorem sg_L_law_350 {d : Nat} {x3 : Int32} {M : Mem} {K : (Int32 → Mem → Prop)} (h : (vp_in (x3 + 1) (sl M) ∧ (vp_in (x3 + 2) (sl M) ∧ (CI d μX8_lord [.ref 0, .int (ri M SC (nx (x3 + 1))), .int (ri M SC (nx (x3 + 2)))] M (fun r2 M1 => (vp_in (x3 + 1) (sl M1) ∧ (vp_in (x3 + 2) (sl M1) ∧ (CI d μX9_lord [.ref 58, .int (ri M1 SC (nx (x3 + 1))), .int (ri M1 SC (nx (x3 + 2)))] M1 (fun r4 M3 => (if r2 = r4 then RI (d + 1) μL_law 18 [(0, .ref SC), (1, .ref 0), (2, .ref 58), (3, .int (x3 + 6))] [] M3 K else K 0 M3)))))))))) : RI (d + 1) μL_law 350 [(0, .ref SC), (1, .ref 0), (2, .ref 58), (3, .int x3)] [] M K := by
  show Rn (d + 1) μL_law 350 [(0, .ref SC), (1, .ref 0), (2, .ref 58), (3, .int x3)] [] M _
  refine rn_aload_n (i := 1) (x := 0) dL_law_350 rfl (by simp) ?_
  refine rn_aload_n (i := 0) (x := SC) dL_law_351 rfl (by simp) ?_
  refine rn_iload_n (i := 3) (x := x3) dL_law_352 rfl (by simp) ?_
  refine rn_iconst (v := 1) dL_law_353 rfl ?_
  refine rn_iadd dL_law_354 ?_
  obtain ⟨hi, h⟩ := h
  refine rn_sld dL_law_355 hi ?_
  refine rn_aload_n (i := 0) (x := SC) dL_law_356 rfl (by simp) ?_
  refine rn_iload_n (i := 3) (x := x3) dL_law_357 rfl (by simp) ?_
  refine rn_iconst (v := 2) dL_law_358 rfl ?_
  refine rn_iadd dL_law_359 ?_
  obtain ⟨hi, h⟩ := h
  refine rn_sld dL_law_360 hi ?_
  refine rn_callVi (as := [.int (ri M SC (nx (x3 + 1))), .int (ri M SC (nx (x3 + 2)))]) (st := []) dL_law_361 mf_X8_lord lk_L_32 im_X8_lord rfl rfl rfl rfl (Nat.le_of_ble_eq_true rfl) (Nat.le_of_ble_eq_true rfl) rfl (RI.mono h (fun r2 M1 h => ?_))
  refine rn_aload_n (i := 2) (x := 58) dL_law_364 rfl (by simp) ?_
  refine rn_aload_n (i := 0) (x := SC) dL_law_365 rfl (by simp) ?_
  refine rn_iload_n (i := 3) (x := x3) dL_law_366 rfl (by simp) ?_
  refine rn_iconst (v := 1) dL_law_367 rfl ?_
  refine rn_iadd dL_law_368 ?_
  obtain ⟨hi, h⟩ := h
  refine rn_sld dL_law_369 hi ?_
  refine rn_aload_n (i := 0) (x := SC) dL_law_370 rfl (by simp) ?_
  refine rn_iload_n (i := 3) (x := x3) dL_law_371 rfl (by simp) ?_
  refine rn_iconst (v := 2) dL_law_372 rfl ?_
  refine rn_iadd dL_law_373 ?_
  obtain ⟨hi, h⟩ := h
  refine rn_sld dL_law_374 hi ?_
  refine rn_callVi (as := [.int (ri M1 SC (nx (x3 + 1))), .int (ri M1 SC (nx (x3 + 2)))]) (st := [.int r2]) dL_law_375 mf_X9_lord lk_L_36 im_X9_lord rfl rfl rfl rfl (Nat.le_of_ble_eq_true rfl) (Nat.le_of_ble_eq_true rfl) rfl (RI.mono h (fun r4 M3 h => ?_))
  refine rn_icmp_eq (tgt := 1419) dL_law_378 (by decide) (ite_go h (fun hc h => ?_) (fun hc h => ?_))
  · refine rn_iinc (x := x3) (v := x3 + 6) (lv' := [(0, .ref SC), (1, .ref 0), (2, .ref 58), (3, .int (x3 + 6))]) dL_law_1419 (by simp) rfl (by decide) rfl rfl ?_
    refine rn_goto (tgt := 18) dL_law_1422 (by decide) ?_
    exact h
  · refine rn_iconst (v := 0) dL_law_381 rfl ?_
    exact rn_zret dL_law_382 rfl (by decide) ⟨_, rfl, h⟩
set_option maxRecDepth 20000 in
theorem sg_L_law_383 {d : Nat} {x3 : Int32} {M : Mem} {K : (Int32 → Mem → Prop)} (h : (vp_in (x3 + 1) (sl M) ∧ (vp_in (x3 + 2) (sl M) ∧ (CI d μX8_corner [.ref 0, .int (ri M SC (nx (x3 + 1))), .int (ri M SC (nx (x3 + 2)))] M (fun r2 M1 => (vp_in (x3 + 1) (sl M1) ∧ (vp_in (x3 + 2) (sl M1) ∧ (CI d μX9_corner [.ref 58, .int (ri M1 SC (nx (x3 + 1))), .int (ri M1 SC (nx (x3 + 2)))] M1 (fun r4 M3 => (if r2 = r4 then RI (d + 1) μL_law 18 [(0, .ref SC), (1, .ref 0), (2, .ref 58), (3, .int (x3 + 6))] [] M3 K else K 0 M3)))))))))) : RI (d + 1) μL_law 383 [(0, .ref SC), (1, .ref 0), (2, .ref 58), (3, .int x3)] [] M K := by
  show Rn (d + 1) μL_law 383 [(0, .ref SC), (1, .ref 0), (2, .ref 58), (3, .int x3)] [] M _
  refine rn_aload_n (i := 1) (x := 0) dL_law_383 rfl (by simp) ?_
  refine rn_aload_n (i := 0) (x := SC) dL_law_384 rfl (by simp) ?_
  refine rn_iload_n (i := 3) (x := x3) dL_law_385 rfl (by simp) ?_
  refine rn_iconst (v := 1) dL_law_386 rfl ?_
  refine rn_iadd dL_law_387 ?_
  obtain ⟨hi, h⟩ := h
  refine rn_sld dL_law_388 hi ?_
  refine rn_aload_n (i := 0) (x := SC) dL_law_389 rfl (by simp) ?_
  refine rn_iload_n (i := 3) (x := x3) dL_law_390 rfl (by simp) ?_
  refine rn_iconst (v := 2) dL_law_391 rfl ?_
  refine rn_iadd dL_law_392 ?_
  obtain ⟨hi, h⟩ := h
  refine rn_sld dL_law_393 hi ?_
  refine rn_callVi (as := [.int (ri M SC (nx (x3 + 1))), .int (ri M SC (nx (x3 + 2)))]) (st := []) dL_law_394 mf_X8_corner lk_L_37 im_X8_corner rfl rfl rfl rfl (Nat.le_of_ble_eq_true rfl) (Nat.le_of_ble_eq_true rfl) rfl (RI.mono h (fun r2 M1 h => ?_))
  refine rn_aload_n (i := 2) (x := 58) dL_law_397 rfl (by simp) ?_
  refine rn_aload_n (i := 0) (x := SC) dL_law_398 rfl (by simp) ?_
  refine rn_iload_n (i := 3) (x := x3) dL_law_399 rfl (by simp) ?_
  refine rn_iconst (v := 1) dL_law_400 rfl ?_
  refine rn_iadd dL_law_401 ?_
  obtain ⟨hi, h⟩ := h
  refine rn_sld dL_law_402 hi ?_
  refine rn_aload_n (i := 0) (x := SC) dL_law_403 rfl (by simp) ?_
  refine rn_iload_n (i := 3) (x := x3) dL_law_404 rfl (by simp) ?_
  refine rn_iconst (v := 2) dL_law_405 rfl ?_
  refine rn_iadd dL_law_406 ?_
  obtain ⟨hi, h⟩ := h
  refine rn_sld dL_law_407 hi ?_
  refine rn_callVi (as := [.int (ri M1 SC (nx (x3 + 1))), .int (ri M1 SC (nx (x3 + 2)))]) (st := [.int r2]) dL_law_408 mf_X9_corner lk_L_40 im_X9_corner rfl rfl rfl rfl (Nat.le_of_ble_eq_true rfl) (Nat.le_of_ble_eq_true rfl) rfl (RI.mono h (fun r4 M3 h => ?_))
  refine rn_icmp_eq (tgt := 1419) dL_law_411 (by decide) (ite_go h (fun hc h => ?_) (fun hc h => ?_))
  · refine rn_iinc (x := x3) (v := x3 + 6) (lv' := [(0, .ref SC), (1, .ref 0), (2, .ref 58), (3, .int (x3 + 6))]) dL_law_1419 (by simp) rfl (by decide) rfl rfl ?_
    refine rn_goto (tgt := 18) dL_law_1422 (by decide) ?_
    exact h
  · refine rn_iconst (v := 0) dL_law_414 rfl ?_
    exact rn_zret dL_law_415 rfl (by decide) ⟨_, rfl, h⟩
set_option maxRecDepth 20000 in
theorem sg_L_law_416 {d : Nat} {x3 : Int32} {M : Mem} {K : (Int32 → Mem → Prop)} (h : (vp_in (x3 + 1) (sl M) ∧ (vp_in (x3 + 2) (sl M) ∧ (CI d μX8_wall [.ref 0, .int (ri M SC (nx (x3 + 1))), .int (ri M SC (nx (x3 + 2)))] M (fun r2 M1 => (vp_in (x3 + 1) (sl M1) ∧ (vp_in (x3 + 2) (sl M1) ∧ (CI d μX9_wall [.ref 58, .int (ri M1 SC (nx (x3 + 1))), .int (ri M1 SC (nx (x3 + 2)))] M1 (fun r4 M3 => (if r2 = r4 then RI (d + 1) μL_law 18 [(0, .ref SC), (1, .ref 0), (2, .ref 58), (3, .int (x3 + 6))] [] M3 K else K 0 M3)))))))))) : RI (d + 1) μL_law 416 [(0, .ref SC), (1, .ref 0), (2, .ref 58), (3, .int x3)] [] M K := by
  show Rn (d + 1) μL_law 416 [(0, .ref SC), (1, .ref 0), (2, .ref 58), (3, .int x3)] [] M _
  refine rn_aload_n (i := 1) (x := 0) dL_law_416 rfl (by simp) ?_
  refine rn_aload_n (i := 0) (x := SC) dL_law_417 rfl (by simp) ?_
  refine rn_iload_n (i := 3) (x := x3) dL_law_418 rfl (by simp) ?_
  refine rn_iconst (v := 1) dL_law_419 rfl ?_
  refine rn_iadd dL_law_420 ?_
  obtain ⟨hi, h⟩ := h
  refine rn_sld dL_law_421 hi ?_
  refine rn_aload_n (i := 0) (x := SC) dL_law_422 rfl (by simp) ?_
  refine rn_iload_n (i := 3) (x := x3) dL_law_423 rfl (by simp) ?_
  refine rn_iconst (v := 2) dL_law_424 rfl ?_
  refine rn_iadd dL_law_425 ?_
  obtain ⟨hi, h⟩ := h
  refine rn_sld dL_law_426 hi ?_
  refine rn_callVi (as := [.int (ri M SC (nx (x3 + 1))), .int (ri M SC (nx (x3 + 2)))]) (st := []) dL_law_427 mf_X8_wall lk_L_41 im_X8_wall rfl rfl rfl rfl (Nat.le_of_ble_eq_true rfl) (Nat.le_of_ble_eq_true rfl) rfl (RI.mono h (fun r2 M1 h => ?_))
  refine rn_aload_n (i := 2) (x := 58) dL_law_430 rfl (by simp) ?_
  refine rn_aload_n (i := 0) (x := SC) dL_law_431 rfl (by simp) ?_
  refine rn_iload_n (i := 3) (x := x3) dL_law_432 rfl (by simp) ?_
  refine rn_iconst (v := 1) dL_law_433 rfl ?_
  refine rn_iadd dL_law_434 ?_
  obtain ⟨hi, h⟩ := h
  refine rn_sld dL_law_435 hi ?_
  refine rn_aload_n (i := 0) (x := SC) dL_law_436 rfl (by simp) ?_
  refine rn_iload_n (i := 3) (x := x3) dL_law_437 rfl (by simp) ?_
  refine rn_iconst (v := 2) dL_law_438 rfl ?_
  refine rn_iadd dL_law_439 ?_
  obtain ⟨hi, h⟩ := h
  refine rn_sld dL_law_440 hi ?_
  refine rn_callVi (as := [.int (ri M1 SC (nx (x3 + 1))), .int (ri M1 SC (nx (x3 + 2)))]) (st := [.int r2]) dL_law_441 mf_X9_wall lk_L_44 im_X9_wall rfl rfl rfl rfl (Nat.le_of_ble_eq_true rfl) (Nat.le_of_ble_eq_true rfl) rfl (RI.mono h (fun r4 M3 h => ?_))
  refine rn_icmp_eq (tgt := 1419) dL_law_444 (by decide) (ite_go h (fun hc h => ?_) (fun hc h => ?_))
  · refine rn_iinc (x := x3) (v := x3 + 6) (lv' := [(0, .ref SC), (1, .ref 0), (2, .ref 58), (3, .int (x3 + 6))]) dL_law_1419 (by simp) rfl (by decide) rfl rfl ?_
    refine rn_goto (tgt := 18) dL_law_1422 (by decide) ?_
    exact h
  · refine rn_iconst (v := 0) dL_law_447 rfl ?_
    exact rn_zret dL_law_448 rfl (by decide) ⟨_, rfl, h⟩
set_option maxRecDepth 20000 in
theorem sg_L_law_449 {d : Nat} {x3 : Int32} {M : Mem} {K : (Int32 → Mem → Prop)} (h : (CI d μX8_season [.ref 0] M (fun r2 M1 => (CI d μX9_season [.ref 58] M1 (fun r4 M3 => (if r2 = r4 then RI (d + 1) μL_law 18 [(0, .ref SC), (1, .ref 0), (2, .ref 58), (3, .int (x3 + 6))] [] M3 K else K 0 M3)))))) : RI (d + 1) μL_law 449 [(0, .ref SC), (1, .ref 0), (2, .ref 58), (3, .int x3)] [] M K := by
  show Rn (d + 1) μL_law 449 [(0, .ref SC), (1, .ref 0), (2, .ref 58), (3, .int x3)] [] M _
  refine rn_aload_n (i := 1) (x := 0) dL_law_449 rfl (by simp) ?_
  refine rn_callVi (as := []) (st := []) dL_law_450 mf_X8_season lk_L_45 im_X8_season rfl rfl rfl rfl (Nat.le_of_ble_eq_true rfl) (Nat.le_of_ble_eq_true rfl) rfl (RI.mono h (fun r2 M1 h => ?_))
  refine rn_aload_n (i := 2) (x := 58) dL_law_453 rfl (by simp) ?_
  refine rn_callVi (as := []) (st := [.int r2]) dL_law_454 mf_X9_season lk_L_48 im_X9_season rfl rfl rfl rfl (Nat.le_of_ble_eq_true rfl) (Nat.le_of_ble_eq_true rfl) rfl (RI.mono h (fun r4 M3 h => ?_))
  refine rn_icmp_eq (tgt := 1419) dL_law_457 (by decide) (ite_go h (fun hc h => ?_) (fun hc h => ?_))
  · refine rn_iinc (x := x3) (v := x3 + 6) (lv' := [(0, .ref SC), (1, .ref 0), (2, .ref 58), (3, .int (x3 + 6))]) dL_law_1419 (by simp) rfl (by decide) rfl rfl ?_
    refine rn_goto (tgt := 18) dL_law_1422 (by decide) ?_
    exact h
  · refine rn_iconst (v := 0) dL_law_460 rfl ?_
    exact rn_zret dL_law_461 rfl (by decide) ⟨_, rfl, h⟩
set_option maxRecDepth 20000 in
theorem sg_L_law_462 {d : Nat} {x3 : Int32} {M : Mem} {K : (Int32 → Mem → Prop)} (h : (vp_in (x3 + 1) (sl M) ∧ (vp_in (x3 + 2) (sl M) ∧ (CI d μX8_flip [.ref 0, .int (ri M SC (nx (x3 + 1))), .int (ri M SC (nx (x3 + 2)))] M (fun r2 M1 => (vp_in (x3 + 1) (sl M1) ∧ (vp_in (x3 + 2) (sl M1) ∧ (CI d μX9_flip [.ref 58, .int (ri M1 SC (nx (x3 + 1))), .int (ri M1 SC (nx (x3 + 2)))] M1 (fun r4 M3 => (if r2 = r4 then RI (d + 1) μL_law 18 [(0, .ref SC), (1, .ref 0), (2, .ref 58), (3, .int (x3 + 6))] [] M3 K else K 0 M3)))))))))) : RI (d + 1) μL_law 462 [(0, .ref SC), (1, .ref 0), (2, .ref 58), (3, .int x3)] [] M K := by
  show Rn (d + 1) μL_law 462 [(0, .ref SC), (1, .ref 0), (2, .ref 58), (3, .int x3)] [] M _
  refine rn_aload_n (i := 1) (x := 0) dL_law_462 rfl (by simp) ?_
  refine rn_aload_n (i := 0) (x := SC) dL_law_463 rfl (by simp) ?_
  refine rn_iload_n (i := 3) (x := x3) dL_law_464 rfl (by simp) ?_
  refine rn_iconst (v := 1) dL_law_465 rfl ?_
  refine rn_iadd dL_law_466 ?_
  obtain ⟨hi, h⟩ := h
  refine rn_sld dL_law_467 hi ?_
  refine rn_aload_n (i := 0) (x := SC) dL_law_468 rfl (by simp) ?_
  refine rn_iload_n (i := 3) (x := x3) dL_law_469 rfl (by simp) ?_
  refine rn_iconst (v := 2) dL_law_470 rfl ?_
  refine rn_iadd dL_law_471 ?_
  obtain ⟨hi, h⟩ := h
  refine rn_sld dL_law_472 hi ?_
  refine rn_callVi (as := [.int (ri M SC (nx (x3 + 1))), .int (ri M SC (nx (x3 + 2)))]) (st := []) dL_law_473 mf_X8_flip lk_L_49 im_X8_flip rfl rfl rfl rfl (Nat.le_of_ble_eq_true rfl) (Nat.le_of_ble_eq_true rfl) rfl (RI.mono h (fun r2 M1 h => ?_))
  refine rn_aload_n (i := 2) (x := 58) dL_law_476 rfl (by simp) ?_
  refine rn_aload_n (i := 0) (x := SC) dL_law_477 rfl (by simp) ?_
  refine rn_iload_n (i := 3) (x := x3) dL_law_478 rfl (by simp) ?_
  refine rn_iconst (v := 1) dL_law_479 rfl ?_
  refine rn_iadd dL_law_480 ?_
  obtain ⟨hi, h⟩ := h
  refine rn_sld dL_law_481 hi ?_
  refine rn_aload_n (i := 0) (x := SC) dL_law_482 rfl (by simp) ?_
  refine rn_iload_n (i := 3) (x := x3) dL_law_483 rfl (by simp) ?_
  refine rn_iconst (v := 2) dL_law_484 rfl ?_
  refine rn_iadd dL_law_485 ?_
  obtain ⟨hi, h⟩ := h
  refine rn_sld dL_law_486 hi ?_
  refine rn_callVi (as := [.int (ri M1 SC (nx (x3 + 1))), .int (ri M1 SC (nx (x3 + 2)))]) (st := [.int r2]) dL_law_487 mf_X9_flip lk_L_52 im_X9_flip rfl rfl rfl rfl (Nat.le_of_ble_eq_true rfl) (Nat.le_of_ble_eq_true rfl) rfl (RI.mono h (fun r4 M3 h => ?_))
  refine rn_icmp_eq (tgt := 1419) dL_law_490 (by decide) (ite_go h (fun hc h => ?_) (fun hc h => ?_))
  · refine rn_iinc (x := x3) (v := x3 + 6) (lv' := [(0, .ref SC), (1, .ref 0), (2, .ref 58), (3, .int (x3 + 6))]) dL_law_1419 (by simp) rfl (by decide) rfl rfl ?_
    refine rn_goto (tgt := 18) dL_law_1422 (by decide) ?_
    exact h
  · refine rn_iconst (v := 0) dL_law_493 rfl ?_
    exact rn_zret dL_law_494 rfl (by decide) ⟨_, rfl, h⟩
set_option maxRecDepth 20000 in
theorem sg_L_law_495 {d : Nat} {x3 : Int32} {M : Mem} {K : (Int32 → Mem → Prop)} (h : (vp_in (x3 + 1) (sl M) ∧ (vp_in (x3 + 2) (sl M) ∧ (CI d μX8_pop [.ref 0, .int (ri M SC (nx (x3 + 1))), .int (ri M SC (nx (x3 + 2)))] M (fun r2 M1 => (vp_in (x3 + 1) (sl M1) ∧ (vp_in (x3 + 2) (sl M1) ∧ (CI d μX9_pop [.ref 58, .int (ri M1 SC (nx (x3 + 1))), .int (ri M1 SC (nx (x3 + 2)))] M1 (fun r4 M3 => (if r2 = r4 then RI (d + 1) μL_law 18 [(0, .ref SC), (1, .ref 0), (2, .ref 58), (3, .int (x3 + 6))] [] M3 K else K 0 M3)))))))))) : RI (d + 1) μL_law 495 [(0, .ref SC), (1, .ref 0), (2, .ref 58), (3, .int x3)] [] M K := by
  show Rn (d + 1) μL_law 495 [(0, .ref SC), (1, .ref 0), (2, .ref 58), (3, .int x3)] [] M _
  refine rn_aload_n (i := 1) (x := 0) dL_law_495 rfl (by simp) ?_
  refine rn_aload_n (i := 0) (x := SC) dL_law_496 rfl (by simp) ?_
  refine rn_iload_n (i := 3) (x := x3) dL_law_497 rfl (by simp) ?_
  refine rn_iconst (v := 1) dL_law_498 rfl ?_
  refine rn_iadd dL_law_499 ?_
  obtain ⟨hi, h⟩ := h
  refine rn_sld dL_law_500 hi ?_
  refine rn_aload_n (i := 0) (x := SC) dL_law_501 rfl (by simp) ?_
  refine rn_iload_n (i := 3) (x := x3) dL_law_502 rfl (by simp) ?_
  refine rn_iconst (v := 2) dL_law_503 rfl ?_
  refine rn_iadd dL_law_504 ?_
  obtain ⟨hi, h⟩ := h
  refine rn_sld dL_law_505 hi ?_
  refine rn_callVi (as := [.int (ri M SC (nx (x3 + 1))), .int (ri M SC (nx (x3 + 2)))]) (st := []) dL_law_506 mf_X8_pop lk_L_53 im_X8_pop rfl rfl rfl rfl (Nat.le_of_ble_eq_true rfl) (Nat.le_of_ble_eq_true rfl) rfl (RI.mono h (fun r2 M1 h => ?_))
  refine rn_aload_n (i := 2) (x := 58) dL_law_509 rfl (by simp) ?_
  refine rn_aload_n (i := 0) (x := SC) dL_law_510 rfl (by simp) ?_
  refine rn_iload_n (i := 3) (x := x3) dL_law_511 rfl (by simp) ?_
  refine rn_iconst (v := 1) dL_law_512 rfl ?_
  refine rn_iadd dL_law_513 ?_
  obtain ⟨hi, h⟩ := h
  refine rn_sld dL_law_514 hi ?_
  refine rn_aload_n (i := 0) (x := SC) dL_law_515 rfl (by simp) ?_
  refine rn_iload_n (i := 3) (x := x3) dL_law_516 rfl (by simp) ?_
  refine rn_iconst (v := 2) dL_law_517 rfl ?_
  refine rn_iadd dL_law_518 ?_
  obtain ⟨hi, h⟩ := h
  refine rn_sld dL_law_519 hi ?_
  refine rn_callVi (as := [.int (ri M1 SC (nx (x3 + 1))), .int (ri M1 SC (nx (x3 + 2)))]) (st := [.int r2]) dL_law_520 mf_X9_pop lk_L_56 im_X9_pop rfl rfl rfl rfl (Nat.le_of_ble_eq_true rfl) (Nat.le_of_ble_eq_true rfl) rfl (RI.mono h (fun r4 M3 h => ?_))
  refine rn_icmp_eq (tgt := 1419) dL_law_523 (by decide) (ite_go h (fun hc h => ?_) (fun hc h => ?_))
  · refine rn_iinc (x := x3) (v := x3 + 6) (lv' := [(0, .ref SC), (1, .ref 0), (2, .ref 58), (3, .int (x3 + 6))]) dL_law_1419 (by simp) rfl (by decide) rfl rfl ?_
    refine rn_goto (tgt := 18) dL_law_1422 (by decide) ?_
    exact h
  · refine rn_iconst (v := 0) dL_law_526 rfl ?_
    exact rn_zret dL_law_527 rfl (by decide) ⟨_, rfl, h⟩
set_option maxRecDepth 20000 in
theorem sg_L_law_528 {d : Nat} {x3 : Int32} {M : Mem} {K : (Int32 → Mem → Prop)} (h : (vp_in (x3 + 1) (sl M) ∧ (vp_in (x3 + 2) (sl M) ∧ (CI d μX8_gift [.ref 0, .int (ri M SC (nx (x3 + 1))), .int (ri M SC (nx (x3 + 2)))] M (fun r2 M1 => (vp_in (x3 + 1) (sl M1) ∧ (vp_in (x3 + 2) (sl M1) ∧ (CI d μX9_gift [.ref 58, .int (ri M1 SC (nx (x3 + 1))), .int (ri M1 SC (nx (x3 + 2)))] M1 (fun r4 M3 => (if r2 = r4 then RI (d + 1) μL_law 18 [(0, .ref SC), (1, .ref 0), (2, .ref 58), (3, .int (x3 + 6))] [] M3 K else K 0 M3)))))))))) : RI (d + 1) μL_law 528 [(0, .ref SC), (1, .ref 0), (2, .ref 58), (3, .int x3)] [] M K := by
  show Rn (d + 1) μL_law 528 [(0, .ref SC), (1, .ref 0), (2, .ref 58), (3, .int x3)] [] M _
  refine rn_aload_n (i := 1) (x := 0) dL_law_528 rfl (by simp) ?_
  refine rn_aload_n (i := 0) (x := SC) dL_law_529 rfl (by simp) ?_
  refine rn_iload_n (i := 3) (x := x3) dL_law_530 rfl (by simp) ?_
  refine rn_iconst (v := 1) dL_law_531 rfl ?_
  refine rn_iadd dL_law_532 ?_
  obtain ⟨hi, h⟩ := h
  refine rn_sld dL_law_533 hi ?_
  refine rn_aload_n (i := 0) (x := SC) dL_law_534 rfl (by simp) ?_
  refine rn_iload_n (i := 3) (x := x3) dL_law_535 rfl (by simp) ?_
  refine rn_iconst (v := 2) dL_law_536 rfl ?_
  refine rn_iadd dL_law_537 ?_
  obtain ⟨hi, h⟩ := h
  refine rn_sld dL_law_538 hi ?_
  refine rn_callVi (as := [.int (ri M SC (nx (x3 + 1))), .int (ri M SC (nx (x3 + 2)))]) (st := []) dL_law_539 mf_X8_gift lk_L_57 im_X8_gift rfl rfl rfl rfl (Nat.le_of_ble_eq_true rfl) (Nat.le_of_ble_eq_true rfl) rfl (RI.mono h (fun r2 M1 h => ?_))
  refine rn_aload_n (i := 2) (x := 58) dL_law_542 rfl (by simp) ?_
  refine rn_aload_n (i := 0) (x := SC) dL_law_543 rfl (by simp) ?_
  refine rn_iload_n (i := 3) (x := x3) dL_law_544 rfl (by simp) ?_
  refine rn_iconst (v := 1) dL_law_545 rfl ?_
  refine rn_iadd dL_law_546 ?_
  obtain ⟨hi, h⟩ := h
  refine rn_sld dL_law_547 hi ?_
  refine rn_aload_n (i := 0) (x := SC) dL_law_548 rfl (by simp) ?_
  refine rn_iload_n (i := 3) (x := x3) dL_law_549 rfl (by simp) ?_
  refine rn_iconst (v := 2) dL_law_550 rfl ?_
  refine rn_iadd dL_law_551 ?_
  obtain ⟨hi, h⟩ := h
  refine rn_sld dL_law_552 hi ?_
  refine rn_callVi (as := [.int (ri M1 SC (nx (x3 + 1))), .int (ri M1 SC (nx (x3 + 2)))]) (st := [.int r2]) dL_law_553 mf_X9_gift lk_L_60 im_X9_gift rfl rfl rfl rfl (Nat.le_of_ble_eq_true rfl) (Nat.le_of_ble_eq_true rfl) rfl (RI.mono h (fun r4 M3 h => ?_))
  refine rn_icmp_eq (tgt := 1419) dL_law_556 (by decide) (ite_go h (fun hc h => ?_) (fun hc h => ?_))
  · refine rn_iinc (x := x3) (v := x3 + 6) (lv' := [(0, .ref SC), (1, .ref 0), (2, .ref 58), (3, .int (x3 + 6))]) dL_law_1419 (by simp) rfl (by decide) rfl rfl ?_
    refine rn_goto (tgt := 18) dL_law_1422 (by decide) ?_
    exact h
  · refine rn_iconst (v := 0) dL_law_559 rfl ?_
    exact rn_zret dL_law_560 rfl (by decide) ⟨_, rfl, h⟩
set_option maxRecDepth 20000 in
theorem sg_L_law_561 {d : Nat} {x3 : Int32} {M : Mem} {K : (Int32 → Mem → Prop)} (h : (CI d μX8_undo [.ref 0] M (fun r2 M1 => (CI d μX9_undo [.ref 58] M1 (fun r4 M3 => (if r2 = r4 then RI (d + 1) μL_law 18 [(0, .ref SC), (1, .ref 0), (2, .ref 58), (3, .int (x3 + 6))] [] M3 K else K 0 M3)))))) : RI (d + 1) μL_law 561 [(0, .ref SC), (1, .ref 0), (2, .ref 58), (3, .int x3)] [] M K := by
  show Rn (d + 1) μL_law 561 [(0, .ref SC), (1, .ref 0), (2, .ref 58), (3, .int x3)] [] M _
  refine rn_aload_n (i := 1) (x := 0) dL_law_561 rfl (by simp) ?_
  refine rn_callVi (as := []) (st := []) dL_law_562 mf_X8_undo lk_L_61 im_X8_undo rfl rfl rfl rfl (Nat.le_of_ble_eq_true rfl) (Nat.le_of_ble_eq_true rfl) rfl (RI.mono h (fun r2 M1 h => ?_))
  refine rn_aload_n (i := 2) (x := 58) dL_law_565 rfl (by simp) ?_
  refine rn_callVi (as := []) (st := [.int r2]) dL_law_566 mf_X9_undo lk_L_65 im_X9_undo rfl rfl rfl rfl (Nat.le_of_ble_eq_true rfl) (Nat.le_of_ble_eq_true rfl) rfl (RI.mono h (fun r4 M3 h => ?_))
  refine rn_icmp_eq (tgt := 1419) dL_law_569 (by decide) (ite_go h (fun hc h => ?_) (fun hc h => ?_))
  · refine rn_iinc (x := x3) (v := x3 + 6) (lv' := [(0, .ref SC), (1, .ref 0), (2, .ref 58), (3, .int (x3 + 6))]) dL_law_1419 (by simp) rfl (by decide) rfl rfl ?_
    refine rn_goto (tgt := 18) dL_law_1422 (by decide) ?_
    exact h
  · refine rn_iconst (v := 0) dL_law_572 rfl ?_
    exact rn_zret dL_law_573 rfl (by decide) ⟨_, rfl, h⟩
set_option maxRecDepth 20000 in
theorem sg_L_law_574 {d : Nat} {x3 : Int32} {M : Mem} {K : (Int32 → Mem → Prop)} (h : (CI d μX8_redo [.ref 0] M (fun r2 M1 => (CI d μX9_redo [.ref 58] M1 (fun r4 M3 => (if r2 = r4 then RI (d + 1) μL_law 18 [(0, .ref SC), (1, .ref 0), (2, .ref 58), (3, .int (x3 + 6))] [] M3 K else K 0 M3)))))) : RI (d + 1) μL_law 574 [(0, .ref SC), (1, .ref 0), (2, .ref 58), (3, .int x3)] [] M K := by
  show Rn (d + 1) μL_law 574 [(0, .ref SC), (1, .ref 0), (2, .ref 58), (3, .int x3)] [] M _
  refine rn_aload_n (i := 1) (x := 0) dL_law_574 rfl (by simp) ?_
  refine rn_callVi (as := []) (st := []) dL_law_575 mf_X8_redo lk_L_66 im_X8_redo rfl rfl rfl rfl (Nat.le_of_ble_eq_true rfl) (Nat.le_of_ble_eq_true rfl) rfl (RI.mono h (fun r2 M1 h => ?_))
  refine rn_aload_n (i := 2) (x := 58) dL_law_578 rfl (by simp) ?_
  refine rn_callVi (as := []) (st := [.int r2]) dL_law_579 mf_X9_redo lk_L_69 im_X9_redo rfl rfl rfl rfl (Nat.le_of_ble_eq_true rfl) (Nat.le_of_ble_eq_true rfl) rfl (RI.mono h (fun r4 M3 h => ?_))
  refine rn_icmp_eq (tgt := 1419) dL_law_582 (by decide) (ite_go h (fun hc h => ?_) (fun hc h => ?_))
  · refine rn_iinc (x := x3) (v := x3 + 6) (lv' := [(0, .ref SC), (1, .ref 0), (2, .ref 58), (3, .int (x3 + 6))]) dL_law_1419 (by simp) rfl (by decide) rfl rfl ?_
    refine rn_goto (tgt := 18) dL_law_1422 (by decide) ?_
    exact h
  · refine rn_iconst (v := 0) dL_law_585 rfl ?_
    exact rn_zret dL_law_586 rfl (by decide) ⟨_, rfl, h⟩
set_option maxRecDepth 20000 in
theorem sg_L_law_587 {d : Nat} {x3 : Int32} {M : Mem} {K : (Int32 → Mem → Prop)} (h : (vp_in (x3 + 1) (sl M) ∧ (vp_in (x3 + 2) (sl M) ∧ (vp_in (x3 + 3) (sl M) ∧ (CI d μX8_will [.ref 0, .int (ri M SC (nx (x3 + 1))), .int (ri M SC (nx (x3 + 2))), .int (ri M SC (nx (x3 + 3)))] M (fun r2 M1 => (vp_in (x3 + 1) (sl M1) ∧ (vp_in (x3 + 2) (sl M1) ∧ (vp_in (x3 + 3) (sl M1) ∧ (CI d μX9_will [.ref 58, .int (ri M1 SC (nx (x3 + 1))), .int (ri M1 SC (nx (x3 + 2))), .int (ri M1 SC (nx (x3 + 3)))] M1 (fun r4 M3 => (if r2 = r4 then RI (d + 1) μL_law 18 [(0, .ref SC), (1, .ref 0), (2, .ref 58), (3, .int (x3 + 6))] [] M3 K else K 0 M3)))))))))))) : RI (d + 1) μL_law 587 [(0, .ref SC), (1, .ref 0), (2, .ref 58), (3, .int x3)] [] M K := by
  show Rn (d + 1) μL_law 587 [(0, .ref SC), (1, .ref 0), (2, .ref 58), (3, .int x3)] [] M _
  refine rn_aload_n (i := 1) (x := 0) dL_law_587 rfl (by simp) ?_
  refine rn_aload_n (i := 0) (x := SC) dL_law_588 rfl (by simp) ?_
  refine rn_iload_n (i := 3) (x := x3) dL_law_589 rfl (by simp) ?_
  refine rn_iconst (v := 1) dL_law_590 rfl ?_
  refine rn_iadd dL_law_591 ?_
  obtain ⟨hi, h⟩ := h
  refine rn_sld dL_law_592 hi ?_
  refine rn_aload_n (i := 0) (x := SC) dL_law_593 rfl (by simp) ?_
  refine rn_iload_n (i := 3) (x := x3) dL_law_594 rfl (by simp) ?_
  refine rn_iconst (v := 2) dL_law_595 rfl ?_
  refine rn_iadd dL_law_596 ?_
  obtain ⟨hi, h⟩ := h
  refine rn_sld dL_law_597 hi ?_
  refine rn_aload_n (i := 0) (x := SC) dL_law_598 rfl (by simp) ?_
  refine rn_iload_n (i := 3) (x := x3) dL_law_599 rfl (by simp) ?_
  refine rn_iconst (v := 3) dL_law_600 rfl ?_
  refine rn_iadd dL_law_601 ?_
  obtain ⟨hi, h⟩ := h
  refine rn_sld dL_law_602 hi ?_
  refine rn_callVi (as := [.int (ri M SC (nx (x3 + 1))), .int (ri M SC (nx (x3 + 2))), .int (ri M SC (nx (x3 + 3)))]) (st := []) dL_law_603 mf_X8_will lk_L_70 im_X8_will rfl rfl rfl rfl (Nat.le_of_ble_eq_true rfl) (Nat.le_of_ble_eq_true rfl) rfl (RI.mono h (fun r2 M1 h => ?_))
  refine rn_aload_n (i := 2) (x := 58) dL_law_606 rfl (by simp) ?_
  refine rn_aload_n (i := 0) (x := SC) dL_law_607 rfl (by simp) ?_
  refine rn_iload_n (i := 3) (x := x3) dL_law_608 rfl (by simp) ?_
  refine rn_iconst (v := 1) dL_law_609 rfl ?_
  refine rn_iadd dL_law_610 ?_
  obtain ⟨hi, h⟩ := h
  refine rn_sld dL_law_611 hi ?_
  refine rn_aload_n (i := 0) (x := SC) dL_law_612 rfl (by simp) ?_
  refine rn_iload_n (i := 3) (x := x3) dL_law_613 rfl (by simp) ?_
  refine rn_iconst (v := 2) dL_law_614 rfl ?_
  refine rn_iadd dL_law_615 ?_
  obtain ⟨hi, h⟩ := h
  refine rn_sld dL_law_616 hi ?_
  refine rn_aload_n (i := 0) (x := SC) dL_law_617 rfl (by simp) ?_
  refine rn_iload_n (i := 3) (x := x3) dL_law_618 rfl (by simp) ?_
  refine rn_iconst (v := 3) dL_law_619 rfl ?_
  refine rn_iadd dL_law_620 ?_
  obtain ⟨hi, h⟩ := h
  refine rn_sld dL_law_621 hi ?_
  refine rn_callVi (as := [.int (ri M1 SC (nx (x3 + 1))), .int (ri M1 SC (nx (x3 + 2))), .int (ri M1 SC (nx (x3 + 3)))]) (st := [.int r2]) dL_law_622 mf_X9_will lk_L_74 im_X9_will rfl rfl rfl rfl (Nat.le_of_ble_eq_true rfl) (Nat.le_of_ble_eq_true rfl) rfl (RI.mono h (fun r4 M3 h => ?_))
  refine rn_icmp_eq (tgt := 1419) dL_law_625 (by decide) (ite_go h (fun hc h => ?_) (fun hc h => ?_))
  · refine rn_iinc (x := x3) (v := x3 + 6) (lv' := [(0, .ref SC), (1, .ref 0), (2, .ref 58), (3, .int (x3 + 6))]) dL_law_1419 (by simp) rfl (by decide) rfl rfl ?_
    refine rn_goto (tgt := 18) dL_law_1422 (by decide) ?_
    exact h
  · refine rn_iconst (v := 0) dL_law_628 rfl ?_
    exact rn_zret dL_law_629 rfl (by decide) ⟨_, rfl, h⟩
set_option maxRecDepth 20000 in
theorem sg_L_law_630 {d : Nat} {x3 : Int32} {M : Mem} {K : (Int32 → Mem → Prop)} (h : (vp_in (x3 + 1) (sl M) ∧ (vp_in (x3 + 2) (sl M) ∧ (CI d μX8_sides [.ref 0, .int (ri M SC (nx (x3 + 1))), .int (ri M SC (nx (x3 + 2)))] M (fun r2 M1 => (vp_in (x3 + 1) (sl M1) ∧ (vp_in (x3 + 2) (sl M1) ∧ (CI d μX9_sides [.ref 58, .int (ri M1 SC (nx (x3 + 1))), .int (ri M1 SC (nx (x3 + 2)))] M1 (fun r4 M3 => (if r2 = r4 then RI (d + 1) μL_law 18 [(0, .ref SC), (1, .ref 0), (2, .ref 58), (3, .int (x3 + 6))] [] M3 K else K 0 M3)))))))))) : RI (d + 1) μL_law 630 [(0, .ref SC), (1, .ref 0), (2, .ref 58), (3, .int x3)] [] M K := by
  show Rn (d + 1) μL_law 630 [(0, .ref SC), (1, .ref 0), (2, .ref 58), (3, .int x3)] [] M _
  refine rn_aload_n (i := 1) (x := 0) dL_law_630 rfl (by simp) ?_
  refine rn_aload_n (i := 0) (x := SC) dL_law_631 rfl (by simp) ?_
  refine rn_iload_n (i := 3) (x := x3) dL_law_632 rfl (by simp) ?_
  refine rn_iconst (v := 1) dL_law_633 rfl ?_
  refine rn_iadd dL_law_634 ?_
  obtain ⟨hi, h⟩ := h
  refine rn_sld dL_law_635 hi ?_
  refine rn_aload_n (i := 0) (x := SC) dL_law_636 rfl (by simp) ?_
  refine rn_iload_n (i := 3) (x := x3) dL_law_637 rfl (by simp) ?_
  refine rn_iconst (v := 2) dL_law_638 rfl ?_
  refine rn_iadd dL_law_639 ?_
  obtain ⟨hi, h⟩ := h
  refine rn_sld dL_law_640 hi ?_
  refine rn_callVi (as := [.int (ri M SC (nx (x3 + 1))), .int (ri M SC (nx (x3 + 2)))]) (st := []) dL_law_641 mf_X8_sides lk_L_75 im_X8_sides rfl rfl rfl rfl (Nat.le_of_ble_eq_true rfl) (Nat.le_of_ble_eq_true rfl) rfl (RI.mono h (fun r2 M1 h => ?_))
  refine rn_aload_n (i := 2) (x := 58) dL_law_644 rfl (by simp) ?_
  refine rn_aload_n (i := 0) (x := SC) dL_law_645 rfl (by simp) ?_
  refine rn_iload_n (i := 3) (x := x3) dL_law_646 rfl (by simp) ?_
  refine rn_iconst (v := 1) dL_law_647 rfl ?_
  refine rn_iadd dL_law_648 ?_
  obtain ⟨hi, h⟩ := h
  refine rn_sld dL_law_649 hi ?_
  refine rn_aload_n (i := 0) (x := SC) dL_law_650 rfl (by simp) ?_
  refine rn_iload_n (i := 3) (x := x3) dL_law_651 rfl (by simp) ?_
  refine rn_iconst (v := 2) dL_law_652 rfl ?_
  refine rn_iadd dL_law_653 ?_
  obtain ⟨hi, h⟩ := h
  refine rn_sld dL_law_654 hi ?_
  refine rn_callVi (as := [.int (ri M1 SC (nx (x3 + 1))), .int (ri M1 SC (nx (x3 + 2)))]) (st := [.int r2]) dL_law_655 mf_X9_sides lk_L_78 im_X9_sides rfl rfl rfl rfl (Nat.le_of_ble_eq_true rfl) (Nat.le_of_ble_eq_true rfl) rfl (RI.mono h (fun r4 M3 h => ?_))
  refine rn_icmp_eq (tgt := 1419) dL_law_658 (by decide) (ite_go h (fun hc h => ?_) (fun hc h => ?_))
  · refine rn_iinc (x := x3) (v := x3 + 6) (lv' := [(0, .ref SC), (1, .ref 0), (2, .ref 58), (3, .int (x3 + 6))]) dL_law_1419 (by simp) rfl (by decide) rfl rfl ?_
    refine rn_goto (tgt := 18) dL_law_1422 (by decide) ?_
    exact h
  · refine rn_iconst (v := 0) dL_law_661 rfl ?_
    exact rn_zret dL_law_662 rfl (by decide) ⟨_, rfl, h⟩
set_option maxRecDepth 20000 in
theorem sg_L_law_663 {d : Nat} {x3 : Int32} {M : Mem} {K : (Int32 → Mem → Prop)} (h : (vp_in (x3 + 1) (sl M) ∧ (CI d μX8_left [.ref 0, .int (ri M SC (nx (x3 + 1)))] M (fun r2 M1 => (vp_in (x3 + 1) (sl M1) ∧ (CI d μX9_left [.ref 58, .int (ri M1 SC (nx (x3 + 1)))] M1 (fun r4 M3 => (if r2 = r4 then RI (d + 1) μL_law 18 [(0, .ref SC), (1, .ref 0), (2, .ref 58), (3, .int (x3 + 6))] [] M3 K else K 0 M3)))))))) : RI (d + 1) μL_law 663 [(0, .ref SC), (1, .ref 0), (2, .ref 58), (3, .int x3)] [] M K := by
  show Rn (d + 1) μL_law 663 [(0, .ref SC), (1, .ref 0), (2, .ref 58), (3, .int x3)] [] M _
  refine rn_aload_n (i := 1) (x := 0) dL_law_663 rfl (by simp) ?_
  refine rn_aload_n (i := 0) (x := SC) dL_law_664 rfl (by simp) ?_
  refine rn_iload_n (i := 3) (x := x3) dL_law_665 rfl (by simp) ?_
  refine rn_iconst (v := 1) dL_law_666 rfl ?_
  refine rn_iadd dL_law_667 ?_
  obtain ⟨hi, h⟩ := h
  refine rn_sld dL_law_668 hi ?_
  refine rn_callVi (as := [.int (ri M SC (nx (x3 + 1)))]) (st := []) dL_law_669 mf_X8_left lk_L_79 im_X8_left rfl rfl rfl rfl (Nat.le_of_ble_eq_true rfl) (Nat.le_of_ble_eq_true rfl) rfl (RI.mono h (fun r2 M1 h => ?_))
  refine rn_aload_n (i := 2) (x := 58) dL_law_672 rfl (by simp) ?_
  refine rn_aload_n (i := 0) (x := SC) dL_law_673 rfl (by simp) ?_
  refine rn_iload_n (i := 3) (x := x3) dL_law_674 rfl (by simp) ?_
  refine rn_iconst (v := 1) dL_law_675 rfl ?_
  refine rn_iadd dL_law_676 ?_
  obtain ⟨hi, h⟩ := h
  refine rn_sld dL_law_677 hi ?_
  refine rn_callVi (as := [.int (ri M1 SC (nx (x3 + 1)))]) (st := [.int r2]) dL_law_678 mf_X9_left lk_L_82 im_X9_left rfl rfl rfl rfl (Nat.le_of_ble_eq_true rfl) (Nat.le_of_ble_eq_true rfl) rfl (RI.mono h (fun r4 M3 h => ?_))
  refine rn_icmp_eq (tgt := 1419) dL_law_681 (by decide) (ite_go h (fun hc h => ?_) (fun hc h => ?_))
  · refine rn_iinc (x := x3) (v := x3 + 6) (lv' := [(0, .ref SC), (1, .ref 0), (2, .ref 58), (3, .int (x3 + 6))]) dL_law_1419 (by simp) rfl (by decide) rfl rfl ?_
    refine rn_goto (tgt := 18) dL_law_1422 (by decide) ?_
    exact h
  · refine rn_iconst (v := 0) dL_law_684 rfl ?_
    exact rn_zret dL_law_685 rfl (by decide) ⟨_, rfl, h⟩
set_option maxRecDepth 20000 in
theorem sg_L_law_686 {d : Nat} {x3 : Int32} {M : Mem} {K : (Int32 → Mem → Prop)} (h : (vp_in (x3 + 1) (sl M) ∧ (CI d μX8_ending [.ref 0, .int (ri M SC (nx (x3 + 1)))] M (fun r2 M1 => (vp_in (x3 + 1) (sl M1) ∧ (CI d μX9_ending [.ref 58, .int (ri M1 SC (nx (x3 + 1)))] M1 (fun r4 M3 => (if r2 = r4 then RI (d + 1) μL_law 18 [(0, .ref SC), (1, .ref 0), (2, .ref 58), (3, .int (x3 + 6))] [] M3 K else K 0 M3)))))))) : RI (d + 1) μL_law 686 [(0, .ref SC), (1, .ref 0), (2, .ref 58), (3, .int x3)] [] M K := by
  show Rn (d + 1) μL_law 686 [(0, .ref SC), (1, .ref 0), (2, .ref 58), (3, .int x3)] [] M _
  refine rn_aload_n (i := 1) (x := 0) dL_law_686 rfl (by simp) ?_
  refine rn_aload_n (i := 0) (x := SC) dL_law_687 rfl (by simp) ?_
  refine rn_iload_n (i := 3) (x := x3) dL_law_688 rfl (by simp) ?_
  refine rn_iconst (v := 1) dL_law_689 rfl ?_
  refine rn_iadd dL_law_690 ?_
  obtain ⟨hi, h⟩ := h
  refine rn_sld dL_law_691 hi ?_
  refine rn_callVi (as := [.int (ri M SC (nx (x3 + 1)))]) (st := []) dL_law_692 mf_X8_ending lk_L_83 im_X8_ending rfl rfl rfl rfl (Nat.le_of_ble_eq_true rfl) (Nat.le_of_ble_eq_true rfl) rfl (RI.mono h (fun r2 M1 h => ?_))
  refine rn_aload_n (i := 2) (x := 58) dL_law_695 rfl (by simp) ?_
  refine rn_aload_n (i := 0) (x := SC) dL_law_696 rfl (by simp) ?_
  refine rn_iload_n (i := 3) (x := x3) dL_law_697 rfl (by simp) ?_
  refine rn_iconst (v := 1) dL_law_698 rfl ?_
  refine rn_iadd dL_law_699 ?_
  obtain ⟨hi, h⟩ := h
  refine rn_sld dL_law_700 hi ?_
  refine rn_callVi (as := [.int (ri M1 SC (nx (x3 + 1)))]) (st := [.int r2]) dL_law_701 mf_X9_ending lk_L_86 im_X9_ending rfl rfl rfl rfl (Nat.le_of_ble_eq_true rfl) (Nat.le_of_ble_eq_true rfl) rfl (RI.mono h (fun r4 M3 h => ?_))
  refine rn_icmp_eq (tgt := 1419) dL_law_704 (by decide) (ite_go h (fun hc h => ?_) (fun hc h => ?_))
  · refine rn_iinc (x := x3) (v := x3 + 6) (lv' := [(0, .ref SC), (1, .ref 0), (2, .ref 58), (3, .int (x3 + 6))]) dL_law_1419 (by simp) rfl (by decide) rfl rfl ?_
    refine rn_goto (tgt := 18) dL_law_1422 (by decide) ?_
    exact h
  · refine rn_iconst (v := 0) dL_law_707 rfl ?_
    exact rn_zret dL_law_708 rfl (by decide) ⟨_, rfl, h⟩
set_option maxRecDepth 20000 in
theorem sg_L_law_709 {d : Nat} {x3 : Int32} {M : Mem} {K : (Int32 → Mem → Prop)} (h : (vp_in (x3 + 1) (sl M) ∧ (vp_in (x3 + 2) (sl M) ∧ (CI d μX8_far [.ref 0, .int (ri M SC (nx (x3 + 1))), .int (ri M SC (nx (x3 + 2)))] M (fun r2 M1 => (vp_in (x3 + 1) (sl M1) ∧ (vp_in (x3 + 2) (sl M1) ∧ (CI d μX9_far [.ref 58, .int (ri M1 SC (nx (x3 + 1))), .int (ri M1 SC (nx (x3 + 2)))] M1 (fun r4 M3 => (if r2 = r4 then RI (d + 1) μL_law 18 [(0, .ref SC), (1, .ref 0), (2, .ref 58), (3, .int (x3 + 6))] [] M3 K else K 0 M3)))))))))) : RI (d + 1) μL_law 709 [(0, .ref SC), (1, .ref 0), (2, .ref 58), (3, .int x3)] [] M K := by
  show Rn (d + 1) μL_law 709 [(0, .ref SC), (1, .ref 0), (2, .ref 58), (3, .int x3)] [] M _
  refine rn_aload_n (i := 1) (x := 0) dL_law_709 rfl (by simp) ?_
  refine rn_aload_n (i := 0) (x := SC) dL_law_710 rfl (by simp) ?_
  refine rn_iload_n (i := 3) (x := x3) dL_law_711 rfl (by simp) ?_
  refine rn_iconst (v := 1) dL_law_712 rfl ?_
  refine rn_iadd dL_law_713 ?_
  obtain ⟨hi, h⟩ := h
  refine rn_sld dL_law_714 hi ?_
  refine rn_aload_n (i := 0) (x := SC) dL_law_715 rfl (by simp) ?_
  refine rn_iload_n (i := 3) (x := x3) dL_law_716 rfl (by simp) ?_
  refine rn_iconst (v := 2) dL_law_717 rfl ?_
  refine rn_iadd dL_law_718 ?_
  obtain ⟨hi, h⟩ := h
  refine rn_sld dL_law_719 hi ?_
  refine rn_callVi (as := [.int (ri M SC (nx (x3 + 1))), .int (ri M SC (nx (x3 + 2)))]) (st := []) dL_law_720 mf_X8_far lk_L_87 im_X8_far rfl rfl rfl rfl (Nat.le_of_ble_eq_true rfl) (Nat.le_of_ble_eq_true rfl) rfl (RI.mono h (fun r2 M1 h => ?_))
  refine rn_aload_n (i := 2) (x := 58) dL_law_723 rfl (by simp) ?_
  refine rn_aload_n (i := 0) (x := SC) dL_law_724 rfl (by simp) ?_
  refine rn_iload_n (i := 3) (x := x3) dL_law_725 rfl (by simp) ?_
  refine rn_iconst (v := 1) dL_law_726 rfl ?_
  refine rn_iadd dL_law_727 ?_
  obtain ⟨hi, h⟩ := h
  refine rn_sld dL_law_728 hi ?_
  refine rn_aload_n (i := 0) (x := SC) dL_law_729 rfl (by simp) ?_
  refine rn_iload_n (i := 3) (x := x3) dL_law_730 rfl (by simp) ?_
  refine rn_iconst (v := 2) dL_law_731 rfl ?_
  refine rn_iadd dL_law_732 ?_
  obtain ⟨hi, h⟩ := h
  refine rn_sld dL_law_733 hi ?_
  refine rn_callVi (as := [.int (ri M1 SC (nx (x3 + 1))), .int (ri M1 SC (nx (x3 + 2)))]) (st := [.int r2]) dL_law_734 mf_X9_far lk_L_90 im_X9_far rfl rfl rfl rfl (Nat.le_of_ble_eq_true rfl) (Nat.le_of_ble_eq_true rfl) rfl (RI.mono h (fun r4 M3 h => ?_))
  refine rn_icmp_eq (tgt := 1419) dL_law_737 (by decide) (ite_go h (fun hc h => ?_) (fun hc h => ?_))
  · refine rn_iinc (x := x3) (v := x3 + 6) (lv' := [(0, .ref SC), (1, .ref 0), (2, .ref 58), (3, .int (x3 + 6))]) dL_law_1419 (by simp) rfl (by decide) rfl rfl ?_
    refine rn_goto (tgt := 18) dL_law_1422 (by decide) ?_
    exact h
  · refine rn_iconst (v := 0) dL_law_740 rfl ?_
    exact rn_zret dL_law_741 rfl (by decide) ⟨_, rfl, h⟩
set_option maxRecDepth 20000 in
theorem sg_L_law_742 {d : Nat} {x3 : Int32} {M : Mem} {K : (Int32 → Mem → Prop)} (h : (CI d μX8_banners [.ref 0] M (fun r2 M1 => (CI d μX9_banners [.ref 58] M1 (fun r4 M3 => (if r2 = r4 then RI (d + 1) μL_law 18 [(0, .ref SC), (1, .ref 0), (2, .ref 58), (3, .int (x3 + 6))] [] M3 K else K 0 M3)))))) : RI (d + 1) μL_law 742 [(0, .ref SC), (1, .ref 0), (2, .ref 58), (3, .int x3)] [] M K := by
  show Rn (d + 1) μL_law 742 [(0, .ref SC), (1, .ref 0), (2, .ref 58), (3, .int x3)] [] M _
  refine rn_aload_n (i := 1) (x := 0) dL_law_742 rfl (by simp) ?_
  refine rn_callVi (as := []) (st := []) dL_law_743 mf_X8_banners lk_L_91 im_X8_banners rfl rfl rfl rfl (Nat.le_of_ble_eq_true rfl) (Nat.le_of_ble_eq_true rfl) rfl (RI.mono h (fun r2 M1 h => ?_))
  refine rn_aload_n (i := 2) (x := 58) dL_law_746 rfl (by simp) ?_
  refine rn_callVi (as := []) (st := [.int r2]) dL_law_747 mf_X9_banners lk_L_94 im_X9_banners rfl rfl rfl rfl (Nat.le_of_ble_eq_true rfl) (Nat.le_of_ble_eq_true rfl) rfl (RI.mono h (fun r4 M3 h => ?_))
  refine rn_icmp_eq (tgt := 1419) dL_law_750 (by decide) (ite_go h (fun hc h => ?_) (fun hc h => ?_))
  · refine rn_iinc (x := x3) (v := x3 + 6) (lv' := [(0, .ref SC), (1, .ref 0), (2, .ref 58), (3, .int (x3 + 6))]) dL_law_1419 (by simp) rfl (by decide) rfl rfl ?_
    refine rn_goto (tgt := 18) dL_law_1422 (by decide) ?_
    exact h
  · refine rn_iconst (v := 0) dL_law_753 rfl ?_
    exact rn_zret dL_law_754 rfl (by decide) ⟨_, rfl, h⟩
set_option maxRecDepth 20000 in
theorem sg_L_law_755 {d : Nat} {x3 : Int32} {M : Mem} {K : (Int32 → Mem → Prop)} (h : (CI d μX8_peace [.ref 0] M (fun r2 M1 => (CI d μX9_peace [.ref 58] M1 (fun r4 M3 => (if r2 = r4 then RI (d + 1) μL_law 18 [(0, .ref SC), (1, .ref 0), (2, .ref 58), (3, .int (x3 + 6))] [] M3 K else K 0 M3)))))) : RI (d + 1) μL_law 755 [(0, .ref SC), (1, .ref 0), (2, .ref 58), (3, .int x3)] [] M K := by
  show Rn (d + 1) μL_law 755 [(0, .ref SC), (1, .ref 0), (2, .ref 58), (3, .int x3)] [] M _
  refine rn_aload_n (i := 1) (x := 0) dL_law_755 rfl (by simp) ?_
  refine rn_callVi (as := []) (st := []) dL_law_756 mf_X8_peace lk_L_95 im_X8_peace rfl rfl rfl rfl (Nat.le_of_ble_eq_true rfl) (Nat.le_of_ble_eq_true rfl) rfl (RI.mono h (fun r2 M1 h => ?_))
  refine rn_aload_n (i := 2) (x := 58) dL_law_759 rfl (by simp) ?_
  refine rn_callVi (as := []) (st := [.int r2]) dL_law_760 mf_X9_peace lk_L_98 im_X9_peace rfl rfl rfl rfl (Nat.le_of_ble_eq_true rfl) (Nat.le_of_ble_eq_true rfl) rfl (RI.mono h (fun r4 M3 h => ?_))
  refine rn_icmp_eq (tgt := 1419) dL_law_763 (by decide) (ite_go h (fun hc h => ?_) (fun hc h => ?_))
  · refine rn_iinc (x := x3) (v := x3 + 6) (lv' := [(0, .ref SC), (1, .ref 0), (2, .ref 58), (3, .int (x3 + 6))]) dL_law_1419 (by simp) rfl (by decide) rfl rfl ?_
    refine rn_goto (tgt := 18) dL_law_1422 (by decide) ?_
    exact h
  · refine rn_iconst (v := 0) dL_law_766 rfl ?_
    exact rn_zret dL_law_767 rfl (by decide) ⟨_, rfl, h⟩
set_option maxRecDepth 20000 in
theorem sg_L_law_768 {d : Nat} {x3 : Int32} {M : Mem} {K : (Int32 → Mem → Prop)} (h : (vp_in (x3 + 1) (sl M) ∧ (CI d μX8_hermits [.ref 0, .int (ri M SC (nx (x3 + 1)))] M (fun r2 M1 => (vp_in (x3 + 1) (sl M1) ∧ (CI d μX9_hermits [.ref 58, .int (ri M1 SC (nx (x3 + 1)))] M1 (fun r4 M3 => (if r2 = r4 then RI (d + 1) μL_law 18 [(0, .ref SC), (1, .ref 0), (2, .ref 58), (3, .int (x3 + 6))] [] M3 K else K 0 M3)))))))) : RI (d + 1) μL_law 768 [(0, .ref SC), (1, .ref 0), (2, .ref 58), (3, .int x3)] [] M K := by
  show Rn (d + 1) μL_law 768 [(0, .ref SC), (1, .ref 0), (2, .ref 58), (3, .int x3)] [] M _
  refine rn_aload_n (i := 1) (x := 0) dL_law_768 rfl (by simp) ?_
  refine rn_aload_n (i := 0) (x := SC) dL_law_769 rfl (by simp) ?_
  refine rn_iload_n (i := 3) (x := x3) dL_law_770 rfl (by simp) ?_
  refine rn_iconst (v := 1) dL_law_771 rfl ?_
  refine rn_iadd dL_law_772 ?_
  obtain ⟨hi, h⟩ := h
  refine rn_sld dL_law_773 hi ?_
  refine rn_callVi (as := [.int (ri M SC (nx (x3 + 1)))]) (st := []) dL_law_774 mf_X8_hermits lk_L_99 im_X8_hermits rfl rfl rfl rfl (Nat.le_of_ble_eq_true rfl) (Nat.le_of_ble_eq_true rfl) rfl (RI.mono h (fun r2 M1 h => ?_))
  refine rn_aload_n (i := 2) (x := 58) dL_law_777 rfl (by simp) ?_
  refine rn_aload_n (i := 0) (x := SC) dL_law_778 rfl (by simp) ?_
  refine rn_iload_n (i := 3) (x := x3) dL_law_779 rfl (by simp) ?_
  refine rn_iconst (v := 1) dL_law_780 rfl ?_
  refine rn_iadd dL_law_781 ?_
  obtain ⟨hi, h⟩ := h
  refine rn_sld dL_law_782 hi ?_
  refine rn_callVi (as := [.int (ri M1 SC (nx (x3 + 1)))]) (st := [.int r2]) dL_law_783 mf_X9_hermits lk_L_102 im_X9_hermits rfl rfl rfl rfl (Nat.le_of_ble_eq_true rfl) (Nat.le_of_ble_eq_true rfl) rfl (RI.mono h (fun r4 M3 h => ?_))
  refine rn_icmp_eq (tgt := 1419) dL_law_786 (by decide) (ite_go h (fun hc h => ?_) (fun hc h => ?_))
  · refine rn_iinc (x := x3) (v := x3 + 6) (lv' := [(0, .ref SC), (1, .ref 0), (2, .ref 58), (3, .int (x3 + 6))]) dL_law_1419 (by simp) rfl (by decide) rfl rfl ?_
    refine rn_goto (tgt := 18) dL_law_1422 (by decide) ?_
    exact h
  · refine rn_iconst (v := 0) dL_law_789 rfl ?_
    exact rn_zret dL_law_790 rfl (by decide) ⟨_, rfl, h⟩
set_option maxRecDepth 20000 in
theorem sg_L_law_791 {d : Nat} {x3 : Int32} {M : Mem} {K : (Int32 → Mem → Prop)} (h : (vp_in (x3 + 1) (sl M) ∧ (vp_in (x3 + 2) (sl M) ∧ (vp_in (x3 + 3) (sl M) ∧ (CI d μX8_cut [.ref 0, .int (ri M SC (nx (x3 + 1))), .int (ri M SC (nx (x3 + 2))), .int (ri M SC (nx (x3 + 3)))] M (fun r2 M1 => (vp_in (x3 + 1) (sl M1) ∧ (vp_in (x3 + 2) (sl M1) ∧ (vp_in (x3 + 3) (sl M1) ∧ (CI d μX9_cut [.ref 58, .int (ri M1 SC (nx (x3 + 1))), .int (ri M1 SC (nx (x3 + 2))), .int (ri M1 SC (nx (x3 + 3)))] M1 (fun r4 M3 => (if r2 = r4 then RI (d + 1) μL_law 18 [(0, .ref SC), (1, .ref 0), (2, .ref 58), (3, .int (x3 + 6))] [] M3 K else K 0 M3)))))))))))) : RI (d + 1) μL_law 791 [(0, .ref SC), (1, .ref 0), (2, .ref 58), (3, .int x3)] [] M K := by
  show Rn (d + 1) μL_law 791 [(0, .ref SC), (1, .ref 0), (2, .ref 58), (3, .int x3)] [] M _
  refine rn_aload_n (i := 1) (x := 0) dL_law_791 rfl (by simp) ?_
  refine rn_aload_n (i := 0) (x := SC) dL_law_792 rfl (by simp) ?_
  refine rn_iload_n (i := 3) (x := x3) dL_law_793 rfl (by simp) ?_
  refine rn_iconst (v := 1) dL_law_794 rfl ?_
  refine rn_iadd dL_law_795 ?_
  obtain ⟨hi, h⟩ := h
  refine rn_sld dL_law_796 hi ?_
  refine rn_aload_n (i := 0) (x := SC) dL_law_797 rfl (by simp) ?_
  refine rn_iload_n (i := 3) (x := x3) dL_law_798 rfl (by simp) ?_
  refine rn_iconst (v := 2) dL_law_799 rfl ?_
  refine rn_iadd dL_law_800 ?_
  obtain ⟨hi, h⟩ := h
  refine rn_sld dL_law_801 hi ?_
  refine rn_aload_n (i := 0) (x := SC) dL_law_802 rfl (by simp) ?_
  refine rn_iload_n (i := 3) (x := x3) dL_law_803 rfl (by simp) ?_
  refine rn_iconst (v := 3) dL_law_804 rfl ?_
  refine rn_iadd dL_law_805 ?_
  obtain ⟨hi, h⟩ := h
  refine rn_sld dL_law_806 hi ?_
  refine rn_callVi (as := [.int (ri M SC (nx (x3 + 1))), .int (ri M SC (nx (x3 + 2))), .int (ri M SC (nx (x3 + 3)))]) (st := []) dL_law_807 mf_X8_cut lk_L_103 im_X8_cut rfl rfl rfl rfl (Nat.le_of_ble_eq_true rfl) (Nat.le_of_ble_eq_true rfl) rfl (RI.mono h (fun r2 M1 h => ?_))
  refine rn_aload_n (i := 2) (x := 58) dL_law_810 rfl (by simp) ?_
  refine rn_aload_n (i := 0) (x := SC) dL_law_811 rfl (by simp) ?_
  refine rn_iload_n (i := 3) (x := x3) dL_law_812 rfl (by simp) ?_
  refine rn_iconst (v := 1) dL_law_813 rfl ?_
  refine rn_iadd dL_law_814 ?_
  obtain ⟨hi, h⟩ := h
  refine rn_sld dL_law_815 hi ?_
  refine rn_aload_n (i := 0) (x := SC) dL_law_816 rfl (by simp) ?_
  refine rn_iload_n (i := 3) (x := x3) dL_law_817 rfl (by simp) ?_
  refine rn_iconst (v := 2) dL_law_818 rfl ?_
  refine rn_iadd dL_law_819 ?_
  obtain ⟨hi, h⟩ := h
  refine rn_sld dL_law_820 hi ?_
  refine rn_aload_n (i := 0) (x := SC) dL_law_821 rfl (by simp) ?_
  refine rn_iload_n (i := 3) (x := x3) dL_law_822 rfl (by simp) ?_
  refine rn_iconst (v := 3) dL_law_823 rfl ?_
  refine rn_iadd dL_law_824 ?_
  obtain ⟨hi, h⟩ := h
  refine rn_sld dL_law_825 hi ?_
  refine rn_callVi (as := [.int (ri M1 SC (nx (x3 + 1))), .int (ri M1 SC (nx (x3 + 2))), .int (ri M1 SC (nx (x3 + 3)))]) (st := [.int r2]) dL_law_826 mf_X9_cut lk_L_106 im_X9_cut rfl rfl rfl rfl (Nat.le_of_ble_eq_true rfl) (Nat.le_of_ble_eq_true rfl) rfl (RI.mono h (fun r4 M3 h => ?_))
  refine rn_icmp_eq (tgt := 1419) dL_law_829 (by decide) (ite_go h (fun hc h => ?_) (fun hc h => ?_))
  · refine rn_iinc (x := x3) (v := x3 + 6) (lv' := [(0, .ref SC), (1, .ref 0), (2, .ref 58), (3, .int (x3 + 6))]) dL_law_1419 (by simp) rfl (by decide) rfl rfl ?_
    refine rn_goto (tgt := 18) dL_law_1422 (by decide) ?_
    exact h
  · refine rn_iconst (v := 0) dL_law_832 rfl ?_
    exact rn_zret dL_law_833 rfl (by decide) ⟨_, rfl, h⟩
set_option maxRecDepth 20000 in
theorem sg_L_law_834 {d : Nat} {x3 : Int32} {M : Mem} {K : (Int32 → Mem → Prop)} (h : (vp_in (x3 + 1) (sl M) ∧ (CI d μX8_ring [.ref 0, .int (ri M SC (nx (x3 + 1)))] M (fun r2 M1 => (vp_in (x3 + 1) (sl M1) ∧ (CI d μX9_ring [.ref 58, .int (ri M1 SC (nx (x3 + 1)))] M1 (fun r4 M3 => (if r2 = r4 then RI (d + 1) μL_law 18 [(0, .ref SC), (1, .ref 0), (2, .ref 58), (3, .int (x3 + 6))] [] M3 K else K 0 M3)))))))) : RI (d + 1) μL_law 834 [(0, .ref SC), (1, .ref 0), (2, .ref 58), (3, .int x3)] [] M K := by
  show Rn (d + 1) μL_law 834 [(0, .ref SC), (1, .ref 0), (2, .ref 58), (3, .int x3)] [] M _
  refine rn_aload_n (i := 1) (x := 0) dL_law_834 rfl (by simp) ?_
  refine rn_aload_n (i := 0) (x := SC) dL_law_835 rfl (by simp) ?_
  refine rn_iload_n (i := 3) (x := x3) dL_law_836 rfl (by simp) ?_
  refine rn_iconst (v := 1) dL_law_837 rfl ?_
  refine rn_iadd dL_law_838 ?_
  obtain ⟨hi, h⟩ := h
  refine rn_sld dL_law_839 hi ?_
  refine rn_callVi (as := [.int (ri M SC (nx (x3 + 1)))]) (st := []) dL_law_840 mf_X8_ring lk_L_107 im_X8_ring rfl rfl rfl rfl (Nat.le_of_ble_eq_true rfl) (Nat.le_of_ble_eq_true rfl) rfl (RI.mono h (fun r2 M1 h => ?_))
  refine rn_aload_n (i := 2) (x := 58) dL_law_843 rfl (by simp) ?_
  refine rn_aload_n (i := 0) (x := SC) dL_law_844 rfl (by simp) ?_
  refine rn_iload_n (i := 3) (x := x3) dL_law_845 rfl (by simp) ?_
  refine rn_iconst (v := 1) dL_law_846 rfl ?_
  refine rn_iadd dL_law_847 ?_
  obtain ⟨hi, h⟩ := h
  refine rn_sld dL_law_848 hi ?_
  refine rn_callVi (as := [.int (ri M1 SC (nx (x3 + 1)))]) (st := [.int r2]) dL_law_849 mf_X9_ring lk_L_110 im_X9_ring rfl rfl rfl rfl (Nat.le_of_ble_eq_true rfl) (Nat.le_of_ble_eq_true rfl) rfl (RI.mono h (fun r4 M3 h => ?_))
  refine rn_icmp_eq (tgt := 1419) dL_law_852 (by decide) (ite_go h (fun hc h => ?_) (fun hc h => ?_))
  · refine rn_iinc (x := x3) (v := x3 + 6) (lv' := [(0, .ref SC), (1, .ref 0), (2, .ref 58), (3, .int (x3 + 6))]) dL_law_1419 (by simp) rfl (by decide) rfl rfl ?_
    refine rn_goto (tgt := 18) dL_law_1422 (by decide) ?_
    exact h
  · refine rn_iconst (v := 0) dL_law_855 rfl ?_
    exact rn_zret dL_law_856 rfl (by decide) ⟨_, rfl, h⟩
set_option maxRecDepth 20000 in
theorem sg_L_law_857 {d : Nat} {x3 : Int32} {M : Mem} {K : (Int32 → Mem → Prop)} (h : (vp_in (x3 + 1) (sl M) ∧ (vp_in (x3 + 2) (sl M) ∧ (CI d μX8_save [.ref 0, .int (ri M SC (nx (x3 + 1))), .int (ri M SC (nx (x3 + 2)))] M (fun r2 M1 => (vp_in (x3 + 1) (sl M1) ∧ (vp_in (x3 + 2) (sl M1) ∧ (CI d μX9_save [.ref 58, .int (ri M1 SC (nx (x3 + 1))), .int (ri M1 SC (nx (x3 + 2)))] M1 (fun r4 M3 => (if r2 = r4 then RI (d + 1) μL_law 18 [(0, .ref SC), (1, .ref 0), (2, .ref 58), (3, .int (x3 + 6))] [] M3 K else K 0 M3)))))))))) : RI (d + 1) μL_law 857 [(0, .ref SC), (1, .ref 0), (2, .ref 58), (3, .int x3)] [] M K := by
  show Rn (d + 1) μL_law 857 [(0, .ref SC), (1, .ref 0), (2, .ref 58), (3, .int x3)] [] M _
  refine rn_aload_n (i := 1) (x := 0) dL_law_857 rfl (by simp) ?_
  refine rn_aload_n (i := 0) (x := SC) dL_law_858 rfl (by simp) ?_
  refine rn_iload_n (i := 3) (x := x3) dL_law_859 rfl (by simp) ?_
  refine rn_iconst (v := 1) dL_law_860 rfl ?_
  refine rn_iadd dL_law_861 ?_
  obtain ⟨hi, h⟩ := h
  refine rn_sld dL_law_862 hi ?_
  refine rn_aload_n (i := 0) (x := SC) dL_law_863 rfl (by simp) ?_
  refine rn_iload_n (i := 3) (x := x3) dL_law_864 rfl (by simp) ?_
  refine rn_iconst (v := 2) dL_law_865 rfl ?_
  refine rn_iadd dL_law_866 ?_
  obtain ⟨hi, h⟩ := h
  refine rn_sld dL_law_867 hi ?_
  refine rn_callVi (as := [.int (ri M SC (nx (x3 + 1))), .int (ri M SC (nx (x3 + 2)))]) (st := []) dL_law_868 mf_X8_save lk_L_111 im_X8_save rfl rfl rfl rfl (Nat.le_of_ble_eq_true rfl) (Nat.le_of_ble_eq_true rfl) rfl (RI.mono h (fun r2 M1 h => ?_))
  refine rn_aload_n (i := 2) (x := 58) dL_law_871 rfl (by simp) ?_
  refine rn_aload_n (i := 0) (x := SC) dL_law_872 rfl (by simp) ?_
  refine rn_iload_n (i := 3) (x := x3) dL_law_873 rfl (by simp) ?_
  refine rn_iconst (v := 1) dL_law_874 rfl ?_
  refine rn_iadd dL_law_875 ?_
  obtain ⟨hi, h⟩ := h
  refine rn_sld dL_law_876 hi ?_
  refine rn_aload_n (i := 0) (x := SC) dL_law_877 rfl (by simp) ?_
  refine rn_iload_n (i := 3) (x := x3) dL_law_878 rfl (by simp) ?_
  refine rn_iconst (v := 2) dL_law_879 rfl ?_
  refine rn_iadd dL_law_880 ?_
  obtain ⟨hi, h⟩ := h
  refine rn_sld dL_law_881 hi ?_
  refine rn_callVi (as := [.int (ri M1 SC (nx (x3 + 1))), .int (ri M1 SC (nx (x3 + 2)))]) (st := [.int r2]) dL_law_882 mf_X9_save lk_L_114 im_X9_save rfl rfl rfl rfl (Nat.le_of_ble_eq_true rfl) (Nat.le_of_ble_eq_true rfl) rfl (RI.mono h (fun r4 M3 h => ?_))
  refine rn_icmp_eq (tgt := 1419) dL_law_885 (by decide) (ite_go h (fun hc h => ?_) (fun hc h => ?_))
  · refine rn_iinc (x := x3) (v := x3 + 6) (lv' := [(0, .ref SC), (1, .ref 0), (2, .ref 58), (3, .int (x3 + 6))]) dL_law_1419 (by simp) rfl (by decide) rfl rfl ?_
    refine rn_goto (tgt := 18) dL_law_1422 (by decide) ?_
    exact h
  · refine rn_iconst (v := 0) dL_law_888 rfl ?_
    exact rn_zret dL_law_889 rfl (by decide) ⟨_, rfl, h⟩
set_option maxRecDepth 20000 in
theorem sg_L_law_890 {d : Nat} {x3 : Int32} {M : Mem} {K : (Int32 → Mem → Prop)} (h : (vp_in (x3 + 1) (sl M) ∧ (vp_in (x3 + 2) (sl M) ∧ (vp_in (x3 + 3) (sl M) ∧ (CI d μX8_boost [.ref 0, .int (ri M SC (nx (x3 + 1))), .int (ri M SC (nx (x3 + 2))), .int (ri M SC (nx (x3 + 3)))] M (fun r2 M1 => (vp_in (x3 + 1) (sl M1) ∧ (vp_in (x3 + 2) (sl M1) ∧ (vp_in (x3 + 3) (sl M1) ∧ (CI d μX9_boost [.ref 58, .int (ri M1 SC (nx (x3 + 1))), .int (ri M1 SC (nx (x3 + 2))), .int (ri M1 SC (nx (x3 + 3)))] M1 (fun r4 M3 => (if r2 = r4 then RI (d + 1) μL_law 18 [(0, .ref SC), (1, .ref 0), (2, .ref 58), (3, .int (x3 + 6))] [] M3 K else K 0 M3)))))))))))) : RI (d + 1) μL_law 890 [(0, .ref SC), (1, .ref 0), (2, .ref 58), (3, .int x3)] [] M K := by
  show Rn (d + 1) μL_law 890 [(0, .ref SC), (1, .ref 0), (2, .ref 58), (3, .int x3)] [] M _
  refine rn_aload_n (i := 1) (x := 0) dL_law_890 rfl (by simp) ?_
  refine rn_aload_n (i := 0) (x := SC) dL_law_891 rfl (by simp) ?_
  refine rn_iload_n (i := 3) (x := x3) dL_law_892 rfl (by simp) ?_
  refine rn_iconst (v := 1) dL_law_893 rfl ?_
  refine rn_iadd dL_law_894 ?_
  obtain ⟨hi, h⟩ := h
  refine rn_sld dL_law_895 hi ?_
  refine rn_aload_n (i := 0) (x := SC) dL_law_896 rfl (by simp) ?_
  refine rn_iload_n (i := 3) (x := x3) dL_law_897 rfl (by simp) ?_
  refine rn_iconst (v := 2) dL_law_898 rfl ?_
  refine rn_iadd dL_law_899 ?_
  obtain ⟨hi, h⟩ := h
  refine rn_sld dL_law_900 hi ?_
  refine rn_aload_n (i := 0) (x := SC) dL_law_901 rfl (by simp) ?_
  refine rn_iload_n (i := 3) (x := x3) dL_law_902 rfl (by simp) ?_
  refine rn_iconst (v := 3) dL_law_903 rfl ?_
  refine rn_iadd dL_law_904 ?_
  obtain ⟨hi, h⟩ := h
  refine rn_sld dL_law_905 hi ?_
  refine rn_callVi (as := [.int (ri M SC (nx (x3 + 1))), .int (ri M SC (nx (x3 + 2))), .int (ri M SC (nx (x3 + 3)))]) (st := []) dL_law_906 mf_X8_boost lk_L_115 im_X8_boost rfl rfl rfl rfl (Nat.le_of_ble_eq_true rfl) (Nat.le_of_ble_eq_true rfl) rfl (RI.mono h (fun r2 M1 h => ?_))
  refine rn_aload_n (i := 2) (x := 58) dL_law_909 rfl (by simp) ?_
  refine rn_aload_n (i := 0) (x := SC) dL_law_910 rfl (by simp) ?_
  refine rn_iload_n (i := 3) (x := x3) dL_law_911 rfl (by simp) ?_
  refine rn_iconst (v := 1) dL_law_912 rfl ?_
  refine rn_iadd dL_law_913 ?_
  obtain ⟨hi, h⟩ := h
  refine rn_sld dL_law_914 hi ?_
  refine rn_aload_n (i := 0) (x := SC) dL_law_915 rfl (by simp) ?_
  refine rn_iload_n (i := 3) (x := x3) dL_law_916 rfl (by simp) ?_
  refine rn_iconst (v := 2) dL_law_917 rfl ?_
  refine rn_iadd dL_law_918 ?_
  obtain ⟨hi, h⟩ := h
  refine rn_sld dL_law_919 hi ?_
  refine rn_aload_n (i := 0) (x := SC) dL_law_920 rfl (by simp) ?_
  refine rn_iload_n (i := 3) (x := x3) dL_law_921 rfl (by simp) ?_
  refine rn_iconst (v := 3) dL_law_922 rfl ?_
  refine rn_iadd dL_law_923 ?_
  obtain ⟨hi, h⟩ := h
  refine rn_sld dL_law_924 hi ?_
  refine rn_callVi (as := [.int (ri M1 SC (nx (x3 + 1))), .int (ri M1 SC (nx (x3 + 2))), .int (ri M1 SC (nx (x3 + 3)))]) (st := [.int r2]) dL_law_925 mf_X9_boost lk_L_118 im_X9_boost rfl rfl rfl rfl (Nat.le_of_ble_eq_true rfl) (Nat.le_of_ble_eq_true rfl) rfl (RI.mono h (fun r4 M3 h => ?_))
  refine rn_icmp_eq (tgt := 1419) dL_law_928 (by decide) (ite_go h (fun hc h => ?_) (fun hc h => ?_))
  · refine rn_iinc (x := x3) (v := x3 + 6) (lv' := [(0, .ref SC), (1, .ref 0), (2, .ref 58), (3, .int (x3 + 6))]) dL_law_1419 (by simp) rfl (by decide) rfl rfl ?_
    refine rn_goto (tgt := 18) dL_law_1422 (by decide) ?_
    exact h
  · refine rn_iconst (v := 0) dL_law_931 rfl ?_
    exact rn_zret dL_law_932 rfl (by decide) ⟨_, rfl, h⟩
set_option maxRecDepth 20000 in
theorem sg_L_law_933 {d : Nat} {x3 : Int32} {M : Mem} {K : (Int32 → Mem → Prop)} (h : (vp_in (x3 + 1) (sl M) ∧ (vp_in (x3 + 2) (sl M) ∧ (CI d μX8_pricks [.ref 0, .int (ri M SC (nx (x3 + 1))), .int (ri M SC (nx (x3 + 2)))] M (fun r2 M1 => (vp_in (x3 + 1) (sl M1) ∧ (vp_in (x3 + 2) (sl M1) ∧ (CI d μX9_pricks [.ref 58, .int (ri M1 SC (nx (x3 + 1))), .int (ri M1 SC (nx (x3 + 2)))] M1 (fun r4 M3 => (if r2 = r4 then RI (d + 1) μL_law 18 [(0, .ref SC), (1, .ref 0), (2, .ref 58), (3, .int (x3 + 6))] [] M3 K else K 0 M3)))))))))) : RI (d + 1) μL_law 933 [(0, .ref SC), (1, .ref 0), (2, .ref 58), (3, .int x3)] [] M K := by
  show Rn (d + 1) μL_law 933 [(0, .ref SC), (1, .ref 0), (2, .ref 58), (3, .int x3)] [] M _
  refine rn_aload_n (i := 1) (x := 0) dL_law_933 rfl (by simp) ?_
  refine rn_aload_n (i := 0) (x := SC) dL_law_934 rfl (by simp) ?_
  refine rn_iload_n (i := 3) (x := x3) dL_law_935 rfl (by simp) ?_
  refine rn_iconst (v := 1) dL_law_936 rfl ?_
  refine rn_iadd dL_law_937 ?_
  obtain ⟨hi, h⟩ := h
  refine rn_sld dL_law_938 hi ?_
  refine rn_aload_n (i := 0) (x := SC) dL_law_939 rfl (by simp) ?_
  refine rn_iload_n (i := 3) (x := x3) dL_law_940 rfl (by simp) ?_
  refine rn_iconst (v := 2) dL_law_941 rfl ?_
  refine rn_iadd dL_law_942 ?_
  obtain ⟨hi, h⟩ := h
  refine rn_sld dL_law_943 hi ?_
  refine rn_callVi (as := [.int (ri M SC (nx (x3 + 1))), .int (ri M SC (nx (x3 + 2)))]) (st := []) dL_law_944 mf_X8_pricks lk_L_119 im_X8_pricks rfl rfl rfl rfl (Nat.le_of_ble_eq_true rfl) (Nat.le_of_ble_eq_true rfl) rfl (RI.mono h (fun r2 M1 h => ?_))
  refine rn_aload_n (i := 2) (x := 58) dL_law_947 rfl (by simp) ?_
  refine rn_aload_n (i := 0) (x := SC) dL_law_948 rfl (by simp) ?_
  refine rn_iload_n (i := 3) (x := x3) dL_law_949 rfl (by simp) ?_
  refine rn_iconst (v := 1) dL_law_950 rfl ?_
  refine rn_iadd dL_law_951 ?_
  obtain ⟨hi, h⟩ := h
  refine rn_sld dL_law_952 hi ?_
  refine rn_aload_n (i := 0) (x := SC) dL_law_953 rfl (by simp) ?_
  refine rn_iload_n (i := 3) (x := x3) dL_law_954 rfl (by simp) ?_
  refine rn_iconst (v := 2) dL_law_955 rfl ?_
  refine rn_iadd dL_law_956 ?_
  obtain ⟨hi, h⟩ := h
  refine rn_sld dL_law_957 hi ?_
  refine rn_callVi (as := [.int (ri M1 SC (nx (x3 + 1))), .int (ri M1 SC (nx (x3 + 2)))]) (st := [.int r2]) dL_law_958 mf_X9_pricks lk_L_122 im_X9_pricks rfl rfl rfl rfl (Nat.le_of_ble_eq_true rfl) (Nat.le_of_ble_eq_true rfl) rfl (RI.mono h (fun r4 M3 h => ?_))
  refine rn_icmp_eq (tgt := 1419) dL_law_961 (by decide) (ite_go h (fun hc h => ?_) (fun hc h => ?_))
  · refine rn_iinc (x := x3) (v := x3 + 6) (lv' := [(0, .ref SC), (1, .ref 0), (2, .ref 58), (3, .int (x3 + 6))]) dL_law_1419 (by simp) rfl (by decide) rfl rfl ?_
    refine rn_goto (tgt := 18) dL_law_1422 (by decide) ?_
    exact h
  · refine rn_iconst (v := 0) dL_law_964 rfl ?_
    exact rn_zret dL_law_965 rfl (by decide) ⟨_, rfl, h⟩
set_option maxRecDepth 20000 in
theorem sg_L_law_966 {d : Nat} {x3 : Int32} {M : Mem} {K : (Int32 → Mem → Prop)} (h : (CI d μX8_thirds [.ref 0] M (fun r2 M1 => (CI d μX9_thirds [.ref 58] M1 (fun r4 M3 => (if r2 = r4 then RI (d + 1) μL_law 18 [(0, .ref SC), (1, .ref 0), (2, .ref 58), (3, .int (x3 + 6))] [] M3 K else K 0 M3)))))) : RI (d + 1) μL_law 966 [(0, .ref SC), (1, .ref 0), (2, .ref 58), (3, .int x3)] [] M K := by
  show Rn (d + 1) μL_law 966 [(0, .ref SC), (1, .ref 0), (2, .ref 58), (3, .int x3)] [] M _
  refine rn_aload_n (i := 1) (x := 0) dL_law_966 rfl (by simp) ?_
  refine rn_callVi (as := []) (st := []) dL_law_967 mf_X8_thirds lk_L_123 im_X8_thirds rfl rfl rfl rfl (Nat.le_of_ble_eq_true rfl) (Nat.le_of_ble_eq_true rfl) rfl (RI.mono h (fun r2 M1 h => ?_))
  refine rn_aload_n (i := 2) (x := 58) dL_law_970 rfl (by simp) ?_
  refine rn_callVi (as := []) (st := [.int r2]) dL_law_971 mf_X9_thirds lk_L_126 im_X9_thirds rfl rfl rfl rfl (Nat.le_of_ble_eq_true rfl) (Nat.le_of_ble_eq_true rfl) rfl (RI.mono h (fun r4 M3 h => ?_))
  refine rn_icmp_eq (tgt := 1419) dL_law_974 (by decide) (ite_go h (fun hc h => ?_) (fun hc h => ?_))
  · refine rn_iinc (x := x3) (v := x3 + 6) (lv' := [(0, .ref SC), (1, .ref 0), (2, .ref 58), (3, .int (x3 + 6))]) dL_law_1419 (by simp) rfl (by decide) rfl rfl ?_
    refine rn_goto (tgt := 18) dL_law_1422 (by decide) ?_
    exact h
  · refine rn_iconst (v := 0) dL_law_977 rfl ?_
    exact rn_zret dL_law_978 rfl (by decide) ⟨_, rfl, h⟩
set_option maxRecDepth 20000 in
theorem sg_L_law_979 {d : Nat} {x3 : Int32} {M : Mem} {K : (Int32 → Mem → Prop)} (h : (CI d μX8_sleepers [.ref 0] M (fun r2 M1 => (CI d μX9_sleepers [.ref 58] M1 (fun r4 M3 => (if r2 = r4 then RI (d + 1) μL_law 18 [(0, .ref SC), (1, .ref 0), (2, .ref 58), (3, .int (x3 + 6))] [] M3 K else K 0 M3)))))) : RI (d + 1) μL_law 979 [(0, .ref SC), (1, .ref 0), (2, .ref 58), (3, .int x3)] [] M K := by
  show Rn (d + 1) μL_law 979 [(0, .ref SC), (1, .ref 0), (2, .ref 58), (3, .int x3)] [] M _
  refine rn_aload_n (i := 1) (x := 0) dL_law_979 rfl (by simp) ?_
  refine rn_callVi (as := []) (st := []) dL_law_980 mf_X8_sleepers lk_L_127 im_X8_sleepers rfl rfl rfl rfl (Nat.le_of_ble_eq_true rfl) (Nat.le_of_ble_eq_true rfl) rfl (RI.mono h (fun r2 M1 h => ?_))
  refine rn_aload_n (i := 2) (x := 58) dL_law_983 rfl (by simp) ?_
  refine rn_callVi (as := []) (st := [.int r2]) dL_law_984 mf_X9_sleepers lk_L_130 im_X9_sleepers rfl rfl rfl rfl (Nat.le_of_ble_eq_true rfl) (Nat.le_of_ble_eq_true rfl) rfl (RI.mono h (fun r4 M3 h => ?_))
  refine rn_icmp_eq (tgt := 1419) dL_law_987 (by decide) (ite_go h (fun hc h => ?_) (fun hc h => ?_))
  · refine rn_iinc (x := x3) (v := x3 + 6) (lv' := [(0, .ref SC), (1, .ref 0), (2, .ref 58), (3, .int (x3 + 6))]) dL_law_1419 (by simp) rfl (by decide) rfl rfl ?_
    refine rn_goto (tgt := 18) dL_law_1422 (by decide) ?_
    exact h
  · refine rn_iconst (v := 0) dL_law_990 rfl ?_
    exact rn_zret dL_law_991 rfl (by decide) ⟨_, rfl, h⟩
set_option maxRecDepth 20000 in
theorem sg_L_law_992 {d : Nat} {x3 : Int32} {M : Mem} {K : (Int32 → Mem → Prop)} (h : (CI d μX8_king [.ref 0] M (fun r2 M1 => (CI d μX9_king [.ref 58] M1 (fun r4 M3 => (if r2 = r4 then RI (d + 1) μL_law 18 [(0, .ref SC), (1, .ref 0), (2, .ref 58), (3, .int (x3 + 6))] [] M3 K else K 0 M3)))))) : RI (d + 1) μL_law 992 [(0, .ref SC), (1, .ref 0), (2, .ref 58), (3, .int x3)] [] M K := by
  show Rn (d + 1) μL_law 992 [(0, .ref SC), (1, .ref 0), (2, .ref 58), (3, .int x3)] [] M _
  refine rn_aload_n (i := 1) (x := 0) dL_law_992 rfl (by simp) ?_
  refine rn_callVi (as := []) (st := []) dL_law_993 mf_X8_king lk_L_131 im_X8_king rfl rfl rfl rfl (Nat.le_of_ble_eq_true rfl) (Nat.le_of_ble_eq_true rfl) rfl (RI.mono h (fun r2 M1 h => ?_))
  refine rn_aload_n (i := 2) (x := 58) dL_law_996 rfl (by simp) ?_
  refine rn_callVi (as := []) (st := [.int r2]) dL_law_997 mf_X9_king lk_L_134 im_X9_king rfl rfl rfl rfl (Nat.le_of_ble_eq_true rfl) (Nat.le_of_ble_eq_true rfl) rfl (RI.mono h (fun r4 M3 h => ?_))
  refine rn_icmp_eq (tgt := 1419) dL_law_1000 (by decide) (ite_go h (fun hc h => ?_) (fun hc h => ?_))
  · refine rn_iinc (x := x3) (v := x3 + 6) (lv' := [(0, .ref SC), (1, .ref 0), (2, .ref 58), (3, .int (x3 + 6))]) dL_law_1419 (by simp) rfl (by decide) rfl rfl ?_
    refine rn_goto (tgt := 18) dL_law_1422 (by decide) ?_
    exact h
  · refine rn_iconst (v := 0) dL_law_1003 rfl ?_
    exact rn_zret dL_law_1004 rfl (by decide) ⟨_, rfl, h⟩
set_option maxRecDepth 20000 in
theorem sg_L_law_1005 {d : Nat} {x3 : Int32} {M : Mem} {K : (Int32 → Mem → Prop)} (h : (CI d μX8_restless [.ref 0] M (fun r2 M1 => (CI d μX9_restless [.ref 58] M1 (fun r4 M3 => (if r2 = r4 then RI (d + 1) μL_law 18 [(0, .ref SC), (1, .ref 0), (2, .ref 58), (3, .int (x3 + 6))] [] M3 K else K 0 M3)))))) : RI (d + 1) μL_law 1005 [(0, .ref SC), (1, .ref 0), (2, .ref 58), (3, .int x3)] [] M K := by
  show Rn (d + 1) μL_law 1005 [(0, .ref SC), (1, .ref 0), (2, .ref 58), (3, .int x3)] [] M _
  refine rn_aload_n (i := 1) (x := 0) dL_law_1005 rfl (by simp) ?_
  refine rn_callVi (as := []) (st := []) dL_law_1006 mf_X8_restless lk_L_135 im_X8_restless rfl rfl rfl rfl (Nat.le_of_ble_eq_true rfl) (Nat.le_of_ble_eq_true rfl) rfl (RI.mono h (fun r2 M1 h => ?_))
  refine rn_aload_n (i := 2) (x := 58) dL_law_1009 rfl (by simp) ?_
  refine rn_callVi (as := []) (st := [.int r2]) dL_law_1010 mf_X9_restless lk_L_138 im_X9_restless rfl rfl rfl rfl (Nat.le_of_ble_eq_true rfl) (Nat.le_of_ble_eq_true rfl) rfl (RI.mono h (fun r4 M3 h => ?_))
  refine rn_icmp_eq (tgt := 1419) dL_law_1013 (by decide) (ite_go h (fun hc h => ?_) (fun hc h => ?_))
  · refine rn_iinc (x := x3) (v := x3 + 6) (lv' := [(0, .ref SC), (1, .ref 0), (2, .ref 58), (3, .int (x3 + 6))]) dL_law_1419 (by simp) rfl (by decide) rfl rfl ?_
    refine rn_goto (tgt := 18) dL_law_1422 (by decide) ?_
    exact h
  · refine rn_iconst (v := 0) dL_law_1016 rfl ?_
    exact rn_zret dL_law_1017 rfl (by decide) ⟨_, rfl, h⟩
set_option maxRecDepth 20000 in
theorem sg_L_law_1018 {d : Nat} {x3 : Int32} {M : Mem} {K : (Int32 → Mem → Prop)} (h : (CI d μX8_brides [.ref 0] M (fun r2 M1 => (CI d μX9_brides [.ref 58] M1 (fun r4 M3 => (if r2 = r4 then RI (d + 1) μL_law 18 [(0, .ref SC), (1, .ref 0), (2, .ref 58), (3, .int (x3 + 6))] [] M3 K else K 0 M3)))))) : RI (d + 1) μL_law 1018 [(0, .ref SC), (1, .ref 0), (2, .ref 58), (3, .int x3)] [] M K := by
  show Rn (d + 1) μL_law 1018 [(0, .ref SC), (1, .ref 0), (2, .ref 58), (3, .int x3)] [] M _
  refine rn_aload_n (i := 1) (x := 0) dL_law_1018 rfl (by simp) ?_
  refine rn_callVi (as := []) (st := []) dL_law_1019 mf_X8_brides lk_L_139 im_X8_brides rfl rfl rfl rfl (Nat.le_of_ble_eq_true rfl) (Nat.le_of_ble_eq_true rfl) rfl (RI.mono h (fun r2 M1 h => ?_))
  refine rn_aload_n (i := 2) (x := 58) dL_law_1022 rfl (by simp) ?_
  refine rn_callVi (as := []) (st := [.int r2]) dL_law_1023 mf_X9_brides lk_L_142 im_X9_brides rfl rfl rfl rfl (Nat.le_of_ble_eq_true rfl) (Nat.le_of_ble_eq_true rfl) rfl (RI.mono h (fun r4 M3 h => ?_))
  refine rn_icmp_eq (tgt := 1419) dL_law_1026 (by decide) (ite_go h (fun hc h => ?_) (fun hc h => ?_))
  · refine rn_iinc (x := x3) (v := x3 + 6) (lv' := [(0, .ref SC), (1, .ref 0), (2, .ref 58), (3, .int (x3 + 6))]) dL_law_1419 (by simp) rfl (by decide) rfl rfl ?_
    refine rn_goto (tgt := 18) dL_law_1422 (by decide) ?_
    exact h
  · refine rn_iconst (v := 0) dL_law_1029 rfl ?_
    exact rn_zret dL_law_1030 rfl (by decide) ⟨_, rfl, h⟩
set_option maxRecDepth 20000 in
theorem sg_L_law_1031 {d : Nat} {x3 : Int32} {M : Mem} {K : (Int32 → Mem → Prop)} (h : (CI d μX8_acres [.ref 0] M (fun r2 M1 => (CI d μX9_acres [.ref 58] M1 (fun r4 M3 => (if r2 = r4 then RI (d + 1) μL_law 18 [(0, .ref SC), (1, .ref 0), (2, .ref 58), (3, .int (x3 + 6))] [] M3 K else K 0 M3)))))) : RI (d + 1) μL_law 1031 [(0, .ref SC), (1, .ref 0), (2, .ref 58), (3, .int x3)] [] M K := by
  show Rn (d + 1) μL_law 1031 [(0, .ref SC), (1, .ref 0), (2, .ref 58), (3, .int x3)] [] M _
  refine rn_aload_n (i := 1) (x := 0) dL_law_1031 rfl (by simp) ?_
  refine rn_callVi (as := []) (st := []) dL_law_1032 mf_X8_acres lk_L_143 im_X8_acres rfl rfl rfl rfl (Nat.le_of_ble_eq_true rfl) (Nat.le_of_ble_eq_true rfl) rfl (RI.mono h (fun r2 M1 h => ?_))
  refine rn_aload_n (i := 2) (x := 58) dL_law_1035 rfl (by simp) ?_
  refine rn_callVi (as := []) (st := [.int r2]) dL_law_1036 mf_X9_acres lk_L_146 im_X9_acres rfl rfl rfl rfl (Nat.le_of_ble_eq_true rfl) (Nat.le_of_ble_eq_true rfl) rfl (RI.mono h (fun r4 M3 h => ?_))
  refine rn_icmp_eq (tgt := 1419) dL_law_1039 (by decide) (ite_go h (fun hc h => ?_) (fun hc h => ?_))
  · refine rn_iinc (x := x3) (v := x3 + 6) (lv' := [(0, .ref SC), (1, .ref 0), (2, .ref 58), (3, .int (x3 + 6))]) dL_law_1419 (by simp) rfl (by decide) rfl rfl ?_
    refine rn_goto (tgt := 18) dL_law_1422 (by decide) ?_
    exact h
  · refine rn_iconst (v := 0) dL_law_1042 rfl ?_
    exact rn_zret dL_law_1043 rfl (by decide) ⟨_, rfl, h⟩
set_option maxRecDepth 20000 in
theorem sg_L_law_1044 {d : Nat} {x3 : Int32} {M : Mem} {K : (Int32 → Mem → Prop)} (h : (vp_in (x3 + 1) (sl M) ∧ (CI d μX8_law [.ref 0, .int (ri M SC (nx (x3 + 1)))] M (fun r2 M1 => (vp_in (x3 + 1) (sl M1) ∧ (CI d μX9_law [.ref 58, .int (ri M1 SC (nx (x3 + 1)))] M1 (fun r4 M3 => (if r2 = r4 then RI (d + 1) μL_law 18 [(0, .ref SC), (1, .ref 0), (2, .ref 58), (3, .int (x3 + 6))] [] M3 K else K 0 M3)))))))) : RI (d + 1) μL_law 1044 [(0, .ref SC), (1, .ref 0), (2, .ref 58), (3, .int x3)] [] M K := by
  show Rn (d + 1) μL_law 1044 [(0, .ref SC), (1, .ref 0), (2, .ref 58), (3, .int x3)] [] M _
  refine rn_aload_n (i := 1) (x := 0) dL_law_1044 rfl (by simp) ?_
  refine rn_aload_n (i := 0) (x := SC) dL_law_1045 rfl (by simp) ?_
  refine rn_iload_n (i := 3) (x := x3) dL_law_1046 rfl (by simp) ?_
  refine rn_iconst (v := 1) dL_law_1047 rfl ?_
  refine rn_iadd dL_law_1048 ?_
  obtain ⟨hi, h⟩ := h
  refine rn_sld dL_law_1049 hi ?_
  refine rn_callVi (as := [.int (ri M SC (nx (x3 + 1)))]) (st := []) dL_law_1050 mf_X8_law lk_L_147 im_X8_law rfl rfl rfl rfl (Nat.le_of_ble_eq_true rfl) (Nat.le_of_ble_eq_true rfl) rfl (RI.mono h (fun r2 M1 h => ?_))
  refine rn_aload_n (i := 2) (x := 58) dL_law_1053 rfl (by simp) ?_
  refine rn_aload_n (i := 0) (x := SC) dL_law_1054 rfl (by simp) ?_
  refine rn_iload_n (i := 3) (x := x3) dL_law_1055 rfl (by simp) ?_
  refine rn_iconst (v := 1) dL_law_1056 rfl ?_
  refine rn_iadd dL_law_1057 ?_
  obtain ⟨hi, h⟩ := h
  refine rn_sld dL_law_1058 hi ?_
  refine rn_callVi (as := [.int (ri M1 SC (nx (x3 + 1)))]) (st := [.int r2]) dL_law_1059 mf_X9_law lk_L_150 im_X9_law rfl rfl rfl rfl (Nat.le_of_ble_eq_true rfl) (Nat.le_of_ble_eq_true rfl) rfl (RI.mono h (fun r4 M3 h => ?_))
  refine rn_icmp_eq (tgt := 1419) dL_law_1062 (by decide) (ite_go h (fun hc h => ?_) (fun hc h => ?_))
  · refine rn_iinc (x := x3) (v := x3 + 6) (lv' := [(0, .ref SC), (1, .ref 0), (2, .ref 58), (3, .int (x3 + 6))]) dL_law_1419 (by simp) rfl (by decide) rfl rfl ?_
    refine rn_goto (tgt := 18) dL_law_1422 (by decide) ?_
    exact h
  · refine rn_iconst (v := 0) dL_law_1065 rfl ?_
    exact rn_zret dL_law_1066 rfl (by decide) ⟨_, rfl, h⟩
set_option maxRecDepth 20000 in
theorem sg_L_law_1067 {d : Nat} {x3 : Int32} {M : Mem} {K : (Int32 → Mem → Prop)} (h : (vp_in (x3 + 1) (sl M) ∧ (vp_in (x3 + 2) (sl M) ∧ (CI d μX8_aunts [.ref 0, .int (ri M SC (nx (x3 + 1))), .int (ri M SC (nx (x3 + 2)))] M (fun r2 M1 => (vp_in (x3 + 1) (sl M1) ∧ (vp_in (x3 + 2) (sl M1) ∧ (CI d μX9_aunts [.ref 58, .int (ri M1 SC (nx (x3 + 1))), .int (ri M1 SC (nx (x3 + 2)))] M1 (fun r4 M3 => (if r2 = r4 then RI (d + 1) μL_law 18 [(0, .ref SC), (1, .ref 0), (2, .ref 58), (3, .int (x3 + 6))] [] M3 K else K 0 M3)))))))))) : RI (d + 1) μL_law 1067 [(0, .ref SC), (1, .ref 0), (2, .ref 58), (3, .int x3)] [] M K := by
  show Rn (d + 1) μL_law 1067 [(0, .ref SC), (1, .ref 0), (2, .ref 58), (3, .int x3)] [] M _
  refine rn_aload_n (i := 1) (x := 0) dL_law_1067 rfl (by simp) ?_
  refine rn_aload_n (i := 0) (x := SC) dL_law_1068 rfl (by simp) ?_
  refine rn_iload_n (i := 3) (x := x3) dL_law_1069 rfl (by simp) ?_
  refine rn_iconst (v := 1) dL_law_1070 rfl ?_
  refine rn_iadd dL_law_1071 ?_
  obtain ⟨hi, h⟩ := h
  refine rn_sld dL_law_1072 hi ?_
  refine rn_aload_n (i := 0) (x := SC) dL_law_1073 rfl (by simp) ?_
  refine rn_iload_n (i := 3) (x := x3) dL_law_1074 rfl (by simp) ?_
  refine rn_iconst (v := 2) dL_law_1075 rfl ?_
  refine rn_iadd dL_law_1076 ?_
  obtain ⟨hi, h⟩ := h
  refine rn_sld dL_law_1077 hi ?_
  refine rn_callVi (as := [.int (ri M SC (nx (x3 + 1))), .int (ri M SC (nx (x3 + 2)))]) (st := []) dL_law_1078 mf_X8_aunts lk_L_151 im_X8_aunts rfl rfl rfl rfl (Nat.le_of_ble_eq_true rfl) (Nat.le_of_ble_eq_true rfl) rfl (RI.mono h (fun r2 M1 h => ?_))
  refine rn_aload_n (i := 2) (x := 58) dL_law_1081 rfl (by simp) ?_
  refine rn_aload_n (i := 0) (x := SC) dL_law_1082 rfl (by simp) ?_
  refine rn_iload_n (i := 3) (x := x3) dL_law_1083 rfl (by simp) ?_
  refine rn_iconst (v := 1) dL_law_1084 rfl ?_
  refine rn_iadd dL_law_1085 ?_
  obtain ⟨hi, h⟩ := h
  refine rn_sld dL_law_1086 hi ?_
  refine rn_aload_n (i := 0) (x := SC) dL_law_1087 rfl (by simp) ?_
  refine rn_iload_n (i := 3) (x := x3) dL_law_1088 rfl (by simp) ?_
  refine rn_iconst (v := 2) dL_law_1089 rfl ?_
  refine rn_iadd dL_law_1090 ?_
  obtain ⟨hi, h⟩ := h
  refine rn_sld dL_law_1091 hi ?_
  refine rn_callVi (as := [.int (ri M1 SC (nx (x3 + 1))), .int (ri M1 SC (nx (x3 + 2)))]) (st := [.int r2]) dL_law_1092 mf_X9_aunts lk_L_154 im_X9_aunts rfl rfl rfl rfl (Nat.le_of_ble_eq_true rfl) (Nat.le_of_ble_eq_true rfl) rfl (RI.mono h (fun r4 M3 h => ?_))
  refine rn_icmp_eq (tgt := 1419) dL_law_1095 (by decide) (ite_go h (fun hc h => ?_) (fun hc h => ?_))
  · refine rn_iinc (x := x3) (v := x3 + 6) (lv' := [(0, .ref SC), (1, .ref 0), (2, .ref 58), (3, .int (x3 + 6))]) dL_law_1419 (by simp) rfl (by decide) rfl rfl ?_
    refine rn_goto (tgt := 18) dL_law_1422 (by decide) ?_
    exact h
  · refine rn_iconst (v := 0) dL_law_1098 rfl ?_
    exact rn_zret dL_law_1099 rfl (by decide) ⟨_, rfl, h⟩
set_option maxRecDepth 20000 in
theorem sg_L_law_1100 {d : Nat} {x3 : Int32} {M : Mem} {K : (Int32 → Mem → Prop)} (h : (vp_in (x3 + 1) (sl M) ∧ (vp_in (x3 + 2) (sl M) ∧ (CI d μX8_odds [.ref 0, .int (ri M SC (nx (x3 + 1))), .int (ri M SC (nx (x3 + 2)))] M (fun r2 M1 => (vp_in (x3 + 1) (sl M1) ∧ (vp_in (x3 + 2) (sl M1) ∧ (CI d μX9_odds [.ref 58, .int (ri M1 SC (nx (x3 + 1))), .int (ri M1 SC (nx (x3 + 2)))] M1 (fun r4 M3 => (if r2 = r4 then RI (d + 1) μL_law 18 [(0, .ref SC), (1, .ref 0), (2, .ref 58), (3, .int (x3 + 6))] [] M3 K else K 0 M3)))))))))) : RI (d + 1) μL_law 1100 [(0, .ref SC), (1, .ref 0), (2, .ref 58), (3, .int x3)] [] M K := by
  show Rn (d + 1) μL_law 1100 [(0, .ref SC), (1, .ref 0), (2, .ref 58), (3, .int x3)] [] M _
  refine rn_aload_n (i := 1) (x := 0) dL_law_1100 rfl (by simp) ?_
  refine rn_aload_n (i := 0) (x := SC) dL_law_1101 rfl (by simp) ?_
  refine rn_iload_n (i := 3) (x := x3) dL_law_1102 rfl (by simp) ?_
  refine rn_iconst (v := 1) dL_law_1103 rfl ?_
  refine rn_iadd dL_law_1104 ?_
  obtain ⟨hi, h⟩ := h
  refine rn_sld dL_law_1105 hi ?_
  refine rn_aload_n (i := 0) (x := SC) dL_law_1106 rfl (by simp) ?_
  refine rn_iload_n (i := 3) (x := x3) dL_law_1107 rfl (by simp) ?_
  refine rn_iconst (v := 2) dL_law_1108 rfl ?_
  refine rn_iadd dL_law_1109 ?_
  obtain ⟨hi, h⟩ := h
  refine rn_sld dL_law_1110 hi ?_
  refine rn_callVi (as := [.int (ri M SC (nx (x3 + 1))), .int (ri M SC (nx (x3 + 2)))]) (st := []) dL_law_1111 mf_X8_odds lk_L_155 im_X8_odds rfl rfl rfl rfl (Nat.le_of_ble_eq_true rfl) (Nat.le_of_ble_eq_true rfl) rfl (RI.mono h (fun r2 M1 h => ?_))
  refine rn_aload_n (i := 2) (x := 58) dL_law_1114 rfl (by simp) ?_
  refine rn_aload_n (i := 0) (x := SC) dL_law_1115 rfl (by simp) ?_
  refine rn_iload_n (i := 3) (x := x3) dL_law_1116 rfl (by simp) ?_
  refine rn_iconst (v := 1) dL_law_1117 rfl ?_
  refine rn_iadd dL_law_1118 ?_
  obtain ⟨hi, h⟩ := h
  refine rn_sld dL_law_1119 hi ?_
  refine rn_aload_n (i := 0) (x := SC) dL_law_1120 rfl (by simp) ?_
  refine rn_iload_n (i := 3) (x := x3) dL_law_1121 rfl (by simp) ?_
  refine rn_iconst (v := 2) dL_law_1122 rfl ?_
  refine rn_iadd dL_law_1123 ?_
  obtain ⟨hi, h⟩ := h
  refine rn_sld dL_law_1124 hi ?_
  refine rn_callVi (as := [.int (ri M1 SC (nx (x3 + 1))), .int (ri M1 SC (nx (x3 + 2)))]) (st := [.int r2]) dL_law_1125 mf_X9_odds lk_L_158 im_X9_odds rfl rfl rfl rfl (Nat.le_of_ble_eq_true rfl) (Nat.le_of_ble_eq_true rfl) rfl (RI.mono h (fun r4 M3 h => ?_))
  refine rn_icmp_eq (tgt := 1419) dL_law_1128 (by decide) (ite_go h (fun hc h => ?_) (fun hc h => ?_))
  · refine rn_iinc (x := x3) (v := x3 + 6) (lv' := [(0, .ref SC), (1, .ref 0), (2, .ref 58), (3, .int (x3 + 6))]) dL_law_1419 (by simp) rfl (by decide) rfl rfl ?_
    refine rn_goto (tgt := 18) dL_law_1422 (by decide) ?_
    exact h
  · refine rn_iconst (v := 0) dL_law_1131 rfl ?_
    exact rn_zret dL_law_1132 rfl (by decide) ⟨_, rfl, h⟩
set_option maxRecDepth 20000 in
theorem sg_L_law_1133 {d : Nat} {x3 : Int32} {M : Mem} {K : (Int32 → Mem → Prop)} (h : (vp_in (x3 + 1) (sl M) ∧ (CI d μX8_lies [.ref 0, .int (ri M SC (nx (x3 + 1)))] M (fun r2 M1 => (vp_in (x3 + 1) (sl M1) ∧ (CI d μX9_lies [.ref 58, .int (ri M1 SC (nx (x3 + 1)))] M1 (fun r4 M3 => (if r2 = r4 then RI (d + 1) μL_law 18 [(0, .ref SC), (1, .ref 0), (2, .ref 58), (3, .int (x3 + 6))] [] M3 K else K 0 M3)))))))) : RI (d + 1) μL_law 1133 [(0, .ref SC), (1, .ref 0), (2, .ref 58), (3, .int x3)] [] M K := by
  show Rn (d + 1) μL_law 1133 [(0, .ref SC), (1, .ref 0), (2, .ref 58), (3, .int x3)] [] M _
  refine rn_aload_n (i := 1) (x := 0) dL_law_1133 rfl (by simp) ?_
  refine rn_aload_n (i := 0) (x := SC) dL_law_1134 rfl (by simp) ?_
  refine rn_iload_n (i := 3) (x := x3) dL_law_1135 rfl (by simp) ?_
  refine rn_iconst (v := 1) dL_law_1136 rfl ?_
  refine rn_iadd dL_law_1137 ?_
  obtain ⟨hi, h⟩ := h
  refine rn_sld dL_law_1138 hi ?_
  refine rn_callVi (as := [.int (ri M SC (nx (x3 + 1)))]) (st := []) dL_law_1139 mf_X8_lies lk_L_159 im_X8_lies rfl rfl rfl rfl (Nat.le_of_ble_eq_true rfl) (Nat.le_of_ble_eq_true rfl) rfl (RI.mono h (fun r2 M1 h => ?_))
  refine rn_aload_n (i := 2) (x := 58) dL_law_1142 rfl (by simp) ?_
  refine rn_aload_n (i := 0) (x := SC) dL_law_1143 rfl (by simp) ?_
  refine rn_iload_n (i := 3) (x := x3) dL_law_1144 rfl (by simp) ?_
  refine rn_iconst (v := 1) dL_law_1145 rfl ?_
  refine rn_iadd dL_law_1146 ?_
  obtain ⟨hi, h⟩ := h
  refine rn_sld dL_law_1147 hi ?_
  refine rn_callVi (as := [.int (ri M1 SC (nx (x3 + 1)))]) (st := [.int r2]) dL_law_1148 mf_X9_lies lk_L_162 im_X9_lies rfl rfl rfl rfl (Nat.le_of_ble_eq_true rfl) (Nat.le_of_ble_eq_true rfl) rfl (RI.mono h (fun r4 M3 h => ?_))
  refine rn_icmp_eq (tgt := 1419) dL_law_1151 (by decide) (ite_go h (fun hc h => ?_) (fun hc h => ?_))
  · refine rn_iinc (x := x3) (v := x3 + 6) (lv' := [(0, .ref SC), (1, .ref 0), (2, .ref 58), (3, .int (x3 + 6))]) dL_law_1419 (by simp) rfl (by decide) rfl rfl ?_
    refine rn_goto (tgt := 18) dL_law_1422 (by decide) ?_
    exact h
  · refine rn_iconst (v := 0) dL_law_1154 rfl ?_
    exact rn_zret dL_law_1155 rfl (by decide) ⟨_, rfl, h⟩
set_option maxRecDepth 20000 in
theorem sg_L_law_1156 {d : Nat} {x3 : Int32} {M : Mem} {K : (Int32 → Mem → Prop)} (h : (vp_in (x3 + 1) (sl M) ∧ (vp_in (x3 + 2) (sl M) ∧ (vp_in (x3 + 3) (sl M) ∧ (if ri M SC (nx (x3 + 3)) = 0 then (CI d μX8_seen [.ref 0, .int (ri M SC (nx (x3 + 1))), .int (ri M SC (nx (x3 + 2))), .int 0] M (fun r2 M1 => (vp_in (x3 + 1) (sl M1) ∧ (vp_in (x3 + 2) (sl M1) ∧ (vp_in (x3 + 3) (sl M1) ∧ (if ri M1 SC (nx (x3 + 3)) = 0 then (CI d μX9_seen [.ref 58, .int (ri M1 SC (nx (x3 + 1))), .int (ri M1 SC (nx (x3 + 2))), .int 0] M1 (fun r4 M3 => (if r2 = r4 then RI (d + 1) μL_law 18 [(0, .ref SC), (1, .ref 0), (2, .ref 58), (3, .int (x3 + 6))] [] M3 K else K 0 M3))) else (CI d μX9_seen [.ref 58, .int (ri M1 SC (nx (x3 + 1))), .int (ri M1 SC (nx (x3 + 2))), .int 1] M1 (fun r6 M5 => (if r2 = r6 then RI (d + 1) μL_law 18 [(0, .ref SC), (1, .ref 0), (2, .ref 58), (3, .int (x3 + 6))] [] M5 K else K 0 M5))))))))) else (CI d μX8_seen [.ref 0, .int (ri M SC (nx (x3 + 1))), .int (ri M SC (nx (x3 + 2))), .int 1] M (fun r8 M7 => (vp_in (x3 + 1) (sl M7) ∧ (vp_in (x3 + 2) (sl M7) ∧ (vp_in (x3 + 3) (sl M7) ∧ (if ri M7 SC (nx (x3 + 3)) = 0 then (CI d μX9_seen [.ref 58, .int (ri M7 SC (nx (x3 + 1))), .int (ri M7 SC (nx (x3 + 2))), .int 0] M7 (fun r10 M9 => (if r8 = r10 then RI (d + 1) μL_law 18 [(0, .ref SC), (1, .ref 0), (2, .ref 58), (3, .int (x3 + 6))] [] M9 K else K 0 M9))) else (CI d μX9_seen [.ref 58, .int (ri M7 SC (nx (x3 + 1))), .int (ri M7 SC (nx (x3 + 2))), .int 1] M7 (fun r12 M11 => (if r8 = r12 then RI (d + 1) μL_law 18 [(0, .ref SC), (1, .ref 0), (2, .ref 58), (3, .int (x3 + 6))] [] M11 K else K 0 M11)))))))))))))) : RI (d + 1) μL_law 1156 [(0, .ref SC), (1, .ref 0), (2, .ref 58), (3, .int x3)] [] M K := by
  show Rn (d + 1) μL_law 1156 [(0, .ref SC), (1, .ref 0), (2, .ref 58), (3, .int x3)] [] M _
  refine rn_aload_n (i := 1) (x := 0) dL_law_1156 rfl (by simp) ?_
  refine rn_aload_n (i := 0) (x := SC) dL_law_1157 rfl (by simp) ?_
  refine rn_iload_n (i := 3) (x := x3) dL_law_1158 rfl (by simp) ?_
  refine rn_iconst (v := 1) dL_law_1159 rfl ?_
  refine rn_iadd dL_law_1160 ?_
  obtain ⟨hi, h⟩ := h
  refine rn_sld dL_law_1161 hi ?_
  refine rn_aload_n (i := 0) (x := SC) dL_law_1162 rfl (by simp) ?_
  refine rn_iload_n (i := 3) (x := x3) dL_law_1163 rfl (by simp) ?_
  refine rn_iconst (v := 2) dL_law_1164 rfl ?_
  refine rn_iadd dL_law_1165 ?_
  obtain ⟨hi, h⟩ := h
  refine rn_sld dL_law_1166 hi ?_
  refine rn_aload_n (i := 0) (x := SC) dL_law_1167 rfl (by simp) ?_
  refine rn_iload_n (i := 3) (x := x3) dL_law_1168 rfl (by simp) ?_
  refine rn_iconst (v := 3) dL_law_1169 rfl ?_
  refine rn_iadd dL_law_1170 ?_
  obtain ⟨hi, h⟩ := h
  refine rn_sld dL_law_1171 hi ?_
  refine rn_if_eq (tgt := 1179) dL_law_1172 (by decide) (ite_go h (fun hc h => ?_) (fun hc h => ?_))
  · refine rn_iconst (v := 0) dL_law_1179 rfl ?_
    refine rn_callVi (as := [.int (ri M SC (nx (x3 + 1))), .int (ri M SC (nx (x3 + 2))), .int 0]) (st := []) dL_law_1180 mf_X8_seen lk_L_163 im_X8_seen rfl rfl rfl rfl (Nat.le_of_ble_eq_true rfl) (Nat.le_of_ble_eq_true rfl) rfl (RI.mono h (fun r2 M1 h => ?_))
    refine rn_aload_n (i := 2) (x := 58) dL_law_1183 rfl (by simp) ?_
    refine rn_aload_n (i := 0) (x := SC) dL_law_1184 rfl (by simp) ?_
    refine rn_iload_n (i := 3) (x := x3) dL_law_1185 rfl (by simp) ?_
    refine rn_iconst (v := 1) dL_law_1186 rfl ?_
    refine rn_iadd dL_law_1187 ?_
    obtain ⟨hi, h⟩ := h
    refine rn_sld dL_law_1188 hi ?_
    refine rn_aload_n (i := 0) (x := SC) dL_law_1189 rfl (by simp) ?_
    refine rn_iload_n (i := 3) (x := x3) dL_law_1190 rfl (by simp) ?_
    refine rn_iconst (v := 2) dL_law_1191 rfl ?_
    refine rn_iadd dL_law_1192 ?_
    obtain ⟨hi, h⟩ := h
    refine rn_sld dL_law_1193 hi ?_
    refine rn_aload_n (i := 0) (x := SC) dL_law_1194 rfl (by simp) ?_
    refine rn_iload_n (i := 3) (x := x3) dL_law_1195 rfl (by simp) ?_
    refine rn_iconst (v := 3) dL_law_1196 rfl ?_
    refine rn_iadd dL_law_1197 ?_
    obtain ⟨hi, h⟩ := h
    refine rn_sld dL_law_1198 hi ?_
    refine rn_if_eq (tgt := 1206) dL_law_1199 (by decide) (ite_go h (fun hc h => ?_) (fun hc h => ?_))
    · refine rn_iconst (v := 0) dL_law_1206 rfl ?_
      refine rn_callVi (as := [.int (ri M1 SC (nx (x3 + 1))), .int (ri M1 SC (nx (x3 + 2))), .int 0]) (st := [.int r2]) dL_law_1207 mf_X9_seen lk_L_167 im_X9_seen rfl rfl rfl rfl (Nat.le_of_ble_eq_true rfl) (Nat.le_of_ble_eq_true rfl) rfl (RI.mono h (fun r4 M3 h => ?_))
      refine rn_icmp_eq (tgt := 1419) dL_law_1210 (by decide) (ite_go h (fun hc h => ?_) (fun hc h => ?_))
      · refine rn_iinc (x := x3) (v := x3 + 6) (lv' := [(0, .ref SC), (1, .ref 0), (2, .ref 58), (3, .int (x3 + 6))]) dL_law_1419 (by simp) rfl (by decide) rfl rfl ?_
        refine rn_goto (tgt := 18) dL_law_1422 (by decide) ?_
        exact h
      · refine rn_iconst (v := 0) dL_law_1213 rfl ?_
        exact rn_zret dL_law_1214 rfl (by decide) ⟨_, rfl, h⟩
    · refine rn_iconst (v := 1) dL_law_1202 rfl ?_
      refine rn_goto (tgt := 1207) dL_law_1203 (by decide) ?_
      refine rn_callVi (as := [.int (ri M1 SC (nx (x3 + 1))), .int (ri M1 SC (nx (x3 + 2))), .int 1]) (st := [.int r2]) dL_law_1207 mf_X9_seen lk_L_167 im_X9_seen rfl rfl rfl rfl (Nat.le_of_ble_eq_true rfl) (Nat.le_of_ble_eq_true rfl) rfl (RI.mono h (fun r6 M5 h => ?_))
      refine rn_icmp_eq (tgt := 1419) dL_law_1210 (by decide) (ite_go h (fun hc h => ?_) (fun hc h => ?_))
      · refine rn_iinc (x := x3) (v := x3 + 6) (lv' := [(0, .ref SC), (1, .ref 0), (2, .ref 58), (3, .int (x3 + 6))]) dL_law_1419 (by simp) rfl (by decide) rfl rfl ?_
        refine rn_goto (tgt := 18) dL_law_1422 (by decide) ?_
        exact h
      · refine rn_iconst (v := 0) dL_law_1213 rfl ?_
        exact rn_zret dL_law_1214 rfl (by decide) ⟨_, rfl, h⟩
  · refine rn_iconst (v := 1) dL_law_1175 rfl ?_
    refine rn_goto (tgt := 1180) dL_law_1176 (by decide) ?_
    refine rn_callVi (as := [.int (ri M SC (nx (x3 + 1))), .int (ri M SC (nx (x3 + 2))), .int 1]) (st := []) dL_law_1180 mf_X8_seen lk_L_163 im_X8_seen rfl rfl rfl rfl (Nat.le_of_ble_eq_true rfl) (Nat.le_of_ble_eq_true rfl) rfl (RI.mono h (fun r8 M7 h => ?_))
    refine rn_aload_n (i := 2) (x := 58) dL_law_1183 rfl (by simp) ?_
    refine rn_aload_n (i := 0) (x := SC) dL_law_1184 rfl (by simp) ?_
    refine rn_iload_n (i := 3) (x := x3) dL_law_1185 rfl (by simp) ?_
    refine rn_iconst (v := 1) dL_law_1186 rfl ?_
    refine rn_iadd dL_law_1187 ?_
    obtain ⟨hi, h⟩ := h
    refine rn_sld dL_law_1188 hi ?_
    refine rn_aload_n (i := 0) (x := SC) dL_law_1189 rfl (by simp) ?_
    refine rn_iload_n (i := 3) (x := x3) dL_law_1190 rfl (by simp) ?_
    refine rn_iconst (v := 2) dL_law_1191 rfl ?_
    refine rn_iadd dL_law_1192 ?_
    obtain ⟨hi, h⟩ := h
    refine rn_sld dL_law_1193 hi ?_
    refine rn_aload_n (i := 0) (x := SC) dL_law_1194 rfl (by simp) ?_
    refine rn_iload_n (i := 3) (x := x3) dL_law_1195 rfl (by simp) ?_
    refine rn_iconst (v := 3) dL_law_1196 rfl ?_
    refine rn_iadd dL_law_1197 ?_
    obtain ⟨hi, h⟩ := h
    refine rn_sld dL_law_1198 hi ?_
    refine rn_if_eq (tgt := 1206) dL_law_1199 (by decide) (ite_go h (fun hc h => ?_) (fun hc h => ?_))
    · refine rn_iconst (v := 0) dL_law_1206 rfl ?_
      refine rn_callVi (as := [.int (ri M7 SC (nx (x3 + 1))), .int (ri M7 SC (nx (x3 + 2))), .int 0]) (st := [.int r8]) dL_law_1207 mf_X9_seen lk_L_167 im_X9_seen rfl rfl rfl rfl (Nat.le_of_ble_eq_true rfl) (Nat.le_of_ble_eq_true rfl) rfl (RI.mono h (fun r10 M9 h => ?_))
      refine rn_icmp_eq (tgt := 1419) dL_law_1210 (by decide) (ite_go h (fun hc h => ?_) (fun hc h => ?_))
      · refine rn_iinc (x := x3) (v := x3 + 6) (lv' := [(0, .ref SC), (1, .ref 0), (2, .ref 58), (3, .int (x3 + 6))]) dL_law_1419 (by simp) rfl (by decide) rfl rfl ?_
        refine rn_goto (tgt := 18) dL_law_1422 (by decide) ?_
        exact h
      · refine rn_iconst (v := 0) dL_law_1213 rfl ?_
        exact rn_zret dL_law_1214 rfl (by decide) ⟨_, rfl, h⟩
    · refine rn_iconst (v := 1) dL_law_1202 rfl ?_
      refine rn_goto (tgt := 1207) dL_law_1203 (by decide) ?_
      refine rn_callVi (as := [.int (ri M7 SC (nx (x3 + 1))), .int (ri M7 SC (nx (x3 + 2))), .int 1]) (st := [.int r8]) dL_law_1207 mf_X9_seen lk_L_167 im_X9_seen rfl rfl rfl rfl (Nat.le_of_ble_eq_true rfl) (Nat.le_of_ble_eq_true rfl) rfl (RI.mono h (fun r12 M11 h => ?_))
      refine rn_icmp_eq (tgt := 1419) dL_law_1210 (by decide) (ite_go h (fun hc h => ?_) (fun hc h => ?_))
      · refine rn_iinc (x := x3) (v := x3 + 6) (lv' := [(0, .ref SC), (1, .ref 0), (2, .ref 58), (3, .int (x3 + 6))]) dL_law_1419 (by simp) rfl (by decide) rfl rfl ?_
        refine rn_goto (tgt := 18) dL_law_1422 (by decide) ?_
        exact h
      · refine rn_iconst (v := 0) dL_law_1213 rfl ?_
        exact rn_zret dL_law_1214 rfl (by decide) ⟨_, rfl, h⟩
set_option maxRecDepth 20000 in
theorem sg_L_law_1215 {d : Nat} {x3 : Int32} {M : Mem} {K : (Int32 → Mem → Prop)} (h : (vp_in (x3 + 1) (sl M) ∧ (CI d μX8_untell [.ref 0, .int (ri M SC (nx (x3 + 1)))] M (fun r2 M1 => (vp_in (x3 + 1) (sl M1) ∧ (CI d μX9_untell [.ref 58, .int (ri M1 SC (nx (x3 + 1)))] M1 (fun r4 M3 => (if r2 = r4 then RI (d + 1) μL_law 18 [(0, .ref SC), (1, .ref 0), (2, .ref 58), (3, .int (x3 + 6))] [] M3 K else K 0 M3)))))))) : RI (d + 1) μL_law 1215 [(0, .ref SC), (1, .ref 0), (2, .ref 58), (3, .int x3)] [] M K := by
  show Rn (d + 1) μL_law 1215 [(0, .ref SC), (1, .ref 0), (2, .ref 58), (3, .int x3)] [] M _
  refine rn_aload_n (i := 1) (x := 0) dL_law_1215 rfl (by simp) ?_
  refine rn_aload_n (i := 0) (x := SC) dL_law_1216 rfl (by simp) ?_
  refine rn_iload_n (i := 3) (x := x3) dL_law_1217 rfl (by simp) ?_
  refine rn_iconst (v := 1) dL_law_1218 rfl ?_
  refine rn_iadd dL_law_1219 ?_
  obtain ⟨hi, h⟩ := h
  refine rn_sld dL_law_1220 hi ?_
  refine rn_callVi (as := [.int (ri M SC (nx (x3 + 1)))]) (st := []) dL_law_1221 mf_X8_untell lk_L_168 im_X8_untell rfl rfl rfl rfl (Nat.le_of_ble_eq_true rfl) (Nat.le_of_ble_eq_true rfl) rfl (RI.mono h (fun r2 M1 h => ?_))
  refine rn_aload_n (i := 2) (x := 58) dL_law_1224 rfl (by simp) ?_
  refine rn_aload_n (i := 0) (x := SC) dL_law_1225 rfl (by simp) ?_
  refine rn_iload_n (i := 3) (x := x3) dL_law_1226 rfl (by simp) ?_
  refine rn_iconst (v := 1) dL_law_1227 rfl ?_
  refine rn_iadd dL_law_1228 ?_
  obtain ⟨hi, h⟩ := h
  refine rn_sld dL_law_1229 hi ?_
  refine rn_callVi (as := [.int (ri M1 SC (nx (x3 + 1)))]) (st := [.int r2]) dL_law_1230 mf_X9_untell lk_L_172 im_X9_untell rfl rfl rfl rfl (Nat.le_of_ble_eq_true rfl) (Nat.le_of_ble_eq_true rfl) rfl (RI.mono h (fun r4 M3 h => ?_))
  refine rn_icmp_eq (tgt := 1419) dL_law_1233 (by decide) (ite_go h (fun hc h => ?_) (fun hc h => ?_))
  · refine rn_iinc (x := x3) (v := x3 + 6) (lv' := [(0, .ref SC), (1, .ref 0), (2, .ref 58), (3, .int (x3 + 6))]) dL_law_1419 (by simp) rfl (by decide) rfl rfl ?_
    refine rn_goto (tgt := 18) dL_law_1422 (by decide) ?_
    exact h
  · refine rn_iconst (v := 0) dL_law_1236 rfl ?_
    exact rn_zret dL_law_1237 rfl (by decide) ⟨_, rfl, h⟩
set_option maxRecDepth 20000 in
theorem sg_L_law_1238 {d : Nat} {x3 : Int32} {M : Mem} {K : (Int32 → Mem → Prop)} (h : (vp_in (x3 + 1) (sl M) ∧ (CI d μX8_later [.ref 0, .int (ri M SC (nx (x3 + 1)))] M (fun r2 M1 => (vp_in (x3 + 1) (sl M1) ∧ (CI d μX9_later [.ref 58, .int (ri M1 SC (nx (x3 + 1)))] M1 (fun r4 M3 => (if r2 = r4 then RI (d + 1) μL_law 18 [(0, .ref SC), (1, .ref 0), (2, .ref 58), (3, .int (x3 + 6))] [] M3 K else K 0 M3)))))))) : RI (d + 1) μL_law 1238 [(0, .ref SC), (1, .ref 0), (2, .ref 58), (3, .int x3)] [] M K := by
  show Rn (d + 1) μL_law 1238 [(0, .ref SC), (1, .ref 0), (2, .ref 58), (3, .int x3)] [] M _
  refine rn_aload_n (i := 1) (x := 0) dL_law_1238 rfl (by simp) ?_
  refine rn_aload_n (i := 0) (x := SC) dL_law_1239 rfl (by simp) ?_
  refine rn_iload_n (i := 3) (x := x3) dL_law_1240 rfl (by simp) ?_
  refine rn_iconst (v := 1) dL_law_1241 rfl ?_
  refine rn_iadd dL_law_1242 ?_
  obtain ⟨hi, h⟩ := h
  refine rn_sld dL_law_1243 hi ?_
  refine rn_callVi (as := [.int (ri M SC (nx (x3 + 1)))]) (st := []) dL_law_1244 mf_X8_later lk_L_173 im_X8_later rfl rfl rfl rfl (Nat.le_of_ble_eq_true rfl) (Nat.le_of_ble_eq_true rfl) rfl (RI.mono h (fun r2 M1 h => ?_))
  refine rn_aload_n (i := 2) (x := 58) dL_law_1247 rfl (by simp) ?_
  refine rn_aload_n (i := 0) (x := SC) dL_law_1248 rfl (by simp) ?_
  refine rn_iload_n (i := 3) (x := x3) dL_law_1249 rfl (by simp) ?_
  refine rn_iconst (v := 1) dL_law_1250 rfl ?_
  refine rn_iadd dL_law_1251 ?_
  obtain ⟨hi, h⟩ := h
  refine rn_sld dL_law_1252 hi ?_
  refine rn_callVi (as := [.int (ri M1 SC (nx (x3 + 1)))]) (st := [.int r2]) dL_law_1253 mf_X9_later lk_L_176 im_X9_later rfl rfl rfl rfl (Nat.le_of_ble_eq_true rfl) (Nat.le_of_ble_eq_true rfl) rfl (RI.mono h (fun r4 M3 h => ?_))
  refine rn_icmp_eq (tgt := 1419) dL_law_1256 (by decide) (ite_go h (fun hc h => ?_) (fun hc h => ?_))
  · refine rn_iinc (x := x3) (v := x3 + 6) (lv' := [(0, .ref SC), (1, .ref 0), (2, .ref 58), (3, .int (x3 + 6))]) dL_law_1419 (by simp) rfl (by decide) rfl rfl ?_
    refine rn_goto (tgt := 18) dL_law_1422 (by decide) ?_
    exact h
  · refine rn_iconst (v := 0) dL_law_1259 rfl ?_
    exact rn_zret dL_law_1260 rfl (by decide) ⟨_, rfl, h⟩
set_option maxRecDepth 20000 in
theorem sg_L_law_1261 {d : Nat} {x3 : Int32} {M : Mem} {K : (Int32 → Mem → Prop)} (h : (vp_in (x3 + 1) (sl M) ∧ (CI d μX8_fits [.ref 0, .int (ri M SC (nx (x3 + 1)))] M (fun r2 M1 => (vp_in (x3 + 1) (sl M1) ∧ (CI d μX9_fits [.ref 58, .int (ri M1 SC (nx (x3 + 1)))] M1 (fun r4 M3 => (if r2 = r4 then RI (d + 1) μL_law 18 [(0, .ref SC), (1, .ref 0), (2, .ref 58), (3, .int (x3 + 6))] [] M3 K else K 0 M3)))))))) : RI (d + 1) μL_law 1261 [(0, .ref SC), (1, .ref 0), (2, .ref 58), (3, .int x3)] [] M K := by
  show Rn (d + 1) μL_law 1261 [(0, .ref SC), (1, .ref 0), (2, .ref 58), (3, .int x3)] [] M _
  refine rn_aload_n (i := 1) (x := 0) dL_law_1261 rfl (by simp) ?_
  refine rn_aload_n (i := 0) (x := SC) dL_law_1262 rfl (by simp) ?_
  refine rn_iload_n (i := 3) (x := x3) dL_law_1263 rfl (by simp) ?_
  refine rn_iconst (v := 1) dL_law_1264 rfl ?_
  refine rn_iadd dL_law_1265 ?_
  obtain ⟨hi, h⟩ := h
  refine rn_sld dL_law_1266 hi ?_
  refine rn_callVi (as := [.int (ri M SC (nx (x3 + 1)))]) (st := []) dL_law_1267 mf_X8_fits lk_L_177 im_X8_fits rfl rfl rfl rfl (Nat.le_of_ble_eq_true rfl) (Nat.le_of_ble_eq_true rfl) rfl (RI.mono h (fun r2 M1 h => ?_))
  refine rn_aload_n (i := 2) (x := 58) dL_law_1270 rfl (by simp) ?_
  refine rn_aload_n (i := 0) (x := SC) dL_law_1271 rfl (by simp) ?_
  refine rn_iload_n (i := 3) (x := x3) dL_law_1272 rfl (by simp) ?_
  refine rn_iconst (v := 1) dL_law_1273 rfl ?_
  refine rn_iadd dL_law_1274 ?_
  obtain ⟨hi, h⟩ := h
  refine rn_sld dL_law_1275 hi ?_
  refine rn_callVi (as := [.int (ri M1 SC (nx (x3 + 1)))]) (st := [.int r2]) dL_law_1276 mf_X9_fits lk_L_180 im_X9_fits rfl rfl rfl rfl (Nat.le_of_ble_eq_true rfl) (Nat.le_of_ble_eq_true rfl) rfl (RI.mono h (fun r4 M3 h => ?_))
  refine rn_icmp_eq (tgt := 1419) dL_law_1279 (by decide) (ite_go h (fun hc h => ?_) (fun hc h => ?_))
  · refine rn_iinc (x := x3) (v := x3 + 6) (lv' := [(0, .ref SC), (1, .ref 0), (2, .ref 58), (3, .int (x3 + 6))]) dL_law_1419 (by simp) rfl (by decide) rfl rfl ?_
    refine rn_goto (tgt := 18) dL_law_1422 (by decide) ?_
    exact h
  · refine rn_iconst (v := 0) dL_law_1282 rfl ?_
    exact rn_zret dL_law_1283 rfl (by decide) ⟨_, rfl, h⟩
set_option maxRecDepth 20000 in
theorem sg_L_law_1284 {d : Nat} {x3 : Int32} {M : Mem} {K : (Int32 → Mem → Prop)} (h : (vp_in (x3 + 1) (sl M) ∧ (vp_in (x3 + 2) (sl M) ∧ (CI d μX8_sure [.ref 0, .int (ri M SC (nx (x3 + 1))), .int (ri M SC (nx (x3 + 2)))] M (fun r2 M1 => (vp_in (x3 + 1) (sl M1) ∧ (vp_in (x3 + 2) (sl M1) ∧ (CI d μX9_sure [.ref 58, .int (ri M1 SC (nx (x3 + 1))), .int (ri M1 SC (nx (x3 + 2)))] M1 (fun r4 M3 => (if r2 = r4 then RI (d + 1) μL_law 18 [(0, .ref SC), (1, .ref 0), (2, .ref 58), (3, .int (x3 + 6))] [] M3 K else K 0 M3)))))))))) : RI (d + 1) μL_law 1284 [(0, .ref SC), (1, .ref 0), (2, .ref 58), (3, .int x3)] [] M K := by
  show Rn (d + 1) μL_law 1284 [(0, .ref SC), (1, .ref 0), (2, .ref 58), (3, .int x3)] [] M _
  refine rn_aload_n (i := 1) (x := 0) dL_law_1284 rfl (by simp) ?_
  refine rn_aload_n (i := 0) (x := SC) dL_law_1285 rfl (by simp) ?_
  refine rn_iload_n (i := 3) (x := x3) dL_law_1286 rfl (by simp) ?_
  refine rn_iconst (v := 1) dL_law_1287 rfl ?_
  refine rn_iadd dL_law_1288 ?_
  obtain ⟨hi, h⟩ := h
  refine rn_sld dL_law_1289 hi ?_
  refine rn_aload_n (i := 0) (x := SC) dL_law_1290 rfl (by simp) ?_
  refine rn_iload_n (i := 3) (x := x3) dL_law_1291 rfl (by simp) ?_
  refine rn_iconst (v := 2) dL_law_1292 rfl ?_
  refine rn_iadd dL_law_1293 ?_
  obtain ⟨hi, h⟩ := h
  refine rn_sld dL_law_1294 hi ?_
  refine rn_callVi (as := [.int (ri M SC (nx (x3 + 1))), .int (ri M SC (nx (x3 + 2)))]) (st := []) dL_law_1295 mf_X8_sure lk_L_181 im_X8_sure rfl rfl rfl rfl (Nat.le_of_ble_eq_true rfl) (Nat.le_of_ble_eq_true rfl) rfl (RI.mono h (fun r2 M1 h => ?_))
  refine rn_aload_n (i := 2) (x := 58) dL_law_1298 rfl (by simp) ?_
  refine rn_aload_n (i := 0) (x := SC) dL_law_1299 rfl (by simp) ?_
  refine rn_iload_n (i := 3) (x := x3) dL_law_1300 rfl (by simp) ?_
  refine rn_iconst (v := 1) dL_law_1301 rfl ?_
  refine rn_iadd dL_law_1302 ?_
  obtain ⟨hi, h⟩ := h
  refine rn_sld dL_law_1303 hi ?_
  refine rn_aload_n (i := 0) (x := SC) dL_law_1304 rfl (by simp) ?_
  refine rn_iload_n (i := 3) (x := x3) dL_law_1305 rfl (by simp) ?_
  refine rn_iconst (v := 2) dL_law_1306 rfl ?_
  refine rn_iadd dL_law_1307 ?_
  obtain ⟨hi, h⟩ := h
  refine rn_sld dL_law_1308 hi ?_
  refine rn_callVi (as := [.int (ri M1 SC (nx (x3 + 1))), .int (ri M1 SC (nx (x3 + 2)))]) (st := [.int r2]) dL_law_1309 mf_X9_sure lk_L_184 im_X9_sure rfl rfl rfl rfl (Nat.le_of_ble_eq_true rfl) (Nat.le_of_ble_eq_true rfl) rfl (RI.mono h (fun r4 M3 h => ?_))
  refine rn_icmp_eq (tgt := 1419) dL_law_1312 (by decide) (ite_go h (fun hc h => ?_) (fun hc h => ?_))
  · refine rn_iinc (x := x3) (v := x3 + 6) (lv' := [(0, .ref SC), (1, .ref 0), (2, .ref 58), (3, .int (x3 + 6))]) dL_law_1419 (by simp) rfl (by decide) rfl rfl ?_
    refine rn_goto (tgt := 18) dL_law_1422 (by decide) ?_
    exact h
  · refine rn_iconst (v := 0) dL_law_1315 rfl ?_
    exact rn_zret dL_law_1316 rfl (by decide) ⟨_, rfl, h⟩
set_option maxRecDepth 20000 in
theorem sg_L_law_1317 {d : Nat} {x3 : Int32} {M : Mem} {K : (Int32 → Mem → Prop)} (h : (vp_in (x3 + 1) (sl M) ∧ (vp_in (x3 + 2) (sl M) ∧ (CI d μX8_ask [.ref 0, .int (ri M SC (nx (x3 + 1))), .int (ri M SC (nx (x3 + 2)))] M (fun r2 M1 => (vp_in (x3 + 1) (sl M1) ∧ (vp_in (x3 + 2) (sl M1) ∧ (CI d μX9_ask [.ref 58, .int (ri M1 SC (nx (x3 + 1))), .int (ri M1 SC (nx (x3 + 2)))] M1 (fun r4 M3 => (if r2 = r4 then RI (d + 1) μL_law 18 [(0, .ref SC), (1, .ref 0), (2, .ref 58), (3, .int (x3 + 6))] [] M3 K else K 0 M3)))))))))) : RI (d + 1) μL_law 1317 [(0, .ref SC), (1, .ref 0), (2, .ref 58), (3, .int x3)] [] M K := by
  show Rn (d + 1) μL_law 1317 [(0, .ref SC), (1, .ref 0), (2, .ref 58), (3, .int x3)] [] M _
  refine rn_aload_n (i := 1) (x := 0) dL_law_1317 rfl (by simp) ?_
  refine rn_aload_n (i := 0) (x := SC) dL_law_1318 rfl (by simp) ?_
  refine rn_iload_n (i := 3) (x := x3) dL_law_1319 rfl (by simp) ?_
  refine rn_iconst (v := 1) dL_law_1320 rfl ?_
  refine rn_iadd dL_law_1321 ?_
  obtain ⟨hi, h⟩ := h
  refine rn_sld dL_law_1322 hi ?_
  refine rn_aload_n (i := 0) (x := SC) dL_law_1323 rfl (by simp) ?_
  refine rn_iload_n (i := 3) (x := x3) dL_law_1324 rfl (by simp) ?_
  refine rn_iconst (v := 2) dL_law_1325 rfl ?_
  refine rn_iadd dL_law_1326 ?_
  obtain ⟨hi, h⟩ := h
  refine rn_sld dL_law_1327 hi ?_
  refine rn_callVi (as := [.int (ri M SC (nx (x3 + 1))), .int (ri M SC (nx (x3 + 2)))]) (st := []) dL_law_1328 mf_X8_ask lk_L_185 im_X8_ask rfl rfl rfl rfl (Nat.le_of_ble_eq_true rfl) (Nat.le_of_ble_eq_true rfl) rfl (RI.mono h (fun r2 M1 h => ?_))
  refine rn_aload_n (i := 2) (x := 58) dL_law_1331 rfl (by simp) ?_
  refine rn_aload_n (i := 0) (x := SC) dL_law_1332 rfl (by simp) ?_
  refine rn_iload_n (i := 3) (x := x3) dL_law_1333 rfl (by simp) ?_
  refine rn_iconst (v := 1) dL_law_1334 rfl ?_
  refine rn_iadd dL_law_1335 ?_
  obtain ⟨hi, h⟩ := h
  refine rn_sld dL_law_1336 hi ?_
  refine rn_aload_n (i := 0) (x := SC) dL_law_1337 rfl (by simp) ?_
  refine rn_iload_n (i := 3) (x := x3) dL_law_1338 rfl (by simp) ?_
  refine rn_iconst (v := 2) dL_law_1339 rfl ?_
  refine rn_iadd dL_law_1340 ?_
  obtain ⟨hi, h⟩ := h
  refine rn_sld dL_law_1341 hi ?_
  refine rn_callVi (as := [.int (ri M1 SC (nx (x3 + 1))), .int (ri M1 SC (nx (x3 + 2)))]) (st := [.int r2]) dL_law_1342 mf_X9_ask lk_L_188 im_X9_ask rfl rfl rfl rfl (Nat.le_of_ble_eq_true rfl) (Nat.le_of_ble_eq_true rfl) rfl (RI.mono h (fun r4 M3 h => ?_))
  refine rn_icmp_eq (tgt := 1419) dL_law_1345 (by decide) (ite_go h (fun hc h => ?_) (fun hc h => ?_))
  · refine rn_iinc (x := x3) (v := x3 + 6) (lv' := [(0, .ref SC), (1, .ref 0), (2, .ref 58), (3, .int (x3 + 6))]) dL_law_1419 (by simp) rfl (by decide) rfl rfl ?_
    refine rn_goto (tgt := 18) dL_law_1422 (by decide) ?_
    exact h
  · refine rn_iconst (v := 0) dL_law_1348 rfl ?_
    exact rn_zret dL_law_1349 rfl (by decide) ⟨_, rfl, h⟩
set_option maxRecDepth 20000 in
theorem sg_L_law_1350 {d : Nat} {x3 : Int32} {M : Mem} {K : (Int32 → Mem → Prop)} (h : (vp_in (x3 + 1) (sl M) ∧ (CI d μX8_image [.ref 0, .int (ri M SC (nx (x3 + 1)))] M (fun r2 M1 => (vp_in (x3 + 1) (sl M1) ∧ (CI d μX9_image [.ref 58, .int (ri M1 SC (nx (x3 + 1)))] M1 (fun r4 M3 => (if r2 = r4 then RI (d + 1) μL_law 18 [(0, .ref SC), (1, .ref 0), (2, .ref 58), (3, .int (x3 + 6))] [] M3 K else K 0 M3)))))))) : RI (d + 1) μL_law 1350 [(0, .ref SC), (1, .ref 0), (2, .ref 58), (3, .int x3)] [] M K := by
  show Rn (d + 1) μL_law 1350 [(0, .ref SC), (1, .ref 0), (2, .ref 58), (3, .int x3)] [] M _
  refine rn_aload_n (i := 1) (x := 0) dL_law_1350 rfl (by simp) ?_
  refine rn_aload_n (i := 0) (x := SC) dL_law_1351 rfl (by simp) ?_
  refine rn_iload_n (i := 3) (x := x3) dL_law_1352 rfl (by simp) ?_
  refine rn_iconst (v := 1) dL_law_1353 rfl ?_
  refine rn_iadd dL_law_1354 ?_
  obtain ⟨hi, h⟩ := h
  refine rn_sld dL_law_1355 hi ?_
  refine rn_callVi (as := [.int (ri M SC (nx (x3 + 1)))]) (st := []) dL_law_1356 mf_X8_image lk_L_189 im_X8_image rfl rfl rfl rfl (Nat.le_of_ble_eq_true rfl) (Nat.le_of_ble_eq_true rfl) rfl (RI.mono h (fun r2 M1 h => ?_))
  refine rn_aload_n (i := 2) (x := 58) dL_law_1359 rfl (by simp) ?_
  refine rn_aload_n (i := 0) (x := SC) dL_law_1360 rfl (by simp) ?_
  refine rn_iload_n (i := 3) (x := x3) dL_law_1361 rfl (by simp) ?_
  refine rn_iconst (v := 1) dL_law_1362 rfl ?_
  refine rn_iadd dL_law_1363 ?_
  obtain ⟨hi, h⟩ := h
  refine rn_sld dL_law_1364 hi ?_
  refine rn_callVi (as := [.int (ri M1 SC (nx (x3 + 1)))]) (st := [.int r2]) dL_law_1365 mf_X9_image lk_L_192 im_X9_image rfl rfl rfl rfl (Nat.le_of_ble_eq_true rfl) (Nat.le_of_ble_eq_true rfl) rfl (RI.mono h (fun r4 M3 h => ?_))
  refine rn_icmp_eq (tgt := 1419) dL_law_1368 (by decide) (ite_go h (fun hc h => ?_) (fun hc h => ?_))
  · refine rn_iinc (x := x3) (v := x3 + 6) (lv' := [(0, .ref SC), (1, .ref 0), (2, .ref 58), (3, .int (x3 + 6))]) dL_law_1419 (by simp) rfl (by decide) rfl rfl ?_
    refine rn_goto (tgt := 18) dL_law_1422 (by decide) ?_
    exact h
  · refine rn_iconst (v := 0) dL_law_1371 rfl ?_
    exact rn_zret dL_law_1372 rfl (by decide) ⟨_, rfl, h⟩
set_option maxRecDepth 20000 in
theorem sg_L_law_1373 {d : Nat} {x3 : Int32} {M : Mem} {K : (Int32 → Mem → Prop)} (h : (vp_in (x3 + 1) (sl M) ∧ (CI d μX8_back [.ref 0, .int (ri M SC (nx (x3 + 1)))] M (fun r2 M1 => (vp_in (x3 + 1) (sl M1) ∧ (CI d μX9_back [.ref 58, .int (ri M1 SC (nx (x3 + 1)))] M1 (fun r4 M3 => (if r2 = r4 then RI (d + 1) μL_law 18 [(0, .ref SC), (1, .ref 0), (2, .ref 58), (3, .int (x3 + 6))] [] M3 K else K 0 M3)))))))) : RI (d + 1) μL_law 1373 [(0, .ref SC), (1, .ref 0), (2, .ref 58), (3, .int x3)] [] M K := by
  show Rn (d + 1) μL_law 1373 [(0, .ref SC), (1, .ref 0), (2, .ref 58), (3, .int x3)] [] M _
  refine rn_aload_n (i := 1) (x := 0) dL_law_1373 rfl (by simp) ?_
  refine rn_aload_n (i := 0) (x := SC) dL_law_1374 rfl (by simp) ?_
  refine rn_iload_n (i := 3) (x := x3) dL_law_1375 rfl (by simp) ?_
  refine rn_iconst (v := 1) dL_law_1376 rfl ?_
  refine rn_iadd dL_law_1377 ?_
  obtain ⟨hi, h⟩ := h
  refine rn_sld dL_law_1378 hi ?_
  refine rn_callVi (as := [.int (ri M SC (nx (x3 + 1)))]) (st := []) dL_law_1379 mf_X8_back lk_L_193 im_X8_back rfl rfl rfl rfl (Nat.le_of_ble_eq_true rfl) (Nat.le_of_ble_eq_true rfl) rfl (RI.mono h (fun r2 M1 h => ?_))
  refine rn_aload_n (i := 2) (x := 58) dL_law_1382 rfl (by simp) ?_
  refine rn_aload_n (i := 0) (x := SC) dL_law_1383 rfl (by simp) ?_
  refine rn_iload_n (i := 3) (x := x3) dL_law_1384 rfl (by simp) ?_
  refine rn_iconst (v := 1) dL_law_1385 rfl ?_
  refine rn_iadd dL_law_1386 ?_
  obtain ⟨hi, h⟩ := h
  refine rn_sld dL_law_1387 hi ?_
  refine rn_callVi (as := [.int (ri M1 SC (nx (x3 + 1)))]) (st := [.int r2]) dL_law_1388 mf_X9_back lk_L_196 im_X9_back rfl rfl rfl rfl (Nat.le_of_ble_eq_true rfl) (Nat.le_of_ble_eq_true rfl) rfl (RI.mono h (fun r4 M3 h => ?_))
  refine rn_icmp_eq (tgt := 1419) dL_law_1391 (by decide) (ite_go h (fun hc h => ?_) (fun hc h => ?_))
  · refine rn_iinc (x := x3) (v := x3 + 6) (lv' := [(0, .ref SC), (1, .ref 0), (2, .ref 58), (3, .int (x3 + 6))]) dL_law_1419 (by simp) rfl (by decide) rfl rfl ?_
    refine rn_goto (tgt := 18) dL_law_1422 (by decide) ?_
    exact h
  · refine rn_iconst (v := 0) dL_law_1394 rfl ?_
    exact rn_zret dL_law_1395 rfl (by decide) ⟨_, rfl, h⟩
set_option maxRecDepth 20000 in
theorem sg_L_law_1396 {d : Nat} {x3 : Int32} {M : Mem} {K : (Int32 → Mem → Prop)} (h : (vp_in (x3 + 1) (sl M) ∧ (CI d μX8_about [.ref 0, .int (ri M SC (nx (x3 + 1)))] M (fun r2 M1 => (vp_in (x3 + 1) (sl M1) ∧ (CI d μX9_about [.ref 58, .int (ri M1 SC (nx (x3 + 1)))] M1 (fun r4 M3 => (if r2 = r4 then RI (d + 1) μL_law 18 [(0, .ref SC), (1, .ref 0), (2, .ref 58), (3, .int (x3 + 6))] [] M3 K else K 0 M3)))))))) : RI (d + 1) μL_law 1396 [(0, .ref SC), (1, .ref 0), (2, .ref 58), (3, .int x3)] [] M K := by
  show Rn (d + 1) μL_law 1396 [(0, .ref SC), (1, .ref 0), (2, .ref 58), (3, .int x3)] [] M _
  refine rn_aload_n (i := 1) (x := 0) dL_law_1396 rfl (by simp) ?_
  refine rn_aload_n (i := 0) (x := SC) dL_law_1397 rfl (by simp) ?_
  refine rn_iload_n (i := 3) (x := x3) dL_law_1398 rfl (by simp) ?_
  refine rn_iconst (v := 1) dL_law_1399 rfl ?_
  refine rn_iadd dL_law_1400 ?_
  obtain ⟨hi, h⟩ := h
  refine rn_sld dL_law_1401 hi ?_
  refine rn_callVi (as := [.int (ri M SC (nx (x3 + 1)))]) (st := []) dL_law_1402 mf_X8_about lk_L_197 im_X8_about rfl rfl rfl rfl (Nat.le_of_ble_eq_true rfl) (Nat.le_of_ble_eq_true rfl) rfl (RI.mono h (fun r2 M1 h => ?_))
  refine rn_aload_n (i := 2) (x := 58) dL_law_1405 rfl (by simp) ?_
  refine rn_aload_n (i := 0) (x := SC) dL_law_1406 rfl (by simp) ?_
  refine rn_iload_n (i := 3) (x := x3) dL_law_1407 rfl (by simp) ?_
  refine rn_iconst (v := 1) dL_law_1408 rfl ?_
  refine rn_iadd dL_law_1409 ?_
  obtain ⟨hi, h⟩ := h
  refine rn_sld dL_law_1410 hi ?_
  refine rn_callVi (as := [.int (ri M1 SC (nx (x3 + 1)))]) (st := [.int r2]) dL_law_1411 mf_X9_about lk_L_200 im_X9_about rfl rfl rfl rfl (Nat.le_of_ble_eq_true rfl) (Nat.le_of_ble_eq_true rfl) rfl (RI.mono h (fun r4 M3 h => ?_))
  refine rn_icmp_eq (tgt := 1419) dL_law_1414 (by decide) (ite_go h (fun hc h => ?_) (fun hc h => ?_))
  · refine rn_iinc (x := x3) (v := x3 + 6) (lv' := [(0, .ref SC), (1, .ref 0), (2, .ref 58), (3, .int (x3 + 6))]) dL_law_1419 (by simp) rfl (by decide) rfl rfl ?_
    refine rn_goto (tgt := 18) dL_law_1422 (by decide) ?_
    exact h
  · refine rn_iconst (v := 0) dL_law_1417 rfl ?_
    exact rn_zret dL_law_1418 rfl (by decide) ⟨_, rfl, h⟩
