theorem bp_10 : (Int8.ofInt 10).toInt32 = Int32.ofInt 10 := by decide +kernel
theorem bp_11 : (Int8.ofInt 11).toInt32 = Int32.ofInt 11 := by decide +kernel
theorem bp_119 : (Int8.ofInt 119).toInt32 = Int32.ofInt 119 := by decide +kernel
theorem bp_12 : (Int8.ofInt 12).toInt32 = Int32.ofInt 12 := by decide +kernel
theorem bp_122 : (Int8.ofInt 122).toInt32 = Int32.ofInt 122 := by decide +kernel
theorem bp_14 : (Int8.ofInt 14).toInt32 = Int32.ofInt 14 := by decide +kernel
theorem bp_15 : (Int8.ofInt 15).toInt32 = Int32.ofInt 15 := by decide +kernel
theorem bp_16 : (Int8.ofInt 16).toInt32 = Int32.ofInt 16 := by decide +kernel
theorem bp_17 : (Int8.ofInt 17).toInt32 = Int32.ofInt 17 := by decide +kernel
theorem bp_20 : (Int8.ofInt 20).toInt32 = Int32.ofInt 20 := by decide +kernel
theorem bp_21 : (Int8.ofInt 21).toInt32 = Int32.ofInt 21 := by decide +kernel
theorem bp_22 : (Int8.ofInt 22).toInt32 = Int32.ofInt 22 := by decide +kernel
theorem bp_23 : (Int8.ofInt 23).toInt32 = Int32.ofInt 23 := by decide +kernel
theorem bp_24 : (Int8.ofInt 24).toInt32 = Int32.ofInt 24 := by decide +kernel
theorem bp_25 : (Int8.ofInt 25).toInt32 = Int32.ofInt 25 := by decide +kernel
theorem bp_26 : (Int8.ofInt 26).toInt32 = Int32.ofInt 26 := by decide +kernel
theorem bp_27 : (Int8.ofInt 27).toInt32 = Int32.ofInt 27 := by decide +kernel
theorem bp_28 : (Int8.ofInt 28).toInt32 = Int32.ofInt 28 := by decide +kernel
theorem bp_29 : (Int8.ofInt 29).toInt32 = Int32.ofInt 29 := by decide +kernel
theorem bp_30 : (Int8.ofInt 30).toInt32 = Int32.ofInt 30 := by decide +kernel
theorem bp_31 : (Int8.ofInt 31).toInt32 = Int32.ofInt 31 := by decide +kernel
theorem bp_32 : (Int8.ofInt 32).toInt32 = Int32.ofInt 32 := by decide +kernel
theorem bp_36 : (Int8.ofInt 36).toInt32 = Int32.ofInt 36 := by decide +kernel
theorem bp_37 : (Int8.ofInt 37).toInt32 = Int32.ofInt 37 := by decide +kernel
theorem bp_39 : (Int8.ofInt 39).toInt32 = Int32.ofInt 39 := by decide +kernel
theorem bp_40 : (Int8.ofInt 40).toInt32 = Int32.ofInt 40 := by decide +kernel
theorem bp_41 : (Int8.ofInt 41).toInt32 = Int32.ofInt 41 := by decide +kernel
theorem bp_42 : (Int8.ofInt 42).toInt32 = Int32.ofInt 42 := by decide +kernel
theorem bp_43 : (Int8.ofInt 43).toInt32 = Int32.ofInt 43 := by decide +kernel
theorem bp_45 : (Int8.ofInt 45).toInt32 = Int32.ofInt 45 := by decide +kernel
theorem bp_47 : (Int8.ofInt 47).toInt32 = Int32.ofInt 47 := by decide +kernel
theorem bp_48 : (Int8.ofInt 48).toInt32 = Int32.ofInt 48 := by decide +kernel
theorem bp_50 : (Int8.ofInt 50).toInt32 = Int32.ofInt 50 := by decide +kernel
theorem bp_57 : (Int8.ofInt 57).toInt32 = Int32.ofInt 57 := by decide +kernel
theorem bp_59 : (Int8.ofInt 59).toInt32 = Int32.ofInt 59 := by decide +kernel
theorem bp_6 : (Int8.ofInt 6).toInt32 = Int32.ofInt 6 := by decide +kernel
theorem bp_60 : (Int8.ofInt 60).toInt32 = Int32.ofInt 60 := by decide +kernel
theorem bp_61 : (Int8.ofInt 61).toInt32 = Int32.ofInt 61 := by decide +kernel
theorem bp_62 : (Int8.ofInt 62).toInt32 = Int32.ofInt 62 := by decide +kernel
theorem bp_63 : (Int8.ofInt 63).toInt32 = Int32.ofInt 63 := by decide +kernel
theorem bp_7 : (Int8.ofInt 7).toInt32 = Int32.ofInt 7 := by decide +kernel
theorem bp_8 : (Int8.ofInt 8).toInt32 = Int32.ofInt 8 := by decide +kernel
theorem bp_9 : (Int8.ofInt 9).toInt32 = Int32.ofInt 9 := by decide +kernel
theorem bp_91 : (Int8.ofInt 91).toInt32 = Int32.ofInt 91 := by decide +kernel
theorem bp_93 : (Int8.ofInt 93).toInt32 = Int32.ofInt 93 := by decide +kernel
theorem bp_97 : (Int8.ofInt 97).toInt32 = Int32.ofInt 97 := by decide +kernel
theorem bp_98 : (Int8.ofInt 98).toInt32 = Int32.ofInt 98 := by decide +kernel
theorem bp_99 : (Int8.ofInt 99).toInt32 = Int32.ofInt 99 := by decide +kernel
theorem bp_m2 : (Int8.ofInt (-2)).toInt32 = Int32.ofInt (-2) := by decide +kernel
theorem bp_m3 : (Int8.ofInt (-3)).toInt32 = Int32.ofInt (-3) := by decide +kernel
theorem bp_m5 : (Int8.ofInt (-5)).toInt32 = Int32.ofInt (-5) := by decide +kernel
theorem bp_m6 : (Int8.ofInt (-6)).toInt32 = Int32.ofInt (-6) := by decide +kernel
theorem cs_RJ7_13 : m_CS RJ7 13 yJ7_rangeCheck_23922 := ⟨wd_170, wd_171⟩
theorem cs_RX0_101 : m_CS RX0 101 yX0_loseOld := ⟨wd_955, wd_956⟩
theorem cs_RX0_52 : m_CS RX0 52 yX0_challenge := ⟨wd_989, wd_990⟩
theorem cs_RX0_97 : m_CS RX0 97 yX0_dropAllOf := ⟨wd_948, wd_949⟩
theorem cs_RX10_25 : m_CS RX10 25 yJ7_fill_fda19 := ⟨wd_167, wd_168⟩
theorem cs_RX11_100 : m_CS RX11 100 yX11_within := ⟨wd_512, wd_513⟩
theorem cs_RX12_179 : m_CS RX12 179 yX12_in := ⟨wd_1618, wd_1619⟩
theorem cs_RX12_263 : m_CS RX12 263 yX12_isSmall := ⟨wd_1778, wd_1779⟩
theorem cs_RX12_266 : m_CS RX12 266 yX12_isDigit := ⟨wd_1781, wd_1782⟩
theorem cs_RX12_294 : m_CS RX12 294 yX12_binds := ⟨wd_1855, wd_1856⟩
theorem cs_RX12_439 : m_CS RX12 439 yX12_within := ⟨wd_1706, wd_1707⟩
theorem cs_RX12_452 : m_CS RX12 452 yX12_debtAt := ⟨wd_1697, wd_1698⟩
theorem cs_RX12_458 : m_CS RX12 458 yX12_is := ⟨wd_1937, wd_1938⟩
theorem cs_RX12_516 : m_CS RX12 516 yX12_ones := ⟨wd_2005, wd_2006⟩
theorem cs_RX5_72 : m_CS RX5 72 yX5_isLetter := ⟨wd_705, wd_706⟩
theorem cs_RX5_80 : m_CS RX5 80 yX5_isDigit := ⟨wd_761, wd_762⟩
theorem cs_RX6_80 : m_CS RX6 80 yJ7_fill_53178 := ⟨wd_1292, wd_1228⟩
theorem cs_RX6_86 : m_CS RX6 86 yX6_chosen := ⟨wd_1293, wd_1294⟩
theorem cs_RX7_70 : m_CS RX7 70 yJ6_bitCount_0f7a4 := ⟨wd_1157, wd_1158⟩
theorem cs_RX8_32 : m_CS RX8 32 yJ7_fill_fda19 := ⟨wd_781, wd_168⟩
theorem cs_RX9_61 : m_CS RX9 61 yJ7_fill_53178 := ⟨wd_1227, wd_1228⟩
theorem cs_RX9_76 : m_CS RX9 76 yJ6_bitCount_0f7a4 := ⟨wd_1248, wd_1158⟩
theorem cs_RX9_81 : m_CS RX9 81 yJ6_numberOfTrailingZeros_0f7a4 := ⟨wd_1249, wd_1250⟩
theorem cv_RX0_104 : m_CV RX0 104 yX10_copyFrom := ⟨wd_1319, wd_889, wd_890⟩
theorem cv_RX0_108 : m_CV RX0 108 yX0_draw := ⟨wd_1320, wd_1322, wd_48⟩
theorem cv_RX0_111 : m_CV RX0 111 yX0_mayGive := ⟨wd_1327, wd_969, wd_970⟩
theorem cv_RX0_115 : m_CV RX0 115 yX0_hand := ⟨wd_1328, wd_978, wd_979⟩
theorem cv_RX0_118 : m_CV RX0 118 yX0_passYear := ⟨wd_1329, wd_933, wd_934⟩
theorem cv_RX0_26 : m_CV RX0 26 yX10_goodAt := ⟨wd_972, wd_553, wd_554⟩
theorem cv_RX0_30 : m_CV RX0 30 yX10_isRuined := ⟨wd_944, wd_945, wd_946⟩
theorem cv_RX0_34 : m_CV RX0 34 yX2_bars := ⟨wd_973, wd_974, wd_975⟩
theorem cv_RX0_40 : m_CV RX0 40 yX2_worth := ⟨wd_981, wd_982, wd_983⟩
theorem cv_RX0_44 : m_CV RX0 44 yX10_setGood := ⟨wd_985, wd_986, wd_987⟩
theorem cv_RX0_48 : m_CV RX0 48 yX10_oneMoreOf := ⟨wd_963, wd_964, wd_965⟩
theorem cv_RX0_56 : m_CV RX0 56 yX10_worthOwed := ⟨wd_958, wd_917, wd_918⟩
theorem cv_RX0_59 : m_CV RX0 59 yX10_settle := ⟨wd_951, wd_952, wd_953⟩
theorem cv_RX0_62 : m_CV RX0 62 yX10_term := ⟨wd_936, wd_544, wd_545⟩
theorem cv_RX0_66 : m_CV RX0 66 yX10_stand := ⟨wd_992, wd_993, wd_994⟩
theorem cv_RX0_75 : m_CV RX0 75 yX10_since := ⟨wd_959, wd_960, wd_961⟩
theorem cv_RX0_78 : m_CV RX0 78 yX10_setTerm := ⟨wd_937, wd_646, wd_647⟩
theorem cv_RX0_81 : m_CV RX0 81 yX10_many := ⟨wd_938, wd_520, wd_521⟩
theorem cv_RX0_84 : m_CV RX0 84 yX10_lordAt := ⟨wd_939, wd_602, wd_603⟩
theorem cv_RX0_90 : m_CV RX0 90 yX2_upkeep := ⟨wd_941, wd_548, wd_549⟩
theorem cv_RX0_94 : m_CV RX0 94 yX10_setLord := ⟨wd_943, wd_617, wd_618⟩
theorem cv_RX10_37 : m_CV RX10 37 yX10_lordAt := ⟨wd_601, wd_602, wd_603⟩
theorem cv_RX10_41 : m_CV RX10 41 yX10_held := ⟨wd_605, wd_607, wd_5⟩
theorem cv_RX10_45 : m_CV RX10 45 yX10_many := ⟨wd_609, wd_520, wd_521⟩
theorem cv_RX10_48 : m_CV RX10 48 yX10_goodAt := ⟨wd_610, wd_553, wd_554⟩
theorem cv_RX10_51 : m_CV RX10 51 yX10_worthOwed := ⟨wd_916, wd_917, wd_918⟩
theorem cv_RX10_54 : m_CV RX10 54 yX10_standingAgainst := ⟨wd_1363, wd_913, wd_914⟩
theorem cv_RX11_104 : m_CV RX11 104 yX11_refuse := ⟨wd_515, wd_517, wd_0⟩
theorem cv_RX11_108 : m_CV RX11 108 yX10_many := ⟨wd_519, wd_520, wd_521⟩
theorem cv_RX11_111 : m_CV RX11 111 yX4_clear := ⟨wd_523, wd_524, wd_525⟩
theorem cv_RX11_114 : m_CV RX11 114 yX10_addLord := ⟨wd_527, wd_528, wd_529⟩
theorem cv_RX11_118 : m_CV RX11 118 yX11_accept := ⟨wd_531, wd_533, wd_1⟩
theorem cv_RX11_121 : m_CV RX11 121 yX10_isLord := ⟨wd_539, wd_540, wd_541⟩
theorem cv_RX11_125 : m_CV RX11 125 yX10_term := ⟨wd_543, wd_544, wd_545⟩
theorem cv_RX11_128 : m_CV RX11 128 yX2_upkeep := ⟨wd_547, wd_548, wd_549⟩
theorem cv_RX11_132 : m_CV RX11 132 yX10_seenOf := ⟨wd_597, wd_598, wd_599⟩
theorem cv_RX11_135 : m_CV RX11 135 yX10_lordAt := ⟨wd_615, wd_602, wd_603⟩
theorem cv_RX11_138 : m_CV RX11 138 yX10_setLord := ⟨wd_616, wd_617, wd_618⟩
theorem cv_RX11_142 : m_CV RX11 142 yX10_addGood := ⟨wd_624, wd_625, wd_626⟩
theorem cv_RX11_146 : m_CV RX11 146 yX10_isGood := ⟨wd_632, wd_633, wd_634⟩
theorem cv_RX11_149 : m_CV RX11 149 yX10_goodAt := ⟨wd_636, wd_553, wd_554⟩
theorem cv_RX11_152 : m_CV RX11 152 yX2_costs := ⟨wd_637, wd_638, wd_639⟩
theorem cv_RX11_156 : m_CV RX11 156 yX10_setTerm := ⟨wd_645, wd_646, wd_647⟩
theorem cv_RX11_160 : m_CV RX11 160 yX5_hasRoom := ⟨wd_653, wd_654, wd_655⟩
theorem cv_RX11_163 : m_CV RX11 163 yX5_append := ⟨wd_657, wd_658, wd_659⟩
theorem cv_RX11_167 : m_CV RX11 167 yX5_length := ⟨wd_661, wd_662, wd_663⟩
theorem cv_RX11_171 : m_CV RX11 171 yX5_cut := ⟨wd_669, wd_670, wd_671⟩
theorem cv_RX11_174 : m_CV RX11 174 yX5_byteAt := ⟨wd_677, wd_678, wd_679⟩
theorem cv_RX11_177 : m_CV RX11 177 yX11_comes := ⟨wd_681, wd_683, wd_6⟩
theorem cv_RX11_180 : m_CV RX11 180 yX5_reads := ⟨wd_693, wd_694, wd_695⟩
theorem cv_RX11_184 : m_CV RX11 184 yX5_text := ⟨wd_858, wd_859, wd_860⟩
theorem cv_RX11_197 : m_CV RX11 197 yX3_forget := ⟨wd_880, wd_881, wd_882⟩
theorem cv_RX11_200 : m_CV RX11 200 yX3_run := ⟨wd_884, wd_885, wd_886⟩
theorem cv_RX11_204 : m_CV RX11 204 yX5_faultPlace := ⟨wd_1000, wd_1001, wd_1002⟩
theorem cv_RX11_207 : m_CV RX11 207 yX3_stoppedAt := ⟨wd_1008, wd_1009, wd_1010⟩
theorem cv_RX11_210 : m_CV RX11 210 yX10_inForce := ⟨wd_1016, wd_1017, wd_1018⟩
theorem cv_RX11_213 : m_CV RX11 213 yX10_setForce := ⟨wd_1020, wd_1021, wd_1022⟩
theorem cv_RX11_216 : m_CV RX11 216 yX2_worth := ⟨wd_1028, wd_982, wd_983⟩
theorem cv_RX11_219 : m_CV RX11 219 yX2_bars := ⟨wd_1029, wd_974, wd_975⟩
theorem cv_RX11_223 : m_CV RX11 223 yX0_mayGive := ⟨wd_1034, wd_969, wd_970⟩
theorem cv_RX11_227 : m_CV RX11 227 yX4_keep := ⟨wd_1035, wd_924, wd_925⟩
theorem cv_RX11_231 : m_CV RX11 231 yX0_hand := ⟨wd_1036, wd_978, wd_979⟩
theorem cv_RX11_234 : m_CV RX11 234 yX0_passYear := ⟨wd_1041, wd_933, wd_934⟩
theorem cv_RX11_238 : m_CV RX11 238 yX4_takeBack := ⟨wd_1046, wd_1047, wd_1048⟩
theorem cv_RX11_242 : m_CV RX11 242 yX10_worthOwed := ⟨wd_1058, wd_917, wd_918⟩
theorem cv_RX11_245 : m_CV RX11 245 yX10_since := ⟨wd_1059, wd_960, wd_961⟩
theorem cv_RX11_248 : m_CV RX11 248 yX10_standingAgainst := ⟨wd_1064, wd_913, wd_914⟩
theorem cv_RX11_251 : m_CV RX11 251 yX10_greatestCreditor := ⟨wd_1065, wd_1066, wd_1067⟩
theorem cv_RX11_254 : m_CV RX11 254 yX1_answer := ⟨wd_1073, wd_1074, wd_1075⟩
theorem cv_RX11_257 : m_CV RX11 257 yX7_fallOf := ⟨wd_1119, wd_1120, wd_1121⟩
theorem cv_RX11_260 : m_CV RX11 260 yX7_answer := ⟨wd_1132, wd_1133, wd_1134⟩
theorem cv_RX11_263 : m_CV RX11 263 yX10_addHerald := ⟨wd_1171, wd_1172, wd_1173⟩
theorem cv_RX11_266 : m_CV RX11 266 yX2_middle := ⟨wd_1179, wd_1180, wd_1181⟩
theorem cv_RX11_269 : m_CV RX11 269 yX2_voice := ⟨wd_1191, wd_1188, wd_1189⟩
theorem cv_RX11_272 : m_CV RX11 272 yX2_cheapestBribe := ⟨wd_1196, wd_1197, wd_1198⟩
theorem cv_RX11_275 : m_CV RX11 275 yX10_addRoad := ⟨wd_1209, wd_1210, wd_1211⟩
theorem cv_RX11_279 : m_CV RX11 279 yX9_answer := ⟨wd_1217, wd_1218, wd_1219⟩
theorem cv_RX11_280 : m_CV RX11 280 yX9_ofRing := ⟨wd_1244, wd_1245, wd_1246⟩
theorem cv_RX11_283 : m_CV RX11 283 yX10_toldHolder := ⟨wd_1262, wd_1263, wd_1264⟩
theorem cv_RX11_286 : m_CV RX11 286 yX10_tellHolder := ⟨wd_1266, wd_1267, wd_1268⟩
theorem cv_RX11_289 : m_CV RX11 289 yX6_answer := ⟨wd_1274, wd_1275, wd_1276⟩
theorem cv_RX11_291 : m_CV RX11 291 yX6_beating := ⟨wd_1304, wd_1305, wd_1306⟩
theorem cv_RX11_295 : m_CV RX11 295 yX0_playOut := ⟨wd_1315, wd_1316, wd_1317⟩
theorem cv_RX11_298 : m_CV RX11 298 yX0_latestDrawn := ⟨wd_1334, wd_1335, wd_1336⟩
theorem cv_RX11_302 : m_CV RX11 302 yX10_copyFrom := ⟨wd_1342, wd_889, wd_890⟩
theorem cv_RX11_306 : m_CV RX11 306 yX10_markKept := ⟨wd_1343, wd_1344, wd_1345⟩
theorem cv_RX11_309 : m_CV RX11 309 yX10_isKept := ⟨wd_1351, wd_1352, wd_1353⟩
theorem cv_RX11_313 : m_CV RX11 313 yX10_standing := ⟨wd_1359, wd_1360, wd_1361⟩
theorem cv_RX11_316 : m_CV RX11 316 yX4_size := ⟨wd_1364, wd_1365, wd_1366⟩
theorem cv_RX12_175 : m_CV RX12 175 yX12_tell := ⟨wd_1621, wd_1623, wd_49⟩
theorem cv_RX12_183 : m_CV RX12 183 yX12_settled := ⟨wd_1629, wd_1631, wd_50⟩
theorem cv_RX12_190 : m_CV RX12 190 yX12_ofGood := ⟨wd_1656, wd_1658, wd_54⟩
theorem cv_RX12_194 : m_CV RX12 194 yX12_costOf := ⟨wd_1668, wd_1670, wd_57⟩
theorem cv_RX12_198 : m_CV RX12 198 yX12_isLord := ⟨wd_1643, wd_1645, wd_51⟩
theorem cv_RX12_204 : m_CV RX12 204 yX12_ofLord := ⟨wd_1648, wd_1650, wd_52⟩
theorem cv_RX12_207 : m_CV RX12 207 yX12_held := ⟨wd_1652, wd_1654, wd_53⟩
theorem cv_RX12_210 : m_CV RX12 210 yX12_year := ⟨wd_1660, wd_1662, wd_55⟩
theorem cv_RX12_214 : m_CV RX12 214 yX12_costs := ⟨wd_1664, wd_1666, wd_56⟩
theorem cv_RX12_217 : m_CV RX12 217 yX12_was := ⟨wd_1713, wd_1715, wd_65⟩
theorem cv_RX12_222 : m_CV RX12 222 yX12_good1 := ⟨wd_1721, wd_1723, wd_66⟩
theorem cv_RX12_225 : m_CV RX12 225 yX12_isGood := ⟨wd_1688, wd_1690, wd_62⟩
theorem cv_RX12_242 : m_CV RX12 242 yX12_four := ⟨wd_1750, wd_1752, wd_67⟩
theorem cv_RX12_253 : m_CV RX12 253 yX12_next := ⟨wd_1774, wd_1776, wd_70⟩
theorem cv_RX12_284 : m_CV RX12 284 yX12_must := ⟨wd_1800, wd_1802, wd_73⟩
theorem cv_RX12_297 : m_CV RX12 297 yX12_emit := ⟨wd_1842, wd_1844, wd_83⟩
theorem cv_RX12_307 : m_CV RX12 307 yX12_isWord := ⟨wd_1794, wd_1796, wd_72⟩
theorem cv_RX12_314 : m_CV RX12 314 yX12_push := ⟨wd_1813, wd_1815, wd_76⟩
theorem cv_RX12_320 : m_CV RX12 320 yX12_isSign := ⟨wd_1817, wd_1819, wd_77⟩
theorem cv_RX12_323 : m_CV RX12 323 yX12_openBracket := ⟨wd_1821, wd_1823, wd_78⟩
theorem cv_RX12_329 : m_CV RX12 329 yX12_orderPartAt := ⟨wd_1829, wd_1831, wd_80⟩
theorem cv_RX12_332 : m_CV RX12 332 yX12_partAt := ⟨wd_1833, wd_1835, wd_81⟩
theorem cv_RX12_337 : m_CV RX12 337 yX12_leaf := ⟨wd_1838, wd_1840, wd_82⟩
theorem cv_RX12_343 : m_CV RX12 343 yX12_number := ⟨wd_1847, wd_1849, wd_84⟩
theorem cv_RX12_349 : m_CV RX12 349 yX12_readPart := ⟨wd_1825, wd_1827, wd_79⟩
theorem cv_RX12_352 : m_CV RX12 352 yX12_settle := ⟨wd_1858, wd_1860, wd_86⟩
theorem cv_RX12_355 : m_CV RX12 355 yX12_inner := ⟨wd_1862, wd_1864, wd_87⟩
theorem cv_RX12_358 : m_CV RX12 358 yX12_isCompared := ⟨wd_1866, wd_1868, wd_88⟩
theorem cv_RX12_366 : m_CV RX12 366 yX12_readPlain := ⟨wd_1808, wd_1810, wd_75⟩
theorem cv_RX12_369 : m_CV RX12 369 yX12_behindSum := ⟨wd_1851, wd_1853, wd_85⟩
theorem cv_RX12_373 : m_CV RX12 373 yX12_behindTest := ⟨wd_1873, wd_1875, wd_89⟩
theorem cv_RX12_376 : m_CV RX12 376 yX12_begin := ⟨wd_1770, wd_1772, wd_69⟩
theorem cv_RX12_388 : m_CV RX12 388 yX12_readExpression := ⟨wd_1804, wd_1806, wd_74⟩
theorem cv_RX12_393 : m_CV RX12 393 yX12_beginText := ⟨wd_1766, wd_1768, wd_68⟩
theorem cv_RX12_396 : m_CV RX12 396 yX12_readLaw := ⟨wd_1789, wd_1791, wd_71⟩
theorem cv_RX12_399 : m_CV RX12 399 yX12_endText := ⟨wd_1880, wd_1882, wd_90⟩
theorem cv_RX12_408 : m_CV RX12 408 yX12_askedOf := ⟨wd_1684, wd_1686, wd_61⟩
theorem cv_RX12_412 : m_CV RX12 412 yX12_reckon := ⟨wd_1700, wd_1702, wd_64⟩
theorem cv_RX12_423 : m_CV RX12 423 yX12_debtsOf := ⟨wd_1693, wd_1695, wd_63⟩
theorem cv_RX12_426 : m_CV RX12 426 yX12_reckonAll := ⟨wd_1680, wd_1682, wd_60⟩
theorem cv_RX12_432 : m_CV RX12 432 yX12_isSo := ⟨wd_1676, wd_1678, wd_59⟩
theorem cv_RX12_435 : m_CV RX12 435 yX12_tells1 := ⟨wd_1672, wd_1674, wd_58⟩
theorem cv_RX12_445 : m_CV RX12 445 yX12_worthOf := ⟨wd_1893, wd_1895, wd_91⟩
theorem cv_RX12_448 : m_CV RX12 448 yX12_isBarred := ⟨wd_1897, wd_1899, wd_92⟩
theorem cv_RX12_462 : m_CV RX12 462 yX12_keepRow := ⟨wd_1909, wd_1911, wd_94⟩
theorem cv_RX12_465 : m_CV RX12 465 yX12_gift := ⟨wd_1913, wd_1915, wd_95⟩
theorem cv_RX12_468 : m_CV RX12 468 yX12_remember := ⟨wd_1917, wd_1919, wd_96⟩
theorem cv_RX12_471 : m_CV RX12 471 yX12_putBack := ⟨wd_1921, wd_1923, wd_97⟩
theorem cv_RX12_474 : m_CV RX12 474 yX12_wait1 := ⟨wd_1933, wd_1935, wd_99⟩
theorem cv_RX12_477 : m_CV RX12 477 yX12_giveNow := ⟨wd_1905, wd_1907, wd_93⟩
theorem cv_RX12_480 : m_CV RX12 480 yX12_waitNow := ⟨wd_1929, wd_1931, wd_98⟩
theorem cv_RX12_483 : m_CV RX12 483 yX12_undoRow := ⟨wd_1944, wd_1946, wd_100⟩
theorem cv_RX12_486 : m_CV RX12 486 yX12_grainLeft := ⟨wd_1980, wd_1982, wd_106⟩
theorem cv_RX12_489 : m_CV RX12 489 yX12_lastOf := ⟨wd_1968, wd_1970, wd_103⟩
theorem cv_RX12_492 : m_CV RX12 492 yX12_canGive := ⟨wd_1972, wd_1974, wd_104⟩
theorem cv_RX12_496 : m_CV RX12 496 yX12_isWon := ⟨wd_1976, wd_1978, wd_105⟩
theorem cv_RX12_499 : m_CV RX12 499 yX12_layGoods := ⟨wd_1960, wd_1962, wd_101⟩
theorem cv_RX12_503 : m_CV RX12 503 yX12_findWins := ⟨wd_1964, wd_1966, wd_102⟩
theorem cv_RX12_506 : m_CV RX12 506 yX12_playOf := ⟨wd_1984, wd_1986, wd_107⟩
theorem cv_RX12_509 : m_CV RX12 509 yX12_layYears := ⟨wd_1992, wd_1994, wd_108⟩
theorem cv_RX12_512 : m_CV RX12 512 yX12_ruinedIn := ⟨wd_1996, wd_1998, wd_109⟩
theorem cv_RX12_519 : m_CV RX12 519 yX12_toldBy := ⟨wd_2020, wd_2022, wd_111⟩
theorem cv_RX12_522 : m_CV RX12 522 yX12_middle := ⟨wd_2016, wd_2018, wd_110⟩
theorem cv_RX12_536 : m_CV RX12 536 yX12_isAhead := ⟨wd_2048, wd_2050, wd_114⟩
theorem cv_RX12_542 : m_CV RX12 542 yX12_weighWay := ⟨wd_2042, wd_2044, wd_113⟩
theorem cv_RX12_545 : m_CV RX12 545 yX12_goesOn := ⟨wd_2052, wd_2054, wd_115⟩
theorem cv_RX12_550 : m_CV RX12 550 yX12_findWay := ⟨wd_2038, wd_2040, wd_112⟩
theorem cv_RX12_559 : m_CV RX12 559 yX12_isFresh := ⟨wd_2064, wd_2066, wd_117⟩
theorem cv_RX12_562 : m_CV RX12 562 yX12_weighRing := ⟨wd_2068, wd_2070, wd_118⟩
theorem cv_RX12_565 : m_CV RX12 565 yX12_findRing := ⟨wd_2060, wd_2062, wd_116⟩
theorem cv_RX12_571 : m_CV RX12 571 yX12_isTold := ⟨wd_2084, wd_2086, wd_120⟩
theorem cv_RX12_574 : m_CV RX12 574 yX12_keepGifts := ⟨wd_2088, wd_2090, wd_121⟩
theorem cv_RX12_577 : m_CV RX12 577 yX12_canBe := ⟨wd_2092, wd_2094, wd_122⟩
theorem cv_RX12_580 : m_CV RX12 580 yX12_findGifts := ⟨wd_2080, wd_2082, wd_119⟩
theorem cv_RX12_587 : m_CV RX12 587 yX12_readSum := ⟨wd_2110, wd_2112, wd_124⟩
theorem cv_RX12_601 : m_CV RX12 601 yX12_sumOf := ⟨wd_2119, wd_2121, wd_126⟩
theorem cv_RX12_605 : m_CV RX12 605 yX12_readOrder := ⟨wd_2104, wd_2106, wd_123⟩
theorem cv_RX12_608 : m_CV RX12 608 yX12_run := ⟨wd_2115, wd_2117, wd_125⟩
theorem cv_RX12_622 : m_CV RX12 622 yX12_draw := ⟨wd_2132, wd_2134, wd_127⟩
theorem cv_RX12_630 : m_CV RX12 630 yX12_allDebts := ⟨wd_2148, wd_2150, wd_128⟩
theorem cv_RX1_31 : m_CV RX1 31 yX1_gather := ⟨wd_1077, wd_1079, wd_29⟩
theorem cv_RX1_35 : m_CV RX1 35 yX1_wins := ⟨wd_1091, wd_1093, wd_30⟩
theorem cv_RX1_39 : m_CV RX1 39 yX1_winning := ⟨wd_1099, wd_1101, wd_32⟩
theorem cv_RX1_43 : m_CV RX1 43 yX1_lowestWinning := ⟨wd_1103, wd_1105, wd_33⟩
theorem cv_RX1_47 : m_CV RX1 47 yX1_length := ⟨wd_1107, wd_1109, wd_34⟩
theorem cv_RX1_52 : m_CV RX1 52 yX10_lordAt := ⟨wd_1081, wd_602, wd_603⟩
theorem cv_RX1_56 : m_CV RX1 56 yX10_term := ⟨wd_1082, wd_544, wd_545⟩
theorem cv_RX1_60 : m_CV RX1 60 yX10_many := ⟨wd_1083, wd_520, wd_521⟩
theorem cv_RX1_62 : m_CV RX1 62 yX10_isOwnedAndHeld := ⟨wd_1084, wd_1085, wd_1086⟩
theorem cv_RX1_66 : m_CV RX1 66 yX2_bars := ⟨wd_1088, wd_974, wd_975⟩
theorem cv_RX1_72 : m_CV RX1 72 yX2_worth := ⟨wd_1089, wd_982, wd_983⟩
theorem cv_RX1_76 : m_CV RX1 76 yX2_costs := ⟨wd_1090, wd_638, wd_639⟩
theorem cv_RX1_78 : m_CV RX1 78 yX1_winsBy := ⟨wd_1095, wd_1097, wd_31⟩
theorem cv_RX1_82 : m_CV RX1 82 yX1_lowestPossible := ⟨wd_1111, wd_1113, wd_35⟩
theorem cv_RX2_25 : m_CV RX2 25 yX10_term := ⟨wd_560, wd_544, wd_545⟩
theorem cv_RX2_29 : m_CV RX2 29 yX2_ask := ⟨wd_556, wd_558, wd_2⟩
theorem cv_RX2_33 : m_CV RX2 33 yX10_lawInForce := ⟨wd_561, wd_562, wd_563⟩
theorem cv_RX2_39 : m_CV RX2 39 yX10_goodAt := ⟨wd_552, wd_553, wd_554⟩
theorem cv_RX2_43 : m_CV RX2 43 yX2_told := ⟨wd_565, wd_567, wd_3⟩
theorem cv_RX2_47 : m_CV RX2 47 yX8_clauses := ⟨wd_569, wd_570, wd_571⟩
theorem cv_RX2_51 : m_CV RX2 51 yX8_part := ⟨wd_573, wd_574, wd_575⟩
theorem cv_RX2_54 : m_CV RX2 54 yX8_isSo := ⟨wd_577, wd_578, wd_579⟩
theorem cv_RX2_58 : m_CV RX2 58 yX10_many := ⟨wd_551, wd_520, wd_521⟩
theorem cv_RX2_61 : m_CV RX2 61 yX8_sum := ⟨wd_588, wd_589, wd_590⟩
theorem cv_RX2_74 : m_CV RX2 74 yX2_voice := ⟨wd_1187, wd_1188, wd_1189⟩
theorem cv_RX2_78 : m_CV RX2 78 yX2_hear := ⟨wd_1183, wd_1185, wd_41⟩
theorem cv_RX2_82 : m_CV RX2 82 yX2_middle := ⟨wd_1200, wd_1180, wd_1181⟩
theorem cv_RX2_85 : m_CV RX2 85 yX10_price := ⟨wd_1201, wd_1202, wd_1203⟩
theorem cv_RX3_101 : m_CV RX3 101 yX0_mayGive := ⟨wd_968, wd_969, wd_970⟩
theorem cv_RX3_105 : m_CV RX3 105 yX0_hand := ⟨wd_977, wd_978, wd_979⟩
theorem cv_RX3_109 : m_CV RX3 109 yX10_many := ⟨wd_909, wd_520, wd_521⟩
theorem cv_RX3_112 : m_CV RX3 112 yX10_lordAt := ⟨wd_911, wd_602, wd_603⟩
theorem cv_RX3_115 : m_CV RX3 115 yX10_standingAgainst := ⟨wd_912, wd_913, wd_914⟩
theorem cv_RX3_118 : m_CV RX3 118 yX10_goodAt := ⟨wd_921, wd_553, wd_554⟩
theorem cv_RX3_48 : m_CV RX3 48 yX10_copyFrom := ⟨wd_888, wd_889, wd_890⟩
theorem cv_RX3_52 : m_CV RX3 52 yX4_copyFrom := ⟨wd_893, wd_894, wd_895⟩
theorem cv_RX3_55 : m_CV RX3 55 yX8_clauses := ⟨wd_898, wd_570, wd_571⟩
theorem cv_RX3_59 : m_CV RX3 59 yX8_part := ⟨wd_899, wd_574, wd_575⟩
theorem cv_RX3_63 : m_CV RX3 63 yX3_step := ⟨wd_900, wd_902, wd_27⟩
theorem cv_RX3_67 : m_CV RX3 67 yX3_look := ⟨wd_904, wd_906, wd_28⟩
theorem cv_RX3_70 : m_CV RX3 70 yX8_isSo := ⟨wd_922, wd_578, wd_579⟩
theorem cv_RX3_76 : m_CV RX3 76 yX10_term := ⟨wd_908, wd_544, wd_545⟩
theorem cv_RX3_80 : m_CV RX3 80 yX4_keep := ⟨wd_923, wd_924, wd_925⟩
theorem cv_RX3_84 : m_CV RX3 84 yX0_passYear := ⟨wd_932, wd_933, wd_934⟩
theorem cv_RX3_90 : m_CV RX3 90 yX8_sum := ⟨wd_967, wd_589, wd_590⟩
theorem cv_RX3_94 : m_CV RX3 94 yX10_isGood := ⟨wd_920, wd_633, wd_634⟩
theorem cv_RX3_98 : m_CV RX3 98 yX10_isLord := ⟨wd_910, wd_540, wd_541⟩
theorem cv_RX4_33 : m_CV RX4 33 yX10_saveTo := ⟨wd_927, wd_928, wd_929⟩
theorem cv_RX4_43 : m_CV RX4 43 yX10_restoreFrom := ⟨wd_1050, wd_1051, wd_1052⟩
theorem cv_RX5_102 : m_CV RX5 102 yX8_open := ⟨wd_777, wd_778, wd_779⟩
theorem cv_RX5_106 : m_CV RX5 106 yX5_sumOf := ⟨wd_786, wd_788, wd_13⟩
theorem cv_RX5_110 : m_CV RX5 110 yX5_condition := ⟨wd_846, wd_848, wd_24⟩
theorem cv_RX5_113 : m_CV RX5 113 yX5_times := ⟨wd_854, wd_856, wd_26⟩
theorem cv_RX5_116 : m_CV RX5 116 yX8_setPart := ⟨wd_794, wd_795, wd_796⟩
theorem cv_RX5_120 : m_CV RX5 120 yX8_size := ⟨wd_790, wd_791, wd_792⟩
theorem cv_RX5_123 : m_CV RX5 123 yX5_test := ⟨wd_814, wd_816, wd_18⟩
theorem cv_RX5_126 : m_CV RX5 126 yX5_sum := ⟨wd_798, wd_800, wd_14⟩
theorem cv_RX5_129 : m_CV RX5 129 yX5_both := ⟨wd_818, wd_820, wd_19⟩
theorem cv_RX5_132 : m_CV RX5 132 yX8_add := ⟨wd_830, wd_831, wd_832⟩
theorem cv_RX5_135 : m_CV RX5 135 yX8_landHere := ⟨wd_834, wd_835, wd_836⟩
theorem cv_RX5_139 : m_CV RX5 139 yX5_plain := ⟨wd_822, wd_824, wd_20⟩
theorem cv_RX5_142 : m_CV RX5 142 yX5_bracketed := ⟨wd_810, wd_812, wd_17⟩
theorem cv_RX5_146 : m_CV RX5 146 yX5_comparison := ⟨wd_826, wd_828, wd_21⟩
theorem cv_RX5_149 : m_CV RX5 149 yX5_term := ⟨wd_802, wd_804, wd_15⟩
theorem cv_RX5_152 : m_CV RX5 152 yX5_part := ⟨wd_806, wd_808, wd_16⟩
theorem cv_RX5_155 : m_CV RX5 155 yX5_lawWord := ⟨wd_838, wd_840, wd_22⟩
theorem cv_RX5_158 : m_CV RX5 158 yX5_orderWord := ⟨wd_842, wd_844, wd_23⟩
theorem cv_RX5_53 : m_CV RX5 53 yX8_empty := ⟨wd_697, wd_698, wd_699⟩
theorem cv_RX5_56 : m_CV RX5 56 yX5_scan := ⟨wd_701, wd_703, wd_7⟩
theorem cv_RX5_59 : m_CV RX5 59 yX5_lawClause := ⟨wd_769, wd_771, wd_10⟩
theorem cv_RX5_63 : m_CV RX5 63 yX5_orderClause := ⟨wd_850, wd_852, wd_25⟩
theorem cv_RX5_66 : m_CV RX5 66 yX5_advance := ⟨wd_782, wd_784, wd_12⟩
theorem cv_RX5_69 : m_CV RX5 69 yX5_wrong := ⟨wd_773, wd_775, wd_11⟩
theorem cv_RX5_76 : m_CV RX5 76 yX5_wordOf := ⟨wd_708, wd_710, wd_8⟩
theorem cv_RX5_83 : m_CV RX5 83 yX5_numberOf := ⟨wd_764, wd_766, wd_9⟩
theorem cv_RX6_44 : m_CV RX6 44 yX10_many := ⟨wd_1278, wd_520, wd_521⟩
theorem cv_RX6_54 : m_CV RX6 54 yX10_goodAt := ⟨wd_1280, wd_553, wd_554⟩
theorem cv_RX6_57 : m_CV RX6 57 yX6_lookAt := ⟨wd_1281, wd_1283, wd_45⟩
theorem cv_RX6_61 : m_CV RX6 61 yX6_rows := ⟨wd_1288, wd_1290, wd_46⟩
theorem cv_RX6_64 : m_CV RX6 64 yX6_takeFirst := ⟨wd_1296, wd_1298, wd_47⟩
theorem cv_RX6_68 : m_CV RX6 68 yX10_toldHolder := ⟨wd_1285, wd_1263, wd_1264⟩
theorem cv_RX6_71 : m_CV RX6 71 yX10_isRuined := ⟨wd_1286, wd_945, wd_946⟩
theorem cv_RX6_74 : m_CV RX6 74 yX2_bars := ⟨wd_1287, wd_974, wd_975⟩
theorem cv_RX6_89 : m_CV RX6 89 yX2_worth := ⟨wd_1308, wd_982, wd_983⟩
theorem cv_RX7_38 : m_CV RX7 38 yX10_isRuined := ⟨wd_1123, wd_945, wd_946⟩
theorem cv_RX7_44 : m_CV RX7 44 yX10_lordAt := ⟨wd_1124, wd_602, wd_603⟩
theorem cv_RX7_48 : m_CV RX7 48 yX10_term := ⟨wd_1125, wd_544, wd_545⟩
theorem cv_RX7_57 : m_CV RX7 57 yX2_upkeep := ⟨wd_1127, wd_548, wd_549⟩
theorem cv_RX7_63 : m_CV RX7 63 yX7_gather := ⟨wd_1136, wd_1138, wd_36⟩
theorem cv_RX7_67 : m_CV RX7 67 yX7_cheapest := ⟨wd_1145, wd_1147, wd_37⟩
theorem cv_RX7_75 : m_CV RX7 75 yX7_worthOf := ⟨wd_1153, wd_1155, wd_39⟩
theorem cv_RX7_78 : m_CV RX7 78 yX7_bitsOf := ⟨wd_1163, wd_1165, wd_40⟩
theorem cv_RX7_81 : m_CV RX7 81 yX10_many := ⟨wd_1140, wd_520, wd_521⟩
theorem cv_RX7_83 : m_CV RX7 83 yX10_isOwnedAndHeld := ⟨wd_1141, wd_1085, wd_1086⟩
theorem cv_RX7_87 : m_CV RX7 87 yX2_bars := ⟨wd_1142, wd_974, wd_975⟩
theorem cv_RX7_91 : m_CV RX7 91 yX2_worth := ⟨wd_1143, wd_982, wd_983⟩
theorem cv_RX7_95 : m_CV RX7 95 yX2_costs := ⟨wd_1144, wd_638, wd_639⟩
theorem cv_RX7_97 : m_CV RX7 97 yX7_falls := ⟨wd_1149, wd_1151, wd_38⟩
theorem cv_RX8_47 : m_CV RX8 47 yX8_value := ⟨wd_581, wd_583, wd_4⟩
theorem cv_RX9_40 : m_CV RX9 40 yX9_draw := ⟨wd_1221, wd_1223, wd_42⟩
theorem cv_RX9_45 : m_CV RX9 45 yX9_walk := ⟨wd_1235, wd_1237, wd_43⟩
theorem cv_RX9_51 : m_CV RX9 51 yX10_many := ⟨wd_1225, wd_520, wd_521⟩
theorem cv_RX9_67 : m_CV RX9 67 yX10_roadAt := ⟨wd_1230, wd_1231, wd_1232⟩
theorem cv_RX9_84 : m_CV RX9 84 yX9_closes := ⟨wd_1253, wd_1255, wd_44⟩
theorem cv_RX9_88 : m_CV RX9 88 yX10_worthOwed := ⟨wd_1257, wd_917, wd_918⟩
theorem cw_J6_bitCount_0f7a4 : m_CW yJ6_bitCount_0f7a4 cJ6_bitCount_0f7a4 1 (some .int) 1 := ⟨wd_150, wd_1159, by decide +kernel, by decide⟩
theorem cw_J6_numberOfTrailingZeros_0f7a4 : m_CW yJ6_numberOfTrailingZeros_0f7a4 cJ6_numberOfTrailingZeros_0f7a4 2 (some .int) 1 := ⟨wd_150, wd_1251, by decide +kernel, by decide⟩
theorem cw_J7_fill_53178 : m_CW yJ7_fill_53178 cJ7_fill_53178 4 none 2 := ⟨wd_132, wd_1229, by decide +kernel, by decide⟩
theorem cw_J7_fill_fda19 : m_CW yJ7_fill_fda19 cJ7_fill_fda19 5 none 4 := ⟨wd_132, wd_169, by decide +kernel, by decide⟩
theorem cw_J7_rangeCheck_23922 : m_CW yJ7_rangeCheck_23922 cJ7_rangeCheck_23922 3 none 3 := ⟨wd_132, wd_172, by decide +kernel, by decide⟩
theorem cw_X0_challenge : m_CW yX0_challenge cX0_challenge 6 none 4 := ⟨wd_138, wd_991, by decide +kernel, by decide⟩
theorem cw_X0_draw : m_CW yX0_draw cX0_draw 2 (some .int) 1 := ⟨wd_138, wd_1323, by decide +kernel, by decide⟩
theorem cw_X0_dropAllOf : m_CW yX0_dropAllOf cX0_dropAllOf 3 none 2 := ⟨wd_138, wd_950, by decide +kernel, by decide⟩
theorem cw_X0_hand : m_CW yX0_hand cX0_hand 6 (some .int) 3 := ⟨wd_138, wd_980, by decide +kernel, by decide⟩
theorem cw_X0_latestDrawn : m_CW yX0_latestDrawn cX0_latestDrawn 1 (some (.object "GiftDuel$World")) 0 := ⟨wd_138, wd_1337, by decide +kernel, by decide⟩
theorem cw_X0_loseOld : m_CW yX0_loseOld cX0_loseOld 4 none 2 := ⟨wd_138, wd_957, by decide +kernel, by decide⟩
theorem cw_X0_mayGive : m_CW yX0_mayGive cX0_mayGive 5 (some .boolean) 3 := ⟨wd_138, wd_971, by decide +kernel, by decide⟩
theorem cw_X0_passYear : m_CW yX0_passYear cX0_passYear 9 (some .int) 2 := ⟨wd_138, wd_935, by decide +kernel, by decide⟩
theorem cw_X0_playOut : m_CW yX0_playOut cX0_playOut 10 (some .int) 3 := ⟨wd_138, wd_1318, by decide +kernel, by decide⟩
theorem cw_X10_addGood : m_CW yX10_addGood cX10_addGood 6 (some .int) 3 := ⟨wd_131, wd_627, by decide +kernel, by decide⟩
theorem cw_X10_addHerald : m_CW yX10_addHerald cX10_addHerald 3 (some .int) 1 := ⟨wd_131, wd_1174, by decide +kernel, by decide⟩
theorem cw_X10_addLord : m_CW yX10_addLord cX10_addLord 5 (some .int) 2 := ⟨wd_131, wd_530, by decide +kernel, by decide⟩
theorem cw_X10_addRoad : m_CW yX10_addRoad cX10_addRoad 7 (some .int) 4 := ⟨wd_131, wd_1212, by decide +kernel, by decide⟩
theorem cw_X10_copyFrom : m_CW yX10_copyFrom cX10_copyFrom 3 none 1 := ⟨wd_131, wd_891, by decide +kernel, by decide⟩
theorem cw_X10_goodAt : m_CW yX10_goodAt cX10_goodAt 3 (some .int) 2 := ⟨wd_131, wd_555, by decide +kernel, by decide⟩
theorem cw_X10_greatestCreditor : m_CW yX10_greatestCreditor cX10_greatestCreditor 5 (some .int) 1 := ⟨wd_131, wd_1068, by decide +kernel, by decide⟩
theorem cw_X10_held : m_CW yX10_held cX10_held 4 (some .int) 1 := ⟨wd_131, wd_608, by decide +kernel, by decide⟩
theorem cw_X10_inForce : m_CW yX10_inForce cX10_inForce 1 (some .int) 0 := ⟨wd_131, wd_1019, by decide +kernel, by decide⟩
theorem cw_X10_isGood : m_CW yX10_isGood cX10_isGood 2 (some .boolean) 1 := ⟨wd_131, wd_635, by decide +kernel, by decide⟩
theorem cw_X10_isKept : m_CW yX10_isKept cX10_isKept 1 (some .boolean) 0 := ⟨wd_131, wd_1354, by decide +kernel, by decide⟩
theorem cw_X10_isLord : m_CW yX10_isLord cX10_isLord 2 (some .boolean) 1 := ⟨wd_131, wd_542, by decide +kernel, by decide⟩
theorem cw_X10_isOwnedAndHeld : m_CW yX10_isOwnedAndHeld cX10_isOwnedAndHeld 4 (some .boolean) 2 := ⟨wd_131, wd_1087, by decide +kernel, by decide⟩
theorem cw_X10_isRuined : m_CW yX10_isRuined cX10_isRuined 2 (some .boolean) 1 := ⟨wd_131, wd_947, by decide +kernel, by decide⟩
theorem cw_X10_lawInForce : m_CW yX10_lawInForce cX10_lawInForce 2 (some (.object "GiftDuel$Text")) 0 := ⟨wd_131, wd_564, by decide +kernel, by decide⟩
theorem cw_X10_lordAt : m_CW yX10_lordAt cX10_lordAt 3 (some .int) 2 := ⟨wd_131, wd_604, by decide +kernel, by decide⟩
theorem cw_X10_many : m_CW yX10_many cX10_many 2 (some .int) 1 := ⟨wd_131, wd_522, by decide +kernel, by decide⟩
theorem cw_X10_markKept : m_CW yX10_markKept cX10_markKept 1 none 0 := ⟨wd_131, wd_1346, by decide +kernel, by decide⟩
theorem cw_X10_oneMoreOf : m_CW yX10_oneMoreOf cX10_oneMoreOf 3 none 2 := ⟨wd_131, wd_966, by decide +kernel, by decide⟩
theorem cw_X10_price : m_CW yX10_price cX10_price 2 (some .int) 1 := ⟨wd_131, wd_1204, by decide +kernel, by decide⟩
theorem cw_X10_restoreFrom : m_CW yX10_restoreFrom cX10_restoreFrom 3 none 2 := ⟨wd_131, wd_1053, by decide +kernel, by decide⟩
theorem cw_X10_roadAt : m_CW yX10_roadAt cX10_roadAt 3 (some .int) 2 := ⟨wd_131, wd_1233, by decide +kernel, by decide⟩
theorem cw_X10_saveTo : m_CW yX10_saveTo cX10_saveTo 3 none 2 := ⟨wd_131, wd_930, by decide +kernel, by decide⟩
theorem cw_X10_seenOf : m_CW yX10_seenOf cX10_seenOf 3 (some .int) 2 := ⟨wd_131, wd_600, by decide +kernel, by decide⟩
theorem cw_X10_setForce : m_CW yX10_setForce cX10_setForce 2 none 1 := ⟨wd_131, wd_1023, by decide +kernel, by decide⟩
theorem cw_X10_setGood : m_CW yX10_setGood cX10_setGood 4 none 3 := ⟨wd_131, wd_988, by decide +kernel, by decide⟩
theorem cw_X10_setLord : m_CW yX10_setLord cX10_setLord 4 none 3 := ⟨wd_131, wd_619, by decide +kernel, by decide⟩
theorem cw_X10_setTerm : m_CW yX10_setTerm cX10_setTerm 3 none 2 := ⟨wd_131, wd_648, by decide +kernel, by decide⟩
theorem cw_X10_settle : m_CW yX10_settle cX10_settle 3 none 2 := ⟨wd_131, wd_954, by decide +kernel, by decide⟩
theorem cw_X10_since : m_CW yX10_since cX10_since 3 (some .int) 2 := ⟨wd_131, wd_962, by decide +kernel, by decide⟩
theorem cw_X10_stand : m_CW yX10_stand cX10_stand 5 none 4 := ⟨wd_131, wd_995, by decide +kernel, by decide⟩
theorem cw_X10_standing : m_CW yX10_standing cX10_standing 3 (some .int) 0 := ⟨wd_131, wd_1362, by decide +kernel, by decide⟩
theorem cw_X10_standingAgainst : m_CW yX10_standingAgainst cX10_standingAgainst 4 (some .int) 1 := ⟨wd_131, wd_915, by decide +kernel, by decide⟩
theorem cw_X10_tellHolder : m_CW yX10_tellHolder cX10_tellHolder 3 none 2 := ⟨wd_131, wd_1269, by decide +kernel, by decide⟩
theorem cw_X10_term : m_CW yX10_term cX10_term 2 (some .int) 1 := ⟨wd_131, wd_546, by decide +kernel, by decide⟩
theorem cw_X10_toldHolder : m_CW yX10_toldHolder cX10_toldHolder 2 (some .int) 1 := ⟨wd_131, wd_1265, by decide +kernel, by decide⟩
theorem cw_X10_worthOwed : m_CW yX10_worthOwed cX10_worthOwed 3 (some .int) 2 := ⟨wd_131, wd_919, by decide +kernel, by decide⟩
theorem cw_X11_accept : m_CW yX11_accept cX11_accept 2 (some .int) 1 := ⟨wd_130, wd_534, by decide +kernel, by decide⟩
theorem cw_X11_comes : m_CW yX11_comes cX11_comes 5 (some .boolean) 3 := ⟨wd_130, wd_684, by decide +kernel, by decide⟩
theorem cw_X11_refuse : m_CW yX11_refuse cX11_refuse 2 (some .int) 1 := ⟨wd_130, wd_518, by decide +kernel, by decide⟩
theorem cw_X11_within : m_CW yX11_within cX11_within 3 (some .boolean) 3 := ⟨wd_130, wd_514, by decide +kernel, by decide⟩
theorem cw_X12_allDebts : m_CW yX12_allDebts cX12_allDebts 3 (some .int) 0 := ⟨wd_144, wd_2151, by decide +kernel, by decide⟩
theorem cw_X12_askedOf : m_CW yX12_askedOf cX12_askedOf 3 (some .long) 2 := ⟨wd_144, wd_1687, by decide +kernel, by decide⟩
theorem cw_X12_begin : m_CW yX12_begin cX12_begin 1 none 0 := ⟨wd_144, wd_1773, by decide +kernel, by decide⟩
theorem cw_X12_beginText : m_CW yX12_beginText cX12_beginText 2 none 1 := ⟨wd_144, wd_1769, by decide +kernel, by decide⟩
theorem cw_X12_behindSum : m_CW yX12_behindSum cX12_behindSum 4 (some .int) 1 := ⟨wd_144, wd_1854, by decide +kernel, by decide⟩
theorem cw_X12_behindTest : m_CW yX12_behindTest cX12_behindTest 2 (some .int) 0 := ⟨wd_144, wd_1876, by decide +kernel, by decide⟩
theorem cw_X12_binds : m_CW yX12_binds cX12_binds 1 (some .int) 1 := ⟨wd_144, wd_1857, by decide +kernel, by decide⟩
theorem cw_X12_canBe : m_CW yX12_canBe cX12_canBe 5 (some .boolean) 1 := ⟨wd_144, wd_2095, by decide +kernel, by decide⟩
theorem cw_X12_canGive : m_CW yX12_canGive cX12_canGive 5 (some .boolean) 4 := ⟨wd_144, wd_1975, by decide +kernel, by decide⟩
theorem cw_X12_costOf : m_CW yX12_costOf cX12_costOf 4 (some .int) 3 := ⟨wd_144, wd_1671, by decide +kernel, by decide⟩
theorem cw_X12_costs : m_CW yX12_costs cX12_costs 5 (some .int) 2 := ⟨wd_144, wd_1667, by decide +kernel, by decide⟩
theorem cw_X12_debtAt : m_CW yX12_debtAt cX12_debtAt 2 (some .int) 2 := ⟨wd_144, wd_1699, by decide +kernel, by decide⟩
theorem cw_X12_debtsOf : m_CW yX12_debtsOf cX12_debtsOf 4 (some .int) 1 := ⟨wd_144, wd_1696, by decide +kernel, by decide⟩
theorem cw_X12_draw : m_CW yX12_draw cX12_draw 2 (some .int) 1 := ⟨wd_144, wd_2135, by decide +kernel, by decide⟩
theorem cw_X12_emit : m_CW yX12_emit cX12_emit 3 none 2 := ⟨wd_144, wd_1845, by decide +kernel, by decide⟩
theorem cw_X12_endText : m_CW yX12_endText cX12_endText 1 none 0 := ⟨wd_144, wd_1883, by decide +kernel, by decide⟩
theorem cw_X12_findGifts : m_CW yX12_findGifts cX12_findGifts 6 none 1 := ⟨wd_144, wd_2083, by decide +kernel, by decide⟩
theorem cw_X12_findRing : m_CW yX12_findRing cX12_findRing 3 none 0 := ⟨wd_144, wd_2063, by decide +kernel, by decide⟩
theorem cw_X12_findWay : m_CW yX12_findWay cX12_findWay 4 none 2 := ⟨wd_144, wd_2041, by decide +kernel, by decide⟩
theorem cw_X12_findWins : m_CW yX12_findWins cX12_findWins 6 none 0 := ⟨wd_144, wd_1967, by decide +kernel, by decide⟩
theorem cw_X12_four : m_CW yX12_four cX12_four 3 none 1 := ⟨wd_144, wd_1753, by decide +kernel, by decide⟩
theorem cw_X12_gift : m_CW yX12_gift cX12_gift 7 (some .int) 2 := ⟨wd_144, wd_1916, by decide +kernel, by decide⟩
theorem cw_X12_giveNow : m_CW yX12_giveNow cX12_giveNow 6 (some .int) 2 := ⟨wd_144, wd_1908, by decide +kernel, by decide⟩
theorem cw_X12_goesOn : m_CW yX12_goesOn cX12_goesOn 8 (some .boolean) 2 := ⟨wd_144, wd_2055, by decide +kernel, by decide⟩
theorem cw_X12_good1 : m_CW yX12_good1 cX12_good1 6 (some .int) 3 := ⟨wd_144, wd_1724, by decide +kernel, by decide⟩
theorem cw_X12_grainLeft : m_CW yX12_grainLeft cX12_grainLeft 5 (some .int) 2 := ⟨wd_144, wd_1983, by decide +kernel, by decide⟩
theorem cw_X12_held : m_CW yX12_held cX12_held 4 (some .int) 1 := ⟨wd_144, wd_1655, by decide +kernel, by decide⟩
theorem cw_X12_in : m_CW yX12_in cX12_in 6 (some .boolean) 3 := ⟨wd_144, wd_1620, by decide +kernel, by decide⟩
theorem cw_X12_inner : m_CW yX12_inner cX12_inner 3 (some .int) 0 := ⟨wd_144, wd_1865, by decide +kernel, by decide⟩
theorem cw_X12_is : m_CW yX12_is cX12_is 2 (some .boolean) 2 := ⟨wd_144, wd_1939, by decide +kernel, by decide⟩
theorem cw_X12_isAhead : m_CW yX12_isAhead cX12_isAhead 3 (some .boolean) 1 := ⟨wd_144, wd_2051, by decide +kernel, by decide⟩
theorem cw_X12_isBarred : m_CW yX12_isBarred cX12_isBarred 4 (some .boolean) 3 := ⟨wd_144, wd_1900, by decide +kernel, by decide⟩
theorem cw_X12_isCompared : m_CW yX12_isCompared cX12_isCompared 2 (some .boolean) 0 := ⟨wd_144, wd_1869, by decide +kernel, by decide⟩
theorem cw_X12_isDigit : m_CW yX12_isDigit cX12_isDigit 1 (some .boolean) 1 := ⟨wd_144, wd_1783, by decide +kernel, by decide⟩
theorem cw_X12_isFresh : m_CW yX12_isFresh cX12_isFresh 4 (some .boolean) 1 := ⟨wd_144, wd_2067, by decide +kernel, by decide⟩
theorem cw_X12_isGood : m_CW yX12_isGood cX12_isGood 2 (some .boolean) 1 := ⟨wd_144, wd_1691, by decide +kernel, by decide⟩
theorem cw_X12_isLord : m_CW yX12_isLord cX12_isLord 2 (some .boolean) 1 := ⟨wd_144, wd_1646, by decide +kernel, by decide⟩
theorem cw_X12_isSign : m_CW yX12_isSign cX12_isSign 2 (some .boolean) 1 := ⟨wd_144, wd_1820, by decide +kernel, by decide⟩
theorem cw_X12_isSmall : m_CW yX12_isSmall cX12_isSmall 1 (some .boolean) 1 := ⟨wd_144, wd_1780, by decide +kernel, by decide⟩
theorem cw_X12_isSo : m_CW yX12_isSo cX12_isSo 2 (some .boolean) 1 := ⟨wd_144, wd_1679, by decide +kernel, by decide⟩
theorem cw_X12_isTold : m_CW yX12_isTold cX12_isTold 3 (some .boolean) 0 := ⟨wd_144, wd_2087, by decide +kernel, by decide⟩
theorem cw_X12_isWon : m_CW yX12_isWon cX12_isWon 4 (some .boolean) 3 := ⟨wd_144, wd_1979, by decide +kernel, by decide⟩
theorem cw_X12_isWord : m_CW yX12_isWord cX12_isWord 3 (some .boolean) 1 := ⟨wd_144, wd_1797, by decide +kernel, by decide⟩
theorem cw_X12_keepGifts : m_CW yX12_keepGifts cX12_keepGifts 3 none 1 := ⟨wd_144, wd_2091, by decide +kernel, by decide⟩
theorem cw_X12_keepRow : m_CW yX12_keepRow cX12_keepRow 3 none 1 := ⟨wd_144, wd_1912, by decide +kernel, by decide⟩
theorem cw_X12_lastOf : m_CW yX12_lastOf cX12_lastOf 4 (some .int) 1 := ⟨wd_144, wd_1971, by decide +kernel, by decide⟩
theorem cw_X12_layGoods : m_CW yX12_layGoods cX12_layGoods 7 none 3 := ⟨wd_144, wd_1963, by decide +kernel, by decide⟩
theorem cw_X12_layYears : m_CW yX12_layYears cX12_layYears 4 none 2 := ⟨wd_144, wd_1995, by decide +kernel, by decide⟩
theorem cw_X12_leaf : m_CW yX12_leaf cX12_leaf 4 none 3 := ⟨wd_144, wd_1841, by decide +kernel, by decide⟩
theorem cw_X12_middle : m_CW yX12_middle cX12_middle 8 (some .int) 3 := ⟨wd_144, wd_2019, by decide +kernel, by decide⟩
theorem cw_X12_must : m_CW yX12_must cX12_must 2 none 1 := ⟨wd_144, wd_1803, by decide +kernel, by decide⟩
theorem cw_X12_next : m_CW yX12_next cX12_next 1 none 0 := ⟨wd_144, wd_1777, by decide +kernel, by decide⟩
theorem cw_X12_number : m_CW yX12_number cX12_number 6 (some .int) 2 := ⟨wd_144, wd_1850, by decide +kernel, by decide⟩
theorem cw_X12_ofGood : m_CW yX12_ofGood cX12_ofGood 3 (some .int) 2 := ⟨wd_144, wd_1659, by decide +kernel, by decide⟩
theorem cw_X12_ofLord : m_CW yX12_ofLord cX12_ofLord 3 (some .int) 2 := ⟨wd_144, wd_1651, by decide +kernel, by decide⟩
theorem cw_X12_ones : m_CW yX12_ones cX12_ones 3 (some .int) 1 := ⟨wd_144, wd_2007, by decide +kernel, by decide⟩
theorem cw_X12_openBracket : m_CW yX12_openBracket cX12_openBracket 2 none 1 := ⟨wd_144, wd_1824, by decide +kernel, by decide⟩
theorem cw_X12_orderPartAt : m_CW yX12_orderPartAt cX12_orderPartAt 3 (some .int) 0 := ⟨wd_144, wd_1832, by decide +kernel, by decide⟩
theorem cw_X12_partAt : m_CW yX12_partAt cX12_partAt 3 (some .int) 0 := ⟨wd_144, wd_1836, by decide +kernel, by decide⟩
theorem cw_X12_playOf : m_CW yX12_playOf cX12_playOf 10 (some .int) 0 := ⟨wd_144, wd_1987, by decide +kernel, by decide⟩
theorem cw_X12_push : m_CW yX12_push cX12_push 3 none 2 := ⟨wd_144, wd_1816, by decide +kernel, by decide⟩
theorem cw_X12_putBack : m_CW yX12_putBack cX12_putBack 3 none 1 := ⟨wd_144, wd_1924, by decide +kernel, by decide⟩
theorem cw_X12_readExpression : m_CW yX12_readExpression cX12_readExpression 3 none 1 := ⟨wd_144, wd_1807, by decide +kernel, by decide⟩
theorem cw_X12_readLaw : m_CW yX12_readLaw cX12_readLaw 4 none 0 := ⟨wd_144, wd_1792, by decide +kernel, by decide⟩
theorem cw_X12_readOrder : m_CW yX12_readOrder cX12_readOrder 3 none 0 := ⟨wd_144, wd_2107, by decide +kernel, by decide⟩
theorem cw_X12_readPart : m_CW yX12_readPart cX12_readPart 4 (some .int) 0 := ⟨wd_144, wd_1828, by decide +kernel, by decide⟩
theorem cw_X12_readPlain : m_CW yX12_readPlain cX12_readPlain 1 (some .int) 0 := ⟨wd_144, wd_1811, by decide +kernel, by decide⟩
theorem cw_X12_readSum : m_CW yX12_readSum cX12_readSum 2 none 1 := ⟨wd_144, wd_2113, by decide +kernel, by decide⟩
theorem cw_X12_reckon : m_CW yX12_reckon cX12_reckon 6 (some .long) 3 := ⟨wd_144, wd_1703, by decide +kernel, by decide⟩
theorem cw_X12_reckonAll : m_CW yX12_reckonAll cX12_reckonAll 7 none 2 := ⟨wd_144, wd_1683, by decide +kernel, by decide⟩
theorem cw_X12_remember : m_CW yX12_remember cX12_remember 3 none 1 := ⟨wd_144, wd_1920, by decide +kernel, by decide⟩
theorem cw_X12_ruinedIn : m_CW yX12_ruinedIn cX12_ruinedIn 8 (some .int) 3 := ⟨wd_144, wd_1999, by decide +kernel, by decide⟩
theorem cw_X12_run : m_CW yX12_run cX12_run 7 (some .int) 1 := ⟨wd_144, wd_2118, by decide +kernel, by decide⟩
theorem cw_X12_settle : m_CW yX12_settle cX12_settle 2 none 1 := ⟨wd_144, wd_1861, by decide +kernel, by decide⟩
theorem cw_X12_settled : m_CW yX12_settled cX12_settled 2 (some .int) 1 := ⟨wd_144, wd_1632, by decide +kernel, by decide⟩
theorem cw_X12_sumOf : m_CW yX12_sumOf cX12_sumOf 2 (some .long) 1 := ⟨wd_144, wd_2122, by decide +kernel, by decide⟩
theorem cw_X12_tell : m_CW yX12_tell cX12_tell 2 (some .int) 1 := ⟨wd_144, wd_1624, by decide +kernel, by decide⟩
theorem cw_X12_tells1 : m_CW yX12_tells1 cX12_tells1 13 (some .long) 7 := ⟨wd_144, wd_1675, by decide +kernel, by decide⟩
theorem cw_X12_toldBy : m_CW yX12_toldBy cX12_toldBy 3 (some .int) 2 := ⟨wd_144, wd_2023, by decide +kernel, by decide⟩
theorem cw_X12_undoRow : m_CW yX12_undoRow cX12_undoRow 4 none 1 := ⟨wd_144, wd_1947, by decide +kernel, by decide⟩
theorem cw_X12_wait1 : m_CW yX12_wait1 cX12_wait1 7 (some .int) 0 := ⟨wd_144, wd_1936, by decide +kernel, by decide⟩
theorem cw_X12_waitNow : m_CW yX12_waitNow cX12_waitNow 1 (some .int) 0 := ⟨wd_144, wd_1932, by decide +kernel, by decide⟩
theorem cw_X12_was : m_CW yX12_was cX12_was 2 (some .int) 1 := ⟨wd_144, wd_1716, by decide +kernel, by decide⟩
theorem cw_X12_weighRing : m_CW yX12_weighRing cX12_weighRing 4 none 1 := ⟨wd_144, wd_2071, by decide +kernel, by decide⟩
theorem cw_X12_weighWay : m_CW yX12_weighWay cX12_weighWay 6 none 1 := ⟨wd_144, wd_2045, by decide +kernel, by decide⟩
theorem cw_X12_within : m_CW yX12_within cX12_within 4 (some .int) 3 := ⟨wd_144, wd_1708, by decide +kernel, by decide⟩
theorem cw_X12_worthOf : m_CW yX12_worthOf cX12_worthOf 4 (some .int) 3 := ⟨wd_144, wd_1896, by decide +kernel, by decide⟩
theorem cw_X12_year : m_CW yX12_year cX12_year 1 (some .int) 0 := ⟨wd_144, wd_1663, by decide +kernel, by decide⟩
theorem cw_X1_answer : m_CW yX1_answer cX1_answer 6 (some .int) 4 := ⟨wd_140, wd_1076, by decide +kernel, by decide⟩
theorem cw_X1_gather : m_CW yX1_gather cX1_gather 9 none 4 := ⟨wd_140, wd_1080, by decide +kernel, by decide⟩
theorem cw_X1_length : m_CW yX1_length cX1_length 8 (some .int) 0 := ⟨wd_140, wd_1110, by decide +kernel, by decide⟩
theorem cw_X1_lowestPossible : m_CW yX1_lowestPossible cX1_lowestPossible 4 (some .int) 2 := ⟨wd_140, wd_1114, by decide +kernel, by decide⟩
theorem cw_X1_lowestWinning : m_CW yX1_lowestWinning cX1_lowestWinning 7 (some .int) 4 := ⟨wd_140, wd_1106, by decide +kernel, by decide⟩
theorem cw_X1_winning : m_CW yX1_winning cX1_winning 3 (some .int) 0 := ⟨wd_140, wd_1102, by decide +kernel, by decide⟩
theorem cw_X1_wins : m_CW yX1_wins cX1_wins 8 (some .boolean) 5 := ⟨wd_140, wd_1094, by decide +kernel, by decide⟩
theorem cw_X1_winsBy : m_CW yX1_winsBy cX1_winsBy 6 (some .boolean) 4 := ⟨wd_140, wd_1098, by decide +kernel, by decide⟩
theorem cw_X2_ask : m_CW yX2_ask cX2_ask 4 none 3 := ⟨wd_137, wd_559, by decide +kernel, by decide⟩
theorem cw_X2_bars : m_CW yX2_bars cX2_bars 7 (some .boolean) 4 := ⟨wd_137, wd_976, by decide +kernel, by decide⟩
theorem cw_X2_cheapestBribe : m_CW yX2_cheapestBribe cX2_cheapestBribe 15 (some .int) 4 := ⟨wd_137, wd_1199, by decide +kernel, by decide⟩
theorem cw_X2_costs : m_CW yX2_costs cX2_costs 5 (some .int) 4 := ⟨wd_137, wd_640, by decide +kernel, by decide⟩
theorem cw_X2_hear : m_CW yX2_hear cX2_hear 5 (some .int) 2 := ⟨wd_137, wd_1186, by decide +kernel, by decide⟩
theorem cw_X2_middle : m_CW yX2_middle cX2_middle 7 (some .int) 2 := ⟨wd_137, wd_1182, by decide +kernel, by decide⟩
theorem cw_X2_told : m_CW yX2_told cX2_told 7 (some .int) 4 := ⟨wd_137, wd_568, by decide +kernel, by decide⟩
theorem cw_X2_upkeep : m_CW yX2_upkeep cX2_upkeep 6 (some .int) 3 := ⟨wd_137, wd_550, by decide +kernel, by decide⟩
theorem cw_X2_voice : m_CW yX2_voice cX2_voice 4 (some .int) 3 := ⟨wd_137, wd_1190, by decide +kernel, by decide⟩
theorem cw_X2_worth : m_CW yX2_worth cX2_worth 5 (some .int) 4 := ⟨wd_137, wd_984, by decide +kernel, by decide⟩
theorem cw_X3_forget : m_CW yX3_forget cX3_forget 1 none 0 := ⟨wd_139, wd_883, by decide +kernel, by decide⟩
theorem cw_X3_look : m_CW yX3_look cX3_look 4 none 1 := ⟨wd_139, wd_907, by decide +kernel, by decide⟩
theorem cw_X3_run : m_CW yX3_run cX3_run 7 (some .int) 3 := ⟨wd_139, wd_887, by decide +kernel, by decide⟩
theorem cw_X3_step : m_CW yX3_step cX3_step 7 (some .boolean) 4 := ⟨wd_139, wd_903, by decide +kernel, by decide⟩
theorem cw_X3_stoppedAt : m_CW yX3_stoppedAt cX3_stoppedAt 1 (some .int) 0 := ⟨wd_139, wd_1011, by decide +kernel, by decide⟩
theorem cw_X4_clear : m_CW yX4_clear cX4_clear 1 none 0 := ⟨wd_133, wd_526, by decide +kernel, by decide⟩
theorem cw_X4_copyFrom : m_CW yX4_copyFrom cX4_copyFrom 2 none 1 := ⟨wd_133, wd_896, by decide +kernel, by decide⟩
theorem cw_X4_keep : m_CW yX4_keep cX4_keep 3 none 2 := ⟨wd_133, wd_926, by decide +kernel, by decide⟩
theorem cw_X4_size : m_CW yX4_size cX4_size 1 (some .int) 0 := ⟨wd_133, wd_1367, by decide +kernel, by decide⟩
theorem cw_X4_takeBack : m_CW yX4_takeBack cX4_takeBack 2 (some .int) 1 := ⟨wd_133, wd_1049, by decide +kernel, by decide⟩
theorem cw_X5_advance : m_CW yX5_advance cX5_advance 1 none 0 := ⟨wd_134, wd_785, by decide +kernel, by decide⟩
theorem cw_X5_append : m_CW yX5_append cX5_append 3 none 1 := ⟨wd_134, wd_660, by decide +kernel, by decide⟩
theorem cw_X5_both : m_CW yX5_both cX5_both 5 (some .boolean) 1 := ⟨wd_134, wd_821, by decide +kernel, by decide⟩
theorem cw_X5_bracketed : m_CW yX5_bracketed cX5_bracketed 5 (some .boolean) 3 := ⟨wd_134, wd_813, by decide +kernel, by decide⟩
theorem cw_X5_byteAt : m_CW yX5_byteAt cX5_byteAt 2 (some .int) 1 := ⟨wd_134, wd_680, by decide +kernel, by decide⟩
theorem cw_X5_comparison : m_CW yX5_comparison cX5_comparison 4 (some .boolean) 1 := ⟨wd_134, wd_829, by decide +kernel, by decide⟩
theorem cw_X5_condition : m_CW yX5_condition cX5_condition 3 (some .boolean) 1 := ⟨wd_134, wd_849, by decide +kernel, by decide⟩
theorem cw_X5_cut : m_CW yX5_cut cX5_cut 2 none 1 := ⟨wd_134, wd_672, by decide +kernel, by decide⟩
theorem cw_X5_faultPlace : m_CW yX5_faultPlace cX5_faultPlace 1 (some .int) 0 := ⟨wd_134, wd_1003, by decide +kernel, by decide⟩
theorem cw_X5_hasRoom : m_CW yX5_hasRoom cX5_hasRoom 2 (some .boolean) 1 := ⟨wd_134, wd_656, by decide +kernel, by decide⟩
theorem cw_X5_isDigit : m_CW yX5_isDigit cX5_isDigit 1 (some .boolean) 1 := ⟨wd_134, wd_763, by decide +kernel, by decide⟩
theorem cw_X5_isLetter : m_CW yX5_isLetter cX5_isLetter 1 (some .boolean) 1 := ⟨wd_134, wd_707, by decide +kernel, by decide⟩
theorem cw_X5_lawClause : m_CW yX5_lawClause cX5_lawClause 3 (some .boolean) 0 := ⟨wd_134, wd_772, by decide +kernel, by decide⟩
theorem cw_X5_lawWord : m_CW yX5_lawWord cX5_lawWord 1 (some .int) 0 := ⟨wd_134, wd_841, by decide +kernel, by decide⟩
theorem cw_X5_length : m_CW yX5_length cX5_length 1 (some .int) 0 := ⟨wd_134, wd_664, by decide +kernel, by decide⟩
theorem cw_X5_numberOf : m_CW yX5_numberOf cX5_numberOf 5 (some .int) 2 := ⟨wd_134, wd_767, by decide +kernel, by decide⟩
theorem cw_X5_orderClause : m_CW yX5_orderClause cX5_orderClause 3 (some .boolean) 0 := ⟨wd_134, wd_853, by decide +kernel, by decide⟩
theorem cw_X5_orderWord : m_CW yX5_orderWord cX5_orderWord 1 (some .int) 0 := ⟨wd_134, wd_845, by decide +kernel, by decide⟩
theorem cw_X5_part : m_CW yX5_part cX5_part 7 (some .boolean) 1 := ⟨wd_134, wd_809, by decide +kernel, by decide⟩
theorem cw_X5_plain : m_CW yX5_plain cX5_plain 4 (some .boolean) 1 := ⟨wd_134, wd_825, by decide +kernel, by decide⟩
theorem cw_X5_reads : m_CW yX5_reads cX5_reads 4 (some .boolean) 1 := ⟨wd_134, wd_696, by decide +kernel, by decide⟩
theorem cw_X5_scan : m_CW yX5_scan cX5_scan 5 none 0 := ⟨wd_134, wd_704, by decide +kernel, by decide⟩
theorem cw_X5_sum : m_CW yX5_sum cX5_sum 5 (some .boolean) 1 := ⟨wd_134, wd_801, by decide +kernel, by decide⟩
theorem cw_X5_sumOf : m_CW yX5_sumOf cX5_sumOf 4 (some .boolean) 2 := ⟨wd_134, wd_789, by decide +kernel, by decide⟩
theorem cw_X5_term : m_CW yX5_term cX5_term 5 (some .boolean) 1 := ⟨wd_134, wd_805, by decide +kernel, by decide⟩
theorem cw_X5_test : m_CW yX5_test cX5_test 5 (some .boolean) 1 := ⟨wd_134, wd_817, by decide +kernel, by decide⟩
theorem cw_X5_text : m_CW yX5_text cX5_text 1 (some (.object "GiftDuel$Text")) 0 := ⟨wd_134, wd_861, by decide +kernel, by decide⟩
theorem cw_X5_times : m_CW yX5_times cX5_times 2 (some .boolean) 1 := ⟨wd_134, wd_857, by decide +kernel, by decide⟩
theorem cw_X5_wordOf : m_CW yX5_wordOf cX5_wordOf 8 (some .int) 2 := ⟨wd_134, wd_711, by decide +kernel, by decide⟩
theorem cw_X5_wrong : m_CW yX5_wrong cX5_wrong 1 (some .boolean) 0 := ⟨wd_134, wd_776, by decide +kernel, by decide⟩
theorem cw_X6_answer : m_CW yX6_answer cX6_answer 6 (some .int) 3 := ⟨wd_143, wd_1277, by decide +kernel, by decide⟩
theorem cw_X6_beating : m_CW yX6_beating cX6_beating 8 (some .int) 4 := ⟨wd_143, wd_1307, by decide +kernel, by decide⟩
theorem cw_X6_chosen : m_CW yX6_chosen cX6_chosen 2 (some .int) 2 := ⟨wd_143, wd_1295, by decide +kernel, by decide⟩
theorem cw_X6_lookAt : m_CW yX6_lookAt cX6_lookAt 10 none 3 := ⟨wd_143, wd_1284, by decide +kernel, by decide⟩
theorem cw_X6_rows : m_CW yX6_rows cX6_rows 7 (some .int) 1 := ⟨wd_143, wd_1291, by decide +kernel, by decide⟩
theorem cw_X6_takeFirst : m_CW yX6_takeFirst cX6_takeFirst 5 (some .boolean) 1 := ⟨wd_143, wd_1299, by decide +kernel, by decide⟩
theorem cw_X7_answer : m_CW yX7_answer cX7_answer 7 (some .int) 5 := ⟨wd_141, wd_1135, by decide +kernel, by decide⟩
theorem cw_X7_bitsOf : m_CW yX7_bitsOf cX7_bitsOf 4 (some .int) 1 := ⟨wd_141, wd_1166, by decide +kernel, by decide⟩
theorem cw_X7_cheapest : m_CW yX7_cheapest cX7_cheapest 9 (some .int) 1 := ⟨wd_141, wd_1148, by decide +kernel, by decide⟩
theorem cw_X7_fallOf : m_CW yX7_fallOf cX7_fallOf 7 (some .int) 3 := ⟨wd_141, wd_1122, by decide +kernel, by decide⟩
theorem cw_X7_falls : m_CW yX7_falls cX7_falls 6 (some .boolean) 2 := ⟨wd_141, wd_1152, by decide +kernel, by decide⟩
theorem cw_X7_gather : m_CW yX7_gather cX7_gather 9 none 4 := ⟨wd_141, wd_1139, by decide +kernel, by decide⟩
theorem cw_X7_worthOf : m_CW yX7_worthOf cX7_worthOf 4 (some .int) 1 := ⟨wd_141, wd_1156, by decide +kernel, by decide⟩
theorem cw_X8_add : m_CW yX8_add cX8_add 3 (some .int) 2 := ⟨wd_135, wd_833, by decide +kernel, by decide⟩
theorem cw_X8_clauses : m_CW yX8_clauses cX8_clauses 1 (some .int) 0 := ⟨wd_135, wd_572, by decide +kernel, by decide⟩
theorem cw_X8_empty : m_CW yX8_empty cX8_empty 1 none 0 := ⟨wd_135, wd_700, by decide +kernel, by decide⟩
theorem cw_X8_isSo : m_CW yX8_isSo cX8_isSo 5 (some .boolean) 3 := ⟨wd_135, wd_580, by decide +kernel, by decide⟩
theorem cw_X8_landHere : m_CW yX8_landHere cX8_landHere 2 none 1 := ⟨wd_135, wd_837, by decide +kernel, by decide⟩
theorem cw_X8_open : m_CW yX8_open cX8_open 2 (some .int) 1 := ⟨wd_135, wd_780, by decide +kernel, by decide⟩
theorem cw_X8_part : m_CW yX8_part cX8_part 3 (some .int) 2 := ⟨wd_135, wd_576, by decide +kernel, by decide⟩
theorem cw_X8_setPart : m_CW yX8_setPart cX8_setPart 4 none 3 := ⟨wd_135, wd_797, by decide +kernel, by decide⟩
theorem cw_X8_size : m_CW yX8_size cX8_size 1 (some .int) 0 := ⟨wd_135, wd_793, by decide +kernel, by decide⟩
theorem cw_X8_sum : m_CW yX8_sum cX8_sum 6 (some .int) 4 := ⟨wd_135, wd_591, by decide +kernel, by decide⟩
theorem cw_X8_value : m_CW yX8_value cX8_value 16 (some .int) 4 := ⟨wd_135, wd_584, by decide +kernel, by decide⟩
theorem cw_X9_answer : m_CW yX9_answer cX9_answer 5 (some .int) 4 := ⟨wd_142, wd_1220, by decide +kernel, by decide⟩
theorem cw_X9_closes : m_CW yX9_closes cX9_closes 7 (some .boolean) 4 := ⟨wd_142, wd_1256, by decide +kernel, by decide⟩
theorem cw_X9_draw : m_CW yX9_draw cX9_draw 9 none 1 := ⟨wd_142, wd_1224, by decide +kernel, by decide⟩
theorem cw_X9_ofRing : m_CW yX9_ofRing cX9_ofRing 5 (some .int) 2 := ⟨wd_142, wd_1247, by decide +kernel, by decide⟩
theorem cw_X9_walk : m_CW yX9_walk cX9_walk 8 none 4 := ⟨wd_142, wd_1238, by decide +kernel, by decide⟩
theorem fl_RX0_12 : m_FL RX0 12 0 1 true := ⟨RX0, TX0, 3, rfl, inX0, by decide, rfl, wd_293, tyX0_ok, nmX0, rfl, fun _ => rfl⟩
theorem fl_RX0_18 : m_FL RX0 18 0 2 false := ⟨RX0, TX0, 3, rfl, inX0, by decide, rfl, wd_294, tyX0_ok, nmX0, rfl, fun h => by cases h⟩
theorem fl_RX0_22 : m_FL RX0 22 0 0 true := ⟨RX0, TX0, 3, rfl, inX0, by decide, rfl, wd_292, tyX0_ok, nmX0, rfl, fun _ => rfl⟩
theorem fl_RX10_11 : m_FL RX10 11 10 0 true := ⟨RX10, TX10, 3, rfl, inX10, by decide, rfl, wd_173, tyX10_ok, nmX10, rfl, fun _ => rfl⟩
theorem fl_RX10_17 : m_FL RX10 17 10 1 true := ⟨RX10, TX10, 3, rfl, inX10, by decide, rfl, wd_174, tyX10_ok, nmX10, rfl, fun _ => rfl⟩
theorem fl_RX10_21 : m_FL RX10 21 10 2 false := ⟨RX10, TX10, 3, rfl, inX10, by decide, rfl, wd_175, tyX10_ok, nmX10, rfl, fun h => by cases h⟩
theorem fl_RX11_10 : m_FL RX11 10 11 0 true := ⟨RX11, TX11, 15, rfl, inX11, by decide, rfl, wd_462, tyX11_ok, nmX11, rfl, fun _ => rfl⟩
theorem fl_RX11_16 : m_FL RX11 16 11 1 true := ⟨RX11, TX11, 15, rfl, inX11, by decide, rfl, wd_463, tyX11_ok, nmX11, rfl, fun _ => rfl⟩
theorem fl_RX11_19 : m_FL RX11 19 11 2 true := ⟨RX11, TX11, 15, rfl, inX11, by decide, rfl, wd_464, tyX11_ok, nmX11, rfl, fun _ => rfl⟩
theorem fl_RX11_25 : m_FL RX11 25 11 3 true := ⟨RX11, TX11, 15, rfl, inX11, by decide, rfl, wd_465, tyX11_ok, nmX11, rfl, fun _ => rfl⟩
theorem fl_RX11_32 : m_FL RX11 32 11 4 true := ⟨RX11, TX11, 15, rfl, inX11, by decide, rfl, wd_466, tyX11_ok, nmX11, rfl, fun _ => rfl⟩
theorem fl_RX11_39 : m_FL RX11 39 11 5 true := ⟨RX11, TX11, 15, rfl, inX11, by decide, rfl, wd_467, tyX11_ok, nmX11, rfl, fun _ => rfl⟩
theorem fl_RX11_48 : m_FL RX11 48 11 6 true := ⟨RX11, TX11, 15, rfl, inX11, by decide, rfl, wd_468, tyX11_ok, nmX11, rfl, fun _ => rfl⟩
theorem fl_RX11_57 : m_FL RX11 57 11 7 true := ⟨RX11, TX11, 15, rfl, inX11, by decide, rfl, wd_469, tyX11_ok, nmX11, rfl, fun _ => rfl⟩
theorem fl_RX11_64 : m_FL RX11 64 11 8 true := ⟨RX11, TX11, 15, rfl, inX11, by decide, rfl, wd_470, tyX11_ok, nmX11, rfl, fun _ => rfl⟩
theorem fl_RX11_71 : m_FL RX11 71 11 9 true := ⟨RX11, TX11, 15, rfl, inX11, by decide, rfl, wd_471, tyX11_ok, nmX11, rfl, fun _ => rfl⟩
theorem fl_RX11_78 : m_FL RX11 78 11 10 true := ⟨RX11, TX11, 15, rfl, inX11, by decide, rfl, wd_472, tyX11_ok, nmX11, rfl, fun _ => rfl⟩
theorem fl_RX11_85 : m_FL RX11 85 11 11 true := ⟨RX11, TX11, 15, rfl, inX11, by decide, rfl, wd_473, tyX11_ok, nmX11, rfl, fun _ => rfl⟩
theorem fl_RX11_89 : m_FL RX11 89 11 12 true := ⟨RX11, TX11, 15, rfl, inX11, by decide, rfl, wd_474, tyX11_ok, nmX11, rfl, fun _ => rfl⟩
theorem fl_RX11_93 : m_FL RX11 93 11 13 false := ⟨RX11, TX11, 15, rfl, inX11, by decide, rfl, wd_475, tyX11_ok, nmX11, rfl, fun h => by cases h⟩
theorem fl_RX11_97 : m_FL RX11 97 11 14 false := ⟨RX11, TX11, 15, rfl, inX11, by decide, rfl, wd_476, tyX11_ok, nmX11, rfl, fun h => by cases h⟩
theorem fl_RX12_100 : m_FL RX12 100 12 36 true := ⟨RX12, TX12, 73, rfl, inX12, by decide, rfl, wd_1429, tyX12_ok, nmX12, rfl, fun _ => rfl⟩
theorem fl_RX12_103 : m_FL RX12 103 12 41 true := ⟨RX12, TX12, 73, rfl, inX12, by decide, rfl, wd_1434, tyX12_ok, nmX12, rfl, fun _ => rfl⟩
theorem fl_RX12_106 : m_FL RX12 106 12 42 true := ⟨RX12, TX12, 73, rfl, inX12, by decide, rfl, wd_1435, tyX12_ok, nmX12, rfl, fun _ => rfl⟩
theorem fl_RX12_109 : m_FL RX12 109 12 43 true := ⟨RX12, TX12, 73, rfl, inX12, by decide, rfl, wd_1436, tyX12_ok, nmX12, rfl, fun _ => rfl⟩
theorem fl_RX12_112 : m_FL RX12 112 12 44 true := ⟨RX12, TX12, 73, rfl, inX12, by decide, rfl, wd_1437, tyX12_ok, nmX12, rfl, fun _ => rfl⟩
theorem fl_RX12_115 : m_FL RX12 115 12 45 true := ⟨RX12, TX12, 73, rfl, inX12, by decide, rfl, wd_1438, tyX12_ok, nmX12, rfl, fun _ => rfl⟩
theorem fl_RX12_118 : m_FL RX12 118 12 46 true := ⟨RX12, TX12, 73, rfl, inX12, by decide, rfl, wd_1439, tyX12_ok, nmX12, rfl, fun _ => rfl⟩
theorem fl_RX12_121 : m_FL RX12 121 12 47 true := ⟨RX12, TX12, 73, rfl, inX12, by decide, rfl, wd_1440, tyX12_ok, nmX12, rfl, fun _ => rfl⟩
theorem fl_RX12_124 : m_FL RX12 124 12 48 true := ⟨RX12, TX12, 73, rfl, inX12, by decide, rfl, wd_1441, tyX12_ok, nmX12, rfl, fun _ => rfl⟩
theorem fl_RX12_127 : m_FL RX12 127 12 49 true := ⟨RX12, TX12, 73, rfl, inX12, by decide, rfl, wd_1442, tyX12_ok, nmX12, rfl, fun _ => rfl⟩
theorem fl_RX12_13 : m_FL RX12 13 12 3 true := ⟨RX12, TX12, 73, rfl, inX12, by decide, rfl, wd_1396, tyX12_ok, nmX12, rfl, fun _ => rfl⟩
theorem fl_RX12_130 : m_FL RX12 130 12 50 true := ⟨RX12, TX12, 73, rfl, inX12, by decide, rfl, wd_1443, tyX12_ok, nmX12, rfl, fun _ => rfl⟩
theorem fl_RX12_133 : m_FL RX12 133 12 51 true := ⟨RX12, TX12, 73, rfl, inX12, by decide, rfl, wd_1444, tyX12_ok, nmX12, rfl, fun _ => rfl⟩
theorem fl_RX12_136 : m_FL RX12 136 12 52 true := ⟨RX12, TX12, 73, rfl, inX12, by decide, rfl, wd_1445, tyX12_ok, nmX12, rfl, fun _ => rfl⟩
theorem fl_RX12_139 : m_FL RX12 139 12 58 true := ⟨RX12, TX12, 73, rfl, inX12, by decide, rfl, wd_1451, tyX12_ok, nmX12, rfl, fun _ => rfl⟩
theorem fl_RX12_142 : m_FL RX12 142 12 59 true := ⟨RX12, TX12, 73, rfl, inX12, by decide, rfl, wd_1452, tyX12_ok, nmX12, rfl, fun _ => rfl⟩
theorem fl_RX12_145 : m_FL RX12 145 12 60 true := ⟨RX12, TX12, 73, rfl, inX12, by decide, rfl, wd_1453, tyX12_ok, nmX12, rfl, fun _ => rfl⟩
theorem fl_RX12_148 : m_FL RX12 148 12 61 true := ⟨RX12, TX12, 73, rfl, inX12, by decide, rfl, wd_1454, tyX12_ok, nmX12, rfl, fun _ => rfl⟩
theorem fl_RX12_151 : m_FL RX12 151 12 62 true := ⟨RX12, TX12, 73, rfl, inX12, by decide, rfl, wd_1455, tyX12_ok, nmX12, rfl, fun _ => rfl⟩
theorem fl_RX12_154 : m_FL RX12 154 12 63 true := ⟨RX12, TX12, 73, rfl, inX12, by decide, rfl, wd_1456, tyX12_ok, nmX12, rfl, fun _ => rfl⟩
theorem fl_RX12_157 : m_FL RX12 157 12 65 true := ⟨RX12, TX12, 73, rfl, inX12, by decide, rfl, wd_1458, tyX12_ok, nmX12, rfl, fun _ => rfl⟩
theorem fl_RX12_16 : m_FL RX12 16 12 4 true := ⟨RX12, TX12, 73, rfl, inX12, by decide, rfl, wd_1397, tyX12_ok, nmX12, rfl, fun _ => rfl⟩
theorem fl_RX12_160 : m_FL RX12 160 12 68 false := ⟨RX12, TX12, 73, rfl, inX12, by decide, rfl, wd_1461, tyX12_ok, nmX12, rfl, fun h => by cases h⟩
theorem fl_RX12_163 : m_FL RX12 163 12 71 true := ⟨RX12, TX12, 73, rfl, inX12, by decide, rfl, wd_1464, tyX12_ok, nmX12, rfl, fun _ => rfl⟩
theorem fl_RX12_166 : m_FL RX12 166 12 0 false := ⟨RX12, TX12, 73, rfl, inX12, by decide, rfl, wd_1393, tyX12_ok, nmX12, rfl, fun h => by cases h⟩
theorem fl_RX12_169 : m_FL RX12 169 12 1 false := ⟨RX12, TX12, 73, rfl, inX12, by decide, rfl, wd_1394, tyX12_ok, nmX12, rfl, fun h => by cases h⟩
theorem fl_RX12_172 : m_FL RX12 172 12 8 false := ⟨RX12, TX12, 73, rfl, inX12, by decide, rfl, wd_1401, tyX12_ok, nmX12, rfl, fun h => by cases h⟩
theorem fl_RX12_19 : m_FL RX12 19 12 5 true := ⟨RX12, TX12, 73, rfl, inX12, by decide, rfl, wd_1398, tyX12_ok, nmX12, rfl, fun _ => rfl⟩
theorem fl_RX12_23 : m_FL RX12 23 12 6 true := ⟨RX12, TX12, 73, rfl, inX12, by decide, rfl, wd_1399, tyX12_ok, nmX12, rfl, fun _ => rfl⟩
theorem fl_RX12_236 : m_FL RX12 236 12 13 false := ⟨RX12, TX12, 73, rfl, inX12, by decide, rfl, wd_1406, tyX12_ok, nmX12, rfl, fun h => by cases h⟩
theorem fl_RX12_239 : m_FL RX12 239 12 11 false := ⟨RX12, TX12, 73, rfl, inX12, by decide, rfl, wd_1404, tyX12_ok, nmX12, rfl, fun h => by cases h⟩
theorem fl_RX12_246 : m_FL RX12 246 12 15 false := ⟨RX12, TX12, 73, rfl, inX12, by decide, rfl, wd_1408, tyX12_ok, nmX12, rfl, fun h => by cases h⟩
theorem fl_RX12_249 : m_FL RX12 249 12 19 false := ⟨RX12, TX12, 73, rfl, inX12, by decide, rfl, wd_1412, tyX12_ok, nmX12, rfl, fun h => by cases h⟩
theorem fl_RX12_256 : m_FL RX12 256 12 14 false := ⟨RX12, TX12, 73, rfl, inX12, by decide, rfl, wd_1407, tyX12_ok, nmX12, rfl, fun h => by cases h⟩
theorem fl_RX12_259 : m_FL RX12 259 12 17 false := ⟨RX12, TX12, 73, rfl, inX12, by decide, rfl, wd_1410, tyX12_ok, nmX12, rfl, fun h => by cases h⟩
theorem fl_RX12_26 : m_FL RX12 26 12 7 true := ⟨RX12, TX12, 73, rfl, inX12, by decide, rfl, wd_1400, tyX12_ok, nmX12, rfl, fun _ => rfl⟩
theorem fl_RX12_269 : m_FL RX12 269 12 16 false := ⟨RX12, TX12, 73, rfl, inX12, by decide, rfl, wd_1409, tyX12_ok, nmX12, rfl, fun h => by cases h⟩
theorem fl_RX12_288 : m_FL RX12 288 12 23 false := ⟨RX12, TX12, 73, rfl, inX12, by decide, rfl, wd_1416, tyX12_ok, nmX12, rfl, fun h => by cases h⟩
theorem fl_RX12_29 : m_FL RX12 29 12 9 true := ⟨RX12, TX12, 73, rfl, inX12, by decide, rfl, wd_1402, tyX12_ok, nmX12, rfl, fun _ => rfl⟩
theorem fl_RX12_291 : m_FL RX12 291 12 29 false := ⟨RX12, TX12, 73, rfl, inX12, by decide, rfl, wd_1422, tyX12_ok, nmX12, rfl, fun h => by cases h⟩
theorem fl_RX12_311 : m_FL RX12 311 12 30 false := ⟨RX12, TX12, 73, rfl, inX12, by decide, rfl, wd_1423, tyX12_ok, nmX12, rfl, fun h => by cases h⟩
theorem fl_RX12_317 : m_FL RX12 317 12 26 false := ⟨RX12, TX12, 73, rfl, inX12, by decide, rfl, wd_1419, tyX12_ok, nmX12, rfl, fun h => by cases h⟩
theorem fl_RX12_32 : m_FL RX12 32 12 10 true := ⟨RX12, TX12, 73, rfl, inX12, by decide, rfl, wd_1403, tyX12_ok, nmX12, rfl, fun _ => rfl⟩
theorem fl_RX12_326 : m_FL RX12 326 12 20 false := ⟨RX12, TX12, 73, rfl, inX12, by decide, rfl, wd_1413, tyX12_ok, nmX12, rfl, fun h => by cases h⟩
theorem fl_RX12_35 : m_FL RX12 35 12 12 true := ⟨RX12, TX12, 73, rfl, inX12, by decide, rfl, wd_1405, tyX12_ok, nmX12, rfl, fun _ => rfl⟩
theorem fl_RX12_379 : m_FL RX12 379 12 21 false := ⟨RX12, TX12, 73, rfl, inX12, by decide, rfl, wd_1414, tyX12_ok, nmX12, rfl, fun h => by cases h⟩
theorem fl_RX12_38 : m_FL RX12 38 12 18 false := ⟨RX12, TX12, 73, rfl, inX12, by decide, rfl, wd_1411, tyX12_ok, nmX12, rfl, fun h => by cases h⟩
theorem fl_RX12_402 : m_FL RX12 402 12 37 false := ⟨RX12, TX12, 73, rfl, inX12, by decide, rfl, wd_1430, tyX12_ok, nmX12, rfl, fun h => by cases h⟩
theorem fl_RX12_405 : m_FL RX12 405 12 33 false := ⟨RX12, TX12, 73, rfl, inX12, by decide, rfl, wd_1426, tyX12_ok, nmX12, rfl, fun h => by cases h⟩
theorem fl_RX12_42 : m_FL RX12 42 12 22 true := ⟨RX12, TX12, 73, rfl, inX12, by decide, rfl, wd_1415, tyX12_ok, nmX12, rfl, fun _ => rfl⟩
theorem fl_RX12_420 : m_FL RX12 420 12 38 false := ⟨RX12, TX12, 73, rfl, inX12, by decide, rfl, wd_1431, tyX12_ok, nmX12, rfl, fun h => by cases h⟩
theorem fl_RX12_429 : m_FL RX12 429 12 39 false := ⟨RX12, TX12, 73, rfl, inX12, by decide, rfl, wd_1432, tyX12_ok, nmX12, rfl, fun h => by cases h⟩
theorem fl_RX12_45 : m_FL RX12 45 12 24 true := ⟨RX12, TX12, 73, rfl, inX12, by decide, rfl, wd_1417, tyX12_ok, nmX12, rfl, fun _ => rfl⟩
theorem fl_RX12_455 : m_FL RX12 455 12 40 false := ⟨RX12, TX12, 73, rfl, inX12, by decide, rfl, wd_1433, tyX12_ok, nmX12, rfl, fun h => by cases h⟩
theorem fl_RX12_48 : m_FL RX12 48 12 25 true := ⟨RX12, TX12, 73, rfl, inX12, by decide, rfl, wd_1418, tyX12_ok, nmX12, rfl, fun _ => rfl⟩
theorem fl_RX12_51 : m_FL RX12 51 12 27 true := ⟨RX12, TX12, 73, rfl, inX12, by decide, rfl, wd_1420, tyX12_ok, nmX12, rfl, fun _ => rfl⟩
theorem fl_RX12_530 : m_FL RX12 530 12 53 false := ⟨RX12, TX12, 73, rfl, inX12, by decide, rfl, wd_1446, tyX12_ok, nmX12, rfl, fun h => by cases h⟩
theorem fl_RX12_533 : m_FL RX12 533 12 54 false := ⟨RX12, TX12, 73, rfl, inX12, by decide, rfl, wd_1447, tyX12_ok, nmX12, rfl, fun h => by cases h⟩
theorem fl_RX12_539 : m_FL RX12 539 12 55 false := ⟨RX12, TX12, 73, rfl, inX12, by decide, rfl, wd_1448, tyX12_ok, nmX12, rfl, fun h => by cases h⟩
theorem fl_RX12_54 : m_FL RX12 54 12 28 true := ⟨RX12, TX12, 73, rfl, inX12, by decide, rfl, wd_1421, tyX12_ok, nmX12, rfl, fun _ => rfl⟩
theorem fl_RX12_553 : m_FL RX12 553 12 57 false := ⟨RX12, TX12, 73, rfl, inX12, by decide, rfl, wd_1450, tyX12_ok, nmX12, rfl, fun h => by cases h⟩
theorem fl_RX12_556 : m_FL RX12 556 12 56 false := ⟨RX12, TX12, 73, rfl, inX12, by decide, rfl, wd_1449, tyX12_ok, nmX12, rfl, fun h => by cases h⟩
theorem fl_RX12_568 : m_FL RX12 568 12 64 false := ⟨RX12, TX12, 73, rfl, inX12, by decide, rfl, wd_1457, tyX12_ok, nmX12, rfl, fun h => by cases h⟩
theorem fl_RX12_592 : m_FL RX12 592 12 69 false := ⟨RX12, TX12, 73, rfl, inX12, by decide, rfl, wd_1462, tyX12_ok, nmX12, rfl, fun h => by cases h⟩
theorem fl_RX12_595 : m_FL RX12 595 12 66 false := ⟨RX12, TX12, 73, rfl, inX12, by decide, rfl, wd_1459, tyX12_ok, nmX12, rfl, fun h => by cases h⟩
theorem fl_RX12_598 : m_FL RX12 598 12 67 false := ⟨RX12, TX12, 73, rfl, inX12, by decide, rfl, wd_1460, tyX12_ok, nmX12, rfl, fun h => by cases h⟩
theorem fl_RX12_611 : m_FL RX12 611 12 70 false := ⟨RX12, TX12, 73, rfl, inX12, by decide, rfl, wd_1463, tyX12_ok, nmX12, rfl, fun h => by cases h⟩
theorem fl_RX12_625 : m_FL RX12 625 12 72 false := ⟨RX12, TX12, 73, rfl, inX12, by decide, rfl, wd_1465, tyX12_ok, nmX12, rfl, fun h => by cases h⟩
theorem fl_RX12_7 : m_FL RX12 7 12 2 true := ⟨RX12, TX12, 73, rfl, inX12, by decide, rfl, wd_1395, tyX12_ok, nmX12, rfl, fun _ => rfl⟩
theorem fl_RX12_75 : m_FL RX12 75 12 31 true := ⟨RX12, TX12, 73, rfl, inX12, by decide, rfl, wd_1424, tyX12_ok, nmX12, rfl, fun _ => rfl⟩
theorem fl_RX12_91 : m_FL RX12 91 12 32 true := ⟨RX12, TX12, 73, rfl, inX12, by decide, rfl, wd_1425, tyX12_ok, nmX12, rfl, fun _ => rfl⟩
theorem fl_RX12_94 : m_FL RX12 94 12 34 true := ⟨RX12, TX12, 73, rfl, inX12, by decide, rfl, wd_1427, tyX12_ok, nmX12, rfl, fun _ => rfl⟩
theorem fl_RX12_97 : m_FL RX12 97 12 35 true := ⟨RX12, TX12, 73, rfl, inX12, by decide, rfl, wd_1428, tyX12_ok, nmX12, rfl, fun _ => rfl⟩
theorem fl_RX1_11 : m_FL RX1 11 1 1 true := ⟨RX1, TX1, 6, rfl, inX1, by decide, rfl, wd_344, tyX1_ok, nmX1, rfl, fun _ => rfl⟩
theorem fl_RX1_15 : m_FL RX1 15 1 2 true := ⟨RX1, TX1, 6, rfl, inX1, by decide, rfl, wd_345, tyX1_ok, nmX1, rfl, fun _ => rfl⟩
theorem fl_RX1_18 : m_FL RX1 18 1 3 true := ⟨RX1, TX1, 6, rfl, inX1, by decide, rfl, wd_346, tyX1_ok, nmX1, rfl, fun _ => rfl⟩
theorem fl_RX1_21 : m_FL RX1 21 1 4 true := ⟨RX1, TX1, 6, rfl, inX1, by decide, rfl, wd_347, tyX1_ok, nmX1, rfl, fun _ => rfl⟩
theorem fl_RX1_24 : m_FL RX1 24 1 5 true := ⟨RX1, TX1, 6, rfl, inX1, by decide, rfl, wd_348, tyX1_ok, nmX1, rfl, fun _ => rfl⟩
theorem fl_RX1_27 : m_FL RX1 27 1 0 true := ⟨RX1, TX1, 6, rfl, inX1, by decide, rfl, wd_343, tyX1_ok, nmX1, rfl, fun _ => rfl⟩
theorem fl_RX2_11 : m_FL RX2 11 2 0 true := ⟨RX2, TX2, 3, rfl, inX2, by decide, rfl, wd_274, tyX2_ok, nmX2, rfl, fun _ => rfl⟩
theorem fl_RX2_17 : m_FL RX2 17 2 1 true := ⟨RX2, TX2, 3, rfl, inX2, by decide, rfl, wd_275, tyX2_ok, nmX2, rfl, fun _ => rfl⟩
theorem fl_RX2_20 : m_FL RX2 20 2 2 true := ⟨RX2, TX2, 3, rfl, inX2, by decide, rfl, wd_276, tyX2_ok, nmX2, rfl, fun _ => rfl⟩
theorem fl_RX3_14 : m_FL RX3 14 3 1 true := ⟨RX3, TX3, 8, rfl, inX3, by decide, rfl, wd_313, tyX3_ok, nmX3, rfl, fun _ => rfl⟩
theorem fl_RX3_21 : m_FL RX3 21 3 2 true := ⟨RX3, TX3, 8, rfl, inX3, by decide, rfl, wd_314, tyX3_ok, nmX3, rfl, fun _ => rfl⟩
theorem fl_RX3_25 : m_FL RX3 25 3 3 true := ⟨RX3, TX3, 8, rfl, inX3, by decide, rfl, wd_315, tyX3_ok, nmX3, rfl, fun _ => rfl⟩
theorem fl_RX3_31 : m_FL RX3 31 3 4 true := ⟨RX3, TX3, 8, rfl, inX3, by decide, rfl, wd_316, tyX3_ok, nmX3, rfl, fun _ => rfl⟩
theorem fl_RX3_34 : m_FL RX3 34 3 5 false := ⟨RX3, TX3, 8, rfl, inX3, by decide, rfl, wd_317, tyX3_ok, nmX3, rfl, fun h => by cases h⟩
theorem fl_RX3_38 : m_FL RX3 38 3 6 false := ⟨RX3, TX3, 8, rfl, inX3, by decide, rfl, wd_318, tyX3_ok, nmX3, rfl, fun h => by cases h⟩
theorem fl_RX3_41 : m_FL RX3 41 3 7 false := ⟨RX3, TX3, 8, rfl, inX3, by decide, rfl, wd_319, tyX3_ok, nmX3, rfl, fun h => by cases h⟩
theorem fl_RX3_44 : m_FL RX3 44 3 0 true := ⟨RX3, TX3, 8, rfl, inX3, by decide, rfl, wd_312, tyX3_ok, nmX3, rfl, fun _ => rfl⟩
theorem fl_RX4_13 : m_FL RX4 13 4 0 true := ⟨RX4, TX4, 4, rfl, inX4, by decide, rfl, wd_190, tyX4_ok, nmX4, rfl, fun _ => rfl⟩
theorem fl_RX4_17 : m_FL RX4 17 4 1 true := ⟨RX4, TX4, 4, rfl, inX4, by decide, rfl, wd_191, tyX4_ok, nmX4, rfl, fun _ => rfl⟩
theorem fl_RX4_20 : m_FL RX4 20 4 2 false := ⟨RX4, TX4, 4, rfl, inX4, by decide, rfl, wd_192, tyX4_ok, nmX4, rfl, fun h => by cases h⟩
theorem fl_RX4_24 : m_FL RX4 24 4 3 false := ⟨RX4, TX4, 4, rfl, inX4, by decide, rfl, wd_193, tyX4_ok, nmX4, rfl, fun h => by cases h⟩
theorem fl_RX5_11 : m_FL RX5 11 5 0 true := ⟨RX5, TX5, 11, rfl, inX5, by decide, rfl, wd_234, tyX5_ok, nmX5, rfl, fun _ => rfl⟩
theorem fl_RX5_15 : m_FL RX5 15 5 1 true := ⟨RX5, TX5, 11, rfl, inX5, by decide, rfl, wd_235, tyX5_ok, nmX5, rfl, fun _ => rfl⟩
theorem fl_RX5_18 : m_FL RX5 18 5 2 true := ⟨RX5, TX5, 11, rfl, inX5, by decide, rfl, wd_236, tyX5_ok, nmX5, rfl, fun _ => rfl⟩
theorem fl_RX5_21 : m_FL RX5 21 5 3 true := ⟨RX5, TX5, 11, rfl, inX5, by decide, rfl, wd_237, tyX5_ok, nmX5, rfl, fun _ => rfl⟩
theorem fl_RX5_29 : m_FL RX5 29 5 4 true := ⟨RX5, TX5, 11, rfl, inX5, by decide, rfl, wd_238, tyX5_ok, nmX5, rfl, fun _ => rfl⟩
theorem fl_RX5_33 : m_FL RX5 33 5 5 false := ⟨RX5, TX5, 11, rfl, inX5, by decide, rfl, wd_239, tyX5_ok, nmX5, rfl, fun h => by cases h⟩
theorem fl_RX5_37 : m_FL RX5 37 5 6 false := ⟨RX5, TX5, 11, rfl, inX5, by decide, rfl, wd_240, tyX5_ok, nmX5, rfl, fun h => by cases h⟩
theorem fl_RX5_40 : m_FL RX5 40 5 7 false := ⟨RX5, TX5, 11, rfl, inX5, by decide, rfl, wd_241, tyX5_ok, nmX5, rfl, fun h => by cases h⟩
theorem fl_RX5_44 : m_FL RX5 44 5 8 false := ⟨RX5, TX5, 11, rfl, inX5, by decide, rfl, wd_242, tyX5_ok, nmX5, rfl, fun h => by cases h⟩
theorem fl_RX5_47 : m_FL RX5 47 5 9 false := ⟨RX5, TX5, 11, rfl, inX5, by decide, rfl, wd_243, tyX5_ok, nmX5, rfl, fun h => by cases h⟩
theorem fl_RX5_50 : m_FL RX5 50 5 10 false := ⟨RX5, TX5, 11, rfl, inX5, by decide, rfl, wd_244, tyX5_ok, nmX5, rfl, fun h => by cases h⟩
theorem fl_RX6_11 : m_FL RX6 11 6 1 true := ⟨RX6, TX6, 9, rfl, inX6, by decide, rfl, wd_434, tyX6_ok, nmX6, rfl, fun _ => rfl⟩
theorem fl_RX6_15 : m_FL RX6 15 6 2 true := ⟨RX6, TX6, 9, rfl, inX6, by decide, rfl, wd_435, tyX6_ok, nmX6, rfl, fun _ => rfl⟩
theorem fl_RX6_19 : m_FL RX6 19 6 3 true := ⟨RX6, TX6, 9, rfl, inX6, by decide, rfl, wd_436, tyX6_ok, nmX6, rfl, fun _ => rfl⟩
theorem fl_RX6_22 : m_FL RX6 22 6 4 true := ⟨RX6, TX6, 9, rfl, inX6, by decide, rfl, wd_437, tyX6_ok, nmX6, rfl, fun _ => rfl⟩
theorem fl_RX6_25 : m_FL RX6 25 6 5 false := ⟨RX6, TX6, 9, rfl, inX6, by decide, rfl, wd_438, tyX6_ok, nmX6, rfl, fun h => by cases h⟩
theorem fl_RX6_29 : m_FL RX6 29 6 6 false := ⟨RX6, TX6, 9, rfl, inX6, by decide, rfl, wd_439, tyX6_ok, nmX6, rfl, fun h => by cases h⟩
theorem fl_RX6_32 : m_FL RX6 32 6 7 false := ⟨RX6, TX6, 9, rfl, inX6, by decide, rfl, wd_440, tyX6_ok, nmX6, rfl, fun h => by cases h⟩
theorem fl_RX6_35 : m_FL RX6 35 6 8 false := ⟨RX6, TX6, 9, rfl, inX6, by decide, rfl, wd_441, tyX6_ok, nmX6, rfl, fun h => by cases h⟩
theorem fl_RX6_38 : m_FL RX6 38 6 0 true := ⟨RX6, TX6, 9, rfl, inX6, by decide, rfl, wd_433, tyX6_ok, nmX6, rfl, fun _ => rfl⟩
theorem fl_RX7_11 : m_FL RX7 11 7 1 true := ⟨RX7, TX7, 8, rfl, inX7, by decide, rfl, wd_369, tyX7_ok, nmX7, rfl, fun _ => rfl⟩
theorem fl_RX7_15 : m_FL RX7 15 7 2 true := ⟨RX7, TX7, 8, rfl, inX7, by decide, rfl, wd_370, tyX7_ok, nmX7, rfl, fun _ => rfl⟩
theorem fl_RX7_18 : m_FL RX7 18 7 3 true := ⟨RX7, TX7, 8, rfl, inX7, by decide, rfl, wd_371, tyX7_ok, nmX7, rfl, fun _ => rfl⟩
theorem fl_RX7_21 : m_FL RX7 21 7 4 true := ⟨RX7, TX7, 8, rfl, inX7, by decide, rfl, wd_372, tyX7_ok, nmX7, rfl, fun _ => rfl⟩
theorem fl_RX7_24 : m_FL RX7 24 7 5 false := ⟨RX7, TX7, 8, rfl, inX7, by decide, rfl, wd_373, tyX7_ok, nmX7, rfl, fun h => by cases h⟩
theorem fl_RX7_28 : m_FL RX7 28 7 6 false := ⟨RX7, TX7, 8, rfl, inX7, by decide, rfl, wd_374, tyX7_ok, nmX7, rfl, fun h => by cases h⟩
theorem fl_RX7_31 : m_FL RX7 31 7 7 false := ⟨RX7, TX7, 8, rfl, inX7, by decide, rfl, wd_375, tyX7_ok, nmX7, rfl, fun h => by cases h⟩
theorem fl_RX7_34 : m_FL RX7 34 7 0 true := ⟨RX7, TX7, 8, rfl, inX7, by decide, rfl, wd_368, tyX7_ok, nmX7, rfl, fun _ => rfl⟩
theorem fl_RX8_13 : m_FL RX8 13 8 0 true := ⟨RX8, TX8, 5, rfl, inX8, by decide, rfl, wd_218, tyX8_ok, nmX8, rfl, fun _ => rfl⟩
theorem fl_RX8_19 : m_FL RX8 19 8 1 true := ⟨RX8, TX8, 5, rfl, inX8, by decide, rfl, wd_219, tyX8_ok, nmX8, rfl, fun _ => rfl⟩
theorem fl_RX8_22 : m_FL RX8 22 8 2 true := ⟨RX8, TX8, 5, rfl, inX8, by decide, rfl, wd_220, tyX8_ok, nmX8, rfl, fun _ => rfl⟩
theorem fl_RX8_25 : m_FL RX8 25 8 3 false := ⟨RX8, TX8, 5, rfl, inX8, by decide, rfl, wd_221, tyX8_ok, nmX8, rfl, fun h => by cases h⟩
theorem fl_RX8_29 : m_FL RX8 29 8 4 false := ⟨RX8, TX8, 5, rfl, inX8, by decide, rfl, wd_222, tyX8_ok, nmX8, rfl, fun h => by cases h⟩
theorem fl_RX9_15 : m_FL RX9 15 9 1 true := ⟨RX9, TX9, 9, rfl, inX9, by decide, rfl, wd_400, tyX9_ok, nmX9, rfl, fun _ => rfl⟩
theorem fl_RX9_18 : m_FL RX9 18 9 2 true := ⟨RX9, TX9, 9, rfl, inX9, by decide, rfl, wd_401, tyX9_ok, nmX9, rfl, fun _ => rfl⟩
theorem fl_RX9_21 : m_FL RX9 21 9 3 true := ⟨RX9, TX9, 9, rfl, inX9, by decide, rfl, wd_402, tyX9_ok, nmX9, rfl, fun _ => rfl⟩
theorem fl_RX9_24 : m_FL RX9 24 9 4 false := ⟨RX9, TX9, 9, rfl, inX9, by decide, rfl, wd_403, tyX9_ok, nmX9, rfl, fun h => by cases h⟩
theorem fl_RX9_28 : m_FL RX9 28 9 5 false := ⟨RX9, TX9, 9, rfl, inX9, by decide, rfl, wd_404, tyX9_ok, nmX9, rfl, fun h => by cases h⟩
theorem fl_RX9_31 : m_FL RX9 31 9 6 false := ⟨RX9, TX9, 9, rfl, inX9, by decide, rfl, wd_405, tyX9_ok, nmX9, rfl, fun h => by cases h⟩
theorem fl_RX9_34 : m_FL RX9 34 9 7 false := ⟨RX9, TX9, 9, rfl, inX9, by decide, rfl, wd_406, tyX9_ok, nmX9, rfl, fun h => by cases h⟩
theorem fl_RX9_37 : m_FL RX9 37 9 8 false := ⟨RX9, TX9, 9, rfl, inX9, by decide, rfl, wd_407, tyX9_ok, nmX9, rfl, fun h => by cases h⟩
theorem fl_RX9_9 : m_FL RX9 9 9 0 true := ⟨RX9, TX9, 9, rfl, inX9, by decide, rfl, wd_399, tyX9_ok, nmX9, rfl, fun _ => rfl⟩
theorem kc_RJ6_264 : Cond.constant RJ6 264 (Int32.ofInt 65536) ∈ lw_g := wd_1252
theorem kc_RJ6_265 : Cond.constant RJ6 265 (Int32.ofInt 1431655765) ∈ lw_g := wd_1160
theorem kc_RJ6_266 : Cond.constant RJ6 266 (Int32.ofInt 858993459) ∈ lw_g := wd_1161
theorem kc_RJ6_267 : Cond.constant RJ6 267 (Int32.ofInt 252645135) ∈ lw_g := wd_1162
theorem kc_RX0_122 : Cond.constantLong RX0 122 (Int64.ofInt 1103) ∈ lw_g := wd_1324
theorem kc_RX0_124 : Cond.constantLong RX0 124 (Int64.ofInt 12345) ∈ lw_g := wd_1325
theorem kc_RX0_126 : Cond.constantLong RX0 126 (Int64.ofInt 1000003) ∈ lw_g := wd_1326
theorem kc_RX11_294 : Cond.constant RX11 294 (Int32.ofInt 1000000) ∈ lw_g := wd_1314
theorem kc_RX12_186 : Cond.constantLong RX12 186 (Int64.ofInt 9999) ∈ lw_g := wd_1637
theorem kc_RX12_188 : Cond.constantLong RX12 188 (Int64.ofInt 99) ∈ lw_g := wd_1638
theorem kc_RX12_202 : Cond.constantLong RX12 202 (Int64.ofInt 7) ∈ lw_g := wd_1647
theorem kc_RX12_220 : Cond.constantLong RX12 220 (Int64.ofInt 20) ∈ lw_g := wd_1725
theorem kc_RX12_228 : Cond.constantLong RX12 228 (Int64.ofInt 5) ∈ lw_g := wd_1730
theorem kc_RX12_230 : Cond.constantLong RX12 230 (Int64.ofInt 999) ∈ lw_g := wd_1735
theorem kc_RX12_232 : Cond.constantLong RX12 232 (Int64.ofInt 3) ∈ lw_g := wd_1736
theorem kc_RX12_234 : Cond.constantLong RX12 234 (Int64.ofInt 9) ∈ lw_g := wd_1737
theorem kc_RX12_272 : Cond.constantLong RX12 272 (Int64.ofInt 32) ∈ lw_g := wd_1784
theorem kc_RX12_274 : Cond.constantLong RX12 274 (Int64.ofInt 96) ∈ lw_g := wd_1785
theorem kc_RX12_276 : Cond.constantLong RX12 276 (Int64.ofInt (-1)) ∈ lw_g := wd_1692
theorem kc_RX12_278 : Cond.constantLong RX12 278 (Int64.ofInt 1000000) ∈ lw_g := wd_1786
theorem kc_RX12_280 : Cond.constantLong RX12 280 (Int64.ofInt 10) ∈ lw_g := wd_1787
theorem kc_RX12_282 : Cond.constantLong RX12 282 (Int64.ofInt 48) ∈ lw_g := wd_1788
theorem kc_RX12_301 : Cond.constantLong RX12 301 (Int64.ofInt 24) ∈ lw_g := wd_1870
theorem kc_RX12_303 : Cond.constantLong RX12 303 (Int64.ofInt 25) ∈ lw_g := wd_1871
theorem kc_RX12_305 : Cond.constantLong RX12 305 (Int64.ofInt 27) ∈ lw_g := wd_1872
theorem kc_RX12_335 : Cond.constantLong RX12 335 (Int64.ofInt 1000) ∈ lw_g := wd_1837
theorem kc_RX12_341 : Cond.constantLong RX12 341 (Int64.ofInt 15) ∈ lw_g := wd_1846
theorem kc_RX12_347 : Cond.constantLong RX12 347 (Int64.ofInt 14836) ∈ lw_g := wd_1812
theorem kc_RX12_362 : Cond.constantLong RX12 362 (Int64.ofInt 1476) ∈ lw_g := wd_1877
theorem kc_RX12_364 : Cond.constantLong RX12 364 (Int64.ofInt 498) ∈ lw_g := wd_1878
theorem kc_RX12_382 : Cond.constantLong RX12 382 (Int64.ofInt 24627848) ∈ lw_g := wd_1793
theorem kc_RX12_384 : Cond.constantLong RX12 384 (Int64.ofInt 11703827) ∈ lw_g := wd_1798
theorem kc_RX12_386 : Cond.constantLong RX12 386 (Int64.ofInt 67155) ∈ lw_g := wd_1799
theorem kc_RX12_391 : Cond.constantLong RX12 391 (Int64.ofInt 294) ∈ lw_g := wd_1879
theorem kc_RX12_416 : Cond.constantLong RX12 416 (Int64.ofInt (-1000000000)) ∈ lw_g := wd_1704
theorem kc_RX12_418 : Cond.constantLong RX12 418 (Int64.ofInt 1000000000) ∈ lw_g := wd_1705
theorem kc_RX12_443 : Cond.constantLong RX12 443 (Int64.ofInt 2) ∈ lw_g := wd_1892
theorem kc_RX12_515 : Cond.constant RX12 515 (Int32.ofInt 100000000) ∈ lw_g := wd_2004
theorem kc_RX12_525 : Cond.constantLong RX12 525 (Int64.ofInt 30) ∈ lw_g := wd_2032
theorem kc_RX12_548 : Cond.constantLong RX12 548 (Int64.ofInt 8) ∈ lw_g := wd_2037
theorem kc_RX12_583 : Cond.constantLong RX12 583 (Int64.ofInt 239301) ∈ lw_g := wd_2108
theorem kc_RX12_585 : Cond.constantLong RX12 585 (Int64.ofInt 754996) ∈ lw_g := wd_2109
theorem kc_RX12_590 : Cond.constantLong RX12 590 (Int64.ofInt 21279923) ∈ lw_g := wd_2114
theorem kc_RX12_614 : Cond.constantLong RX12 614 (Int64.ofInt 1103) ∈ lw_g := wd_2136
theorem kc_RX12_616 : Cond.constantLong RX12 616 (Int64.ofInt 12345) ∈ lw_g := wd_2137
theorem kc_RX12_618 : Cond.constantLong RX12 618 (Int64.ofInt 1000003) ∈ lw_g := wd_2138
theorem kc_RX12_620 : Cond.constantLong RX12 620 (Int64.ofInt 50) ∈ lw_g := wd_2131
theorem kc_RX12_628 : Cond.constantLong RX12 628 (Int64.ofInt 6) ∈ lw_g := wd_2143
theorem kc_RX12_633 : Cond.constantLong RX12 633 (Int64.ofInt 14) ∈ lw_g := wd_2152
theorem kc_RX12_635 : Cond.constantLong RX12 635 (Int64.ofInt 16) ∈ lw_g := wd_2153
theorem kc_RX12_67 : Cond.constantLong RX12 67 (Int64.ofInt 655) ∈ lw_g := wd_1383
theorem kc_RX2_65 : Cond.constant RX2 65 (Int32.ofInt (-2000000000)) ∈ lw_g := wd_592
theorem kc_RX8_51 : Cond.constant RX8 51 (Int32.ofInt (-2000000000)) ∈ lw_g := wd_585
theorem kc_RX8_52 : Cond.constantLong RX8 52 (Int64.ofInt 1000000000) ∈ lw_g := wd_586
theorem kc_RX8_54 : Cond.constantLong RX8 54 (Int64.ofInt (-1000000000)) ∈ lw_g := wd_587
theorem kc_RX9_44 : Cond.constant RX9 44 (Int32.ofInt 100000) ∈ lw_g := wd_1234
theorem ml_RX0_70 : Cond.methodLink RX0 70 Lib.Math.max.name ∈ lw_g := wd_942
theorem ml_RX0_87 : Cond.methodLink RX0 87 Lib.Math.min.name ∈ lw_g := wd_940
theorem ml_RX10_31 : Cond.methodLink RX10 31 arraycopyName ∈ lw_g := wd_892
theorem ml_RX2_66 : Cond.methodLink RX2 66 Lib.Math.min.name ∈ lw_g := wd_593
theorem ml_RX2_71 : Cond.methodLink RX2 71 Lib.Math.max.name ∈ lw_g := wd_596
theorem ml_RX4_27 : Cond.methodLink RX4 27 arraycopyName ∈ lw_g := wd_897
theorem ml_RX4_37 : Cond.methodLink RX4 37 Lib.Math.min.name ∈ lw_g := wd_931
theorem ml_RX5_86 : Cond.methodLink RX5 86 Lib.Math.min.name ∈ lw_g := wd_768
theorem ml_RX5_93 : Cond.methodLink RX5 93 yJ0_length_8abf5 ∈ lw_g := wd_713
theorem ml_RX5_98 : Cond.methodLink RX5 98 yJ0_charAt_5068e ∈ lw_g := wd_723
theorem ml_RX6_48 : Cond.methodLink RX6 48 Lib.Math.min.name ∈ lw_g := wd_1279
theorem ml_RX6_93 : Cond.methodLink RX6 93 Lib.Math.max.name ∈ lw_g := wd_1309
theorem ml_RX7_52 : Cond.methodLink RX7 52 Lib.Math.min.name ∈ lw_g := wd_1126
theorem ml_RX9_55 : Cond.methodLink RX9 55 Lib.Math.min.name ∈ lw_g := wd_1226
theorem ml_RX9_70 : Cond.methodLink RX9 70 arraycopyName ∈ lw_g := wd_1239
theorem sp_1000 : (Int16.ofInt 1000).toInt32 = Int32.ofInt 1000 := by decide +kernel
theorem sp_1001 : (Int16.ofInt 1001).toInt32 = Int32.ofInt 1001 := by decide +kernel
theorem sp_141 : (Int16.ofInt 141).toInt32 = Int32.ofInt 141 := by decide +kernel
theorem sp_155 : (Int16.ofInt 155).toInt32 = Int32.ofInt 155 := by decide +kernel
theorem sp_191 : (Int16.ofInt 191).toInt32 = Int32.ofInt 191 := by decide +kernel
theorem sp_192 : (Int16.ofInt 192).toInt32 = Int32.ofInt 192 := by decide +kernel
theorem sp_193 : (Int16.ofInt 193).toInt32 = Int32.ofInt 193 := by decide +kernel
theorem sp_194 : (Int16.ofInt 194).toInt32 = Int32.ofInt 194 := by decide +kernel
theorem sp_195 : (Int16.ofInt 195).toInt32 = Int32.ofInt 195 := by decide +kernel
theorem sp_196 : (Int16.ofInt 196).toInt32 = Int32.ofInt 196 := by decide +kernel
theorem sp_197 : (Int16.ofInt 197).toInt32 = Int32.ofInt 197 := by decide +kernel
theorem sp_213 : (Int16.ofInt 213).toInt32 = Int32.ofInt 213 := by decide +kernel
theorem sp_218 : (Int16.ofInt 218).toInt32 = Int32.ofInt 218 := by decide +kernel
theorem sp_255 : (Int16.ofInt 255).toInt32 = Int32.ofInt 255 := by decide +kernel
theorem sp_256 : (Int16.ofInt 256).toInt32 = Int32.ofInt 256 := by decide +kernel
theorem sp_257 : (Int16.ofInt 257).toInt32 = Int32.ofInt 257 := by decide +kernel
theorem sp_258 : (Int16.ofInt 258).toInt32 = Int32.ofInt 258 := by decide +kernel
theorem sp_259 : (Int16.ofInt 259).toInt32 = Int32.ofInt 259 := by decide +kernel
theorem sp_260 : (Int16.ofInt 260).toInt32 = Int32.ofInt 260 := by decide +kernel
theorem sp_261 : (Int16.ofInt 261).toInt32 = Int32.ofInt 261 := by decide +kernel
theorem sp_262 : (Int16.ofInt 262).toInt32 = Int32.ofInt 262 := by decide +kernel
theorem sp_263 : (Int16.ofInt 263).toInt32 = Int32.ofInt 263 := by decide +kernel
theorem sp_264 : (Int16.ofInt 264).toInt32 = Int32.ofInt 264 := by decide +kernel
theorem sp_265 : (Int16.ofInt 265).toInt32 = Int32.ofInt 265 := by decide +kernel
theorem sp_266 : (Int16.ofInt 266).toInt32 = Int32.ofInt 266 := by decide +kernel
theorem sp_267 : (Int16.ofInt 267).toInt32 = Int32.ofInt 267 := by decide +kernel
theorem sp_270 : (Int16.ofInt 270).toInt32 = Int32.ofInt 270 := by decide +kernel
theorem sp_271 : (Int16.ofInt 271).toInt32 = Int32.ofInt 271 := by decide +kernel
theorem sp_272 : (Int16.ofInt 272).toInt32 = Int32.ofInt 272 := by decide +kernel
theorem sp_274 : (Int16.ofInt 274).toInt32 = Int32.ofInt 274 := by decide +kernel
theorem sp_275 : (Int16.ofInt 275).toInt32 = Int32.ofInt 275 := by decide +kernel
theorem sp_277 : (Int16.ofInt 277).toInt32 = Int32.ofInt 277 := by decide +kernel
theorem sp_278 : (Int16.ofInt 278).toInt32 = Int32.ofInt 278 := by decide +kernel
theorem sp_279 : (Int16.ofInt 279).toInt32 = Int32.ofInt 279 := by decide +kernel
theorem sp_400 : (Int16.ofInt 400).toInt32 = Int32.ofInt 400 := by decide +kernel
theorem sp_4050 : (Int16.ofInt 4050).toInt32 = Int32.ofInt 4050 := by decide +kernel
theorem sp_4095 : (Int16.ofInt 4095).toInt32 = Int32.ofInt 4095 := by decide +kernel
theorem sp_4320 : (Int16.ofInt 4320).toInt32 = Int32.ofInt 4320 := by decide +kernel
theorem sp_5670 : (Int16.ofInt 5670).toInt32 = Int32.ofInt 5670 := by decide +kernel
theorem sp_576 : (Int16.ofInt 576).toInt32 = Int32.ofInt 576 := by decide +kernel
theorem sp_900 : (Int16.ofInt 900).toInt32 = Int32.ofInt 900 := by decide +kernel
theorem sp_999 : (Int16.ofInt 999).toInt32 = Int32.ofInt 999 := by decide +kernel
theorem sp_9999 : (Int16.ofInt 9999).toInt32 = Int32.ofInt 9999 := by decide +kernel
