/-! ===== the words: those of lw_tbl that the tables alone decide ===== -/
def wsL_law : List Cond := lw_tbl.filter goodWord
theorem zk_in (ws : List Cond) (h : ∀ w ∈ ws, w ∈ wsL_law) : GoodIn wsL_law ws := fun w hw => ⟨h w hw, good_of_word (List.mem_filter.mp (h w hw)).2⟩
theorem zk_tbl : ∀ w ∈ wsL_law, w ∈ lw_tbl := fun _ h => (List.mem_filter.mp h).1
theorem zk_t1 {w : Cond} (h : w ∈ tables_1_1) (g : goodWord w = true) : w ∈ wsL_law := List.mem_filter.mpr ⟨List.mem_append_right _ (show w ∈ tables_1 from List.mem_append_left _ h), g⟩
theorem zk_t2 {w : Cond} (h : w ∈ tables_1_2) (g : goodWord w = true) : w ∈ wsL_law := List.mem_filter.mpr ⟨List.mem_append_right _ (show w ∈ tables_1 from List.mem_append_right _ (List.mem_append_left _ h)), g⟩
theorem zk_t3 {w : Cond} (h : w ∈ tables_1_3) (g : goodWord w = true) : w ∈ wsL_law := List.mem_filter.mpr ⟨List.mem_append_right _ (show w ∈ tables_1 from List.mem_append_right _ (List.mem_append_right _ (List.mem_append_left _ h))), g⟩
theorem zk_t4 {w : Cond} (h : w ∈ tables_1_4) (g : goodWord w = true) : w ∈ wsL_law := List.mem_filter.mpr ⟨List.mem_append_right _ (show w ∈ tables_1 from List.mem_append_right _ (List.mem_append_right _ (List.mem_append_right _ (h)))), g⟩
theorem zk_s1 {q : MethodName × Nat} (h : q ∈ lw_privs_1) (g : goodWord (Cond.selects q.1.cls q.1 q.1) = true) : Cond.selects q.1.cls q.1 q.1 ∈ wsL_law := List.mem_filter.mpr ⟨List.mem_append_left _ (List.mem_map.mpr ⟨q, (show q ∈ lw_privs from List.mem_append_left _ h), rfl⟩), g⟩
theorem zk_s2 {q : MethodName × Nat} (h : q ∈ lw_privs_2) (g : goodWord (Cond.selects q.1.cls q.1 q.1) = true) : Cond.selects q.1.cls q.1 q.1 ∈ wsL_law := List.mem_filter.mpr ⟨List.mem_append_left _ (List.mem_map.mpr ⟨q, (show q ∈ lw_privs from List.mem_append_right _ (h)), rfl⟩), g⟩
theorem zk_t3_71 : (Cond.methodLink RX4 3 objectInit) ∈ wsL_law := zk_t3 (List.mem_of_getElem? (i := 71) rfl) rfl
theorem zk_t1_21 : (Cond.instanceMethod objectInit) ∈ wsL_law := zk_t1 (List.mem_of_getElem? (i := 21) rfl) rfl
theorem zk_t1_22 : (Cond.code objectInit ⟨#[0xb1]⟩ 1 none) ∈ wsL_law := zk_t1 (List.mem_of_getElem? (i := 22) rfl) rfl
theorem zk_t1_73 : (Cond.arrayClass .int) ∈ wsL_law := zk_t1 (List.mem_of_getElem? (i := 73) rfl) rfl
theorem zk_t3_72 : (Cond.fieldLink RX4 9 "Stitchpath$Points" "xs" "[I") ∈ wsL_law := zk_t3 (List.mem_of_getElem? (i := 72) rfl) rfl
theorem zk_t3_75 : (Cond.fieldLink RX4 15 "Stitchpath$Points" "ys" "[I") ∈ wsL_law := zk_t3 (List.mem_of_getElem? (i := 75) rfl) rfl
theorem zk_t3_65 : (Cond.methodLink RX0 3 objectInit) ∈ wsL_law := zk_t3 (List.mem_of_getElem? (i := 65) rfl) rfl
theorem zk_t3_97 : (Cond.fieldLink RX0 9 "Stitchpath$Field" "cornerXs" "[I") ∈ wsL_law := zk_t3 (List.mem_of_getElem? (i := 97) rfl) rfl
theorem zk_t3_98 : (Cond.fieldLink RX0 15 "Stitchpath$Field" "cornerYs" "[I") ∈ wsL_law := zk_t3 (List.mem_of_getElem? (i := 98) rfl) rfl
theorem zk_t3_99 : (Cond.fieldLink RX0 18 "Stitchpath$Field" "crossings" "[I") ∈ wsL_law := zk_t3 (List.mem_of_getElem? (i := 99) rfl) rfl
theorem zk_t3_66 : (Cond.classLink RX0 21 RX4) ∈ wsL_law := zk_t3 (List.mem_of_getElem? (i := 66) rfl) rfl
theorem zk_t3_67 : (Cond.instantiable RX4 3) ∈ wsL_law := zk_t3 (List.mem_of_getElem? (i := 67) rfl) rfl
theorem zk_t1_14 : (Cond.initialized RX4) ∈ wsL_law := zk_t1 (List.mem_of_getElem? (i := 14) rfl) rfl
theorem zk_t3_100 : (Cond.fieldLink RX0 24 "Stitchpath$Field" "points" "LStitchpath$Points;") ∈ wsL_law := zk_t3 (List.mem_of_getElem? (i := 100) rfl) rfl
theorem zk_t3_106 : (Cond.fieldLink RX0 28 "Stitchpath$Field" "density" "I") ∈ wsL_law := zk_t3 (List.mem_of_getElem? (i := 106) rfl) rfl
theorem zk_t3_108 : (Cond.fieldLink RX0 32 "Stitchpath$Field" "length" "I") ∈ wsL_law := zk_t3 (List.mem_of_getElem? (i := 108) rfl) rfl
theorem zk_t3_90 : (Cond.fieldLink RX0 35 "Stitchpath$Field" "colour" "I") ∈ wsL_law := zk_t3 (List.mem_of_getElem? (i := 90) rfl) rfl
theorem zk_t3_93 : (Cond.fieldLink RX0 38 "Stitchpath$Field" "layer" "I") ∈ wsL_law := zk_t3 (List.mem_of_getElem? (i := 93) rfl) rfl
theorem zk_t3_95 : (Cond.fieldLink RX0 41 "Stitchpath$Field" "column" "Z") ∈ wsL_law := zk_t3 (List.mem_of_getElem? (i := 95) rfl) rfl
theorem zk_t3_69 : (Cond.instanceMethod yX4_init) ∈ wsL_law := zk_t3 (List.mem_of_getElem? (i := 69) rfl) rfl
theorem zk_t3_70 : (Cond.code yX4_init cX4_init 1 none) ∈ wsL_law := zk_t3 (List.mem_of_getElem? (i := 70) rfl) rfl
theorem zk_t3_103 : (Cond.fieldLink RX0 45 "Stitchpath$Field" "cornerCount" "I") ∈ wsL_law := zk_t3 (List.mem_of_getElem? (i := 103) rfl) rfl
theorem zk_t3_112 : (Cond.fieldLink RX0 48 "Stitchpath$Field" "drawn" "Z") ∈ wsL_law := zk_t3 (List.mem_of_getElem? (i := 112) rfl) rfl
theorem zk_t3_109 : (Cond.fieldLink RX0 51 "Stitchpath$Field" "shift" "I") ∈ wsL_law := zk_t3 (List.mem_of_getElem? (i := 109) rfl) rfl
theorem zk_t3_110 : (Cond.fieldLink RX0 54 "Stitchpath$Field" "pull" "I") ∈ wsL_law := zk_t3 (List.mem_of_getElem? (i := 110) rfl) rfl
theorem zk_t3_111 : (Cond.fieldLink RX0 57 "Stitchpath$Field" "underlay" "Z") ∈ wsL_law := zk_t3 (List.mem_of_getElem? (i := 111) rfl) rfl
theorem zk_t1_215 : (Cond.methodLink RX0 60 Lib.Math.max.name) ∈ wsL_law := zk_t1 (List.mem_of_getElem? (i := 215) rfl) rfl
theorem zk_t1_213 : (Cond.static Lib.Math.max.name) ∈ wsL_law := zk_t1 (List.mem_of_getElem? (i := 213) rfl) rfl
theorem zk_t1_6 : (Cond.initialized "java/lang/Math") ∈ wsL_law := zk_t1 (List.mem_of_getElem? (i := 6) rfl) rfl
theorem zk_t1_214 : (Cond.code Lib.Math.max.name Lib.Math.max.code 2 (some .int)) ∈ wsL_law := zk_t1 (List.mem_of_getElem? (i := 214) rfl) rfl
theorem zk_t1_209 : (Cond.methodLink RX6 283 Lib.Math.abs.name) ∈ wsL_law := zk_t1 (List.mem_of_getElem? (i := 209) rfl) rfl
theorem zk_t1_210 : (Cond.static Lib.Math.abs.name) ∈ wsL_law := zk_t1 (List.mem_of_getElem? (i := 210) rfl) rfl
theorem zk_t1_211 : (Cond.code Lib.Math.abs.name Lib.Math.abs.code 1 (some .int)) ∈ wsL_law := zk_t1 (List.mem_of_getElem? (i := 211) rfl) rfl
theorem zk_t1_212 : (Cond.methodLink RX6 286 Lib.Math.max.name) ∈ wsL_law := zk_t1 (List.mem_of_getElem? (i := 212) rfl) rfl
theorem zk_t1_219 : (Cond.methodLink RX6 278 yJ9_floorDiv_7cf53) ∈ wsL_law := zk_t1 (List.mem_of_getElem? (i := 219) rfl) rfl
theorem zk_t1_220 : (Cond.static yJ9_floorDiv_7cf53) ∈ wsL_law := zk_t1 (List.mem_of_getElem? (i := 220) rfl) rfl
theorem zk_t1_221 : (Cond.code yJ9_floorDiv_7cf53 cJ9_floorDiv_7cf53 3 (some .int)) ∈ wsL_law := zk_t1 (List.mem_of_getElem? (i := 221) rfl) rfl
theorem zk_t3_78 : (Cond.fieldLink RX4 18 "Stitchpath$Points" "size" "I") ∈ wsL_law := zk_t3 (List.mem_of_getElem? (i := 78) rfl) rfl
theorem zk_t1_207 : (Cond.static yX6_greaterDifference) ∈ wsL_law := zk_t1 (List.mem_of_getElem? (i := 207) rfl) rfl
theorem zk_t1_1 : (Cond.initialized RX6) ∈ wsL_law := zk_t1 (List.mem_of_getElem? (i := 1) rfl) rfl
theorem zk_t1_208 : (Cond.code yX6_greaterDifference cX6_greaterDifference 2 (some .int)) ∈ wsL_law := zk_t1 (List.mem_of_getElem? (i := 208) rfl) rfl
theorem zk_t1_217 : (Cond.static yX6_placeOf) ∈ wsL_law := zk_t1 (List.mem_of_getElem? (i := 217) rfl) rfl
theorem zk_t1_218 : (Cond.code yX6_placeOf cX6_placeOf 4 (some .int)) ∈ wsL_law := zk_t1 (List.mem_of_getElem? (i := 218) rfl) rfl
theorem zk_t1_222 : (Cond.methodLink RX0 85 yX4_put) ∈ wsL_law := zk_t1 (List.mem_of_getElem? (i := 222) rfl) rfl
theorem zk_t1_223 : (Cond.instanceMethod yX4_put) ∈ wsL_law := zk_t1 (List.mem_of_getElem? (i := 223) rfl) rfl
theorem zk_t1_224 : (Cond.selects RX4 yX4_put yX4_put) ∈ wsL_law := zk_t1 (List.mem_of_getElem? (i := 224) rfl) rfl
theorem zk_t1_225 : (Cond.code yX4_put cX4_put 4 none) ∈ wsL_law := zk_t1 (List.mem_of_getElem? (i := 225) rfl) rfl
theorem zk_t1_239 : (Cond.static yX6_roundedUp) ∈ wsL_law := zk_t1 (List.mem_of_getElem? (i := 239) rfl) rfl
theorem zk_t2_0 : (Cond.code yX6_roundedUp cX6_roundedUp 2 (some .int)) ∈ wsL_law := zk_t2 (List.mem_of_getElem? (i := 0) rfl) rfl
theorem zk_t1_230 : (Cond.methodLink RX0 89 yX0_cornerBehind) ∈ wsL_law := zk_t1 (List.mem_of_getElem? (i := 230) rfl) rfl
theorem zk_t1_232 : (Cond.instanceMethod yX0_cornerBehind) ∈ wsL_law := zk_t1 (List.mem_of_getElem? (i := 232) rfl) rfl
theorem zk_s1_3 : (Cond.selects RX0 yX0_cornerBehind yX0_cornerBehind) ∈ wsL_law := zk_s1 (List.mem_of_getElem? (i := 3) rfl) rfl
theorem zk_t1_13 : (Cond.initialized RX0) ∈ wsL_law := zk_t1 (List.mem_of_getElem? (i := 13) rfl) rfl
theorem zk_t1_233 : (Cond.code yX0_cornerBehind cX0_cornerBehind 2 (some .int)) ∈ wsL_law := zk_t1 (List.mem_of_getElem? (i := 233) rfl) rfl
theorem zk_t1_234 : (Cond.methodLink RX0 93 yX0_drawEdge) ∈ wsL_law := zk_t1 (List.mem_of_getElem? (i := 234) rfl) rfl
theorem zk_t1_236 : (Cond.instanceMethod yX0_drawEdge) ∈ wsL_law := zk_t1 (List.mem_of_getElem? (i := 236) rfl) rfl
theorem zk_s1_4 : (Cond.selects RX0 yX0_drawEdge yX0_drawEdge) ∈ wsL_law := zk_s1 (List.mem_of_getElem? (i := 4) rfl) rfl
theorem zk_t1_237 : (Cond.code yX0_drawEdge cX0_drawEdge 7 none) ∈ wsL_law := zk_t1 (List.mem_of_getElem? (i := 237) rfl) rfl
theorem zk_t2_9 : (Cond.methodLink RX0 121 Lib.Math.min.name) ∈ wsL_law := zk_t2 (List.mem_of_getElem? (i := 9) rfl) rfl
theorem zk_t2_10 : (Cond.static Lib.Math.min.name) ∈ wsL_law := zk_t2 (List.mem_of_getElem? (i := 10) rfl) rfl
theorem zk_t2_11 : (Cond.code Lib.Math.min.name Lib.Math.min.code 2 (some .int)) ∈ wsL_law := zk_t2 (List.mem_of_getElem? (i := 11) rfl) rfl
theorem zk_t3_105 : (Cond.fieldLink RX0 111 "Stitchpath$Field" "crossingCount" "I") ∈ wsL_law := zk_t3 (List.mem_of_getElem? (i := 105) rfl) rfl
theorem zk_t2_20 : (Cond.methodLink RX0 124 yJ9_floorDiv_7cf53) ∈ wsL_law := zk_t2 (List.mem_of_getElem? (i := 20) rfl) rfl
theorem zk_t2_21 : (Cond.methodLink RX0 127 yX0_putCrossing) ∈ wsL_law := zk_t2 (List.mem_of_getElem? (i := 21) rfl) rfl
theorem zk_t2_23 : (Cond.instanceMethod yX0_putCrossing) ∈ wsL_law := zk_t2 (List.mem_of_getElem? (i := 23) rfl) rfl
theorem zk_s1_6 : (Cond.selects RX0 yX0_putCrossing yX0_putCrossing) ∈ wsL_law := zk_s1 (List.mem_of_getElem? (i := 6) rfl) rfl
theorem zk_t2_24 : (Cond.code yX0_putCrossing cX0_putCrossing 3 none) ∈ wsL_law := zk_t2 (List.mem_of_getElem? (i := 24) rfl) rfl
theorem zk_t2_29 : (Cond.methodLink RX0 118 yJ9_floorMod_7cf53) ∈ wsL_law := zk_t2 (List.mem_of_getElem? (i := 29) rfl) rfl
theorem zk_t2_30 : (Cond.static yJ9_floorMod_7cf53) ∈ wsL_law := zk_t2 (List.mem_of_getElem? (i := 30) rfl) rfl
theorem zk_t2_31 : (Cond.code yJ9_floorMod_7cf53 cJ9_floorMod_7cf53 3 (some .int)) ∈ wsL_law := zk_t2 (List.mem_of_getElem? (i := 31) rfl) rfl
theorem zk_t2_5 : (Cond.methodLink RX0 100 yX0_leastY) ∈ wsL_law := zk_t2 (List.mem_of_getElem? (i := 5) rfl) rfl
theorem zk_t2_6 : (Cond.instanceMethod yX0_leastY) ∈ wsL_law := zk_t2 (List.mem_of_getElem? (i := 6) rfl) rfl
theorem zk_t2_7 : (Cond.selects RX0 yX0_leastY yX0_leastY) ∈ wsL_law := zk_t2 (List.mem_of_getElem? (i := 7) rfl) rfl
theorem zk_t2_8 : (Cond.code yX0_leastY cX0_leastY 3 (some .int)) ∈ wsL_law := zk_t2 (List.mem_of_getElem? (i := 8) rfl) rfl
theorem zk_t2_12 : (Cond.methodLink RX0 104 yX0_greatestY) ∈ wsL_law := zk_t2 (List.mem_of_getElem? (i := 12) rfl) rfl
theorem zk_t2_13 : (Cond.instanceMethod yX0_greatestY) ∈ wsL_law := zk_t2 (List.mem_of_getElem? (i := 13) rfl) rfl
theorem zk_t2_14 : (Cond.selects RX0 yX0_greatestY yX0_greatestY) ∈ wsL_law := zk_t2 (List.mem_of_getElem? (i := 14) rfl) rfl
theorem zk_t2_15 : (Cond.code yX0_greatestY cX0_greatestY 3 (some .int)) ∈ wsL_law := zk_t2 (List.mem_of_getElem? (i := 15) rfl) rfl
theorem zk_t2_16 : (Cond.methodLink RX0 107 yX0_cross) ∈ wsL_law := zk_t2 (List.mem_of_getElem? (i := 16) rfl) rfl
theorem zk_t2_17 : (Cond.instanceMethod yX0_cross) ∈ wsL_law := zk_t2 (List.mem_of_getElem? (i := 17) rfl) rfl
theorem zk_t2_18 : (Cond.selects RX0 yX0_cross yX0_cross) ∈ wsL_law := zk_t2 (List.mem_of_getElem? (i := 18) rfl) rfl
theorem zk_t2_19 : (Cond.code yX0_cross cX0_cross 7 none) ∈ wsL_law := zk_t2 (List.mem_of_getElem? (i := 19) rfl) rfl
theorem zk_t2_25 : (Cond.methodLink RX0 114 yX0_drawSpan) ∈ wsL_law := zk_t2 (List.mem_of_getElem? (i := 25) rfl) rfl
theorem zk_t2_27 : (Cond.instanceMethod yX0_drawSpan) ∈ wsL_law := zk_t2 (List.mem_of_getElem? (i := 27) rfl) rfl
theorem zk_s1_7 : (Cond.selects RX0 yX0_drawSpan yX0_drawSpan) ∈ wsL_law := zk_s1 (List.mem_of_getElem? (i := 7) rfl) rfl
theorem zk_t2_28 : (Cond.code yX0_drawSpan cX0_drawSpan 12 none) ∈ wsL_law := zk_t2 (List.mem_of_getElem? (i := 28) rfl) rfl
theorem zk_t3_81 : (Cond.fieldLink RX0 66 "Stitchpath$Points" "size" "I") ∈ wsL_law := zk_t3 (List.mem_of_getElem? (i := 81) rfl) rfl
theorem zk_t1_201 : (Cond.methodLink RX0 69 yX0_drawColumn) ∈ wsL_law := zk_t1 (List.mem_of_getElem? (i := 201) rfl) rfl
theorem zk_t1_203 : (Cond.instanceMethod yX0_drawColumn) ∈ wsL_law := zk_t1 (List.mem_of_getElem? (i := 203) rfl) rfl
theorem zk_s1_1 : (Cond.selects RX0 yX0_drawColumn yX0_drawColumn) ∈ wsL_law := zk_s1 (List.mem_of_getElem? (i := 1) rfl) rfl
theorem zk_t1_205 : (Cond.code yX0_drawColumn cX0_drawColumn 7 none) ∈ wsL_law := zk_t1 (List.mem_of_getElem? (i := 205) rfl) rfl
theorem zk_t1_226 : (Cond.methodLink RX0 72 yX0_drawUnderlay) ∈ wsL_law := zk_t1 (List.mem_of_getElem? (i := 226) rfl) rfl
theorem zk_t1_228 : (Cond.instanceMethod yX0_drawUnderlay) ∈ wsL_law := zk_t1 (List.mem_of_getElem? (i := 228) rfl) rfl
theorem zk_s1_2 : (Cond.selects RX0 yX0_drawUnderlay yX0_drawUnderlay) ∈ wsL_law := zk_s1 (List.mem_of_getElem? (i := 2) rfl) rfl
theorem zk_t1_229 : (Cond.code yX0_drawUnderlay cX0_drawUnderlay 3 none) ∈ wsL_law := zk_t1 (List.mem_of_getElem? (i := 229) rfl) rfl
theorem zk_t2_1 : (Cond.methodLink RX0 75 yX0_drawRows) ∈ wsL_law := zk_t2 (List.mem_of_getElem? (i := 1) rfl) rfl
theorem zk_t2_3 : (Cond.instanceMethod yX0_drawRows) ∈ wsL_law := zk_t2 (List.mem_of_getElem? (i := 3) rfl) rfl
theorem zk_s1_5 : (Cond.selects RX0 yX0_drawRows yX0_drawRows) ∈ wsL_law := zk_s1 (List.mem_of_getElem? (i := 5) rfl) rfl
theorem zk_t2_4 : (Cond.code yX0_drawRows cX0_drawRows 8 none) ∈ wsL_law := zk_t2 (List.mem_of_getElem? (i := 4) rfl) rfl
theorem zk_t1_120 : (Cond.methodLink RX1 3 objectInit) ∈ wsL_law := zk_t1 (List.mem_of_getElem? (i := 120) rfl) rfl
theorem zk_t1_121 : (Cond.fieldLink RX1 9 "Stitchpath$Machine" "stitchesAhead" "[I") ∈ wsL_law := zk_t1 (List.mem_of_getElem? (i := 121) rfl) rfl
theorem zk_t1_72 : (Cond.arrayClass .boolean) ∈ wsL_law := zk_t1 (List.mem_of_getElem? (i := 72) rfl) rfl
theorem zk_t1_122 : (Cond.fieldLink RX1 15 "Stitchpath$Machine" "broken" "[Z") ∈ wsL_law := zk_t1 (List.mem_of_getElem? (i := 122) rfl) rfl
theorem zk_t1_124 : (Cond.fieldLink RX1 19 "Stitchpath$Machine" "brokeAt" "[I") ∈ wsL_law := zk_t1 (List.mem_of_getElem? (i := 124) rfl) rfl
theorem zk_t1_125 : (Cond.fieldLink RX1 22 "Stitchpath$Machine" "stitches" "[I") ∈ wsL_law := zk_t1 (List.mem_of_getElem? (i := 125) rfl) rfl
theorem zk_t1_127 : (Cond.fieldLink RX1 25 "Stitchpath$Machine" "headCount" "I") ∈ wsL_law := zk_t1 (List.mem_of_getElem? (i := 127) rfl) rfl
theorem zk_t1_31 : (Cond.fieldLink RX3 9 "Stitchpath$Plan" "kinds" "[I") ∈ wsL_law := zk_t1 (List.mem_of_getElem? (i := 31) rfl) rfl
theorem zk_t1_32 : (Cond.fieldLink RX3 15 "Stitchpath$Plan" "differencesX" "[I") ∈ wsL_law := zk_t1 (List.mem_of_getElem? (i := 32) rfl) rfl
theorem zk_t1_33 : (Cond.fieldLink RX3 18 "Stitchpath$Plan" "differencesY" "[I") ∈ wsL_law := zk_t1 (List.mem_of_getElem? (i := 33) rfl) rfl
theorem zk_t1_34 : (Cond.fieldLink RX3 21 "Stitchpath$Plan" "owners" "[I") ∈ wsL_law := zk_t1 (List.mem_of_getElem? (i := 34) rfl) rfl
theorem zk_t1_129 : (Cond.fieldLink RX1 29 "Stitchpath$Machine" "late" "I") ∈ wsL_law := zk_t1 (List.mem_of_getElem? (i := 129) rfl) rfl
theorem zk_t1_131 : (Cond.fieldLink RX1 32 "Stitchpath$Machine" "place" "I") ∈ wsL_law := zk_t1 (List.mem_of_getElem? (i := 131) rfl) rfl
theorem zk_t1_130 : (Cond.fieldLink RX1 35 "Stitchpath$Machine" "commandCount" "I") ∈ wsL_law := zk_t1 (List.mem_of_getElem? (i := 130) rfl) rfl
theorem zk_t1_40 : (Cond.fieldLink RX1 38 "Stitchpath$Plan" "size" "I") ∈ wsL_law := zk_t1 (List.mem_of_getElem? (i := 40) rfl) rfl
theorem zk_t4_12 : (Cond.methodLink RX1 43 yX3_told) ∈ wsL_law := zk_t4 (List.mem_of_getElem? (i := 12) rfl) rfl
theorem zk_t2_175 : (Cond.instanceMethod yX3_told) ∈ wsL_law := zk_t2 (List.mem_of_getElem? (i := 175) rfl) rfl
theorem zk_t2_176 : (Cond.selects RX3 yX3_told yX3_told) ∈ wsL_law := zk_t2 (List.mem_of_getElem? (i := 176) rfl) rfl
theorem zk_t1_2 : (Cond.initialized RX3) ∈ wsL_law := zk_t1 (List.mem_of_getElem? (i := 2) rfl) rfl
theorem zk_t2_177 : (Cond.code yX3_told cX3_told 3 (some .int)) ∈ wsL_law := zk_t2 (List.mem_of_getElem? (i := 177) rfl) rfl
theorem zk_t4_31 : (Cond.methodLink RX1 47 yX1_has) ∈ wsL_law := zk_t4 (List.mem_of_getElem? (i := 31) rfl) rfl
theorem zk_t2_219 : (Cond.instanceMethod yX1_has) ∈ wsL_law := zk_t2 (List.mem_of_getElem? (i := 219) rfl) rfl
theorem zk_t2_220 : (Cond.selects RX1 yX1_has yX1_has) ∈ wsL_law := zk_t2 (List.mem_of_getElem? (i := 220) rfl) rfl
theorem zk_t1_5 : (Cond.initialized RX1) ∈ wsL_law := zk_t1 (List.mem_of_getElem? (i := 5) rfl) rfl
theorem zk_t2_221 : (Cond.code yX1_has cX1_has 2 (some .boolean)) ∈ wsL_law := zk_t2 (List.mem_of_getElem? (i := 221) rfl) rfl
theorem zk_t4_27 : (Cond.methodLink RX1 51 yX1_isSeen) ∈ wsL_law := zk_t4 (List.mem_of_getElem? (i := 27) rfl) rfl
theorem zk_t4_28 : (Cond.instanceMethod yX1_isSeen) ∈ wsL_law := zk_t4 (List.mem_of_getElem? (i := 28) rfl) rfl
theorem zk_t4_29 : (Cond.selects RX1 yX1_isSeen yX1_isSeen) ∈ wsL_law := zk_t4 (List.mem_of_getElem? (i := 29) rfl) rfl
theorem zk_t4_30 : (Cond.code yX1_isSeen cX1_isSeen 2 (some .boolean)) ∈ wsL_law := zk_t4 (List.mem_of_getElem? (i := 30) rfl) rfl
theorem zk_t4_36 : (Cond.methodLink RX1 61 yX1_stitchesBetween) ∈ wsL_law := zk_t4 (List.mem_of_getElem? (i := 36) rfl) rfl
theorem zk_t4_38 : (Cond.instanceMethod yX1_stitchesBetween) ∈ wsL_law := zk_t4 (List.mem_of_getElem? (i := 38) rfl) rfl
theorem zk_s2_12 : (Cond.selects RX1 yX1_stitchesBetween yX1_stitchesBetween) ∈ wsL_law := zk_s2 (List.mem_of_getElem? (i := 12) rfl) rfl
theorem zk_t4_39 : (Cond.code yX1_stitchesBetween cX1_stitchesBetween 3 (some .int)) ∈ wsL_law := zk_t4 (List.mem_of_getElem? (i := 39) rfl) rfl
theorem zk_t4_23 : (Cond.methodLink RX1 54 yX1_stands) ∈ wsL_law := zk_t4 (List.mem_of_getElem? (i := 23) rfl) rfl
theorem zk_t4_25 : (Cond.instanceMethod yX1_stands) ∈ wsL_law := zk_t4 (List.mem_of_getElem? (i := 25) rfl) rfl
theorem zk_s2_10 : (Cond.selects RX1 yX1_stands yX1_stands) ∈ wsL_law := zk_s2 (List.mem_of_getElem? (i := 10) rfl) rfl
theorem zk_t4_26 : (Cond.code yX1_stands cX1_stands 2 (some .boolean)) ∈ wsL_law := zk_t4 (List.mem_of_getElem? (i := 26) rfl) rfl
theorem zk_t4_32 : (Cond.methodLink RX1 58 yX1_step) ∈ wsL_law := zk_t4 (List.mem_of_getElem? (i := 32) rfl) rfl
theorem zk_t4_34 : (Cond.instanceMethod yX1_step) ∈ wsL_law := zk_t4 (List.mem_of_getElem? (i := 34) rfl) rfl
theorem zk_s2_11 : (Cond.selects RX1 yX1_step yX1_step) ∈ wsL_law := zk_s2 (List.mem_of_getElem? (i := 11) rfl) rfl
theorem zk_t4_35 : (Cond.code yX1_step cX1_step 3 none) ∈ wsL_law := zk_t4 (List.mem_of_getElem? (i := 35) rfl) rfl
theorem zk_t4_59 : (Cond.methodLink RX1 64 Lib.Math.max.name) ∈ wsL_law := zk_t4 (List.mem_of_getElem? (i := 59) rfl) rfl
theorem zk_t1_93 : (Cond.methodLink RX2 3 objectInit) ∈ wsL_law := zk_t1 (List.mem_of_getElem? (i := 93) rfl) rfl
theorem zk_t1_94 : (Cond.constant RX2 9 (49924)) ∈ wsL_law := zk_t1 (List.mem_of_getElem? (i := 94) rfl) rfl
theorem zk_t1_95 : (Cond.fieldLink RX2 10 "Stitchpath$Pattern" "bytes" "[I") ∈ wsL_law := zk_t1 (List.mem_of_getElem? (i := 95) rfl) rfl
theorem zk_t1_99 : (Cond.fieldLink RX2 16 "Stitchpath$Pattern" "format" "I") ∈ wsL_law := zk_t1 (List.mem_of_getElem? (i := 99) rfl) rfl
theorem zk_t1_97 : (Cond.fieldLink RX2 20 "Stitchpath$Pattern" "size" "I") ∈ wsL_law := zk_t1 (List.mem_of_getElem? (i := 97) rfl) rfl
theorem zk_t3_225 : (Cond.methodLink RX2 38 yX2_putByte) ∈ wsL_law := zk_t3 (List.mem_of_getElem? (i := 225) rfl) rfl
theorem zk_t3_227 : (Cond.instanceMethod yX2_putByte) ∈ wsL_law := zk_t3 (List.mem_of_getElem? (i := 227) rfl) rfl
theorem zk_s2_9 : (Cond.selects RX2 yX2_putByte yX2_putByte) ∈ wsL_law := zk_s2 (List.mem_of_getElem? (i := 9) rfl) rfl
theorem zk_t1_4 : (Cond.initialized RX2) ∈ wsL_law := zk_t1 (List.mem_of_getElem? (i := 4) rfl) rfl
theorem zk_t3_228 : (Cond.code yX2_putByte cX2_putByte 3 none) ∈ wsL_law := zk_t3 (List.mem_of_getElem? (i := 228) rfl) rfl
theorem zk_t3_221 : (Cond.methodLink RX2 42 yX2_putCommand) ∈ wsL_law := zk_t3 (List.mem_of_getElem? (i := 221) rfl) rfl
theorem zk_t3_223 : (Cond.instanceMethod yX2_putCommand) ∈ wsL_law := zk_t3 (List.mem_of_getElem? (i := 223) rfl) rfl
theorem zk_s2_8 : (Cond.selects RX2 yX2_putCommand yX2_putCommand) ∈ wsL_law := zk_s2 (List.mem_of_getElem? (i := 8) rfl) rfl
theorem zk_t3_224 : (Cond.code yX2_putCommand cX2_putCommand 4 none) ∈ wsL_law := zk_t3 (List.mem_of_getElem? (i := 224) rfl) rfl
theorem zk_t3_9 : (Cond.methodLink RX2 48 yX2_limit) ∈ wsL_law := zk_t3 (List.mem_of_getElem? (i := 9) rfl) rfl
theorem zk_t3_11 : (Cond.instanceMethod yX2_limit) ∈ wsL_law := zk_t3 (List.mem_of_getElem? (i := 11) rfl) rfl
theorem zk_s2_3 : (Cond.selects RX2 yX2_limit yX2_limit) ∈ wsL_law := zk_s2 (List.mem_of_getElem? (i := 3) rfl) rfl
theorem zk_t3_12 : (Cond.code yX2_limit cX2_limit 1 (some .int)) ∈ wsL_law := zk_t3 (List.mem_of_getElem? (i := 12) rfl) rfl
theorem zk_t1_41 : (Cond.fieldLink RX2 23 "Stitchpath$Plan" "size" "I") ∈ wsL_law := zk_t1 (List.mem_of_getElem? (i := 41) rfl) rfl
theorem zk_t3_216 : (Cond.methodLink RX2 26 yX3_told) ∈ wsL_law := zk_t3 (List.mem_of_getElem? (i := 216) rfl) rfl
theorem zk_t3_217 : (Cond.methodLink RX2 30 yX2_putWhole) ∈ wsL_law := zk_t3 (List.mem_of_getElem? (i := 217) rfl) rfl
theorem zk_t3_219 : (Cond.instanceMethod yX2_putWhole) ∈ wsL_law := zk_t3 (List.mem_of_getElem? (i := 219) rfl) rfl
theorem zk_s2_7 : (Cond.selects RX2 yX2_putWhole yX2_putWhole) ∈ wsL_law := zk_s2 (List.mem_of_getElem? (i := 7) rfl) rfl
theorem zk_t3_220 : (Cond.code yX2_putWhole cX2_putWhole 10 none) ∈ wsL_law := zk_t3 (List.mem_of_getElem? (i := 220) rfl) rfl
theorem zk_t3_17 : (Cond.methodLink RX2 34 yX2_sumAhead) ∈ wsL_law := zk_t3 (List.mem_of_getElem? (i := 17) rfl) rfl
theorem zk_t3_19 : (Cond.instanceMethod yX2_sumAhead) ∈ wsL_law := zk_t3 (List.mem_of_getElem? (i := 19) rfl) rfl
theorem zk_s2_5 : (Cond.selects RX2 yX2_sumAhead yX2_sumAhead) ∈ wsL_law := zk_s2 (List.mem_of_getElem? (i := 5) rfl) rfl
theorem zk_t3_20 : (Cond.code yX2_sumAhead cX2_sumAhead 4 (some .int)) ∈ wsL_law := zk_t3 (List.mem_of_getElem? (i := 20) rfl) rfl
theorem zk_t3_3 : (Cond.methodLink RX2 77 yX2_has) ∈ wsL_law := zk_t3 (List.mem_of_getElem? (i := 3) rfl) rfl
theorem zk_t2_209 : (Cond.instanceMethod yX2_has) ∈ wsL_law := zk_t2 (List.mem_of_getElem? (i := 209) rfl) rfl
theorem zk_t2_210 : (Cond.selects RX2 yX2_has yX2_has) ∈ wsL_law := zk_t2 (List.mem_of_getElem? (i := 210) rfl) rfl
theorem zk_t2_211 : (Cond.code yX2_has cX2_has 2 (some .boolean)) ∈ wsL_law := zk_t2 (List.mem_of_getElem? (i := 211) rfl) rfl
theorem zk_t3_8 : (Cond.methodLink RX2 84 Lib.Math.abs.name) ∈ wsL_law := zk_t3 (List.mem_of_getElem? (i := 8) rfl) rfl
theorem zk_t2_239 : (Cond.methodLink RX2 71 yX2_kindAt) ∈ wsL_law := zk_t2 (List.mem_of_getElem? (i := 239) rfl) rfl
theorem zk_t3_1 : (Cond.instanceMethod yX2_kindAt) ∈ wsL_law := zk_t3 (List.mem_of_getElem? (i := 1) rfl) rfl
theorem zk_s2_1 : (Cond.selects RX2 yX2_kindAt yX2_kindAt) ∈ wsL_law := zk_s2 (List.mem_of_getElem? (i := 1) rfl) rfl
theorem zk_t3_2 : (Cond.code yX2_kindAt cX2_kindAt 2 (some .int)) ∈ wsL_law := zk_t3 (List.mem_of_getElem? (i := 2) rfl) rfl
theorem zk_t2_231 : (Cond.methodLink RX2 59 yX2_bytesOfCommand) ∈ wsL_law := zk_t2 (List.mem_of_getElem? (i := 231) rfl) rfl
theorem zk_t2_233 : (Cond.instanceMethod yX2_bytesOfCommand) ∈ wsL_law := zk_t2 (List.mem_of_getElem? (i := 233) rfl) rfl
theorem zk_s1_15 : (Cond.selects RX2 yX2_bytesOfCommand yX2_bytesOfCommand) ∈ wsL_law := zk_s1 (List.mem_of_getElem? (i := 15) rfl) rfl
theorem zk_t2_234 : (Cond.code yX2_bytesOfCommand cX2_bytesOfCommand 1 (some .int)) ∈ wsL_law := zk_t2 (List.mem_of_getElem? (i := 234) rfl) rfl
theorem zk_t3_4 : (Cond.methodLink RX2 81 yX2_differenceAt) ∈ wsL_law := zk_t3 (List.mem_of_getElem? (i := 4) rfl) rfl
theorem zk_t3_6 : (Cond.instanceMethod yX2_differenceAt) ∈ wsL_law := zk_t3 (List.mem_of_getElem? (i := 6) rfl) rfl
theorem zk_s2_2 : (Cond.selects RX2 yX2_differenceAt yX2_differenceAt) ∈ wsL_law := zk_s2 (List.mem_of_getElem? (i := 2) rfl) rfl
theorem zk_t3_7 : (Cond.code yX2_differenceAt cX2_differenceAt 3 (some .int)) ∈ wsL_law := zk_t3 (List.mem_of_getElem? (i := 7) rfl) rfl
theorem zk_t1_102 : (Cond.fieldLink RX2 62 "Stitchpath$Pattern" "stitchesRead" "I") ∈ wsL_law := zk_t1 (List.mem_of_getElem? (i := 102) rfl) rfl
theorem zk_t1_100 : (Cond.fieldLink RX2 65 "Stitchpath$Pattern" "faultPlace" "I") ∈ wsL_law := zk_t1 (List.mem_of_getElem? (i := 100) rfl) rfl
theorem zk_t2_235 : (Cond.methodLink RX2 68 yX2_wrongWithin) ∈ wsL_law := zk_t2 (List.mem_of_getElem? (i := 235) rfl) rfl
theorem zk_t2_237 : (Cond.instanceMethod yX2_wrongWithin) ∈ wsL_law := zk_t2 (List.mem_of_getElem? (i := 237) rfl) rfl
theorem zk_s2_0 : (Cond.selects RX2 yX2_wrongWithin yX2_wrongWithin) ∈ wsL_law := zk_s2 (List.mem_of_getElem? (i := 0) rfl) rfl
theorem zk_t2_238 : (Cond.code yX2_wrongWithin cX2_wrongWithin 6 (some .int)) ∈ wsL_law := zk_t2 (List.mem_of_getElem? (i := 238) rfl) rfl
theorem zk_t3_13 : (Cond.methodLink RX2 74 yX2_wrongBehindEnd) ∈ wsL_law := zk_t3 (List.mem_of_getElem? (i := 13) rfl) rfl
theorem zk_t3_15 : (Cond.instanceMethod yX2_wrongBehindEnd) ∈ wsL_law := zk_t3 (List.mem_of_getElem? (i := 15) rfl) rfl
theorem zk_s2_4 : (Cond.selects RX2 yX2_wrongBehindEnd yX2_wrongBehindEnd) ∈ wsL_law := zk_s2 (List.mem_of_getElem? (i := 4) rfl) rfl
theorem zk_t3_16 : (Cond.code yX2_wrongBehindEnd cX2_wrongBehindEnd 2 (some .int)) ∈ wsL_law := zk_t3 (List.mem_of_getElem? (i := 16) rfl) rfl
theorem zk_t1_30 : (Cond.methodLink RX3 3 objectInit) ∈ wsL_law := zk_t1 (List.mem_of_getElem? (i := 30) rfl) rfl
theorem zk_t1_35 : (Cond.fieldLink RX3 24 "Stitchpath$Plan" "kindCounts" "[I") ∈ wsL_law := zk_t1 (List.mem_of_getElem? (i := 35) rfl) rfl
theorem zk_t1_37 : (Cond.fieldLink RX3 27 "Stitchpath$Plan" "threads" "[I") ∈ wsL_law := zk_t1 (List.mem_of_getElem? (i := 37) rfl) rfl
theorem zk_t1_47 : (Cond.fieldLink RX3 30 "Stitchpath$Plan" "colour" "I") ∈ wsL_law := zk_t1 (List.mem_of_getElem? (i := 47) rfl) rfl
theorem zk_t1_39 : (Cond.fieldLink RX3 34 "Stitchpath$Plan" "size" "I") ∈ wsL_law := zk_t1 (List.mem_of_getElem? (i := 39) rfl) rfl
theorem zk_t1_43 : (Cond.fieldLink RX3 37 "Stitchpath$Plan" "seconds" "F") ∈ wsL_law := zk_t1 (List.mem_of_getElem? (i := 43) rfl) rfl
theorem zk_t1_45 : (Cond.fieldLink RX3 41 "Stitchpath$Plan" "needleX" "I") ∈ wsL_law := zk_t1 (List.mem_of_getElem? (i := 45) rfl) rfl
theorem zk_t1_46 : (Cond.fieldLink RX3 44 "Stitchpath$Plan" "needleY" "I") ∈ wsL_law := zk_t1 (List.mem_of_getElem? (i := 46) rfl) rfl
theorem zk_t2_48 : (Cond.methodLink RX3 47 yX4_firstX) ∈ wsL_law := zk_t2 (List.mem_of_getElem? (i := 48) rfl) rfl
theorem zk_t2_49 : (Cond.instanceMethod yX4_firstX) ∈ wsL_law := zk_t2 (List.mem_of_getElem? (i := 49) rfl) rfl
theorem zk_t2_50 : (Cond.selects RX4 yX4_firstX yX4_firstX) ∈ wsL_law := zk_t2 (List.mem_of_getElem? (i := 50) rfl) rfl
theorem zk_t2_51 : (Cond.code yX4_firstX cX4_firstX 1 (some .int)) ∈ wsL_law := zk_t2 (List.mem_of_getElem? (i := 51) rfl) rfl
theorem zk_t2_52 : (Cond.methodLink RX3 53 yX4_firstY) ∈ wsL_law := zk_t2 (List.mem_of_getElem? (i := 52) rfl) rfl
theorem zk_t2_53 : (Cond.instanceMethod yX4_firstY) ∈ wsL_law := zk_t2 (List.mem_of_getElem? (i := 53) rfl) rfl
theorem zk_t2_54 : (Cond.selects RX4 yX4_firstY yX4_firstY) ∈ wsL_law := zk_t2 (List.mem_of_getElem? (i := 54) rfl) rfl
theorem zk_t2_55 : (Cond.code yX4_firstY cX4_firstY 1 (some .int)) ∈ wsL_law := zk_t2 (List.mem_of_getElem? (i := 55) rfl) rfl
theorem zk_t2_68 : (Cond.constantFloat RX3 94 (1033476506)) ∈ wsL_law := zk_t2 (List.mem_of_getElem? (i := 68) rfl) rfl
theorem zk_t2_69 : (Cond.constantFloat RX3 95 (1036831949)) ∈ wsL_law := zk_t2 (List.mem_of_getElem? (i := 69) rfl) rfl
theorem zk_t2_70 : (Cond.constantFloat RX3 96 (1045220557)) ∈ wsL_law := zk_t2 (List.mem_of_getElem? (i := 70) rfl) rfl
theorem zk_t2_71 : (Cond.constantFloat RX3 97 (1086324736)) ∈ wsL_law := zk_t2 (List.mem_of_getElem? (i := 71) rfl) rfl
theorem zk_t2_72 : (Cond.constantFloat RX3 98 (1090519040)) ∈ wsL_law := zk_t2 (List.mem_of_getElem? (i := 72) rfl) rfl
theorem zk_t2_65 : (Cond.methodLink RX3 86 yX3_secondsOf) ∈ wsL_law := zk_t2 (List.mem_of_getElem? (i := 65) rfl) rfl
theorem zk_t2_66 : (Cond.static yX3_secondsOf) ∈ wsL_law := zk_t2 (List.mem_of_getElem? (i := 66) rfl) rfl
theorem zk_t2_67 : (Cond.code yX3_secondsOf cX3_secondsOf 2 (some .float)) ∈ wsL_law := zk_t2 (List.mem_of_getElem? (i := 67) rfl) rfl
theorem zk_t2_74 : (Cond.static yX6_wholeRoot) ∈ wsL_law := zk_t2 (List.mem_of_getElem? (i := 74) rfl) rfl
theorem zk_t2_75 : (Cond.code yX6_wholeRoot cX6_wholeRoot 4 (some .int)) ∈ wsL_law := zk_t2 (List.mem_of_getElem? (i := 75) rfl) rfl
theorem zk_t2_60 : (Cond.methodLink RX3 63 yX3_put) ∈ wsL_law := zk_t2 (List.mem_of_getElem? (i := 60) rfl) rfl
theorem zk_t2_61 : (Cond.instanceMethod yX3_put) ∈ wsL_law := zk_t2 (List.mem_of_getElem? (i := 61) rfl) rfl
theorem zk_t2_62 : (Cond.selects RX3 yX3_put yX3_put) ∈ wsL_law := zk_t2 (List.mem_of_getElem? (i := 62) rfl) rfl
theorem zk_t2_63 : (Cond.code yX3_put cX3_put 7 none) ∈ wsL_law := zk_t2 (List.mem_of_getElem? (i := 63) rfl) rfl
theorem zk_t3_101 : (Cond.fieldLink RX3 56 "Stitchpath$Field" "points" "LStitchpath$Points;") ∈ wsL_law := zk_t3 (List.mem_of_getElem? (i := 101) rfl) rfl
theorem zk_t3_91 : (Cond.fieldLink RX3 62 "Stitchpath$Field" "colour" "I") ∈ wsL_law := zk_t3 (List.mem_of_getElem? (i := 91) rfl) rfl
theorem zk_t3_80 : (Cond.fieldLink RX3 75 "Stitchpath$Points" "size" "I") ∈ wsL_law := zk_t3 (List.mem_of_getElem? (i := 80) rfl) rfl
theorem zk_t3_74 : (Cond.fieldLink RX3 76 "Stitchpath$Points" "xs" "[I") ∈ wsL_law := zk_t3 (List.mem_of_getElem? (i := 74) rfl) rfl
theorem zk_t3_77 : (Cond.fieldLink RX3 79 "Stitchpath$Points" "ys" "[I") ∈ wsL_law := zk_t3 (List.mem_of_getElem? (i := 77) rfl) rfl
theorem zk_t2_76 : (Cond.methodLink RX3 67 yX3_squareToFirst) ∈ wsL_law := zk_t2 (List.mem_of_getElem? (i := 76) rfl) rfl
theorem zk_t2_45 : (Cond.instanceMethod yX3_squareToFirst) ∈ wsL_law := zk_t2 (List.mem_of_getElem? (i := 45) rfl) rfl
theorem zk_t2_46 : (Cond.selects RX3 yX3_squareToFirst yX3_squareToFirst) ∈ wsL_law := zk_t2 (List.mem_of_getElem? (i := 46) rfl) rfl
theorem zk_t2_47 : (Cond.code yX3_squareToFirst cX3_squareToFirst 4 (some .int)) ∈ wsL_law := zk_t2 (List.mem_of_getElem? (i := 47) rfl) rfl
theorem zk_t2_77 : (Cond.methodLink RX3 71 yX3_goTo) ∈ wsL_law := zk_t2 (List.mem_of_getElem? (i := 77) rfl) rfl
theorem zk_t2_79 : (Cond.instanceMethod yX3_goTo) ∈ wsL_law := zk_t2 (List.mem_of_getElem? (i := 79) rfl) rfl
theorem zk_s1_10 : (Cond.selects RX3 yX3_goTo yX3_goTo) ∈ wsL_law := zk_s1 (List.mem_of_getElem? (i := 10) rfl) rfl
theorem zk_t2_80 : (Cond.code yX3_goTo cX3_goTo 9 none) ∈ wsL_law := zk_t2 (List.mem_of_getElem? (i := 80) rfl) rfl
theorem zk_t1_79 : (Cond.methodLink RX5 3 objectInit) ∈ wsL_law := zk_t1 (List.mem_of_getElem? (i := 79) rfl) rfl
theorem zk_t1_80 : (Cond.fieldLink RX5 9 "Stitchpath$Raster" "cells" "[Z") ∈ wsL_law := zk_t1 (List.mem_of_getElem? (i := 80) rfl) rfl
theorem zk_t1_81 : (Cond.fieldLink RX5 15 "Stitchpath$Raster" "cellCount" "I") ∈ wsL_law := zk_t1 (List.mem_of_getElem? (i := 81) rfl) rfl
theorem zk_t2_88 : (Cond.static yX6_isWithin) ∈ wsL_law := zk_t2 (List.mem_of_getElem? (i := 88) rfl) rfl
theorem zk_t2_89 : (Cond.code yX6_isWithin cX6_isWithin 3 (some .boolean)) ∈ wsL_law := zk_t2 (List.mem_of_getElem? (i := 89) rfl) rfl
theorem zk_t2_198 : (Cond.methodLink RX5 43 yX5_touch) ∈ wsL_law := zk_t2 (List.mem_of_getElem? (i := 198) rfl) rfl
theorem zk_t2_200 : (Cond.instanceMethod yX5_touch) ∈ wsL_law := zk_t2 (List.mem_of_getElem? (i := 200) rfl) rfl
theorem zk_s1_14 : (Cond.selects RX5 yX5_touch yX5_touch) ∈ wsL_law := zk_s1 (List.mem_of_getElem? (i := 14) rfl) rfl
theorem zk_t1_3 : (Cond.initialized RX5) ∈ wsL_law := zk_t1 (List.mem_of_getElem? (i := 3) rfl) rfl
theorem zk_t2_201 : (Cond.code yX5_touch cX5_touch 4 none) ∈ wsL_law := zk_t2 (List.mem_of_getElem? (i := 201) rfl) rfl
theorem zk_t3_79 : (Cond.fieldLink RX5 19 "Stitchpath$Points" "size" "I") ∈ wsL_law := zk_t3 (List.mem_of_getElem? (i := 79) rfl) rfl
theorem zk_t3_73 : (Cond.fieldLink RX5 24 "Stitchpath$Points" "xs" "[I") ∈ wsL_law := zk_t3 (List.mem_of_getElem? (i := 73) rfl) rfl
theorem zk_t3_76 : (Cond.fieldLink RX5 28 "Stitchpath$Points" "ys" "[I") ∈ wsL_law := zk_t3 (List.mem_of_getElem? (i := 76) rfl) rfl
theorem zk_t2_192 : (Cond.methodLink RX5 31 yX5_walkTo) ∈ wsL_law := zk_t2 (List.mem_of_getElem? (i := 192) rfl) rfl
theorem zk_t2_194 : (Cond.instanceMethod yX5_walkTo) ∈ wsL_law := zk_t2 (List.mem_of_getElem? (i := 194) rfl) rfl
theorem zk_s1_13 : (Cond.selects RX5 yX5_walkTo yX5_walkTo) ∈ wsL_law := zk_s1 (List.mem_of_getElem? (i := 13) rfl) rfl
theorem zk_t2_195 : (Cond.code yX5_walkTo cX5_walkTo 7 none) ∈ wsL_law := zk_t2 (List.mem_of_getElem? (i := 195) rfl) rfl
theorem zk_t3_206 : (Cond.methodLink RX5 79 Lib.Math.max.name) ∈ wsL_law := zk_t3 (List.mem_of_getElem? (i := 206) rfl) rfl
theorem zk_t3_195 : (Cond.methodLink RX5 57 Lib.Math.min.name) ∈ wsL_law := zk_t3 (List.mem_of_getElem? (i := 195) rfl) rfl
theorem zk_t3_107 : (Cond.fieldLink RX5 73 "Stitchpath$Field" "density" "I") ∈ wsL_law := zk_t3 (List.mem_of_getElem? (i := 107) rfl) rfl
theorem zk_t3_194 : (Cond.methodLink RX5 51 yX0_greatestY) ∈ wsL_law := zk_t3 (List.mem_of_getElem? (i := 194) rfl) rfl
theorem zk_t3_196 : (Cond.methodLink RX5 62 yX0_leastY) ∈ wsL_law := zk_t3 (List.mem_of_getElem? (i := 196) rfl) rfl
theorem zk_t3_197 : (Cond.methodLink RX5 65 yX0_cross) ∈ wsL_law := zk_t3 (List.mem_of_getElem? (i := 197) rfl) rfl
theorem zk_t3_198 : (Cond.methodLink RX5 69 yX0_spans) ∈ wsL_law := zk_t3 (List.mem_of_getElem? (i := 198) rfl) rfl
theorem zk_t3_199 : (Cond.instanceMethod yX0_spans) ∈ wsL_law := zk_t3 (List.mem_of_getElem? (i := 199) rfl) rfl
theorem zk_t3_200 : (Cond.selects RX0 yX0_spans yX0_spans) ∈ wsL_law := zk_t3 (List.mem_of_getElem? (i := 200) rfl) rfl
theorem zk_t3_201 : (Cond.code yX0_spans cX0_spans 3 (some .boolean)) ∈ wsL_law := zk_t3 (List.mem_of_getElem? (i := 201) rfl) rfl
theorem zk_t3_202 : (Cond.methodLink RX5 76 yX5_isNear) ∈ wsL_law := zk_t3 (List.mem_of_getElem? (i := 202) rfl) rfl
theorem zk_t3_204 : (Cond.instanceMethod yX5_isNear) ∈ wsL_law := zk_t3 (List.mem_of_getElem? (i := 204) rfl) rfl
theorem zk_s2_6 : (Cond.selects RX5 yX5_isNear yX5_isNear) ∈ wsL_law := zk_s2 (List.mem_of_getElem? (i := 6) rfl) rfl
theorem zk_t3_205 : (Cond.code yX5_isNear cX5_isNear 8 (some .boolean)) ∈ wsL_law := zk_t3 (List.mem_of_getElem? (i := 205) rfl) rfl
theorem zk_t1_20 : (Cond.methodLink RX6 3 objectInit) ∈ wsL_law := zk_t1 (List.mem_of_getElem? (i := 20) rfl) rfl
theorem zk_t1_23 : (Cond.classLink RX6 9 RX0) ∈ wsL_law := zk_t1 (List.mem_of_getElem? (i := 23) rfl) rfl
theorem zk_t1_149 : (Cond.fieldLink RX6 11 "Stitchpath" "fields" "[LStitchpath$Field;") ∈ wsL_law := zk_t1 (List.mem_of_getElem? (i := 149) rfl) rfl
theorem zk_t1_150 : (Cond.fieldLink RX6 15 "Stitchpath" "waiting" "[Z") ∈ wsL_law := zk_t1 (List.mem_of_getElem? (i := 150) rfl) rfl
theorem zk_t1_25 : (Cond.classLink RX6 19 RX3) ∈ wsL_law := zk_t1 (List.mem_of_getElem? (i := 25) rfl) rfl
theorem zk_t1_26 : (Cond.instantiable RX3 11) ∈ wsL_law := zk_t1 (List.mem_of_getElem? (i := 26) rfl) rfl
theorem zk_t1_151 : (Cond.fieldLink RX6 22 "Stitchpath" "plan" "LStitchpath$Plan;") ∈ wsL_law := zk_t1 (List.mem_of_getElem? (i := 151) rfl) rfl
theorem zk_t1_74 : (Cond.classLink RX6 26 RX5) ∈ wsL_law := zk_t1 (List.mem_of_getElem? (i := 74) rfl) rfl
theorem zk_t1_75 : (Cond.instantiable RX5 2) ∈ wsL_law := zk_t1 (List.mem_of_getElem? (i := 75) rfl) rfl
theorem zk_t1_152 : (Cond.fieldLink RX6 29 "Stitchpath" "raster" "LStitchpath$Raster;") ∈ wsL_law := zk_t1 (List.mem_of_getElem? (i := 152) rfl) rfl
theorem zk_t1_88 : (Cond.classLink RX6 33 RX2) ∈ wsL_law := zk_t1 (List.mem_of_getElem? (i := 88) rfl) rfl
theorem zk_t1_89 : (Cond.instantiable RX2 5) ∈ wsL_law := zk_t1 (List.mem_of_getElem? (i := 89) rfl) rfl
theorem zk_t1_153 : (Cond.fieldLink RX6 36 "Stitchpath" "pattern" "LStitchpath$Pattern;") ∈ wsL_law := zk_t1 (List.mem_of_getElem? (i := 153) rfl) rfl
theorem zk_t1_115 : (Cond.classLink RX6 40 RX1) ∈ wsL_law := zk_t1 (List.mem_of_getElem? (i := 115) rfl) rfl
theorem zk_t1_116 : (Cond.instantiable RX1 8) ∈ wsL_law := zk_t1 (List.mem_of_getElem? (i := 116) rfl) rfl
theorem zk_t1_154 : (Cond.fieldLink RX6 43 "Stitchpath" "machine" "LStitchpath$Machine;") ∈ wsL_law := zk_t1 (List.mem_of_getElem? (i := 154) rfl) rfl
theorem zk_t1_156 : (Cond.fieldLink RX6 47 "Stitchpath" "trimBound" "I") ∈ wsL_law := zk_t1 (List.mem_of_getElem? (i := 156) rfl) rfl
theorem zk_t1_28 : (Cond.instanceMethod yX3_init) ∈ wsL_law := zk_t1 (List.mem_of_getElem? (i := 28) rfl) rfl
theorem zk_t1_29 : (Cond.code yX3_init cX3_init 1 none) ∈ wsL_law := zk_t1 (List.mem_of_getElem? (i := 29) rfl) rfl
theorem zk_t1_77 : (Cond.instanceMethod yX5_init) ∈ wsL_law := zk_t1 (List.mem_of_getElem? (i := 77) rfl) rfl
theorem zk_t1_78 : (Cond.code yX5_init cX5_init 1 none) ∈ wsL_law := zk_t1 (List.mem_of_getElem? (i := 78) rfl) rfl
theorem zk_t1_91 : (Cond.instanceMethod yX2_init) ∈ wsL_law := zk_t1 (List.mem_of_getElem? (i := 91) rfl) rfl
theorem zk_t1_92 : (Cond.code yX2_init cX2_init 1 none) ∈ wsL_law := zk_t1 (List.mem_of_getElem? (i := 92) rfl) rfl
theorem zk_t1_118 : (Cond.instanceMethod yX1_init) ∈ wsL_law := zk_t1 (List.mem_of_getElem? (i := 118) rfl) rfl
theorem zk_t1_119 : (Cond.code yX1_init cX1_init 1 none) ∈ wsL_law := zk_t1 (List.mem_of_getElem? (i := 119) rfl) rfl
theorem zk_t2_158 : (Cond.classLink RX6 55 "java/lang/IllegalArgumentException") ∈ wsL_law := zk_t2 (List.mem_of_getElem? (i := 158) rfl) rfl
theorem zk_t1_11 : (Cond.initialized "java/lang/IllegalArgumentException") ∈ wsL_law := zk_t1 (List.mem_of_getElem? (i := 11) rfl) rfl
theorem zk_t3_46 : (Cond.classLink RX6 67 "java/lang/IllegalStateException") ∈ wsL_law := zk_t3 (List.mem_of_getElem? (i := 46) rfl) rfl
theorem zk_t1_12 : (Cond.initialized "java/lang/IllegalStateException") ∈ wsL_law := zk_t1 (List.mem_of_getElem? (i := 12) rfl) rfl
theorem zk_t1_155 : (Cond.fieldLink RX6 64 "Stitchpath" "fieldCount" "I") ∈ wsL_law := zk_t1 (List.mem_of_getElem? (i := 155) rfl) rfl
theorem zk_t1_204 : (Cond.instantiable RX0 15) ∈ wsL_law := zk_t1 (List.mem_of_getElem? (i := 204) rfl) rfl
theorem zk_t1_157 : (Cond.fieldLink RX6 75 "Stitchpath" "planned" "Z") ∈ wsL_law := zk_t1 (List.mem_of_getElem? (i := 157) rfl) rfl
theorem zk_t2_87 : (Cond.methodLink RX6 51 yX6_isWithin) ∈ wsL_law := zk_t2 (List.mem_of_getElem? (i := 87) rfl) rfl
theorem zk_t3_62 : (Cond.methodLink RX6 72 yX0_init) ∈ wsL_law := zk_t3 (List.mem_of_getElem? (i := 62) rfl) rfl
theorem zk_t3_63 : (Cond.instanceMethod yX0_init) ∈ wsL_law := zk_t3 (List.mem_of_getElem? (i := 63) rfl) rfl
theorem zk_t3_64 : (Cond.code yX0_init cX0_init 4 none) ∈ wsL_law := zk_t3 (List.mem_of_getElem? (i := 64) rfl) rfl
theorem zk_t2_90 : (Cond.classLink RX6 130 "java/lang/IndexOutOfBoundsException") ∈ wsL_law := zk_t2 (List.mem_of_getElem? (i := 90) rfl) rfl
theorem zk_t1_10 : (Cond.initialized "java/lang/IndexOutOfBoundsException") ∈ wsL_law := zk_t1 (List.mem_of_getElem? (i := 10) rfl) rfl
theorem zk_t3_104 : (Cond.fieldLink RX6 95 "Stitchpath$Field" "cornerCount" "I") ∈ wsL_law := zk_t3 (List.mem_of_getElem? (i := 104) rfl) rfl
theorem zk_t2_183 : (Cond.methodLink RX6 79 yX6_fieldNumbered) ∈ wsL_law := zk_t2 (List.mem_of_getElem? (i := 183) rfl) rfl
theorem zk_t2_185 : (Cond.instanceMethod yX6_fieldNumbered) ∈ wsL_law := zk_t2 (List.mem_of_getElem? (i := 185) rfl) rfl
theorem zk_s1_12 : (Cond.selects RX6 yX6_fieldNumbered yX6_fieldNumbered) ∈ wsL_law := zk_s1 (List.mem_of_getElem? (i := 12) rfl) rfl
theorem zk_t2_186 : (Cond.code yX6_fieldNumbered cX6_fieldNumbered 3 (some (.object "Stitchpath$Field"))) ∈ wsL_law := zk_t2 (List.mem_of_getElem? (i := 186) rfl) rfl
theorem zk_t3_149 : (Cond.methodLink RX6 85 yX0_isFull) ∈ wsL_law := zk_t3 (List.mem_of_getElem? (i := 149) rfl) rfl
theorem zk_t3_150 : (Cond.instanceMethod yX0_isFull) ∈ wsL_law := zk_t3 (List.mem_of_getElem? (i := 150) rfl) rfl
theorem zk_t3_151 : (Cond.selects RX0 yX0_isFull yX0_isFull) ∈ wsL_law := zk_t3 (List.mem_of_getElem? (i := 151) rfl) rfl
theorem zk_t3_152 : (Cond.code yX0_isFull cX0_isFull 1 (some .boolean)) ∈ wsL_law := zk_t3 (List.mem_of_getElem? (i := 152) rfl) rfl
theorem zk_t3_154 : (Cond.methodLink RX6 91 yX0_putCorner) ∈ wsL_law := zk_t3 (List.mem_of_getElem? (i := 154) rfl) rfl
theorem zk_t3_155 : (Cond.instanceMethod yX0_putCorner) ∈ wsL_law := zk_t3 (List.mem_of_getElem? (i := 155) rfl) rfl
theorem zk_t3_156 : (Cond.selects RX0 yX0_putCorner yX0_putCorner) ∈ wsL_law := zk_t3 (List.mem_of_getElem? (i := 156) rfl) rfl
theorem zk_t3_157 : (Cond.code yX0_putCorner cX0_putCorner 4 none) ∈ wsL_law := zk_t3 (List.mem_of_getElem? (i := 157) rfl) rfl
theorem zk_t4_75 : (Cond.methodLink RX6 106 yX0_settle) ∈ wsL_law := zk_t4 (List.mem_of_getElem? (i := 75) rfl) rfl
theorem zk_t4_76 : (Cond.instanceMethod yX0_settle) ∈ wsL_law := zk_t4 (List.mem_of_getElem? (i := 76) rfl) rfl
theorem zk_t4_77 : (Cond.selects RX0 yX0_settle yX0_settle) ∈ wsL_law := zk_t4 (List.mem_of_getElem? (i := 77) rfl) rfl
theorem zk_t4_78 : (Cond.code yX0_settle cX0_settle 6 none) ∈ wsL_law := zk_t4 (List.mem_of_getElem? (i := 78) rfl) rfl
theorem zk_t3_163 : (Cond.methodLink RX6 112 yX0_canResize) ∈ wsL_law := zk_t3 (List.mem_of_getElem? (i := 163) rfl) rfl
theorem zk_t3_164 : (Cond.instanceMethod yX0_canResize) ∈ wsL_law := zk_t3 (List.mem_of_getElem? (i := 164) rfl) rfl
theorem zk_t3_165 : (Cond.selects RX0 yX0_canResize yX0_canResize) ∈ wsL_law := zk_t3 (List.mem_of_getElem? (i := 165) rfl) rfl
theorem zk_t3_166 : (Cond.code yX0_canResize cX0_canResize 4 (some .boolean)) ∈ wsL_law := zk_t3 (List.mem_of_getElem? (i := 166) rfl) rfl
theorem zk_t3_168 : (Cond.methodLink RX6 118 yX0_resize) ∈ wsL_law := zk_t3 (List.mem_of_getElem? (i := 168) rfl) rfl
theorem zk_t3_169 : (Cond.instanceMethod yX0_resize) ∈ wsL_law := zk_t3 (List.mem_of_getElem? (i := 169) rfl) rfl
theorem zk_t3_170 : (Cond.selects RX0 yX0_resize yX0_resize) ∈ wsL_law := zk_t3 (List.mem_of_getElem? (i := 170) rfl) rfl
theorem zk_t3_171 : (Cond.code yX0_resize cX0_resize 3 none) ∈ wsL_law := zk_t3 (List.mem_of_getElem? (i := 171) rfl) rfl
theorem zk_t3_94 : (Cond.fieldLink RX6 263 "Stitchpath$Field" "layer" "I") ∈ wsL_law := zk_t3 (List.mem_of_getElem? (i := 94) rfl) rfl
theorem zk_t3_92 : (Cond.fieldLink RX6 266 "Stitchpath$Field" "colour" "I") ∈ wsL_law := zk_t3 (List.mem_of_getElem? (i := 92) rfl) rfl
theorem zk_t1_48 : (Cond.fieldLink RX6 269 "Stitchpath$Plan" "colour" "I") ∈ wsL_law := zk_t1 (List.mem_of_getElem? (i := 48) rfl) rfl
theorem zk_t3_102 : (Cond.fieldLink RX6 270 "Stitchpath$Field" "points" "LStitchpath$Points;") ∈ wsL_law := zk_t3 (List.mem_of_getElem? (i := 102) rfl) rfl
theorem zk_t2_44 : (Cond.methodLink RX6 274 yX3_squareToFirst) ∈ wsL_law := zk_t2 (List.mem_of_getElem? (i := 44) rfl) rfl
theorem zk_t2_40 : (Cond.methodLink RX6 255 yX6_comesAhead) ∈ wsL_law := zk_t2 (List.mem_of_getElem? (i := 40) rfl) rfl
theorem zk_t2_42 : (Cond.instanceMethod yX6_comesAhead) ∈ wsL_law := zk_t2 (List.mem_of_getElem? (i := 42) rfl) rfl
theorem zk_s1_9 : (Cond.selects RX6 yX6_comesAhead yX6_comesAhead) ∈ wsL_law := zk_s1 (List.mem_of_getElem? (i := 9) rfl) rfl
theorem zk_t2_43 : (Cond.code yX6_comesAhead cX6_comesAhead 5 (some .boolean)) ∈ wsL_law := zk_t2 (List.mem_of_getElem? (i := 43) rfl) rfl
theorem zk_t2_56 : (Cond.methodLink RX6 259 yX3_sewField) ∈ wsL_law := zk_t2 (List.mem_of_getElem? (i := 56) rfl) rfl
theorem zk_t2_57 : (Cond.instanceMethod yX3_sewField) ∈ wsL_law := zk_t2 (List.mem_of_getElem? (i := 57) rfl) rfl
theorem zk_t2_58 : (Cond.selects RX3 yX3_sewField yX3_sewField) ∈ wsL_law := zk_t2 (List.mem_of_getElem? (i := 58) rfl) rfl
theorem zk_t2_59 : (Cond.code yX3_sewField cX3_sewField 6 none) ∈ wsL_law := zk_t2 (List.mem_of_getElem? (i := 59) rfl) rfl
theorem zk_t3_82 : (Cond.fieldLink RX6 243 "Stitchpath$Points" "size" "I") ∈ wsL_law := zk_t3 (List.mem_of_getElem? (i := 82) rfl) rfl
theorem zk_t1_197 : (Cond.methodLink RX6 157 yX0_needlePoints) ∈ wsL_law := zk_t1 (List.mem_of_getElem? (i := 197) rfl) rfl
theorem zk_t1_198 : (Cond.instanceMethod yX0_needlePoints) ∈ wsL_law := zk_t1 (List.mem_of_getElem? (i := 198) rfl) rfl
theorem zk_t1_199 : (Cond.selects RX0 yX0_needlePoints yX0_needlePoints) ∈ wsL_law := zk_t1 (List.mem_of_getElem? (i := 199) rfl) rfl
theorem zk_t1_200 : (Cond.code yX0_needlePoints cX0_needlePoints 1 (some (.object "Stitchpath$Points"))) ∈ wsL_law := zk_t1 (List.mem_of_getElem? (i := 200) rfl) rfl
theorem zk_t2_32 : (Cond.methodLink RX6 246 yX3_begin) ∈ wsL_law := zk_t2 (List.mem_of_getElem? (i := 32) rfl) rfl
theorem zk_t2_33 : (Cond.instanceMethod yX3_begin) ∈ wsL_law := zk_t2 (List.mem_of_getElem? (i := 33) rfl) rfl
theorem zk_t2_34 : (Cond.selects RX3 yX3_begin yX3_begin) ∈ wsL_law := zk_t2 (List.mem_of_getElem? (i := 34) rfl) rfl
theorem zk_t2_35 : (Cond.code yX3_begin cX3_begin 2 none) ∈ wsL_law := zk_t2 (List.mem_of_getElem? (i := 35) rfl) rfl
theorem zk_t2_36 : (Cond.methodLink RX6 248 yX6_sewNextField) ∈ wsL_law := zk_t2 (List.mem_of_getElem? (i := 36) rfl) rfl
theorem zk_t2_38 : (Cond.instanceMethod yX6_sewNextField) ∈ wsL_law := zk_t2 (List.mem_of_getElem? (i := 38) rfl) rfl
theorem zk_s1_8 : (Cond.selects RX6 yX6_sewNextField yX6_sewNextField) ∈ wsL_law := zk_s1 (List.mem_of_getElem? (i := 8) rfl) rfl
theorem zk_t2_39 : (Cond.code yX6_sewNextField cX6_sewNextField 5 none) ∈ wsL_law := zk_t2 (List.mem_of_getElem? (i := 39) rfl) rfl
theorem zk_t2_81 : (Cond.methodLink RX6 251 yX3_put) ∈ wsL_law := zk_t2 (List.mem_of_getElem? (i := 81) rfl) rfl
theorem zk_t1_42 : (Cond.fieldLink RX6 127 "Stitchpath$Plan" "size" "I") ∈ wsL_law := zk_t1 (List.mem_of_getElem? (i := 42) rfl) rfl
theorem zk_t1_193 : (Cond.methodLink RX6 124 yX6_refresh) ∈ wsL_law := zk_t1 (List.mem_of_getElem? (i := 193) rfl) rfl
theorem zk_t1_195 : (Cond.instanceMethod yX6_refresh) ∈ wsL_law := zk_t1 (List.mem_of_getElem? (i := 195) rfl) rfl
theorem zk_s1_0 : (Cond.selects RX6 yX6_refresh yX6_refresh) ∈ wsL_law := zk_s1 (List.mem_of_getElem? (i := 0) rfl) rfl
theorem zk_t1_196 : (Cond.code yX6_refresh cX6_refresh 3 none) ∈ wsL_law := zk_t1 (List.mem_of_getElem? (i := 196) rfl) rfl
theorem zk_t2_174 : (Cond.methodLink RX6 137 yX3_told) ∈ wsL_law := zk_t2 (List.mem_of_getElem? (i := 174) rfl) rfl
theorem zk_t1_36 : (Cond.fieldLink RX6 143 "Stitchpath$Plan" "kindCounts" "[I") ∈ wsL_law := zk_t1 (List.mem_of_getElem? (i := 36) rfl) rfl
theorem zk_t1_44 : (Cond.fieldLink RX6 147 "Stitchpath$Plan" "seconds" "F") ∈ wsL_law := zk_t1 (List.mem_of_getElem? (i := 44) rfl) rfl
theorem zk_t1_38 : (Cond.fieldLink RX6 151 "Stitchpath$Plan" "threads" "[I") ∈ wsL_law := zk_t1 (List.mem_of_getElem? (i := 38) rfl) rfl
theorem zk_t3_96 : (Cond.fieldLink RX6 154 "Stitchpath$Field" "column" "Z") ∈ wsL_law := zk_t3 (List.mem_of_getElem? (i := 96) rfl) rfl
theorem zk_t2_188 : (Cond.methodLink RX6 161 yX5_walk) ∈ wsL_law := zk_t2 (List.mem_of_getElem? (i := 188) rfl) rfl
theorem zk_t2_189 : (Cond.instanceMethod yX5_walk) ∈ wsL_law := zk_t2 (List.mem_of_getElem? (i := 189) rfl) rfl
theorem zk_t2_190 : (Cond.selects RX5 yX5_walk yX5_walk) ∈ wsL_law := zk_t2 (List.mem_of_getElem? (i := 190) rfl) rfl
theorem zk_t2_191 : (Cond.code yX5_walk cX5_walk 3 none) ∈ wsL_law := zk_t2 (List.mem_of_getElem? (i := 191) rfl) rfl
theorem zk_t3_190 : (Cond.methodLink RX6 165 yX5_partCovered) ∈ wsL_law := zk_t3 (List.mem_of_getElem? (i := 190) rfl) rfl
theorem zk_t3_191 : (Cond.instanceMethod yX5_partCovered) ∈ wsL_law := zk_t3 (List.mem_of_getElem? (i := 191) rfl) rfl
theorem zk_t3_192 : (Cond.selects RX5 yX5_partCovered yX5_partCovered) ∈ wsL_law := zk_t3 (List.mem_of_getElem? (i := 192) rfl) rfl
theorem zk_t3_193 : (Cond.code yX5_partCovered cX5_partCovered 7 (some .float)) ∈ wsL_law := zk_t3 (List.mem_of_getElem? (i := 193) rfl) rfl
theorem zk_t1_82 : (Cond.fieldLink RX6 169 "Stitchpath$Raster" "cellCount" "I") ∈ wsL_law := zk_t1 (List.mem_of_getElem? (i := 82) rfl) rfl
theorem zk_t1_98 : (Cond.fieldLink RX6 178 "Stitchpath$Pattern" "size" "I") ∈ wsL_law := zk_t1 (List.mem_of_getElem? (i := 98) rfl) rfl
theorem zk_t3_212 : (Cond.methodLink RX6 174 yX2_take) ∈ wsL_law := zk_t3 (List.mem_of_getElem? (i := 212) rfl) rfl
theorem zk_t3_213 : (Cond.instanceMethod yX2_take) ∈ wsL_law := zk_t3 (List.mem_of_getElem? (i := 213) rfl) rfl
theorem zk_t3_214 : (Cond.selects RX2 yX2_take yX2_take) ∈ wsL_law := zk_t3 (List.mem_of_getElem? (i := 214) rfl) rfl
theorem zk_t3_215 : (Cond.code yX2_take cX2_take 4 none) ∈ wsL_law := zk_t3 (List.mem_of_getElem? (i := 215) rfl) rfl
theorem zk_t1_96 : (Cond.fieldLink RX6 184 "Stitchpath$Pattern" "bytes" "[I") ∈ wsL_law := zk_t1 (List.mem_of_getElem? (i := 96) rfl) rfl
theorem zk_t2_208 : (Cond.methodLink RX6 179 yX2_has) ∈ wsL_law := zk_t2 (List.mem_of_getElem? (i := 208) rfl) rfl
theorem zk_t1_101 : (Cond.fieldLink RX6 194 "Stitchpath$Pattern" "faultPlace" "I") ∈ wsL_law := zk_t1 (List.mem_of_getElem? (i := 101) rfl) rfl
theorem zk_t2_227 : (Cond.methodLink RX6 191 yX2_inspect) ∈ wsL_law := zk_t2 (List.mem_of_getElem? (i := 227) rfl) rfl
theorem zk_t2_228 : (Cond.instanceMethod yX2_inspect) ∈ wsL_law := zk_t2 (List.mem_of_getElem? (i := 228) rfl) rfl
theorem zk_t2_229 : (Cond.selects RX2 yX2_inspect yX2_inspect) ∈ wsL_law := zk_t2 (List.mem_of_getElem? (i := 229) rfl) rfl
theorem zk_t2_230 : (Cond.code yX2_inspect cX2_inspect 6 none) ∈ wsL_law := zk_t2 (List.mem_of_getElem? (i := 230) rfl) rfl
theorem zk_t1_103 : (Cond.fieldLink RX6 197 "Stitchpath$Pattern" "stitchesRead" "I") ∈ wsL_law := zk_t1 (List.mem_of_getElem? (i := 103) rfl) rfl
theorem zk_t4_8 : (Cond.methodLink RX6 204 yX1_begin) ∈ wsL_law := zk_t4 (List.mem_of_getElem? (i := 8) rfl) rfl
theorem zk_t4_9 : (Cond.instanceMethod yX1_begin) ∈ wsL_law := zk_t4 (List.mem_of_getElem? (i := 9) rfl) rfl
theorem zk_t4_10 : (Cond.selects RX1 yX1_begin yX1_begin) ∈ wsL_law := zk_t4 (List.mem_of_getElem? (i := 10) rfl) rfl
theorem zk_t4_11 : (Cond.code yX1_begin cX1_begin 6 none) ∈ wsL_law := zk_t4 (List.mem_of_getElem? (i := 11) rfl) rfl
theorem zk_t1_128 : (Cond.fieldLink RX6 210 "Stitchpath$Machine" "headCount" "I") ∈ wsL_law := zk_t1 (List.mem_of_getElem? (i := 128) rfl) rfl
theorem zk_t4_19 : (Cond.methodLink RX6 215 yX1_advance) ∈ wsL_law := zk_t4 (List.mem_of_getElem? (i := 19) rfl) rfl
theorem zk_t4_20 : (Cond.instanceMethod yX1_advance) ∈ wsL_law := zk_t4 (List.mem_of_getElem? (i := 20) rfl) rfl
theorem zk_t4_21 : (Cond.selects RX1 yX1_advance yX1_advance) ∈ wsL_law := zk_t4 (List.mem_of_getElem? (i := 21) rfl) rfl
theorem zk_t4_22 : (Cond.code yX1_advance cX1_advance 3 (some .int)) ∈ wsL_law := zk_t4 (List.mem_of_getElem? (i := 22) rfl) rfl
theorem zk_t1_123 : (Cond.fieldLink RX6 222 "Stitchpath$Machine" "broken" "[Z") ∈ wsL_law := zk_t1 (List.mem_of_getElem? (i := 123) rfl) rfl
theorem zk_t2_218 : (Cond.methodLink RX6 219 yX1_has) ∈ wsL_law := zk_t2 (List.mem_of_getElem? (i := 218) rfl) rfl
theorem zk_t4_45 : (Cond.methodLink RX6 227 yX1_tear) ∈ wsL_law := zk_t4 (List.mem_of_getElem? (i := 45) rfl) rfl
theorem zk_t4_46 : (Cond.instanceMethod yX1_tear) ∈ wsL_law := zk_t4 (List.mem_of_getElem? (i := 46) rfl) rfl
theorem zk_t4_47 : (Cond.selects RX1 yX1_tear yX1_tear) ∈ wsL_law := zk_t4 (List.mem_of_getElem? (i := 47) rfl) rfl
theorem zk_t4_48 : (Cond.code yX1_tear cX1_tear 2 none) ∈ wsL_law := zk_t4 (List.mem_of_getElem? (i := 48) rfl) rfl
theorem zk_t4_53 : (Cond.methodLink RX6 230 yX1_isSeen) ∈ wsL_law := zk_t4 (List.mem_of_getElem? (i := 53) rfl) rfl
theorem zk_t4_55 : (Cond.methodLink RX6 235 yX1_repair) ∈ wsL_law := zk_t4 (List.mem_of_getElem? (i := 55) rfl) rfl
theorem zk_t4_56 : (Cond.instanceMethod yX1_repair) ∈ wsL_law := zk_t4 (List.mem_of_getElem? (i := 56) rfl) rfl
theorem zk_t4_57 : (Cond.selects RX1 yX1_repair yX1_repair) ∈ wsL_law := zk_t4 (List.mem_of_getElem? (i := 57) rfl) rfl
theorem zk_t4_58 : (Cond.code yX1_repair cX1_repair 3 (some .int)) ∈ wsL_law := zk_t4 (List.mem_of_getElem? (i := 58) rfl) rfl
theorem zk_t1_126 : (Cond.fieldLink RX6 238 "Stitchpath$Machine" "stitches" "[I") ∈ wsL_law := zk_t1 (List.mem_of_getElem? (i := 126) rfl) rfl
theorem zk_t1_180 : (Cond.constant RL 7 (91193)) ∈ wsL_law := zk_t1 (List.mem_of_getElem? (i := 180) rfl) rfl
theorem zk_t1_181 : (Cond.constant RL 8 (1014330183)) ∈ wsL_law := zk_t1 (List.mem_of_getElem? (i := 181) rfl) rfl
theorem zk_t3_40 : (Cond.methodLink RL 24 yX6_field) ∈ wsL_law := zk_t3 (List.mem_of_getElem? (i := 40) rfl) rfl
theorem zk_t3_41 : (Cond.instanceMethod yX6_field) ∈ wsL_law := zk_t3 (List.mem_of_getElem? (i := 41) rfl) rfl
theorem zk_t3_42 : (Cond.selects RX6 yX6_field yX6_field) ∈ wsL_law := zk_t3 (List.mem_of_getElem? (i := 42) rfl) rfl
theorem zk_t3_43 : (Cond.code yX6_field cX6_field 5 (some .int)) ∈ wsL_law := zk_t3 (List.mem_of_getElem? (i := 43) rfl) rfl
theorem zk_t3_144 : (Cond.methodLink RL 30 yX6_corner) ∈ wsL_law := zk_t3 (List.mem_of_getElem? (i := 144) rfl) rfl
theorem zk_t3_145 : (Cond.instanceMethod yX6_corner) ∈ wsL_law := zk_t3 (List.mem_of_getElem? (i := 145) rfl) rfl
theorem zk_t3_146 : (Cond.selects RX6 yX6_corner yX6_corner) ∈ wsL_law := zk_t3 (List.mem_of_getElem? (i := 146) rfl) rfl
theorem zk_t3_147 : (Cond.code yX6_corner cX6_corner 5 (some .int)) ∈ wsL_law := zk_t3 (List.mem_of_getElem? (i := 147) rfl) rfl
theorem zk_t3_158 : (Cond.methodLink RL 34 yX6_scale) ∈ wsL_law := zk_t3 (List.mem_of_getElem? (i := 158) rfl) rfl
theorem zk_t3_159 : (Cond.instanceMethod yX6_scale) ∈ wsL_law := zk_t3 (List.mem_of_getElem? (i := 159) rfl) rfl
theorem zk_t3_160 : (Cond.selects RX6 yX6_scale yX6_scale) ∈ wsL_law := zk_t3 (List.mem_of_getElem? (i := 160) rfl) rfl
theorem zk_t3_161 : (Cond.code yX6_scale cX6_scale 4 none) ∈ wsL_law := zk_t3 (List.mem_of_getElem? (i := 161) rfl) rfl
theorem zk_t3_172 : (Cond.methodLink RL 38 yX6_bound) ∈ wsL_law := zk_t3 (List.mem_of_getElem? (i := 172) rfl) rfl
theorem zk_t3_173 : (Cond.instanceMethod yX6_bound) ∈ wsL_law := zk_t3 (List.mem_of_getElem? (i := 173) rfl) rfl
theorem zk_t3_174 : (Cond.selects RX6 yX6_bound yX6_bound) ∈ wsL_law := zk_t3 (List.mem_of_getElem? (i := 174) rfl) rfl
theorem zk_t3_175 : (Cond.code yX6_bound cX6_bound 3 (some .int)) ∈ wsL_law := zk_t3 (List.mem_of_getElem? (i := 175) rfl) rfl
theorem zk_t2_83 : (Cond.methodLink RL 42 yX6_ofCommand) ∈ wsL_law := zk_t2 (List.mem_of_getElem? (i := 83) rfl) rfl
theorem zk_t2_84 : (Cond.instanceMethod yX6_ofCommand) ∈ wsL_law := zk_t2 (List.mem_of_getElem? (i := 84) rfl) rfl
theorem zk_t2_85 : (Cond.selects RX6 yX6_ofCommand yX6_ofCommand) ∈ wsL_law := zk_t2 (List.mem_of_getElem? (i := 85) rfl) rfl
theorem zk_t2_86 : (Cond.code yX6_ofCommand cX6_ofCommand 3 (some .int)) ∈ wsL_law := zk_t2 (List.mem_of_getElem? (i := 86) rfl) rfl
theorem zk_t3_177 : (Cond.methodLink RL 46 yX6_count) ∈ wsL_law := zk_t3 (List.mem_of_getElem? (i := 177) rfl) rfl
theorem zk_t3_178 : (Cond.instanceMethod yX6_count) ∈ wsL_law := zk_t3 (List.mem_of_getElem? (i := 178) rfl) rfl
theorem zk_t3_179 : (Cond.selects RX6 yX6_count yX6_count) ∈ wsL_law := zk_t3 (List.mem_of_getElem? (i := 179) rfl) rfl
theorem zk_t3_180 : (Cond.code yX6_count cX6_count 2 (some .int)) ∈ wsL_law := zk_t3 (List.mem_of_getElem? (i := 180) rfl) rfl
theorem zk_t3_182 : (Cond.methodLink RL 49 yX6_thread) ∈ wsL_law := zk_t3 (List.mem_of_getElem? (i := 182) rfl) rfl
theorem zk_t3_183 : (Cond.instanceMethod yX6_thread) ∈ wsL_law := zk_t3 (List.mem_of_getElem? (i := 183) rfl) rfl
theorem zk_t3_184 : (Cond.selects RX6 yX6_thread yX6_thread) ∈ wsL_law := zk_t3 (List.mem_of_getElem? (i := 184) rfl) rfl
theorem zk_t3_185 : (Cond.code yX6_thread cX6_thread 2 (some .int)) ∈ wsL_law := zk_t3 (List.mem_of_getElem? (i := 185) rfl) rfl
theorem zk_t3_186 : (Cond.methodLink RL 52 yX6_covered) ∈ wsL_law := zk_t3 (List.mem_of_getElem? (i := 186) rfl) rfl
theorem zk_t3_187 : (Cond.instanceMethod yX6_covered) ∈ wsL_law := zk_t3 (List.mem_of_getElem? (i := 187) rfl) rfl
theorem zk_t3_188 : (Cond.selects RX6 yX6_covered yX6_covered) ∈ wsL_law := zk_t3 (List.mem_of_getElem? (i := 188) rfl) rfl
theorem zk_t3_189 : (Cond.code yX6_covered cX6_covered 3 (some .float)) ∈ wsL_law := zk_t3 (List.mem_of_getElem? (i := 189) rfl) rfl
theorem zk_t2_179 : (Cond.methodLink RL 56 yX6_touched) ∈ wsL_law := zk_t2 (List.mem_of_getElem? (i := 179) rfl) rfl
theorem zk_t2_180 : (Cond.instanceMethod yX6_touched) ∈ wsL_law := zk_t2 (List.mem_of_getElem? (i := 180) rfl) rfl
theorem zk_t2_181 : (Cond.selects RX6 yX6_touched yX6_touched) ∈ wsL_law := zk_t2 (List.mem_of_getElem? (i := 181) rfl) rfl
theorem zk_t2_182 : (Cond.code yX6_touched cX6_touched 3 (some .int)) ∈ wsL_law := zk_t2 (List.mem_of_getElem? (i := 182) rfl) rfl
theorem zk_t3_207 : (Cond.methodLink RL 59 yX6_write) ∈ wsL_law := zk_t3 (List.mem_of_getElem? (i := 207) rfl) rfl
theorem zk_t3_208 : (Cond.instanceMethod yX6_write) ∈ wsL_law := zk_t3 (List.mem_of_getElem? (i := 208) rfl) rfl
theorem zk_t3_209 : (Cond.selects RX6 yX6_write yX6_write) ∈ wsL_law := zk_t3 (List.mem_of_getElem? (i := 209) rfl) rfl
theorem zk_t3_210 : (Cond.code yX6_write cX6_write 2 (some .int)) ∈ wsL_law := zk_t3 (List.mem_of_getElem? (i := 210) rfl) rfl
theorem zk_t2_204 : (Cond.methodLink RL 62 yX6_byteAt) ∈ wsL_law := zk_t2 (List.mem_of_getElem? (i := 204) rfl) rfl
theorem zk_t2_205 : (Cond.instanceMethod yX6_byteAt) ∈ wsL_law := zk_t2 (List.mem_of_getElem? (i := 205) rfl) rfl
theorem zk_t2_206 : (Cond.selects RX6 yX6_byteAt yX6_byteAt) ∈ wsL_law := zk_t2 (List.mem_of_getElem? (i := 206) rfl) rfl
theorem zk_t2_207 : (Cond.code yX6_byteAt cX6_byteAt 2 (some .int)) ∈ wsL_law := zk_t2 (List.mem_of_getElem? (i := 207) rfl) rfl
theorem zk_t3_232 : (Cond.methodLink RL 65 yX6_damage) ∈ wsL_law := zk_t3 (List.mem_of_getElem? (i := 232) rfl) rfl
theorem zk_t3_233 : (Cond.instanceMethod yX6_damage) ∈ wsL_law := zk_t3 (List.mem_of_getElem? (i := 233) rfl) rfl
theorem zk_t3_234 : (Cond.selects RX6 yX6_damage yX6_damage) ∈ wsL_law := zk_t3 (List.mem_of_getElem? (i := 234) rfl) rfl
theorem zk_t3_235 : (Cond.code yX6_damage cX6_damage 4 (some .int)) ∈ wsL_law := zk_t3 (List.mem_of_getElem? (i := 235) rfl) rfl
theorem zk_t3_237 : (Cond.methodLink RL 68 yX6_shorten) ∈ wsL_law := zk_t3 (List.mem_of_getElem? (i := 237) rfl) rfl
theorem zk_t3_238 : (Cond.instanceMethod yX6_shorten) ∈ wsL_law := zk_t3 (List.mem_of_getElem? (i := 238) rfl) rfl
theorem zk_t3_239 : (Cond.selects RX6 yX6_shorten yX6_shorten) ∈ wsL_law := zk_t3 (List.mem_of_getElem? (i := 239) rfl) rfl
theorem zk_t4_0 : (Cond.code yX6_shorten cX6_shorten 3 (some .int)) ∈ wsL_law := zk_t4 (List.mem_of_getElem? (i := 0) rfl) rfl
theorem zk_t4_2 : (Cond.methodLink RL 71 yX6_start) ∈ wsL_law := zk_t4 (List.mem_of_getElem? (i := 2) rfl) rfl
theorem zk_t4_3 : (Cond.instanceMethod yX6_start) ∈ wsL_law := zk_t4 (List.mem_of_getElem? (i := 3) rfl) rfl
theorem zk_t4_4 : (Cond.selects RX6 yX6_start yX6_start) ∈ wsL_law := zk_t4 (List.mem_of_getElem? (i := 4) rfl) rfl
theorem zk_t4_5 : (Cond.code yX6_start cX6_start 3 none) ∈ wsL_law := zk_t4 (List.mem_of_getElem? (i := 5) rfl) rfl
theorem zk_t4_13 : (Cond.methodLink RL 74 yX6_run) ∈ wsL_law := zk_t4 (List.mem_of_getElem? (i := 13) rfl) rfl
theorem zk_t4_14 : (Cond.instanceMethod yX6_run) ∈ wsL_law := zk_t4 (List.mem_of_getElem? (i := 14) rfl) rfl
theorem zk_t4_15 : (Cond.selects RX6 yX6_run yX6_run) ∈ wsL_law := zk_t4 (List.mem_of_getElem? (i := 15) rfl) rfl
theorem zk_t4_16 : (Cond.code yX6_run cX6_run 2 (some .int)) ∈ wsL_law := zk_t4 (List.mem_of_getElem? (i := 16) rfl) rfl
theorem zk_t4_40 : (Cond.methodLink RL 77 yX6_breaks) ∈ wsL_law := zk_t4 (List.mem_of_getElem? (i := 40) rfl) rfl
theorem zk_t4_41 : (Cond.instanceMethod yX6_breaks) ∈ wsL_law := zk_t4 (List.mem_of_getElem? (i := 41) rfl) rfl
theorem zk_t4_42 : (Cond.selects RX6 yX6_breaks yX6_breaks) ∈ wsL_law := zk_t4 (List.mem_of_getElem? (i := 42) rfl) rfl
theorem zk_t4_43 : (Cond.code yX6_breaks cX6_breaks 2 none) ∈ wsL_law := zk_t4 (List.mem_of_getElem? (i := 43) rfl) rfl
theorem zk_t4_49 : (Cond.methodLink RL 81 yX6_mend) ∈ wsL_law := zk_t4 (List.mem_of_getElem? (i := 49) rfl) rfl
theorem zk_t4_50 : (Cond.instanceMethod yX6_mend) ∈ wsL_law := zk_t4 (List.mem_of_getElem? (i := 50) rfl) rfl
theorem zk_t4_51 : (Cond.selects RX6 yX6_mend yX6_mend) ∈ wsL_law := zk_t4 (List.mem_of_getElem? (i := 51) rfl) rfl
theorem zk_t4_52 : (Cond.code yX6_mend cX6_mend 2 (some .int)) ∈ wsL_law := zk_t4 (List.mem_of_getElem? (i := 52) rfl) rfl
theorem zk_t2_214 : (Cond.methodLink RL 84 yX6_sewn) ∈ wsL_law := zk_t2 (List.mem_of_getElem? (i := 214) rfl) rfl
theorem zk_t2_215 : (Cond.instanceMethod yX6_sewn) ∈ wsL_law := zk_t2 (List.mem_of_getElem? (i := 215) rfl) rfl
theorem zk_t2_216 : (Cond.selects RX6 yX6_sewn yX6_sewn) ∈ wsL_law := zk_t2 (List.mem_of_getElem? (i := 216) rfl) rfl
theorem zk_t2_217 : (Cond.code yX6_sewn cX6_sewn 2 (some .int)) ∈ wsL_law := zk_t2 (List.mem_of_getElem? (i := 217) rfl) rfl
theorem zk_t3_34 : (Cond.classLink RL 15 "java/lang/IndexOutOfBoundsException") ∈ wsL_law := zk_t3 (List.mem_of_getElem? (i := 34) rfl) rfl
theorem zk_t3_35 : (Cond.classLink RL 18 "java/lang/IllegalArgumentException") ∈ wsL_law := zk_t3 (List.mem_of_getElem? (i := 35) rfl) rfl
theorem zk_t3_36 : (Cond.classLink RL 21 "java/lang/IllegalStateException") ∈ wsL_law := zk_t3 (List.mem_of_getElem? (i := 36) rfl) rfl
theorem zk_t4_60 : (Cond.constant RL 17 (-2000000001)) ∈ wsL_law := zk_t4 (List.mem_of_getElem? (i := 60) rfl) rfl
theorem zk_t4_61 : (Cond.constant RL 20 (-2000000002)) ∈ wsL_law := zk_t4 (List.mem_of_getElem? (i := 61) rfl) rfl
theorem zk_t4_62 : (Cond.constant RL 23 (-2000000003)) ∈ wsL_law := zk_t4 (List.mem_of_getElem? (i := 62) rfl) rfl
theorem zk_t3_37 : (Cond.methodLink RL 9 yL_does) ∈ wsL_law := zk_t3 (List.mem_of_getElem? (i := 37) rfl) rfl
theorem zk_t3_38 : (Cond.static yL_does) ∈ wsL_law := zk_t3 (List.mem_of_getElem? (i := 38) rfl) rfl
theorem zk_t1_0 : (Cond.initialized RL) ∈ wsL_law := zk_t1 (List.mem_of_getElem? (i := 0) rfl) rfl
theorem zk_t3_39 : (Cond.code yL_does cL_does 5 (some .int)) ∈ wsL_law := zk_t3 (List.mem_of_getElem? (i := 39) rfl) rfl
theorem zk_t4_67 : (Cond.methodLink RL 87 yX6_sew) ∈ wsL_law := zk_t4 (List.mem_of_getElem? (i := 67) rfl) rfl
theorem zk_t4_68 : (Cond.instanceMethod yX6_sew) ∈ wsL_law := zk_t4 (List.mem_of_getElem? (i := 68) rfl) rfl
theorem zk_t4_69 : (Cond.selects RX6 yX6_sew yX6_sew) ∈ wsL_law := zk_t4 (List.mem_of_getElem? (i := 69) rfl) rfl
theorem zk_t4_70 : (Cond.code yX6_sew cX6_sew 8 none) ∈ wsL_law := zk_t4 (List.mem_of_getElem? (i := 70) rfl) rfl
theorem zk_t1_188 : (Cond.constantLong RL 91 (17)) ∈ wsL_law := zk_t1 (List.mem_of_getElem? (i := 188) rfl) rfl
theorem zk_t2_82 : (Cond.constantLong RL 97 (127)) ∈ wsL_law := zk_t2 (List.mem_of_getElem? (i := 82) rfl) rfl
theorem zk_t2_178 : (Cond.constantLong RL 99 (2003)) ∈ wsL_law := zk_t2 (List.mem_of_getElem? (i := 178) rfl) rfl
theorem zk_t2_203 : (Cond.constantLong RL 101 (257)) ∈ wsL_law := zk_t2 (List.mem_of_getElem? (i := 203) rfl) rfl
theorem zk_t2_213 : (Cond.constantLong RL 103 (9001)) ∈ wsL_law := zk_t2 (List.mem_of_getElem? (i := 213) rfl) rfl
theorem zk_t1_189 : (Cond.methodLink RL 93 yX6_commands) ∈ wsL_law := zk_t1 (List.mem_of_getElem? (i := 189) rfl) rfl
theorem zk_t1_190 : (Cond.instanceMethod yX6_commands) ∈ wsL_law := zk_t1 (List.mem_of_getElem? (i := 190) rfl) rfl
theorem zk_t1_191 : (Cond.selects RX6 yX6_commands yX6_commands) ∈ wsL_law := zk_t1 (List.mem_of_getElem? (i := 191) rfl) rfl
theorem zk_t1_192 : (Cond.code yX6_commands cX6_commands 1 (some .int)) ∈ wsL_law := zk_t1 (List.mem_of_getElem? (i := 192) rfl) rfl
theorem zk_t2_223 : (Cond.methodLink RL 105 yX6_fault) ∈ wsL_law := zk_t2 (List.mem_of_getElem? (i := 223) rfl) rfl
theorem zk_t2_224 : (Cond.instanceMethod yX6_fault) ∈ wsL_law := zk_t2 (List.mem_of_getElem? (i := 224) rfl) rfl
theorem zk_t2_225 : (Cond.selects RX6 yX6_fault yX6_fault) ∈ wsL_law := zk_t2 (List.mem_of_getElem? (i := 225) rfl) rfl
theorem zk_t2_226 : (Cond.code yX6_fault cX6_fault 1 (some .int)) ∈ wsL_law := zk_t2 (List.mem_of_getElem? (i := 226) rfl) rfl
theorem zk_t3_21 : (Cond.methodLink RL 108 yX6_reads) ∈ wsL_law := zk_t3 (List.mem_of_getElem? (i := 21) rfl) rfl
theorem zk_t3_22 : (Cond.instanceMethod yX6_reads) ∈ wsL_law := zk_t3 (List.mem_of_getElem? (i := 22) rfl) rfl
theorem zk_t3_23 : (Cond.selects RX6 yX6_reads yX6_reads) ∈ wsL_law := zk_t3 (List.mem_of_getElem? (i := 23) rfl) rfl
theorem zk_t3_24 : (Cond.code yX6_reads cX6_reads 1 (some .int)) ∈ wsL_law := zk_t3 (List.mem_of_getElem? (i := 24) rfl) rfl
theorem zk_t4_63 : (Cond.constant RL 114 (-2000000099)) ∈ wsL_law := zk_t4 (List.mem_of_getElem? (i := 63) rfl) rfl
theorem zk_t3_31 : (Cond.methodLink RL 111 yL_call) ∈ wsL_law := zk_t3 (List.mem_of_getElem? (i := 31) rfl) rfl
theorem zk_t3_32 : (Cond.static yL_call) ∈ wsL_law := zk_t3 (List.mem_of_getElem? (i := 32) rfl) rfl
theorem zk_t3_33 : (Cond.codeWith yL_call cL_call 6 (some .int) [(0, 9, 10, 15), (0, 9, 15, 18), (0, 9, 20, 21)]) ∈ wsL_law := zk_t3 (List.mem_of_getElem? (i := 33) rfl) rfl
theorem zk_t1_182 : (Cond.methodLink RL 115 yL_some) ∈ wsL_law := zk_t1 (List.mem_of_getElem? (i := 182) rfl) rfl
theorem zk_t1_183 : (Cond.static yL_some) ∈ wsL_law := zk_t1 (List.mem_of_getElem? (i := 183) rfl) rfl
theorem zk_t1_184 : (Cond.code yL_some cL_some 2 (some .int)) ∈ wsL_law := zk_t1 (List.mem_of_getElem? (i := 184) rfl) rfl
theorem zk_t3_28 : (Cond.methodLink RL 118 yL_both) ∈ wsL_law := zk_t3 (List.mem_of_getElem? (i := 28) rfl) rfl
theorem zk_t3_29 : (Cond.static yL_both) ∈ wsL_law := zk_t3 (List.mem_of_getElem? (i := 29) rfl) rfl
theorem zk_t3_30 : (Cond.code yL_both cL_both 7 (some .int)) ∈ wsL_law := zk_t3 (List.mem_of_getElem? (i := 30) rfl) rfl
theorem zk_t4_64 : (Cond.methodLink RL 122 yL_sew) ∈ wsL_law := zk_t4 (List.mem_of_getElem? (i := 64) rfl) rfl
theorem zk_t4_65 : (Cond.static yL_sew) ∈ wsL_law := zk_t4 (List.mem_of_getElem? (i := 65) rfl) rfl
theorem zk_t4_66 : (Cond.codeWith yL_sew cL_sew 8 (some .int) [(0, 14, 15, 15), (0, 14, 20, 18)]) ∈ wsL_law := zk_t4 (List.mem_of_getElem? (i := 66) rfl) rfl
theorem zk_t4_82 : (Cond.methodLink RL 125 yL_size) ∈ wsL_law := zk_t4 (List.mem_of_getElem? (i := 82) rfl) rfl
theorem zk_t4_83 : (Cond.static yL_size) ∈ wsL_law := zk_t4 (List.mem_of_getElem? (i := 83) rfl) rfl
theorem zk_t4_84 : (Cond.code yL_size cL_size 1 (some .int)) ∈ wsL_law := zk_t4 (List.mem_of_getElem? (i := 84) rfl) rfl
theorem zk_t4_85 : (Cond.methodLink RL 128 yX6_time) ∈ wsL_law := zk_t4 (List.mem_of_getElem? (i := 85) rfl) rfl
theorem zk_t4_86 : (Cond.instanceMethod yX6_time) ∈ wsL_law := zk_t4 (List.mem_of_getElem? (i := 86) rfl) rfl
theorem zk_t4_87 : (Cond.selects RX6 yX6_time yX6_time) ∈ wsL_law := zk_t4 (List.mem_of_getElem? (i := 87) rfl) rfl
theorem zk_t4_88 : (Cond.code yX6_time cX6_time 1 (some .float)) ∈ wsL_law := zk_t4 (List.mem_of_getElem? (i := 88) rfl) rfl
theorem zk_t1_185 : (Cond.methodLink RL 132 yL_all) ∈ wsL_law := zk_t1 (List.mem_of_getElem? (i := 185) rfl) rfl
theorem zk_t1_186 : (Cond.static yL_all) ∈ wsL_law := zk_t1 (List.mem_of_getElem? (i := 186) rfl) rfl
theorem zk_t1_187 : (Cond.code yL_all cL_all 6 (some .long)) ∈ wsL_law := zk_t1 (List.mem_of_getElem? (i := 187) rfl) rfl
theorem zk_t1_15 : (Cond.classLink RL 25 RX6) ∈ wsL_law := zk_t1 (List.mem_of_getElem? (i := 15) rfl) rfl
theorem zk_t1_16 : (Cond.instantiable RX6 9) ∈ wsL_law := zk_t1 (List.mem_of_getElem? (i := 16) rfl) rfl
theorem zk_t1_17 : (Cond.methodLink RL 136 yX6_init) ∈ wsL_law := zk_t1 (List.mem_of_getElem? (i := 17) rfl) rfl
theorem zk_t1_18 : (Cond.instanceMethod yX6_init) ∈ wsL_law := zk_t1 (List.mem_of_getElem? (i := 18) rfl) rfl
theorem zk_t1_19 : (Cond.code yX6_init cX6_init 1 none) ∈ wsL_law := zk_t1 (List.mem_of_getElem? (i := 19) rfl) rfl
theorem zk_t4_95 : (Cond.methodLink RL 137 yL_refused) ∈ wsL_law := zk_t4 (List.mem_of_getElem? (i := 95) rfl) rfl
theorem zk_t4_96 : (Cond.static yL_refused) ∈ wsL_law := zk_t4 (List.mem_of_getElem? (i := 96) rfl) rfl
theorem zk_t4_97 : (Cond.code yL_refused cL_refused 5 (some .boolean)) ∈ wsL_law := zk_t4 (List.mem_of_getElem? (i := 97) rfl) rfl
theorem zk_t1_177 : (Cond.methodLink RL 141 yL_cell) ∈ wsL_law := zk_t1 (List.mem_of_getElem? (i := 177) rfl) rfl
theorem zk_t1_178 : (Cond.static yL_cell) ∈ wsL_law := zk_t1 (List.mem_of_getElem? (i := 178) rfl) rfl
theorem zk_t1_179 : (Cond.code yL_cell cL_cell 3 (some .int)) ∈ wsL_law := zk_t1 (List.mem_of_getElem? (i := 179) rfl) rfl
theorem zk_t3_25 : (Cond.methodLink RL 145 yL_fields) ∈ wsL_law := zk_t3 (List.mem_of_getElem? (i := 25) rfl) rfl
theorem zk_t3_26 : (Cond.static yL_fields) ∈ wsL_law := zk_t3 (List.mem_of_getElem? (i := 26) rfl) rfl
theorem zk_t3_27 : (Cond.code yL_fields cL_fields 9 (some .boolean)) ∈ wsL_law := zk_t3 (List.mem_of_getElem? (i := 27) rfl) rfl
theorem zk_t4_89 : (Cond.methodLink RL 149 yL_files) ∈ wsL_law := zk_t4 (List.mem_of_getElem? (i := 89) rfl) rfl
theorem zk_t4_90 : (Cond.static yL_files) ∈ wsL_law := zk_t4 (List.mem_of_getElem? (i := 90) rfl) rfl
theorem zk_t4_91 : (Cond.code yL_files cL_files 12 (some .boolean)) ∈ wsL_law := zk_t4 (List.mem_of_getElem? (i := 91) rfl) rfl
theorem zk_t4_92 : (Cond.methodLink RL 152 yL_machine) ∈ wsL_law := zk_t4 (List.mem_of_getElem? (i := 92) rfl) rfl
theorem zk_t4_93 : (Cond.static yL_machine) ∈ wsL_law := zk_t4 (List.mem_of_getElem? (i := 93) rfl) rfl
theorem zk_t4_94 : (Cond.code yL_machine cL_machine 11 (some .boolean)) ∈ wsL_law := zk_t4 (List.mem_of_getElem? (i := 94) rfl) rfl
theorem zk_t4_79 : (Cond.methodLink RL 155 yL_sound) ∈ wsL_law := zk_t4 (List.mem_of_getElem? (i := 79) rfl) rfl
theorem zk_t4_80 : (Cond.static yL_sound) ∈ wsL_law := zk_t4 (List.mem_of_getElem? (i := 80) rfl) rfl
theorem zk_t4_81 : (Cond.code yL_sound cL_sound 13 (some .boolean)) ∈ wsL_law := zk_t4 (List.mem_of_getElem? (i := 81) rfl) rfl
theorem zk_t3_113 : (Cond.laysFinal RX0 "Stitchpath$Field" "colour" "I") ∈ wsL_law := zk_t3 (List.mem_of_getElem? (i := 113) rfl) rfl
theorem zk_t3_115 : (Cond.laysFinal RX0 "Stitchpath$Field" "layer" "I") ∈ wsL_law := zk_t3 (List.mem_of_getElem? (i := 115) rfl) rfl
theorem zk_t3_117 : (Cond.laysFinal RX0 "Stitchpath$Field" "column" "Z") ∈ wsL_law := zk_t3 (List.mem_of_getElem? (i := 117) rfl) rfl
theorem zk_t3_119 : (Cond.laysFinal RX0 "Stitchpath$Field" "cornerXs" "[I") ∈ wsL_law := zk_t3 (List.mem_of_getElem? (i := 119) rfl) rfl
theorem zk_t3_121 : (Cond.laysFinal RX0 "Stitchpath$Field" "cornerYs" "[I") ∈ wsL_law := zk_t3 (List.mem_of_getElem? (i := 121) rfl) rfl
theorem zk_t3_123 : (Cond.laysFinal RX0 "Stitchpath$Field" "crossings" "[I") ∈ wsL_law := zk_t3 (List.mem_of_getElem? (i := 123) rfl) rfl
theorem zk_t3_125 : (Cond.laysFinal RX0 "Stitchpath$Field" "points" "LStitchpath$Points;") ∈ wsL_law := zk_t3 (List.mem_of_getElem? (i := 125) rfl) rfl
theorem zk_t3_127 : (Cond.lays RX0 "Stitchpath$Field" "cornerCount" "I") ∈ wsL_law := zk_t3 (List.mem_of_getElem? (i := 127) rfl) rfl
theorem zk_t3_129 : (Cond.lays RX0 "Stitchpath$Field" "crossingCount" "I") ∈ wsL_law := zk_t3 (List.mem_of_getElem? (i := 129) rfl) rfl
theorem zk_t3_131 : (Cond.lays RX0 "Stitchpath$Field" "density" "I") ∈ wsL_law := zk_t3 (List.mem_of_getElem? (i := 131) rfl) rfl
theorem zk_t3_133 : (Cond.lays RX0 "Stitchpath$Field" "length" "I") ∈ wsL_law := zk_t3 (List.mem_of_getElem? (i := 133) rfl) rfl
theorem zk_t3_135 : (Cond.lays RX0 "Stitchpath$Field" "shift" "I") ∈ wsL_law := zk_t3 (List.mem_of_getElem? (i := 135) rfl) rfl
theorem zk_t3_137 : (Cond.lays RX0 "Stitchpath$Field" "pull" "I") ∈ wsL_law := zk_t3 (List.mem_of_getElem? (i := 137) rfl) rfl
theorem zk_t3_139 : (Cond.lays RX0 "Stitchpath$Field" "underlay" "Z") ∈ wsL_law := zk_t3 (List.mem_of_getElem? (i := 139) rfl) rfl
theorem zk_t3_141 : (Cond.lays RX0 "Stitchpath$Field" "drawn" "Z") ∈ wsL_law := zk_t3 (List.mem_of_getElem? (i := 141) rfl) rfl
theorem zk_t1_132 : (Cond.laysFinal RX1 "Stitchpath$Machine" "stitchesAhead" "[I") ∈ wsL_law := zk_t1 (List.mem_of_getElem? (i := 132) rfl) rfl
theorem zk_t1_134 : (Cond.laysFinal RX1 "Stitchpath$Machine" "broken" "[Z") ∈ wsL_law := zk_t1 (List.mem_of_getElem? (i := 134) rfl) rfl
theorem zk_t1_136 : (Cond.laysFinal RX1 "Stitchpath$Machine" "brokeAt" "[I") ∈ wsL_law := zk_t1 (List.mem_of_getElem? (i := 136) rfl) rfl
theorem zk_t1_138 : (Cond.laysFinal RX1 "Stitchpath$Machine" "stitches" "[I") ∈ wsL_law := zk_t1 (List.mem_of_getElem? (i := 138) rfl) rfl
theorem zk_t1_140 : (Cond.lays RX1 "Stitchpath$Machine" "headCount" "I") ∈ wsL_law := zk_t1 (List.mem_of_getElem? (i := 140) rfl) rfl
theorem zk_t1_142 : (Cond.lays RX1 "Stitchpath$Machine" "late" "I") ∈ wsL_law := zk_t1 (List.mem_of_getElem? (i := 142) rfl) rfl
theorem zk_t1_144 : (Cond.lays RX1 "Stitchpath$Machine" "commandCount" "I") ∈ wsL_law := zk_t1 (List.mem_of_getElem? (i := 144) rfl) rfl
theorem zk_t1_146 : (Cond.lays RX1 "Stitchpath$Machine" "place" "I") ∈ wsL_law := zk_t1 (List.mem_of_getElem? (i := 146) rfl) rfl
theorem zk_t1_104 : (Cond.laysFinal RX2 "Stitchpath$Pattern" "bytes" "[I") ∈ wsL_law := zk_t1 (List.mem_of_getElem? (i := 104) rfl) rfl
theorem zk_t1_106 : (Cond.lays RX2 "Stitchpath$Pattern" "size" "I") ∈ wsL_law := zk_t1 (List.mem_of_getElem? (i := 106) rfl) rfl
theorem zk_t1_108 : (Cond.lays RX2 "Stitchpath$Pattern" "format" "I") ∈ wsL_law := zk_t1 (List.mem_of_getElem? (i := 108) rfl) rfl
theorem zk_t1_110 : (Cond.lays RX2 "Stitchpath$Pattern" "faultPlace" "I") ∈ wsL_law := zk_t1 (List.mem_of_getElem? (i := 110) rfl) rfl
theorem zk_t1_112 : (Cond.lays RX2 "Stitchpath$Pattern" "stitchesRead" "I") ∈ wsL_law := zk_t1 (List.mem_of_getElem? (i := 112) rfl) rfl
theorem zk_t1_49 : (Cond.laysFinal RX3 "Stitchpath$Plan" "kinds" "[I") ∈ wsL_law := zk_t1 (List.mem_of_getElem? (i := 49) rfl) rfl
theorem zk_t1_51 : (Cond.laysFinal RX3 "Stitchpath$Plan" "differencesX" "[I") ∈ wsL_law := zk_t1 (List.mem_of_getElem? (i := 51) rfl) rfl
theorem zk_t1_53 : (Cond.laysFinal RX3 "Stitchpath$Plan" "differencesY" "[I") ∈ wsL_law := zk_t1 (List.mem_of_getElem? (i := 53) rfl) rfl
theorem zk_t1_55 : (Cond.laysFinal RX3 "Stitchpath$Plan" "owners" "[I") ∈ wsL_law := zk_t1 (List.mem_of_getElem? (i := 55) rfl) rfl
theorem zk_t1_57 : (Cond.laysFinal RX3 "Stitchpath$Plan" "kindCounts" "[I") ∈ wsL_law := zk_t1 (List.mem_of_getElem? (i := 57) rfl) rfl
theorem zk_t1_59 : (Cond.laysFinal RX3 "Stitchpath$Plan" "threads" "[I") ∈ wsL_law := zk_t1 (List.mem_of_getElem? (i := 59) rfl) rfl
theorem zk_t1_61 : (Cond.lays RX3 "Stitchpath$Plan" "size" "I") ∈ wsL_law := zk_t1 (List.mem_of_getElem? (i := 61) rfl) rfl
theorem zk_t1_63 : (Cond.lays RX3 "Stitchpath$Plan" "seconds" "F") ∈ wsL_law := zk_t1 (List.mem_of_getElem? (i := 63) rfl) rfl
theorem zk_t1_65 : (Cond.lays RX3 "Stitchpath$Plan" "needleX" "I") ∈ wsL_law := zk_t1 (List.mem_of_getElem? (i := 65) rfl) rfl
theorem zk_t1_67 : (Cond.lays RX3 "Stitchpath$Plan" "needleY" "I") ∈ wsL_law := zk_t1 (List.mem_of_getElem? (i := 67) rfl) rfl
theorem zk_t1_69 : (Cond.lays RX3 "Stitchpath$Plan" "colour" "I") ∈ wsL_law := zk_t1 (List.mem_of_getElem? (i := 69) rfl) rfl
theorem zk_t3_83 : (Cond.laysFinal RX4 "Stitchpath$Points" "xs" "[I") ∈ wsL_law := zk_t3 (List.mem_of_getElem? (i := 83) rfl) rfl
theorem zk_t3_85 : (Cond.laysFinal RX4 "Stitchpath$Points" "ys" "[I") ∈ wsL_law := zk_t3 (List.mem_of_getElem? (i := 85) rfl) rfl
theorem zk_t3_87 : (Cond.lays RX4 "Stitchpath$Points" "size" "I") ∈ wsL_law := zk_t3 (List.mem_of_getElem? (i := 87) rfl) rfl
theorem zk_t1_83 : (Cond.laysFinal RX5 "Stitchpath$Raster" "cells" "[Z") ∈ wsL_law := zk_t1 (List.mem_of_getElem? (i := 83) rfl) rfl
theorem zk_t1_85 : (Cond.lays RX5 "Stitchpath$Raster" "cellCount" "I") ∈ wsL_law := zk_t1 (List.mem_of_getElem? (i := 85) rfl) rfl
theorem zk_t1_158 : (Cond.laysFinal RX6 "Stitchpath" "fields" "[LStitchpath$Field;") ∈ wsL_law := zk_t1 (List.mem_of_getElem? (i := 158) rfl) rfl
theorem zk_t1_160 : (Cond.laysFinal RX6 "Stitchpath" "waiting" "[Z") ∈ wsL_law := zk_t1 (List.mem_of_getElem? (i := 160) rfl) rfl
theorem zk_t1_162 : (Cond.laysFinal RX6 "Stitchpath" "plan" "LStitchpath$Plan;") ∈ wsL_law := zk_t1 (List.mem_of_getElem? (i := 162) rfl) rfl
theorem zk_t1_164 : (Cond.laysFinal RX6 "Stitchpath" "raster" "LStitchpath$Raster;") ∈ wsL_law := zk_t1 (List.mem_of_getElem? (i := 164) rfl) rfl
theorem zk_t1_166 : (Cond.laysFinal RX6 "Stitchpath" "pattern" "LStitchpath$Pattern;") ∈ wsL_law := zk_t1 (List.mem_of_getElem? (i := 166) rfl) rfl
theorem zk_t1_168 : (Cond.laysFinal RX6 "Stitchpath" "machine" "LStitchpath$Machine;") ∈ wsL_law := zk_t1 (List.mem_of_getElem? (i := 168) rfl) rfl
theorem zk_t1_170 : (Cond.lays RX6 "Stitchpath" "fieldCount" "I") ∈ wsL_law := zk_t1 (List.mem_of_getElem? (i := 170) rfl) rfl
theorem zk_t1_172 : (Cond.lays RX6 "Stitchpath" "trimBound" "I") ∈ wsL_law := zk_t1 (List.mem_of_getElem? (i := 172) rfl) rfl
theorem zk_t1_174 : (Cond.lays RX6 "Stitchpath" "planned" "Z") ∈ wsL_law := zk_t1 (List.mem_of_getElem? (i := 174) rfl) rfl
theorem inlX0 : ∀ w ∈ u_ws RX0 TX0 15, w ∈ wsL_law := fun w hw => by
  obtain ⟨k, hk, rfl⟩ := List.mem_map.mp hw
  have hk := List.mem_range.mp hk
  exact match k, hk with
  | 0, _ => zk_t3_113
  | 1, _ => zk_t3_115
  | 2, _ => zk_t3_117
  | 3, _ => zk_t3_119
  | 4, _ => zk_t3_121
  | 5, _ => zk_t3_123
  | 6, _ => zk_t3_125
  | 7, _ => zk_t3_127
  | 8, _ => zk_t3_129
  | 9, _ => zk_t3_131
  | 10, _ => zk_t3_133
  | 11, _ => zk_t3_135
  | 12, _ => zk_t3_137
  | 13, _ => zk_t3_139
  | 14, _ => zk_t3_141
  | q + 15, h => absurd h (by omega)
theorem inlX1 : ∀ w ∈ u_ws RX1 TX1 8, w ∈ wsL_law := fun w hw => by
  obtain ⟨k, hk, rfl⟩ := List.mem_map.mp hw
  have hk := List.mem_range.mp hk
  exact match k, hk with
  | 0, _ => zk_t1_132
  | 1, _ => zk_t1_134
  | 2, _ => zk_t1_136
  | 3, _ => zk_t1_138
  | 4, _ => zk_t1_140
  | 5, _ => zk_t1_142
  | 6, _ => zk_t1_144
  | 7, _ => zk_t1_146
  | q + 8, h => absurd h (by omega)
theorem inlX2 : ∀ w ∈ u_ws RX2 TX2 5, w ∈ wsL_law := fun w hw => by
  obtain ⟨k, hk, rfl⟩ := List.mem_map.mp hw
  have hk := List.mem_range.mp hk
  exact match k, hk with
  | 0, _ => zk_t1_104
  | 1, _ => zk_t1_106
  | 2, _ => zk_t1_108
  | 3, _ => zk_t1_110
  | 4, _ => zk_t1_112
  | q + 5, h => absurd h (by omega)
theorem inlX3 : ∀ w ∈ u_ws RX3 TX3 11, w ∈ wsL_law := fun w hw => by
  obtain ⟨k, hk, rfl⟩ := List.mem_map.mp hw
  have hk := List.mem_range.mp hk
  exact match k, hk with
  | 0, _ => zk_t1_49
  | 1, _ => zk_t1_51
  | 2, _ => zk_t1_53
  | 3, _ => zk_t1_55
  | 4, _ => zk_t1_57
  | 5, _ => zk_t1_59
  | 6, _ => zk_t1_61
  | 7, _ => zk_t1_63
  | 8, _ => zk_t1_65
  | 9, _ => zk_t1_67
  | 10, _ => zk_t1_69
  | q + 11, h => absurd h (by omega)
theorem inlX4 : ∀ w ∈ u_ws RX4 TX4 3, w ∈ wsL_law := fun w hw => by
  obtain ⟨k, hk, rfl⟩ := List.mem_map.mp hw
  have hk := List.mem_range.mp hk
  exact match k, hk with
  | 0, _ => zk_t3_83
  | 1, _ => zk_t3_85
  | 2, _ => zk_t3_87
  | q + 3, h => absurd h (by omega)
theorem inlX5 : ∀ w ∈ u_ws RX5 TX5 2, w ∈ wsL_law := fun w hw => by
  obtain ⟨k, hk, rfl⟩ := List.mem_map.mp hw
  have hk := List.mem_range.mp hk
  exact match k, hk with
  | 0, _ => zk_t1_83
  | 1, _ => zk_t1_85
  | q + 2, h => absurd h (by omega)
theorem inlX6 : ∀ w ∈ u_ws RX6 TX6 9, w ∈ wsL_law := fun w hw => by
  obtain ⟨k, hk, rfl⟩ := List.mem_map.mp hw
  have hk := List.mem_range.mp hk
  exact match k, hk with
  | 0, _ => zk_t1_158
  | 1, _ => zk_t1_160
  | 2, _ => zk_t1_162
  | 3, _ => zk_t1_164
  | 4, _ => zk_t1_166
  | 5, _ => zk_t1_168
  | 6, _ => zk_t1_170
  | 7, _ => zk_t1_172
  | 8, _ => zk_t1_174
  | q + 9, h => absurd h (by omega)
