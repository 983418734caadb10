/-! ===== the words: those of lw_tbl that the tables alone decide ===== -/
def wsL_law : List Cond := lw_tbl.filter goodWord
theorem zk_in (ws : List Cond) (h : ∀ w ∈ ws, w ∈ wsL_law) : GoodIn wsL_law ws := fun w hw => ⟨h w hw, good_of_word (List.mem_filter.mp (h w hw)).2⟩
theorem zk_tbl : ∀ w ∈ wsL_law, w ∈ lw_tbl := fun _ h => (List.mem_filter.mp h).1
theorem zk_t1 {w : Cond} (h : w ∈ tables_1_1) (g : goodWord w = true) : w ∈ wsL_law := List.mem_filter.mpr ⟨List.mem_append_right _ (show w ∈ tables_1 from List.mem_append_left _ h), g⟩
theorem zk_t2 {w : Cond} (h : w ∈ tables_1_2) (g : goodWord w = true) : w ∈ wsL_law := List.mem_filter.mpr ⟨List.mem_append_right _ (show w ∈ tables_1 from List.mem_append_right _ (List.mem_append_left _ h)), g⟩
theorem zk_t3 {w : Cond} (h : w ∈ tables_1_3) (g : goodWord w = true) : w ∈ wsL_law := List.mem_filter.mpr ⟨List.mem_append_right _ (show w ∈ tables_1 from List.mem_append_right _ (List.mem_append_right _ (List.mem_append_left _ h))), g⟩
theorem zk_t4 {w : Cond} (h : w ∈ tables_1_4) (g : goodWord w = true) : w ∈ wsL_law := List.mem_filter.mpr ⟨List.mem_append_right _ (show w ∈ tables_1 from List.mem_append_right _ (List.mem_append_right _ (List.mem_append_right _ (List.mem_append_left _ h)))), g⟩
theorem zk_t5 {w : Cond} (h : w ∈ tables_1_5) (g : goodWord w = true) : w ∈ wsL_law := List.mem_filter.mpr ⟨List.mem_append_right _ (show w ∈ tables_1 from List.mem_append_right _ (List.mem_append_right _ (List.mem_append_right _ (List.mem_append_right _ (h))))), g⟩
theorem zk_s1 {q : MethodName × Nat} (h : q ∈ lw_privs_1) (g : goodWord (Cond.selects q.1.cls q.1 q.1) = true) : Cond.selects q.1.cls q.1 q.1 ∈ wsL_law := List.mem_filter.mpr ⟨List.mem_append_left _ (List.mem_map.mpr ⟨q, (show q ∈ lw_privs from List.mem_append_left _ h), rfl⟩), g⟩
theorem zk_s2 {q : MethodName × Nat} (h : q ∈ lw_privs_2) (g : goodWord (Cond.selects q.1.cls q.1 q.1) = true) : Cond.selects q.1.cls q.1 q.1 ∈ wsL_law := List.mem_filter.mpr ⟨List.mem_append_left _ (List.mem_map.mpr ⟨q, (show q ∈ lw_privs from List.mem_append_right _ (List.mem_append_left _ h)), rfl⟩), g⟩
theorem zk_s3 {q : MethodName × Nat} (h : q ∈ lw_privs_3) (g : goodWord (Cond.selects q.1.cls q.1 q.1) = true) : Cond.selects q.1.cls q.1 q.1 ∈ wsL_law := List.mem_filter.mpr ⟨List.mem_append_left _ (List.mem_map.mpr ⟨q, (show q ∈ lw_privs from List.mem_append_right _ (List.mem_append_right _ (List.mem_append_left _ h))), rfl⟩), g⟩
theorem zk_s4 {q : MethodName × Nat} (h : q ∈ lw_privs_4) (g : goodWord (Cond.selects q.1.cls q.1 q.1) = true) : Cond.selects q.1.cls q.1 q.1 ∈ wsL_law := List.mem_filter.mpr ⟨List.mem_append_left _ (List.mem_map.mpr ⟨q, (show q ∈ lw_privs from List.mem_append_right _ (List.mem_append_right _ (List.mem_append_right _ (h)))), rfl⟩), g⟩
theorem zk_t2_226 : (Cond.methodLink RX4 3 objectInit) ∈ wsL_law := zk_t2 (List.mem_of_getElem? (i := 226) rfl) rfl
theorem zk_t1_22 : (Cond.instanceMethod objectInit) ∈ wsL_law := zk_t1 (List.mem_of_getElem? (i := 22) rfl) rfl
theorem zk_t1_23 : (Cond.code objectInit ⟨#[0xb1]⟩ 1 none) ∈ wsL_law := zk_t1 (List.mem_of_getElem? (i := 23) rfl) rfl
theorem zk_t1_74 : (Cond.arrayClass .int) ∈ wsL_law := zk_t1 (List.mem_of_getElem? (i := 74) rfl) rfl
theorem zk_t2_227 : (Cond.fieldLink RX4 9 "Stitchpath$Points" "xs" "[I") ∈ wsL_law := zk_t2 (List.mem_of_getElem? (i := 227) rfl) rfl
theorem zk_t2_230 : (Cond.fieldLink RX4 15 "Stitchpath$Points" "ys" "[I") ∈ wsL_law := zk_t2 (List.mem_of_getElem? (i := 230) rfl) rfl
theorem zk_t2_220 : (Cond.methodLink RX0 3 objectInit) ∈ wsL_law := zk_t2 (List.mem_of_getElem? (i := 220) rfl) rfl
theorem zk_t3_12 : (Cond.fieldLink RX0 9 "Stitchpath$Field" "cornerXs" "[I") ∈ wsL_law := zk_t3 (List.mem_of_getElem? (i := 12) rfl) rfl
theorem zk_t3_13 : (Cond.fieldLink RX0 15 "Stitchpath$Field" "cornerYs" "[I") ∈ wsL_law := zk_t3 (List.mem_of_getElem? (i := 13) rfl) rfl
theorem zk_t3_14 : (Cond.fieldLink RX0 18 "Stitchpath$Field" "crossings" "[I") ∈ wsL_law := zk_t3 (List.mem_of_getElem? (i := 14) rfl) rfl
theorem zk_t2_221 : (Cond.classLink RX0 21 RX4) ∈ wsL_law := zk_t2 (List.mem_of_getElem? (i := 221) rfl) rfl
theorem zk_t2_222 : (Cond.instantiable RX4 3) ∈ wsL_law := zk_t2 (List.mem_of_getElem? (i := 222) rfl) rfl
theorem zk_t1_13 : (Cond.initialized RX4) ∈ wsL_law := zk_t1 (List.mem_of_getElem? (i := 13) rfl) rfl
theorem zk_t3_15 : (Cond.fieldLink RX0 24 "Stitchpath$Field" "points" "LStitchpath$Points;") ∈ wsL_law := zk_t3 (List.mem_of_getElem? (i := 15) rfl) rfl
theorem zk_t3_21 : (Cond.fieldLink RX0 28 "Stitchpath$Field" "density" "I") ∈ wsL_law := zk_t3 (List.mem_of_getElem? (i := 21) rfl) rfl
theorem zk_t3_23 : (Cond.fieldLink RX0 32 "Stitchpath$Field" "length" "I") ∈ wsL_law := zk_t3 (List.mem_of_getElem? (i := 23) rfl) rfl
theorem zk_t3_5 : (Cond.fieldLink RX0 35 "Stitchpath$Field" "colour" "I") ∈ wsL_law := zk_t3 (List.mem_of_getElem? (i := 5) rfl) rfl
theorem zk_t3_8 : (Cond.fieldLink RX0 38 "Stitchpath$Field" "layer" "I") ∈ wsL_law := zk_t3 (List.mem_of_getElem? (i := 8) rfl) rfl
theorem zk_t3_10 : (Cond.fieldLink RX0 41 "Stitchpath$Field" "column" "Z") ∈ wsL_law := zk_t3 (List.mem_of_getElem? (i := 10) rfl) rfl
theorem zk_t2_224 : (Cond.instanceMethod yX4_init) ∈ wsL_law := zk_t2 (List.mem_of_getElem? (i := 224) rfl) rfl
theorem zk_t2_225 : (Cond.code yX4_init cX4_init 1 none) ∈ wsL_law := zk_t2 (List.mem_of_getElem? (i := 225) rfl) rfl
theorem zk_t3_18 : (Cond.fieldLink RX0 45 "Stitchpath$Field" "cornerCount" "I") ∈ wsL_law := zk_t3 (List.mem_of_getElem? (i := 18) rfl) rfl
theorem zk_t3_27 : (Cond.fieldLink RX0 48 "Stitchpath$Field" "drawn" "Z") ∈ wsL_law := zk_t3 (List.mem_of_getElem? (i := 27) rfl) rfl
theorem zk_t3_24 : (Cond.fieldLink RX0 51 "Stitchpath$Field" "shift" "I") ∈ wsL_law := zk_t3 (List.mem_of_getElem? (i := 24) rfl) rfl
theorem zk_t3_25 : (Cond.fieldLink RX0 54 "Stitchpath$Field" "pull" "I") ∈ wsL_law := zk_t3 (List.mem_of_getElem? (i := 25) rfl) rfl
theorem zk_t3_26 : (Cond.fieldLink RX0 57 "Stitchpath$Field" "underlay" "Z") ∈ wsL_law := zk_t3 (List.mem_of_getElem? (i := 26) rfl) rfl
theorem zk_t1_204 : (Cond.methodLink RX0 60 Lib.Math.max.name) ∈ wsL_law := zk_t1 (List.mem_of_getElem? (i := 204) rfl) rfl
theorem zk_t1_202 : (Cond.static Lib.Math.max.name) ∈ wsL_law := zk_t1 (List.mem_of_getElem? (i := 202) rfl) rfl
theorem zk_t1_15 : (Cond.initialized "java/lang/Math") ∈ wsL_law := zk_t1 (List.mem_of_getElem? (i := 15) rfl) rfl
theorem zk_t1_203 : (Cond.code Lib.Math.max.name Lib.Math.max.code 2 (some .int)) ∈ wsL_law := zk_t1 (List.mem_of_getElem? (i := 203) rfl) rfl
theorem zk_t1_198 : (Cond.methodLink RX6 283 Lib.Math.abs.name) ∈ wsL_law := zk_t1 (List.mem_of_getElem? (i := 198) rfl) rfl
theorem zk_t1_199 : (Cond.static Lib.Math.abs.name) ∈ wsL_law := zk_t1 (List.mem_of_getElem? (i := 199) rfl) rfl
theorem zk_t1_200 : (Cond.code Lib.Math.abs.name Lib.Math.abs.code 1 (some .int)) ∈ wsL_law := zk_t1 (List.mem_of_getElem? (i := 200) rfl) rfl
theorem zk_t1_201 : (Cond.methodLink RX6 286 Lib.Math.max.name) ∈ wsL_law := zk_t1 (List.mem_of_getElem? (i := 201) rfl) rfl
theorem zk_t1_208 : (Cond.methodLink RX6 278 yJ9_floorDiv_7cf53) ∈ wsL_law := zk_t1 (List.mem_of_getElem? (i := 208) rfl) rfl
theorem zk_t1_209 : (Cond.static yJ9_floorDiv_7cf53) ∈ wsL_law := zk_t1 (List.mem_of_getElem? (i := 209) rfl) rfl
theorem zk_t1_210 : (Cond.code yJ9_floorDiv_7cf53 cJ9_floorDiv_7cf53 3 (some .int)) ∈ wsL_law := zk_t1 (List.mem_of_getElem? (i := 210) rfl) rfl
theorem zk_t2_233 : (Cond.fieldLink RX4 18 "Stitchpath$Points" "size" "I") ∈ wsL_law := zk_t2 (List.mem_of_getElem? (i := 233) rfl) rfl
theorem zk_t1_196 : (Cond.static yX6_greaterDifference) ∈ wsL_law := zk_t1 (List.mem_of_getElem? (i := 196) rfl) rfl
theorem zk_t1_1 : (Cond.initialized RX6) ∈ wsL_law := zk_t1 (List.mem_of_getElem? (i := 1) rfl) rfl
theorem zk_t1_197 : (Cond.code yX6_greaterDifference cX6_greaterDifference 2 (some .int)) ∈ wsL_law := zk_t1 (List.mem_of_getElem? (i := 197) rfl) rfl
theorem zk_t1_206 : (Cond.static yX6_placeOf) ∈ wsL_law := zk_t1 (List.mem_of_getElem? (i := 206) rfl) rfl
theorem zk_t1_207 : (Cond.code yX6_placeOf cX6_placeOf 4 (some .int)) ∈ wsL_law := zk_t1 (List.mem_of_getElem? (i := 207) rfl) rfl
theorem zk_t1_211 : (Cond.methodLink RX0 85 yX4_put) ∈ wsL_law := zk_t1 (List.mem_of_getElem? (i := 211) rfl) rfl
theorem zk_t1_212 : (Cond.instanceMethod yX4_put) ∈ wsL_law := zk_t1 (List.mem_of_getElem? (i := 212) rfl) rfl
theorem zk_t1_213 : (Cond.selects RX4 yX4_put yX4_put) ∈ wsL_law := zk_t1 (List.mem_of_getElem? (i := 213) rfl) rfl
theorem zk_t1_214 : (Cond.code yX4_put cX4_put 4 none) ∈ wsL_law := zk_t1 (List.mem_of_getElem? (i := 214) rfl) rfl
theorem zk_t1_228 : (Cond.static yX6_roundedUp) ∈ wsL_law := zk_t1 (List.mem_of_getElem? (i := 228) rfl) rfl
theorem zk_t1_229 : (Cond.code yX6_roundedUp cX6_roundedUp 2 (some .int)) ∈ wsL_law := zk_t1 (List.mem_of_getElem? (i := 229) rfl) rfl
theorem zk_t1_219 : (Cond.methodLink RX0 89 yX0_cornerBehind) ∈ wsL_law := zk_t1 (List.mem_of_getElem? (i := 219) rfl) rfl
theorem zk_t1_221 : (Cond.instanceMethod yX0_cornerBehind) ∈ wsL_law := zk_t1 (List.mem_of_getElem? (i := 221) rfl) rfl
theorem zk_s1_3 : (Cond.selects RX0 yX0_cornerBehind yX0_cornerBehind) ∈ wsL_law := zk_s1 (List.mem_of_getElem? (i := 3) rfl) rfl
theorem zk_t1_12 : (Cond.initialized RX0) ∈ wsL_law := zk_t1 (List.mem_of_getElem? (i := 12) rfl) rfl
theorem zk_t1_222 : (Cond.code yX0_cornerBehind cX0_cornerBehind 2 (some .int)) ∈ wsL_law := zk_t1 (List.mem_of_getElem? (i := 222) rfl) rfl
theorem zk_t1_223 : (Cond.methodLink RX0 93 yX0_drawEdge) ∈ wsL_law := zk_t1 (List.mem_of_getElem? (i := 223) rfl) rfl
theorem zk_t1_225 : (Cond.instanceMethod yX0_drawEdge) ∈ wsL_law := zk_t1 (List.mem_of_getElem? (i := 225) rfl) rfl
theorem zk_s1_4 : (Cond.selects RX0 yX0_drawEdge yX0_drawEdge) ∈ wsL_law := zk_s1 (List.mem_of_getElem? (i := 4) rfl) rfl
theorem zk_t1_226 : (Cond.code yX0_drawEdge cX0_drawEdge 7 none) ∈ wsL_law := zk_t1 (List.mem_of_getElem? (i := 226) rfl) rfl
theorem zk_t1_238 : (Cond.methodLink RX0 121 Lib.Math.min.name) ∈ wsL_law := zk_t1 (List.mem_of_getElem? (i := 238) rfl) rfl
theorem zk_t1_239 : (Cond.static Lib.Math.min.name) ∈ wsL_law := zk_t1 (List.mem_of_getElem? (i := 239) rfl) rfl
theorem zk_t2_0 : (Cond.code Lib.Math.min.name Lib.Math.min.code 2 (some .int)) ∈ wsL_law := zk_t2 (List.mem_of_getElem? (i := 0) rfl) rfl
theorem zk_t3_20 : (Cond.fieldLink RX0 111 "Stitchpath$Field" "crossingCount" "I") ∈ wsL_law := zk_t3 (List.mem_of_getElem? (i := 20) rfl) rfl
theorem zk_t2_9 : (Cond.methodLink RX0 124 yJ9_floorDiv_7cf53) ∈ wsL_law := zk_t2 (List.mem_of_getElem? (i := 9) rfl) rfl
theorem zk_t2_10 : (Cond.methodLink RX0 127 yX0_putCrossing) ∈ wsL_law := zk_t2 (List.mem_of_getElem? (i := 10) rfl) rfl
theorem zk_t2_12 : (Cond.instanceMethod yX0_putCrossing) ∈ wsL_law := zk_t2 (List.mem_of_getElem? (i := 12) rfl) rfl
theorem zk_s1_6 : (Cond.selects RX0 yX0_putCrossing yX0_putCrossing) ∈ wsL_law := zk_s1 (List.mem_of_getElem? (i := 6) rfl) rfl
theorem zk_t2_13 : (Cond.code yX0_putCrossing cX0_putCrossing 3 none) ∈ wsL_law := zk_t2 (List.mem_of_getElem? (i := 13) rfl) rfl
theorem zk_t2_18 : (Cond.methodLink RX0 118 yJ9_floorMod_7cf53) ∈ wsL_law := zk_t2 (List.mem_of_getElem? (i := 18) rfl) rfl
theorem zk_t2_19 : (Cond.static yJ9_floorMod_7cf53) ∈ wsL_law := zk_t2 (List.mem_of_getElem? (i := 19) rfl) rfl
theorem zk_t2_20 : (Cond.code yJ9_floorMod_7cf53 cJ9_floorMod_7cf53 3 (some .int)) ∈ wsL_law := zk_t2 (List.mem_of_getElem? (i := 20) rfl) rfl
theorem zk_t1_234 : (Cond.methodLink RX0 100 yX0_leastY) ∈ wsL_law := zk_t1 (List.mem_of_getElem? (i := 234) rfl) rfl
theorem zk_t1_235 : (Cond.instanceMethod yX0_leastY) ∈ wsL_law := zk_t1 (List.mem_of_getElem? (i := 235) rfl) rfl
theorem zk_t1_236 : (Cond.selects RX0 yX0_leastY yX0_leastY) ∈ wsL_law := zk_t1 (List.mem_of_getElem? (i := 236) rfl) rfl
theorem zk_t1_237 : (Cond.code yX0_leastY cX0_leastY 3 (some .int)) ∈ wsL_law := zk_t1 (List.mem_of_getElem? (i := 237) rfl) rfl
theorem zk_t2_1 : (Cond.methodLink RX0 104 yX0_greatestY) ∈ wsL_law := zk_t2 (List.mem_of_getElem? (i := 1) rfl) rfl
theorem zk_t2_2 : (Cond.instanceMethod yX0_greatestY) ∈ wsL_law := zk_t2 (List.mem_of_getElem? (i := 2) rfl) rfl
theorem zk_t2_3 : (Cond.selects RX0 yX0_greatestY yX0_greatestY) ∈ wsL_law := zk_t2 (List.mem_of_getElem? (i := 3) rfl) rfl
theorem zk_t2_4 : (Cond.code yX0_greatestY cX0_greatestY 3 (some .int)) ∈ wsL_law := zk_t2 (List.mem_of_getElem? (i := 4) rfl) rfl
theorem zk_t2_5 : (Cond.methodLink RX0 107 yX0_cross) ∈ wsL_law := zk_t2 (List.mem_of_getElem? (i := 5) rfl) rfl
theorem zk_t2_6 : (Cond.instanceMethod yX0_cross) ∈ wsL_law := zk_t2 (List.mem_of_getElem? (i := 6) rfl) rfl
theorem zk_t2_7 : (Cond.selects RX0 yX0_cross yX0_cross) ∈ wsL_law := zk_t2 (List.mem_of_getElem? (i := 7) rfl) rfl
theorem zk_t2_8 : (Cond.code yX0_cross cX0_cross 7 none) ∈ wsL_law := zk_t2 (List.mem_of_getElem? (i := 8) rfl) rfl
theorem zk_t2_14 : (Cond.methodLink RX0 114 yX0_drawSpan) ∈ wsL_law := zk_t2 (List.mem_of_getElem? (i := 14) rfl) rfl
theorem zk_t2_16 : (Cond.instanceMethod yX0_drawSpan) ∈ wsL_law := zk_t2 (List.mem_of_getElem? (i := 16) rfl) rfl
theorem zk_s1_7 : (Cond.selects RX0 yX0_drawSpan yX0_drawSpan) ∈ wsL_law := zk_s1 (List.mem_of_getElem? (i := 7) rfl) rfl
theorem zk_t2_17 : (Cond.code yX0_drawSpan cX0_drawSpan 12 none) ∈ wsL_law := zk_t2 (List.mem_of_getElem? (i := 17) rfl) rfl
theorem zk_t2_236 : (Cond.fieldLink RX0 66 "Stitchpath$Points" "size" "I") ∈ wsL_law := zk_t2 (List.mem_of_getElem? (i := 236) rfl) rfl
theorem zk_t1_190 : (Cond.methodLink RX0 69 yX0_drawColumn) ∈ wsL_law := zk_t1 (List.mem_of_getElem? (i := 190) rfl) rfl
theorem zk_t1_192 : (Cond.instanceMethod yX0_drawColumn) ∈ wsL_law := zk_t1 (List.mem_of_getElem? (i := 192) rfl) rfl
theorem zk_s1_1 : (Cond.selects RX0 yX0_drawColumn yX0_drawColumn) ∈ wsL_law := zk_s1 (List.mem_of_getElem? (i := 1) rfl) rfl
theorem zk_t1_194 : (Cond.code yX0_drawColumn cX0_drawColumn 7 none) ∈ wsL_law := zk_t1 (List.mem_of_getElem? (i := 194) rfl) rfl
theorem zk_t1_215 : (Cond.methodLink RX0 72 yX0_drawUnderlay) ∈ wsL_law := zk_t1 (List.mem_of_getElem? (i := 215) rfl) rfl
theorem zk_t1_217 : (Cond.instanceMethod yX0_drawUnderlay) ∈ wsL_law := zk_t1 (List.mem_of_getElem? (i := 217) rfl) rfl
theorem zk_s1_2 : (Cond.selects RX0 yX0_drawUnderlay yX0_drawUnderlay) ∈ wsL_law := zk_s1 (List.mem_of_getElem? (i := 2) rfl) rfl
theorem zk_t1_218 : (Cond.code yX0_drawUnderlay cX0_drawUnderlay 3 none) ∈ wsL_law := zk_t1 (List.mem_of_getElem? (i := 218) rfl) rfl
theorem zk_t1_230 : (Cond.methodLink RX0 75 yX0_drawRows) ∈ wsL_law := zk_t1 (List.mem_of_getElem? (i := 230) rfl) rfl
theorem zk_t1_232 : (Cond.instanceMethod yX0_drawRows) ∈ wsL_law := zk_t1 (List.mem_of_getElem? (i := 232) rfl) rfl
theorem zk_s1_5 : (Cond.selects RX0 yX0_drawRows yX0_drawRows) ∈ wsL_law := zk_s1 (List.mem_of_getElem? (i := 5) rfl) rfl
theorem zk_t1_233 : (Cond.code yX0_drawRows cX0_drawRows 8 none) ∈ wsL_law := zk_t1 (List.mem_of_getElem? (i := 233) rfl) rfl
theorem zk_t1_121 : (Cond.methodLink RX1 3 objectInit) ∈ wsL_law := zk_t1 (List.mem_of_getElem? (i := 121) rfl) rfl
theorem zk_t1_122 : (Cond.fieldLink RX1 9 "Stitchpath$Machine" "stitchesAhead" "[I") ∈ wsL_law := zk_t1 (List.mem_of_getElem? (i := 122) rfl) rfl
theorem zk_t1_73 : (Cond.arrayClass .boolean) ∈ wsL_law := zk_t1 (List.mem_of_getElem? (i := 73) rfl) rfl
theorem zk_t1_123 : (Cond.fieldLink RX1 15 "Stitchpath$Machine" "broken" "[Z") ∈ wsL_law := zk_t1 (List.mem_of_getElem? (i := 123) rfl) rfl
theorem zk_t1_125 : (Cond.fieldLink RX1 19 "Stitchpath$Machine" "brokeAt" "[I") ∈ wsL_law := zk_t1 (List.mem_of_getElem? (i := 125) rfl) rfl
theorem zk_t1_126 : (Cond.fieldLink RX1 22 "Stitchpath$Machine" "stitches" "[I") ∈ wsL_law := zk_t1 (List.mem_of_getElem? (i := 126) rfl) rfl
theorem zk_t1_128 : (Cond.fieldLink RX1 25 "Stitchpath$Machine" "headCount" "I") ∈ wsL_law := zk_t1 (List.mem_of_getElem? (i := 128) rfl) rfl
theorem zk_t1_32 : (Cond.fieldLink RX3 9 "Stitchpath$Plan" "kinds" "[I") ∈ wsL_law := zk_t1 (List.mem_of_getElem? (i := 32) rfl) rfl
theorem zk_t1_33 : (Cond.fieldLink RX3 15 "Stitchpath$Plan" "differencesX" "[I") ∈ wsL_law := zk_t1 (List.mem_of_getElem? (i := 33) rfl) rfl
theorem zk_t1_34 : (Cond.fieldLink RX3 18 "Stitchpath$Plan" "differencesY" "[I") ∈ wsL_law := zk_t1 (List.mem_of_getElem? (i := 34) rfl) rfl
theorem zk_t1_35 : (Cond.fieldLink RX3 21 "Stitchpath$Plan" "owners" "[I") ∈ wsL_law := zk_t1 (List.mem_of_getElem? (i := 35) rfl) rfl
theorem zk_t1_130 : (Cond.fieldLink RX1 29 "Stitchpath$Machine" "late" "I") ∈ wsL_law := zk_t1 (List.mem_of_getElem? (i := 130) rfl) rfl
theorem zk_t1_132 : (Cond.fieldLink RX1 32 "Stitchpath$Machine" "place" "I") ∈ wsL_law := zk_t1 (List.mem_of_getElem? (i := 132) rfl) rfl
theorem zk_t1_131 : (Cond.fieldLink RX1 35 "Stitchpath$Machine" "commandCount" "I") ∈ wsL_law := zk_t1 (List.mem_of_getElem? (i := 131) rfl) rfl
theorem zk_t1_41 : (Cond.fieldLink RX1 38 "Stitchpath$Plan" "size" "I") ∈ wsL_law := zk_t1 (List.mem_of_getElem? (i := 41) rfl) rfl
theorem zk_t4_37 : (Cond.methodLink RX1 43 yX3_told) ∈ wsL_law := zk_t4 (List.mem_of_getElem? (i := 37) rfl) rfl
theorem zk_t3_147 : (Cond.instanceMethod yX3_told) ∈ wsL_law := zk_t3 (List.mem_of_getElem? (i := 147) rfl) rfl
theorem zk_t3_148 : (Cond.selects RX3 yX3_told yX3_told) ∈ wsL_law := zk_t3 (List.mem_of_getElem? (i := 148) rfl) rfl
theorem zk_t1_2 : (Cond.initialized RX3) ∈ wsL_law := zk_t1 (List.mem_of_getElem? (i := 2) rfl) rfl
theorem zk_t3_149 : (Cond.code yX3_told cX3_told 3 (some .int)) ∈ wsL_law := zk_t3 (List.mem_of_getElem? (i := 149) rfl) rfl
theorem zk_t4_59 : (Cond.methodLink RX1 47 yX1_has) ∈ wsL_law := zk_t4 (List.mem_of_getElem? (i := 59) rfl) rfl
theorem zk_t4_60 : (Cond.instanceMethod yX1_has) ∈ wsL_law := zk_t4 (List.mem_of_getElem? (i := 60) rfl) rfl
theorem zk_t4_61 : (Cond.selects RX1 yX1_has yX1_has) ∈ wsL_law := zk_t4 (List.mem_of_getElem? (i := 61) rfl) rfl
theorem zk_t1_5 : (Cond.initialized RX1) ∈ wsL_law := zk_t1 (List.mem_of_getElem? (i := 5) rfl) rfl
theorem zk_t4_62 : (Cond.code yX1_has cX1_has 2 (some .boolean)) ∈ wsL_law := zk_t4 (List.mem_of_getElem? (i := 62) rfl) rfl
theorem zk_t4_55 : (Cond.methodLink RX1 51 yX1_isSeen) ∈ wsL_law := zk_t4 (List.mem_of_getElem? (i := 55) rfl) rfl
theorem zk_t4_56 : (Cond.instanceMethod yX1_isSeen) ∈ wsL_law := zk_t4 (List.mem_of_getElem? (i := 56) rfl) rfl
theorem zk_t4_57 : (Cond.selects RX1 yX1_isSeen yX1_isSeen) ∈ wsL_law := zk_t4 (List.mem_of_getElem? (i := 57) rfl) rfl
theorem zk_t4_58 : (Cond.code yX1_isSeen cX1_isSeen 2 (some .boolean)) ∈ wsL_law := zk_t4 (List.mem_of_getElem? (i := 58) rfl) rfl
theorem zk_t4_67 : (Cond.methodLink RX1 61 yX1_stitchesBetween) ∈ wsL_law := zk_t4 (List.mem_of_getElem? (i := 67) rfl) rfl
theorem zk_t4_69 : (Cond.instanceMethod yX1_stitchesBetween) ∈ wsL_law := zk_t4 (List.mem_of_getElem? (i := 69) rfl) rfl
theorem zk_s2_12 : (Cond.selects RX1 yX1_stitchesBetween yX1_stitchesBetween) ∈ wsL_law := zk_s2 (List.mem_of_getElem? (i := 12) rfl) rfl
theorem zk_t4_70 : (Cond.code yX1_stitchesBetween cX1_stitchesBetween 3 (some .int)) ∈ wsL_law := zk_t4 (List.mem_of_getElem? (i := 70) rfl) rfl
theorem zk_t4_51 : (Cond.methodLink RX1 54 yX1_stands) ∈ wsL_law := zk_t4 (List.mem_of_getElem? (i := 51) rfl) rfl
theorem zk_t4_53 : (Cond.instanceMethod yX1_stands) ∈ wsL_law := zk_t4 (List.mem_of_getElem? (i := 53) rfl) rfl
theorem zk_s2_10 : (Cond.selects RX1 yX1_stands yX1_stands) ∈ wsL_law := zk_s2 (List.mem_of_getElem? (i := 10) rfl) rfl
theorem zk_t4_54 : (Cond.code yX1_stands cX1_stands 2 (some .boolean)) ∈ wsL_law := zk_t4 (List.mem_of_getElem? (i := 54) rfl) rfl
theorem zk_t4_63 : (Cond.methodLink RX1 58 yX1_step) ∈ wsL_law := zk_t4 (List.mem_of_getElem? (i := 63) rfl) rfl
theorem zk_t4_65 : (Cond.instanceMethod yX1_step) ∈ wsL_law := zk_t4 (List.mem_of_getElem? (i := 65) rfl) rfl
theorem zk_s2_11 : (Cond.selects RX1 yX1_step yX1_step) ∈ wsL_law := zk_s2 (List.mem_of_getElem? (i := 11) rfl) rfl
theorem zk_t4_66 : (Cond.code yX1_step cX1_step 3 none) ∈ wsL_law := zk_t4 (List.mem_of_getElem? (i := 66) rfl) rfl
theorem zk_t4_98 : (Cond.methodLink RX1 64 Lib.Math.max.name) ∈ wsL_law := zk_t4 (List.mem_of_getElem? (i := 98) rfl) rfl
theorem zk_t1_94 : (Cond.methodLink RX2 3 objectInit) ∈ wsL_law := zk_t1 (List.mem_of_getElem? (i := 94) rfl) rfl
theorem zk_t1_95 : (Cond.constant RX2 9 (49924)) ∈ wsL_law := zk_t1 (List.mem_of_getElem? (i := 95) rfl) rfl
theorem zk_t1_96 : (Cond.fieldLink RX2 10 "Stitchpath$Pattern" "bytes" "[I") ∈ wsL_law := zk_t1 (List.mem_of_getElem? (i := 96) rfl) rfl
theorem zk_t1_100 : (Cond.fieldLink RX2 16 "Stitchpath$Pattern" "format" "I") ∈ wsL_law := zk_t1 (List.mem_of_getElem? (i := 100) rfl) rfl
theorem zk_t1_98 : (Cond.fieldLink RX2 20 "Stitchpath$Pattern" "size" "I") ∈ wsL_law := zk_t1 (List.mem_of_getElem? (i := 98) rfl) rfl
theorem zk_t3_232 : (Cond.methodLink RX2 38 yX2_putByte) ∈ wsL_law := zk_t3 (List.mem_of_getElem? (i := 232) rfl) rfl
theorem zk_t3_234 : (Cond.instanceMethod yX2_putByte) ∈ wsL_law := zk_t3 (List.mem_of_getElem? (i := 234) rfl) rfl
theorem zk_s2_9 : (Cond.selects RX2 yX2_putByte yX2_putByte) ∈ wsL_law := zk_s2 (List.mem_of_getElem? (i := 9) rfl) rfl
theorem zk_t1_4 : (Cond.initialized RX2) ∈ wsL_law := zk_t1 (List.mem_of_getElem? (i := 4) rfl) rfl
theorem zk_t3_235 : (Cond.code yX2_putByte cX2_putByte 3 none) ∈ wsL_law := zk_t3 (List.mem_of_getElem? (i := 235) rfl) rfl
theorem zk_t3_228 : (Cond.methodLink RX2 42 yX2_putCommand) ∈ wsL_law := zk_t3 (List.mem_of_getElem? (i := 228) rfl) rfl
theorem zk_t3_230 : (Cond.instanceMethod yX2_putCommand) ∈ wsL_law := zk_t3 (List.mem_of_getElem? (i := 230) rfl) rfl
theorem zk_s2_8 : (Cond.selects RX2 yX2_putCommand yX2_putCommand) ∈ wsL_law := zk_s2 (List.mem_of_getElem? (i := 8) rfl) rfl
theorem zk_t3_231 : (Cond.code yX2_putCommand cX2_putCommand 4 none) ∈ wsL_law := zk_t3 (List.mem_of_getElem? (i := 231) rfl) rfl
theorem zk_t2_104 : (Cond.methodLink RX2 48 yX2_limit) ∈ wsL_law := zk_t2 (List.mem_of_getElem? (i := 104) rfl) rfl
theorem zk_t2_106 : (Cond.instanceMethod yX2_limit) ∈ wsL_law := zk_t2 (List.mem_of_getElem? (i := 106) rfl) rfl
theorem zk_s1_15 : (Cond.selects RX2 yX2_limit yX2_limit) ∈ wsL_law := zk_s1 (List.mem_of_getElem? (i := 15) rfl) rfl
theorem zk_t2_107 : (Cond.code yX2_limit cX2_limit 1 (some .int)) ∈ wsL_law := zk_t2 (List.mem_of_getElem? (i := 107) rfl) rfl
theorem zk_t1_42 : (Cond.fieldLink RX2 23 "Stitchpath$Plan" "size" "I") ∈ wsL_law := zk_t1 (List.mem_of_getElem? (i := 42) rfl) rfl
theorem zk_t3_223 : (Cond.methodLink RX2 26 yX3_told) ∈ wsL_law := zk_t3 (List.mem_of_getElem? (i := 223) rfl) rfl
theorem zk_t3_224 : (Cond.methodLink RX2 30 yX2_putWhole) ∈ wsL_law := zk_t3 (List.mem_of_getElem? (i := 224) rfl) rfl
theorem zk_t3_226 : (Cond.instanceMethod yX2_putWhole) ∈ wsL_law := zk_t3 (List.mem_of_getElem? (i := 226) rfl) rfl
theorem zk_s2_7 : (Cond.selects RX2 yX2_putWhole yX2_putWhole) ∈ wsL_law := zk_s2 (List.mem_of_getElem? (i := 7) rfl) rfl
theorem zk_t3_227 : (Cond.code yX2_putWhole cX2_putWhole 10 none) ∈ wsL_law := zk_t3 (List.mem_of_getElem? (i := 227) rfl) rfl
theorem zk_t2_112 : (Cond.methodLink RX2 34 yX2_sumAhead) ∈ wsL_law := zk_t2 (List.mem_of_getElem? (i := 112) rfl) rfl
theorem zk_t2_114 : (Cond.instanceMethod yX2_sumAhead) ∈ wsL_law := zk_t2 (List.mem_of_getElem? (i := 114) rfl) rfl
theorem zk_s2_1 : (Cond.selects RX2 yX2_sumAhead yX2_sumAhead) ∈ wsL_law := zk_s2 (List.mem_of_getElem? (i := 1) rfl) rfl
theorem zk_t2_115 : (Cond.code yX2_sumAhead cX2_sumAhead 4 (some .int)) ∈ wsL_law := zk_t2 (List.mem_of_getElem? (i := 115) rfl) rfl
theorem zk_t2_95 : (Cond.methodLink RX2 77 yX2_has) ∈ wsL_law := zk_t2 (List.mem_of_getElem? (i := 95) rfl) rfl
theorem zk_t2_96 : (Cond.instanceMethod yX2_has) ∈ wsL_law := zk_t2 (List.mem_of_getElem? (i := 96) rfl) rfl
theorem zk_t2_97 : (Cond.selects RX2 yX2_has yX2_has) ∈ wsL_law := zk_t2 (List.mem_of_getElem? (i := 97) rfl) rfl
theorem zk_t2_98 : (Cond.code yX2_has cX2_has 2 (some .boolean)) ∈ wsL_law := zk_t2 (List.mem_of_getElem? (i := 98) rfl) rfl
theorem zk_t2_103 : (Cond.methodLink RX2 84 Lib.Math.abs.name) ∈ wsL_law := zk_t2 (List.mem_of_getElem? (i := 103) rfl) rfl
theorem zk_t2_91 : (Cond.methodLink RX2 71 yX2_kindAt) ∈ wsL_law := zk_t2 (List.mem_of_getElem? (i := 91) rfl) rfl
theorem zk_t2_93 : (Cond.instanceMethod yX2_kindAt) ∈ wsL_law := zk_t2 (List.mem_of_getElem? (i := 93) rfl) rfl
theorem zk_s1_13 : (Cond.selects RX2 yX2_kindAt yX2_kindAt) ∈ wsL_law := zk_s1 (List.mem_of_getElem? (i := 13) rfl) rfl
theorem zk_t2_94 : (Cond.code yX2_kindAt cX2_kindAt 2 (some .int)) ∈ wsL_law := zk_t2 (List.mem_of_getElem? (i := 94) rfl) rfl
theorem zk_t2_83 : (Cond.methodLink RX2 59 yX2_bytesOfCommand) ∈ wsL_law := zk_t2 (List.mem_of_getElem? (i := 83) rfl) rfl
theorem zk_t2_85 : (Cond.instanceMethod yX2_bytesOfCommand) ∈ wsL_law := zk_t2 (List.mem_of_getElem? (i := 85) rfl) rfl
theorem zk_s1_11 : (Cond.selects RX2 yX2_bytesOfCommand yX2_bytesOfCommand) ∈ wsL_law := zk_s1 (List.mem_of_getElem? (i := 11) rfl) rfl
theorem zk_t2_86 : (Cond.code yX2_bytesOfCommand cX2_bytesOfCommand 1 (some .int)) ∈ wsL_law := zk_t2 (List.mem_of_getElem? (i := 86) rfl) rfl
theorem zk_t2_99 : (Cond.methodLink RX2 81 yX2_differenceAt) ∈ wsL_law := zk_t2 (List.mem_of_getElem? (i := 99) rfl) rfl
theorem zk_t2_101 : (Cond.instanceMethod yX2_differenceAt) ∈ wsL_law := zk_t2 (List.mem_of_getElem? (i := 101) rfl) rfl
theorem zk_s1_14 : (Cond.selects RX2 yX2_differenceAt yX2_differenceAt) ∈ wsL_law := zk_s1 (List.mem_of_getElem? (i := 14) rfl) rfl
theorem zk_t2_102 : (Cond.code yX2_differenceAt cX2_differenceAt 3 (some .int)) ∈ wsL_law := zk_t2 (List.mem_of_getElem? (i := 102) rfl) rfl
theorem zk_t1_103 : (Cond.fieldLink RX2 62 "Stitchpath$Pattern" "stitchesRead" "I") ∈ wsL_law := zk_t1 (List.mem_of_getElem? (i := 103) rfl) rfl
theorem zk_t1_101 : (Cond.fieldLink RX2 65 "Stitchpath$Pattern" "faultPlace" "I") ∈ wsL_law := zk_t1 (List.mem_of_getElem? (i := 101) rfl) rfl
theorem zk_t2_87 : (Cond.methodLink RX2 68 yX2_wrongWithin) ∈ wsL_law := zk_t2 (List.mem_of_getElem? (i := 87) rfl) rfl
theorem zk_t2_89 : (Cond.instanceMethod yX2_wrongWithin) ∈ wsL_law := zk_t2 (List.mem_of_getElem? (i := 89) rfl) rfl
theorem zk_s1_12 : (Cond.selects RX2 yX2_wrongWithin yX2_wrongWithin) ∈ wsL_law := zk_s1 (List.mem_of_getElem? (i := 12) rfl) rfl
theorem zk_t2_90 : (Cond.code yX2_wrongWithin cX2_wrongWithin 6 (some .int)) ∈ wsL_law := zk_t2 (List.mem_of_getElem? (i := 90) rfl) rfl
theorem zk_t2_108 : (Cond.methodLink RX2 74 yX2_wrongBehindEnd) ∈ wsL_law := zk_t2 (List.mem_of_getElem? (i := 108) rfl) rfl
theorem zk_t2_110 : (Cond.instanceMethod yX2_wrongBehindEnd) ∈ wsL_law := zk_t2 (List.mem_of_getElem? (i := 110) rfl) rfl
theorem zk_s2_0 : (Cond.selects RX2 yX2_wrongBehindEnd yX2_wrongBehindEnd) ∈ wsL_law := zk_s2 (List.mem_of_getElem? (i := 0) rfl) rfl
theorem zk_t2_111 : (Cond.code yX2_wrongBehindEnd cX2_wrongBehindEnd 2 (some .int)) ∈ wsL_law := zk_t2 (List.mem_of_getElem? (i := 111) rfl) rfl
theorem zk_t1_31 : (Cond.methodLink RX3 3 objectInit) ∈ wsL_law := zk_t1 (List.mem_of_getElem? (i := 31) rfl) rfl
theorem zk_t1_36 : (Cond.fieldLink RX3 24 "Stitchpath$Plan" "kindCounts" "[I") ∈ wsL_law := zk_t1 (List.mem_of_getElem? (i := 36) rfl) rfl
theorem zk_t1_38 : (Cond.fieldLink RX3 27 "Stitchpath$Plan" "threads" "[I") ∈ wsL_law := zk_t1 (List.mem_of_getElem? (i := 38) rfl) rfl
theorem zk_t1_48 : (Cond.fieldLink RX3 30 "Stitchpath$Plan" "colour" "I") ∈ wsL_law := zk_t1 (List.mem_of_getElem? (i := 48) rfl) rfl
theorem zk_t1_40 : (Cond.fieldLink RX3 34 "Stitchpath$Plan" "size" "I") ∈ wsL_law := zk_t1 (List.mem_of_getElem? (i := 40) rfl) rfl
theorem zk_t1_44 : (Cond.fieldLink RX3 37 "Stitchpath$Plan" "seconds" "F") ∈ wsL_law := zk_t1 (List.mem_of_getElem? (i := 44) rfl) rfl
theorem zk_t1_46 : (Cond.fieldLink RX3 41 "Stitchpath$Plan" "needleX" "I") ∈ wsL_law := zk_t1 (List.mem_of_getElem? (i := 46) rfl) rfl
theorem zk_t1_47 : (Cond.fieldLink RX3 44 "Stitchpath$Plan" "needleY" "I") ∈ wsL_law := zk_t1 (List.mem_of_getElem? (i := 47) rfl) rfl
theorem zk_t2_37 : (Cond.methodLink RX3 47 yX4_firstX) ∈ wsL_law := zk_t2 (List.mem_of_getElem? (i := 37) rfl) rfl
theorem zk_t2_38 : (Cond.instanceMethod yX4_firstX) ∈ wsL_law := zk_t2 (List.mem_of_getElem? (i := 38) rfl) rfl
theorem zk_t2_39 : (Cond.selects RX4 yX4_firstX yX4_firstX) ∈ wsL_law := zk_t2 (List.mem_of_getElem? (i := 39) rfl) rfl
theorem zk_t2_40 : (Cond.code yX4_firstX cX4_firstX 1 (some .int)) ∈ wsL_law := zk_t2 (List.mem_of_getElem? (i := 40) rfl) rfl
theorem zk_t2_41 : (Cond.methodLink RX3 53 yX4_firstY) ∈ wsL_law := zk_t2 (List.mem_of_getElem? (i := 41) rfl) rfl
theorem zk_t2_42 : (Cond.instanceMethod yX4_firstY) ∈ wsL_law := zk_t2 (List.mem_of_getElem? (i := 42) rfl) rfl
theorem zk_t2_43 : (Cond.selects RX4 yX4_firstY yX4_firstY) ∈ wsL_law := zk_t2 (List.mem_of_getElem? (i := 43) rfl) rfl
theorem zk_t2_44 : (Cond.code yX4_firstY cX4_firstY 1 (some .int)) ∈ wsL_law := zk_t2 (List.mem_of_getElem? (i := 44) rfl) rfl
theorem zk_t2_57 : (Cond.constantFloat RX3 94 (1033476506)) ∈ wsL_law := zk_t2 (List.mem_of_getElem? (i := 57) rfl) rfl
theorem zk_t2_58 : (Cond.constantFloat RX3 95 (1036831949)) ∈ wsL_law := zk_t2 (List.mem_of_getElem? (i := 58) rfl) rfl
theorem zk_t2_59 : (Cond.constantFloat RX3 96 (1045220557)) ∈ wsL_law := zk_t2 (List.mem_of_getElem? (i := 59) rfl) rfl
theorem zk_t2_60 : (Cond.constantFloat RX3 97 (1086324736)) ∈ wsL_law := zk_t2 (List.mem_of_getElem? (i := 60) rfl) rfl
theorem zk_t2_61 : (Cond.constantFloat RX3 98 (1090519040)) ∈ wsL_law := zk_t2 (List.mem_of_getElem? (i := 61) rfl) rfl
theorem zk_t2_54 : (Cond.methodLink RX3 86 yX3_secondsOf) ∈ wsL_law := zk_t2 (List.mem_of_getElem? (i := 54) rfl) rfl
theorem zk_t2_55 : (Cond.static yX3_secondsOf) ∈ wsL_law := zk_t2 (List.mem_of_getElem? (i := 55) rfl) rfl
theorem zk_t2_56 : (Cond.code yX3_secondsOf cX3_secondsOf 2 (some .float)) ∈ wsL_law := zk_t2 (List.mem_of_getElem? (i := 56) rfl) rfl
theorem zk_t2_63 : (Cond.static yX6_wholeRoot) ∈ wsL_law := zk_t2 (List.mem_of_getElem? (i := 63) rfl) rfl
theorem zk_t2_64 : (Cond.code yX6_wholeRoot cX6_wholeRoot 4 (some .int)) ∈ wsL_law := zk_t2 (List.mem_of_getElem? (i := 64) rfl) rfl
theorem zk_t2_49 : (Cond.methodLink RX3 63 yX3_put) ∈ wsL_law := zk_t2 (List.mem_of_getElem? (i := 49) rfl) rfl
theorem zk_t2_50 : (Cond.instanceMethod yX3_put) ∈ wsL_law := zk_t2 (List.mem_of_getElem? (i := 50) rfl) rfl
theorem zk_t2_51 : (Cond.selects RX3 yX3_put yX3_put) ∈ wsL_law := zk_t2 (List.mem_of_getElem? (i := 51) rfl) rfl
theorem zk_t2_52 : (Cond.code yX3_put cX3_put 7 none) ∈ wsL_law := zk_t2 (List.mem_of_getElem? (i := 52) rfl) rfl
theorem zk_t3_16 : (Cond.fieldLink RX3 56 "Stitchpath$Field" "points" "LStitchpath$Points;") ∈ wsL_law := zk_t3 (List.mem_of_getElem? (i := 16) rfl) rfl
theorem zk_t3_6 : (Cond.fieldLink RX3 62 "Stitchpath$Field" "colour" "I") ∈ wsL_law := zk_t3 (List.mem_of_getElem? (i := 6) rfl) rfl
theorem zk_t2_235 : (Cond.fieldLink RX3 75 "Stitchpath$Points" "size" "I") ∈ wsL_law := zk_t2 (List.mem_of_getElem? (i := 235) rfl) rfl
theorem zk_t2_229 : (Cond.fieldLink RX3 76 "Stitchpath$Points" "xs" "[I") ∈ wsL_law := zk_t2 (List.mem_of_getElem? (i := 229) rfl) rfl
theorem zk_t2_232 : (Cond.fieldLink RX3 79 "Stitchpath$Points" "ys" "[I") ∈ wsL_law := zk_t2 (List.mem_of_getElem? (i := 232) rfl) rfl
theorem zk_t2_65 : (Cond.methodLink RX3 67 yX3_squareToFirst) ∈ wsL_law := zk_t2 (List.mem_of_getElem? (i := 65) rfl) rfl
theorem zk_t2_34 : (Cond.instanceMethod yX3_squareToFirst) ∈ wsL_law := zk_t2 (List.mem_of_getElem? (i := 34) rfl) rfl
theorem zk_t2_35 : (Cond.selects RX3 yX3_squareToFirst yX3_squareToFirst) ∈ wsL_law := zk_t2 (List.mem_of_getElem? (i := 35) rfl) rfl
theorem zk_t2_36 : (Cond.code yX3_squareToFirst cX3_squareToFirst 4 (some .int)) ∈ wsL_law := zk_t2 (List.mem_of_getElem? (i := 36) rfl) rfl
theorem zk_t2_66 : (Cond.methodLink RX3 71 yX3_goTo) ∈ wsL_law := zk_t2 (List.mem_of_getElem? (i := 66) rfl) rfl
theorem zk_t2_68 : (Cond.instanceMethod yX3_goTo) ∈ wsL_law := zk_t2 (List.mem_of_getElem? (i := 68) rfl) rfl
theorem zk_s1_10 : (Cond.selects RX3 yX3_goTo yX3_goTo) ∈ wsL_law := zk_s1 (List.mem_of_getElem? (i := 10) rfl) rfl
theorem zk_t2_69 : (Cond.code yX3_goTo cX3_goTo 9 none) ∈ wsL_law := zk_t2 (List.mem_of_getElem? (i := 69) rfl) rfl
theorem zk_t1_80 : (Cond.methodLink RX5 3 objectInit) ∈ wsL_law := zk_t1 (List.mem_of_getElem? (i := 80) rfl) rfl
theorem zk_t1_81 : (Cond.fieldLink RX5 9 "Stitchpath$Raster" "cells" "[Z") ∈ wsL_law := zk_t1 (List.mem_of_getElem? (i := 81) rfl) rfl
theorem zk_t1_82 : (Cond.fieldLink RX5 15 "Stitchpath$Raster" "cellCount" "I") ∈ wsL_law := zk_t1 (List.mem_of_getElem? (i := 82) rfl) rfl
theorem zk_t2_130 : (Cond.static yX6_isWithin) ∈ wsL_law := zk_t2 (List.mem_of_getElem? (i := 130) rfl) rfl
theorem zk_t2_131 : (Cond.code yX6_isWithin cX6_isWithin 3 (some .boolean)) ∈ wsL_law := zk_t2 (List.mem_of_getElem? (i := 131) rfl) rfl
theorem zk_t3_182 : (Cond.methodLink RX5 43 yX5_touch) ∈ wsL_law := zk_t3 (List.mem_of_getElem? (i := 182) rfl) rfl
theorem zk_t3_184 : (Cond.instanceMethod yX5_touch) ∈ wsL_law := zk_t3 (List.mem_of_getElem? (i := 184) rfl) rfl
theorem zk_s2_5 : (Cond.selects RX5 yX5_touch yX5_touch) ∈ wsL_law := zk_s2 (List.mem_of_getElem? (i := 5) rfl) rfl
theorem zk_t1_3 : (Cond.initialized RX5) ∈ wsL_law := zk_t1 (List.mem_of_getElem? (i := 3) rfl) rfl
theorem zk_t3_185 : (Cond.code yX5_touch cX5_touch 4 none) ∈ wsL_law := zk_t3 (List.mem_of_getElem? (i := 185) rfl) rfl
theorem zk_t2_234 : (Cond.fieldLink RX5 19 "Stitchpath$Points" "size" "I") ∈ wsL_law := zk_t2 (List.mem_of_getElem? (i := 234) rfl) rfl
theorem zk_t2_228 : (Cond.fieldLink RX5 24 "Stitchpath$Points" "xs" "[I") ∈ wsL_law := zk_t2 (List.mem_of_getElem? (i := 228) rfl) rfl
theorem zk_t2_231 : (Cond.fieldLink RX5 28 "Stitchpath$Points" "ys" "[I") ∈ wsL_law := zk_t2 (List.mem_of_getElem? (i := 231) rfl) rfl
theorem zk_t3_176 : (Cond.methodLink RX5 31 yX5_walkTo) ∈ wsL_law := zk_t3 (List.mem_of_getElem? (i := 176) rfl) rfl
theorem zk_t3_178 : (Cond.instanceMethod yX5_walkTo) ∈ wsL_law := zk_t3 (List.mem_of_getElem? (i := 178) rfl) rfl
theorem zk_s2_4 : (Cond.selects RX5 yX5_walkTo yX5_walkTo) ∈ wsL_law := zk_s2 (List.mem_of_getElem? (i := 4) rfl) rfl
theorem zk_t3_179 : (Cond.code yX5_walkTo cX5_walkTo 7 none) ∈ wsL_law := zk_t3 (List.mem_of_getElem? (i := 179) rfl) rfl
theorem zk_t3_203 : (Cond.methodLink RX5 79 Lib.Math.max.name) ∈ wsL_law := zk_t3 (List.mem_of_getElem? (i := 203) rfl) rfl
theorem zk_t3_192 : (Cond.methodLink RX5 57 Lib.Math.min.name) ∈ wsL_law := zk_t3 (List.mem_of_getElem? (i := 192) rfl) rfl
theorem zk_t3_22 : (Cond.fieldLink RX5 73 "Stitchpath$Field" "density" "I") ∈ wsL_law := zk_t3 (List.mem_of_getElem? (i := 22) rfl) rfl
theorem zk_t3_191 : (Cond.methodLink RX5 51 yX0_greatestY) ∈ wsL_law := zk_t3 (List.mem_of_getElem? (i := 191) rfl) rfl
theorem zk_t3_193 : (Cond.methodLink RX5 62 yX0_leastY) ∈ wsL_law := zk_t3 (List.mem_of_getElem? (i := 193) rfl) rfl
theorem zk_t3_194 : (Cond.methodLink RX5 65 yX0_cross) ∈ wsL_law := zk_t3 (List.mem_of_getElem? (i := 194) rfl) rfl
theorem zk_t3_195 : (Cond.methodLink RX5 69 yX0_spans) ∈ wsL_law := zk_t3 (List.mem_of_getElem? (i := 195) rfl) rfl
theorem zk_t3_196 : (Cond.instanceMethod yX0_spans) ∈ wsL_law := zk_t3 (List.mem_of_getElem? (i := 196) rfl) rfl
theorem zk_t3_197 : (Cond.selects RX0 yX0_spans yX0_spans) ∈ wsL_law := zk_t3 (List.mem_of_getElem? (i := 197) rfl) rfl
theorem zk_t3_198 : (Cond.code yX0_spans cX0_spans 3 (some .boolean)) ∈ wsL_law := zk_t3 (List.mem_of_getElem? (i := 198) rfl) rfl
theorem zk_t3_199 : (Cond.methodLink RX5 76 yX5_isNear) ∈ wsL_law := zk_t3 (List.mem_of_getElem? (i := 199) rfl) rfl
theorem zk_t3_201 : (Cond.instanceMethod yX5_isNear) ∈ wsL_law := zk_t3 (List.mem_of_getElem? (i := 201) rfl) rfl
theorem zk_s2_6 : (Cond.selects RX5 yX5_isNear yX5_isNear) ∈ wsL_law := zk_s2 (List.mem_of_getElem? (i := 6) rfl) rfl
theorem zk_t3_202 : (Cond.code yX5_isNear cX5_isNear 8 (some .boolean)) ∈ wsL_law := zk_t3 (List.mem_of_getElem? (i := 202) rfl) rfl
theorem zk_t1_21 : (Cond.methodLink RX6 3 objectInit) ∈ wsL_law := zk_t1 (List.mem_of_getElem? (i := 21) rfl) rfl
theorem zk_t1_24 : (Cond.classLink RX6 9 RX0) ∈ wsL_law := zk_t1 (List.mem_of_getElem? (i := 24) rfl) rfl
theorem zk_t1_150 : (Cond.fieldLink RX6 11 "Stitchpath" "fields" "[LStitchpath$Field;") ∈ wsL_law := zk_t1 (List.mem_of_getElem? (i := 150) rfl) rfl
theorem zk_t1_151 : (Cond.fieldLink RX6 15 "Stitchpath" "waiting" "[Z") ∈ wsL_law := zk_t1 (List.mem_of_getElem? (i := 151) rfl) rfl
theorem zk_t1_26 : (Cond.classLink RX6 19 RX3) ∈ wsL_law := zk_t1 (List.mem_of_getElem? (i := 26) rfl) rfl
theorem zk_t1_27 : (Cond.instantiable RX3 11) ∈ wsL_law := zk_t1 (List.mem_of_getElem? (i := 27) rfl) rfl
theorem zk_t1_152 : (Cond.fieldLink RX6 22 "Stitchpath" "plan" "LStitchpath$Plan;") ∈ wsL_law := zk_t1 (List.mem_of_getElem? (i := 152) rfl) rfl
theorem zk_t1_75 : (Cond.classLink RX6 26 RX5) ∈ wsL_law := zk_t1 (List.mem_of_getElem? (i := 75) rfl) rfl
theorem zk_t1_76 : (Cond.instantiable RX5 2) ∈ wsL_law := zk_t1 (List.mem_of_getElem? (i := 76) rfl) rfl
theorem zk_t1_153 : (Cond.fieldLink RX6 29 "Stitchpath" "raster" "LStitchpath$Raster;") ∈ wsL_law := zk_t1 (List.mem_of_getElem? (i := 153) rfl) rfl
theorem zk_t1_89 : (Cond.classLink RX6 33 RX2) ∈ wsL_law := zk_t1 (List.mem_of_getElem? (i := 89) rfl) rfl
theorem zk_t1_90 : (Cond.instantiable RX2 5) ∈ wsL_law := zk_t1 (List.mem_of_getElem? (i := 90) rfl) rfl
theorem zk_t1_154 : (Cond.fieldLink RX6 36 "Stitchpath" "pattern" "LStitchpath$Pattern;") ∈ wsL_law := zk_t1 (List.mem_of_getElem? (i := 154) rfl) rfl
theorem zk_t1_116 : (Cond.classLink RX6 40 RX1) ∈ wsL_law := zk_t1 (List.mem_of_getElem? (i := 116) rfl) rfl
theorem zk_t1_117 : (Cond.instantiable RX1 8) ∈ wsL_law := zk_t1 (List.mem_of_getElem? (i := 117) rfl) rfl
theorem zk_t1_155 : (Cond.fieldLink RX6 43 "Stitchpath" "machine" "LStitchpath$Machine;") ∈ wsL_law := zk_t1 (List.mem_of_getElem? (i := 155) rfl) rfl
theorem zk_t1_157 : (Cond.fieldLink RX6 47 "Stitchpath" "trimBound" "I") ∈ wsL_law := zk_t1 (List.mem_of_getElem? (i := 157) rfl) rfl
theorem zk_t1_29 : (Cond.instanceMethod yX3_init) ∈ wsL_law := zk_t1 (List.mem_of_getElem? (i := 29) rfl) rfl
theorem zk_t1_30 : (Cond.code yX3_init cX3_init 1 none) ∈ wsL_law := zk_t1 (List.mem_of_getElem? (i := 30) rfl) rfl
theorem zk_t1_78 : (Cond.instanceMethod yX5_init) ∈ wsL_law := zk_t1 (List.mem_of_getElem? (i := 78) rfl) rfl
theorem zk_t1_79 : (Cond.code yX5_init cX5_init 1 none) ∈ wsL_law := zk_t1 (List.mem_of_getElem? (i := 79) rfl) rfl
theorem zk_t1_92 : (Cond.instanceMethod yX2_init) ∈ wsL_law := zk_t1 (List.mem_of_getElem? (i := 92) rfl) rfl
theorem zk_t1_93 : (Cond.code yX2_init cX2_init 1 none) ∈ wsL_law := zk_t1 (List.mem_of_getElem? (i := 93) rfl) rfl
theorem zk_t1_119 : (Cond.instanceMethod yX1_init) ∈ wsL_law := zk_t1 (List.mem_of_getElem? (i := 119) rfl) rfl
theorem zk_t1_120 : (Cond.code yX1_init cX1_init 1 none) ∈ wsL_law := zk_t1 (List.mem_of_getElem? (i := 120) rfl) rfl
theorem zk_t2_132 : (Cond.classLink RX6 55 "java/lang/IllegalArgumentException") ∈ wsL_law := zk_t2 (List.mem_of_getElem? (i := 132) rfl) rfl
theorem zk_t1_10 : (Cond.initialized "java/lang/IllegalArgumentException") ∈ wsL_law := zk_t1 (List.mem_of_getElem? (i := 10) rfl) rfl
theorem zk_t2_201 : (Cond.classLink RX6 67 "java/lang/IllegalStateException") ∈ wsL_law := zk_t2 (List.mem_of_getElem? (i := 201) rfl) rfl
theorem zk_t1_11 : (Cond.initialized "java/lang/IllegalStateException") ∈ wsL_law := zk_t1 (List.mem_of_getElem? (i := 11) rfl) rfl
theorem zk_t1_156 : (Cond.fieldLink RX6 64 "Stitchpath" "fieldCount" "I") ∈ wsL_law := zk_t1 (List.mem_of_getElem? (i := 156) rfl) rfl
theorem zk_t1_193 : (Cond.instantiable RX0 15) ∈ wsL_law := zk_t1 (List.mem_of_getElem? (i := 193) rfl) rfl
theorem zk_t1_158 : (Cond.fieldLink RX6 75 "Stitchpath" "planned" "Z") ∈ wsL_law := zk_t1 (List.mem_of_getElem? (i := 158) rfl) rfl
theorem zk_t2_129 : (Cond.methodLink RX6 51 yX6_isWithin) ∈ wsL_law := zk_t2 (List.mem_of_getElem? (i := 129) rfl) rfl
theorem zk_t2_217 : (Cond.methodLink RX6 72 yX0_init) ∈ wsL_law := zk_t2 (List.mem_of_getElem? (i := 217) rfl) rfl
theorem zk_t2_218 : (Cond.instanceMethod yX0_init) ∈ wsL_law := zk_t2 (List.mem_of_getElem? (i := 218) rfl) rfl
theorem zk_t2_219 : (Cond.code yX0_init cX0_init 4 none) ∈ wsL_law := zk_t2 (List.mem_of_getElem? (i := 219) rfl) rfl
theorem zk_t3_71 : (Cond.classLink RX6 130 "java/lang/IndexOutOfBoundsException") ∈ wsL_law := zk_t3 (List.mem_of_getElem? (i := 71) rfl) rfl
theorem zk_t1_14 : (Cond.initialized "java/lang/IndexOutOfBoundsException") ∈ wsL_law := zk_t1 (List.mem_of_getElem? (i := 14) rfl) rfl
theorem zk_t3_19 : (Cond.fieldLink RX6 95 "Stitchpath$Field" "cornerCount" "I") ∈ wsL_law := zk_t3 (List.mem_of_getElem? (i := 19) rfl) rfl
theorem zk_t3_67 : (Cond.methodLink RX6 79 yX6_fieldNumbered) ∈ wsL_law := zk_t3 (List.mem_of_getElem? (i := 67) rfl) rfl
theorem zk_t3_69 : (Cond.instanceMethod yX6_fieldNumbered) ∈ wsL_law := zk_t3 (List.mem_of_getElem? (i := 69) rfl) rfl
theorem zk_s2_3 : (Cond.selects RX6 yX6_fieldNumbered yX6_fieldNumbered) ∈ wsL_law := zk_s2 (List.mem_of_getElem? (i := 3) rfl) rfl
theorem zk_t3_70 : (Cond.code yX6_fieldNumbered cX6_fieldNumbered 3 (some (.object "Stitchpath$Field"))) ∈ wsL_law := zk_t3 (List.mem_of_getElem? (i := 70) rfl) rfl
theorem zk_t3_88 : (Cond.methodLink RX6 85 yX0_isFull) ∈ wsL_law := zk_t3 (List.mem_of_getElem? (i := 88) rfl) rfl
theorem zk_t3_89 : (Cond.instanceMethod yX0_isFull) ∈ wsL_law := zk_t3 (List.mem_of_getElem? (i := 89) rfl) rfl
theorem zk_t3_90 : (Cond.selects RX0 yX0_isFull yX0_isFull) ∈ wsL_law := zk_t3 (List.mem_of_getElem? (i := 90) rfl) rfl
theorem zk_t3_91 : (Cond.code yX0_isFull cX0_isFull 1 (some .boolean)) ∈ wsL_law := zk_t3 (List.mem_of_getElem? (i := 91) rfl) rfl
theorem zk_t3_93 : (Cond.methodLink RX6 91 yX0_putCorner) ∈ wsL_law := zk_t3 (List.mem_of_getElem? (i := 93) rfl) rfl
theorem zk_t3_94 : (Cond.instanceMethod yX0_putCorner) ∈ wsL_law := zk_t3 (List.mem_of_getElem? (i := 94) rfl) rfl
theorem zk_t3_95 : (Cond.selects RX0 yX0_putCorner yX0_putCorner) ∈ wsL_law := zk_t3 (List.mem_of_getElem? (i := 95) rfl) rfl
theorem zk_t3_96 : (Cond.code yX0_putCorner cX0_putCorner 4 none) ∈ wsL_law := zk_t3 (List.mem_of_getElem? (i := 96) rfl) rfl
theorem zk_t3_108 : (Cond.methodLink RX6 106 yX0_settle) ∈ wsL_law := zk_t3 (List.mem_of_getElem? (i := 108) rfl) rfl
theorem zk_t3_109 : (Cond.instanceMethod yX0_settle) ∈ wsL_law := zk_t3 (List.mem_of_getElem? (i := 109) rfl) rfl
theorem zk_t3_110 : (Cond.selects RX0 yX0_settle yX0_settle) ∈ wsL_law := zk_t3 (List.mem_of_getElem? (i := 110) rfl) rfl
theorem zk_t3_111 : (Cond.code yX0_settle cX0_settle 6 none) ∈ wsL_law := zk_t3 (List.mem_of_getElem? (i := 111) rfl) rfl
theorem zk_t3_120 : (Cond.methodLink RX6 112 yX0_canResize) ∈ wsL_law := zk_t3 (List.mem_of_getElem? (i := 120) rfl) rfl
theorem zk_t3_121 : (Cond.instanceMethod yX0_canResize) ∈ wsL_law := zk_t3 (List.mem_of_getElem? (i := 121) rfl) rfl
theorem zk_t3_122 : (Cond.selects RX0 yX0_canResize yX0_canResize) ∈ wsL_law := zk_t3 (List.mem_of_getElem? (i := 122) rfl) rfl
theorem zk_t3_123 : (Cond.code yX0_canResize cX0_canResize 4 (some .boolean)) ∈ wsL_law := zk_t3 (List.mem_of_getElem? (i := 123) rfl) rfl
theorem zk_t3_125 : (Cond.methodLink RX6 118 yX0_resize) ∈ wsL_law := zk_t3 (List.mem_of_getElem? (i := 125) rfl) rfl
theorem zk_t3_126 : (Cond.instanceMethod yX0_resize) ∈ wsL_law := zk_t3 (List.mem_of_getElem? (i := 126) rfl) rfl
theorem zk_t3_127 : (Cond.selects RX0 yX0_resize yX0_resize) ∈ wsL_law := zk_t3 (List.mem_of_getElem? (i := 127) rfl) rfl
theorem zk_t3_128 : (Cond.code yX0_resize cX0_resize 3 none) ∈ wsL_law := zk_t3 (List.mem_of_getElem? (i := 128) rfl) rfl
theorem zk_t3_9 : (Cond.fieldLink RX6 263 "Stitchpath$Field" "layer" "I") ∈ wsL_law := zk_t3 (List.mem_of_getElem? (i := 9) rfl) rfl
theorem zk_t3_7 : (Cond.fieldLink RX6 266 "Stitchpath$Field" "colour" "I") ∈ wsL_law := zk_t3 (List.mem_of_getElem? (i := 7) rfl) rfl
theorem zk_t1_49 : (Cond.fieldLink RX6 269 "Stitchpath$Plan" "colour" "I") ∈ wsL_law := zk_t1 (List.mem_of_getElem? (i := 49) rfl) rfl
theorem zk_t3_17 : (Cond.fieldLink RX6 270 "Stitchpath$Field" "points" "LStitchpath$Points;") ∈ wsL_law := zk_t3 (List.mem_of_getElem? (i := 17) rfl) rfl
theorem zk_t2_33 : (Cond.methodLink RX6 274 yX3_squareToFirst) ∈ wsL_law := zk_t2 (List.mem_of_getElem? (i := 33) rfl) rfl
theorem zk_t2_29 : (Cond.methodLink RX6 255 yX6_comesAhead) ∈ wsL_law := zk_t2 (List.mem_of_getElem? (i := 29) rfl) rfl
theorem zk_t2_31 : (Cond.instanceMethod yX6_comesAhead) ∈ wsL_law := zk_t2 (List.mem_of_getElem? (i := 31) rfl) rfl
theorem zk_s1_9 : (Cond.selects RX6 yX6_comesAhead yX6_comesAhead) ∈ wsL_law := zk_s1 (List.mem_of_getElem? (i := 9) rfl) rfl
theorem zk_t2_32 : (Cond.code yX6_comesAhead cX6_comesAhead 5 (some .boolean)) ∈ wsL_law := zk_t2 (List.mem_of_getElem? (i := 32) rfl) rfl
theorem zk_t2_45 : (Cond.methodLink RX6 259 yX3_sewField) ∈ wsL_law := zk_t2 (List.mem_of_getElem? (i := 45) rfl) rfl
theorem zk_t2_46 : (Cond.instanceMethod yX3_sewField) ∈ wsL_law := zk_t2 (List.mem_of_getElem? (i := 46) rfl) rfl
theorem zk_t2_47 : (Cond.selects RX3 yX3_sewField yX3_sewField) ∈ wsL_law := zk_t2 (List.mem_of_getElem? (i := 47) rfl) rfl
theorem zk_t2_48 : (Cond.code yX3_sewField cX3_sewField 6 none) ∈ wsL_law := zk_t2 (List.mem_of_getElem? (i := 48) rfl) rfl
theorem zk_t2_237 : (Cond.fieldLink RX6 243 "Stitchpath$Points" "size" "I") ∈ wsL_law := zk_t2 (List.mem_of_getElem? (i := 237) rfl) rfl
theorem zk_t1_186 : (Cond.methodLink RX6 157 yX0_needlePoints) ∈ wsL_law := zk_t1 (List.mem_of_getElem? (i := 186) rfl) rfl
theorem zk_t1_187 : (Cond.instanceMethod yX0_needlePoints) ∈ wsL_law := zk_t1 (List.mem_of_getElem? (i := 187) rfl) rfl
theorem zk_t1_188 : (Cond.selects RX0 yX0_needlePoints yX0_needlePoints) ∈ wsL_law := zk_t1 (List.mem_of_getElem? (i := 188) rfl) rfl
theorem zk_t1_189 : (Cond.code yX0_needlePoints cX0_needlePoints 1 (some (.object "Stitchpath$Points"))) ∈ wsL_law := zk_t1 (List.mem_of_getElem? (i := 189) rfl) rfl
theorem zk_t2_21 : (Cond.methodLink RX6 246 yX3_begin) ∈ wsL_law := zk_t2 (List.mem_of_getElem? (i := 21) rfl) rfl
theorem zk_t2_22 : (Cond.instanceMethod yX3_begin) ∈ wsL_law := zk_t2 (List.mem_of_getElem? (i := 22) rfl) rfl
theorem zk_t2_23 : (Cond.selects RX3 yX3_begin yX3_begin) ∈ wsL_law := zk_t2 (List.mem_of_getElem? (i := 23) rfl) rfl
theorem zk_t2_24 : (Cond.code yX3_begin cX3_begin 2 none) ∈ wsL_law := zk_t2 (List.mem_of_getElem? (i := 24) rfl) rfl
theorem zk_t2_25 : (Cond.methodLink RX6 248 yX6_sewNextField) ∈ wsL_law := zk_t2 (List.mem_of_getElem? (i := 25) rfl) rfl
theorem zk_t2_27 : (Cond.instanceMethod yX6_sewNextField) ∈ wsL_law := zk_t2 (List.mem_of_getElem? (i := 27) rfl) rfl
theorem zk_s1_8 : (Cond.selects RX6 yX6_sewNextField yX6_sewNextField) ∈ wsL_law := zk_s1 (List.mem_of_getElem? (i := 8) rfl) rfl
theorem zk_t2_28 : (Cond.code yX6_sewNextField cX6_sewNextField 5 none) ∈ wsL_law := zk_t2 (List.mem_of_getElem? (i := 28) rfl) rfl
theorem zk_t2_70 : (Cond.methodLink RX6 251 yX3_put) ∈ wsL_law := zk_t2 (List.mem_of_getElem? (i := 70) rfl) rfl
theorem zk_t1_43 : (Cond.fieldLink RX6 127 "Stitchpath$Plan" "size" "I") ∈ wsL_law := zk_t1 (List.mem_of_getElem? (i := 43) rfl) rfl
theorem zk_t1_182 : (Cond.methodLink RX6 124 yX6_refresh) ∈ wsL_law := zk_t1 (List.mem_of_getElem? (i := 182) rfl) rfl
theorem zk_t1_184 : (Cond.instanceMethod yX6_refresh) ∈ wsL_law := zk_t1 (List.mem_of_getElem? (i := 184) rfl) rfl
theorem zk_s1_0 : (Cond.selects RX6 yX6_refresh yX6_refresh) ∈ wsL_law := zk_s1 (List.mem_of_getElem? (i := 0) rfl) rfl
theorem zk_t1_185 : (Cond.code yX6_refresh cX6_refresh 3 none) ∈ wsL_law := zk_t1 (List.mem_of_getElem? (i := 185) rfl) rfl
theorem zk_t3_146 : (Cond.methodLink RX6 137 yX3_told) ∈ wsL_law := zk_t3 (List.mem_of_getElem? (i := 146) rfl) rfl
theorem zk_t1_37 : (Cond.fieldLink RX6 143 "Stitchpath$Plan" "kindCounts" "[I") ∈ wsL_law := zk_t1 (List.mem_of_getElem? (i := 37) rfl) rfl
theorem zk_t1_45 : (Cond.fieldLink RX6 147 "Stitchpath$Plan" "seconds" "F") ∈ wsL_law := zk_t1 (List.mem_of_getElem? (i := 45) rfl) rfl
theorem zk_t1_39 : (Cond.fieldLink RX6 151 "Stitchpath$Plan" "threads" "[I") ∈ wsL_law := zk_t1 (List.mem_of_getElem? (i := 39) rfl) rfl
theorem zk_t3_11 : (Cond.fieldLink RX6 154 "Stitchpath$Field" "column" "Z") ∈ wsL_law := zk_t3 (List.mem_of_getElem? (i := 11) rfl) rfl
theorem zk_t3_172 : (Cond.methodLink RX6 161 yX5_walk) ∈ wsL_law := zk_t3 (List.mem_of_getElem? (i := 172) rfl) rfl
theorem zk_t3_173 : (Cond.instanceMethod yX5_walk) ∈ wsL_law := zk_t3 (List.mem_of_getElem? (i := 173) rfl) rfl
theorem zk_t3_174 : (Cond.selects RX5 yX5_walk yX5_walk) ∈ wsL_law := zk_t3 (List.mem_of_getElem? (i := 174) rfl) rfl
theorem zk_t3_175 : (Cond.code yX5_walk cX5_walk 3 none) ∈ wsL_law := zk_t3 (List.mem_of_getElem? (i := 175) rfl) rfl
theorem zk_t3_187 : (Cond.methodLink RX6 165 yX5_partCovered) ∈ wsL_law := zk_t3 (List.mem_of_getElem? (i := 187) rfl) rfl
theorem zk_t3_188 : (Cond.instanceMethod yX5_partCovered) ∈ wsL_law := zk_t3 (List.mem_of_getElem? (i := 188) rfl) rfl
theorem zk_t3_189 : (Cond.selects RX5 yX5_partCovered yX5_partCovered) ∈ wsL_law := zk_t3 (List.mem_of_getElem? (i := 189) rfl) rfl
theorem zk_t3_190 : (Cond.code yX5_partCovered cX5_partCovered 7 (some .float)) ∈ wsL_law := zk_t3 (List.mem_of_getElem? (i := 190) rfl) rfl
theorem zk_t1_83 : (Cond.fieldLink RX6 169 "Stitchpath$Raster" "cellCount" "I") ∈ wsL_law := zk_t1 (List.mem_of_getElem? (i := 83) rfl) rfl
theorem zk_t1_99 : (Cond.fieldLink RX6 178 "Stitchpath$Pattern" "size" "I") ∈ wsL_law := zk_t1 (List.mem_of_getElem? (i := 99) rfl) rfl
theorem zk_t3_219 : (Cond.methodLink RX6 174 yX2_take) ∈ wsL_law := zk_t3 (List.mem_of_getElem? (i := 219) rfl) rfl
theorem zk_t3_220 : (Cond.instanceMethod yX2_take) ∈ wsL_law := zk_t3 (List.mem_of_getElem? (i := 220) rfl) rfl
theorem zk_t3_221 : (Cond.selects RX2 yX2_take yX2_take) ∈ wsL_law := zk_t3 (List.mem_of_getElem? (i := 221) rfl) rfl
theorem zk_t3_222 : (Cond.code yX2_take cX2_take 4 none) ∈ wsL_law := zk_t3 (List.mem_of_getElem? (i := 222) rfl) rfl
theorem zk_t1_97 : (Cond.fieldLink RX6 184 "Stitchpath$Pattern" "bytes" "[I") ∈ wsL_law := zk_t1 (List.mem_of_getElem? (i := 97) rfl) rfl
theorem zk_t4_6 : (Cond.methodLink RX6 179 yX2_has) ∈ wsL_law := zk_t4 (List.mem_of_getElem? (i := 6) rfl) rfl
theorem zk_t1_102 : (Cond.fieldLink RX6 194 "Stitchpath$Pattern" "faultPlace" "I") ∈ wsL_law := zk_t1 (List.mem_of_getElem? (i := 102) rfl) rfl
theorem zk_t2_79 : (Cond.methodLink RX6 191 yX2_inspect) ∈ wsL_law := zk_t2 (List.mem_of_getElem? (i := 79) rfl) rfl
theorem zk_t2_80 : (Cond.instanceMethod yX2_inspect) ∈ wsL_law := zk_t2 (List.mem_of_getElem? (i := 80) rfl) rfl
theorem zk_t2_81 : (Cond.selects RX2 yX2_inspect yX2_inspect) ∈ wsL_law := zk_t2 (List.mem_of_getElem? (i := 81) rfl) rfl
theorem zk_t2_82 : (Cond.code yX2_inspect cX2_inspect 6 none) ∈ wsL_law := zk_t2 (List.mem_of_getElem? (i := 82) rfl) rfl
theorem zk_t1_104 : (Cond.fieldLink RX6 197 "Stitchpath$Pattern" "stitchesRead" "I") ∈ wsL_law := zk_t1 (List.mem_of_getElem? (i := 104) rfl) rfl
theorem zk_t4_33 : (Cond.methodLink RX6 204 yX1_begin) ∈ wsL_law := zk_t4 (List.mem_of_getElem? (i := 33) rfl) rfl
theorem zk_t4_34 : (Cond.instanceMethod yX1_begin) ∈ wsL_law := zk_t4 (List.mem_of_getElem? (i := 34) rfl) rfl
theorem zk_t4_35 : (Cond.selects RX1 yX1_begin yX1_begin) ∈ wsL_law := zk_t4 (List.mem_of_getElem? (i := 35) rfl) rfl
theorem zk_t4_36 : (Cond.code yX1_begin cX1_begin 6 none) ∈ wsL_law := zk_t4 (List.mem_of_getElem? (i := 36) rfl) rfl
theorem zk_t1_129 : (Cond.fieldLink RX6 210 "Stitchpath$Machine" "headCount" "I") ∈ wsL_law := zk_t1 (List.mem_of_getElem? (i := 129) rfl) rfl
theorem zk_t4_47 : (Cond.methodLink RX6 215 yX1_advance) ∈ wsL_law := zk_t4 (List.mem_of_getElem? (i := 47) rfl) rfl
theorem zk_t4_48 : (Cond.instanceMethod yX1_advance) ∈ wsL_law := zk_t4 (List.mem_of_getElem? (i := 48) rfl) rfl
theorem zk_t4_49 : (Cond.selects RX1 yX1_advance yX1_advance) ∈ wsL_law := zk_t4 (List.mem_of_getElem? (i := 49) rfl) rfl
theorem zk_t4_50 : (Cond.code yX1_advance cX1_advance 3 (some .int)) ∈ wsL_law := zk_t4 (List.mem_of_getElem? (i := 50) rfl) rfl
theorem zk_t1_124 : (Cond.fieldLink RX6 222 "Stitchpath$Machine" "broken" "[Z") ∈ wsL_law := zk_t1 (List.mem_of_getElem? (i := 124) rfl) rfl
theorem zk_t4_78 : (Cond.methodLink RX6 219 yX1_has) ∈ wsL_law := zk_t4 (List.mem_of_getElem? (i := 78) rfl) rfl
theorem zk_t4_81 : (Cond.methodLink RX6 227 yX1_tear) ∈ wsL_law := zk_t4 (List.mem_of_getElem? (i := 81) rfl) rfl
theorem zk_t4_82 : (Cond.instanceMethod yX1_tear) ∈ wsL_law := zk_t4 (List.mem_of_getElem? (i := 82) rfl) rfl
theorem zk_t4_83 : (Cond.selects RX1 yX1_tear yX1_tear) ∈ wsL_law := zk_t4 (List.mem_of_getElem? (i := 83) rfl) rfl
theorem zk_t4_84 : (Cond.code yX1_tear cX1_tear 2 none) ∈ wsL_law := zk_t4 (List.mem_of_getElem? (i := 84) rfl) rfl
theorem zk_t4_92 : (Cond.methodLink RX6 230 yX1_isSeen) ∈ wsL_law := zk_t4 (List.mem_of_getElem? (i := 92) rfl) rfl
theorem zk_t4_94 : (Cond.methodLink RX6 235 yX1_repair) ∈ wsL_law := zk_t4 (List.mem_of_getElem? (i := 94) rfl) rfl
theorem zk_t4_95 : (Cond.instanceMethod yX1_repair) ∈ wsL_law := zk_t4 (List.mem_of_getElem? (i := 95) rfl) rfl
theorem zk_t4_96 : (Cond.selects RX1 yX1_repair yX1_repair) ∈ wsL_law := zk_t4 (List.mem_of_getElem? (i := 96) rfl) rfl
theorem zk_t4_97 : (Cond.code yX1_repair cX1_repair 3 (some .int)) ∈ wsL_law := zk_t4 (List.mem_of_getElem? (i := 97) rfl) rfl
theorem zk_t1_127 : (Cond.fieldLink RX6 238 "Stitchpath$Machine" "stitches" "[I") ∈ wsL_law := zk_t1 (List.mem_of_getElem? (i := 127) rfl) rfl
theorem zk_t4_111 : (Cond.methodLink RX7 1 objectInit) ∈ wsL_law := zk_t4 (List.mem_of_getElem? (i := 111) rfl) rfl
theorem zk_t4_114 : (Cond.fieldLink RX7 7 "StitchpathModel" "colour" "[I") ∈ wsL_law := zk_t4 (List.mem_of_getElem? (i := 114) rfl) rfl
theorem zk_t4_115 : (Cond.fieldLink RX7 13 "StitchpathModel" "layer" "[I") ∈ wsL_law := zk_t4 (List.mem_of_getElem? (i := 115) rfl) rfl
theorem zk_t4_116 : (Cond.fieldLink RX7 16 "StitchpathModel" "isColumn" "[Z") ∈ wsL_law := zk_t4 (List.mem_of_getElem? (i := 116) rfl) rfl
theorem zk_t4_117 : (Cond.fieldLink RX7 20 "StitchpathModel" "corners" "[I") ∈ wsL_law := zk_t4 (List.mem_of_getElem? (i := 117) rfl) rfl
theorem zk_t4_118 : (Cond.fieldLink RX7 23 "StitchpathModel" "cornerX" "[I") ∈ wsL_law := zk_t4 (List.mem_of_getElem? (i := 118) rfl) rfl
theorem zk_t4_119 : (Cond.fieldLink RX7 26 "StitchpathModel" "cornerY" "[I") ∈ wsL_law := zk_t4 (List.mem_of_getElem? (i := 119) rfl) rfl
theorem zk_t4_120 : (Cond.fieldLink RX7 29 "StitchpathModel" "density" "[I") ∈ wsL_law := zk_t4 (List.mem_of_getElem? (i := 120) rfl) rfl
theorem zk_t4_121 : (Cond.fieldLink RX7 32 "StitchpathModel" "longest" "[I") ∈ wsL_law := zk_t4 (List.mem_of_getElem? (i := 121) rfl) rfl
theorem zk_t4_122 : (Cond.fieldLink RX7 35 "StitchpathModel" "shift" "[I") ∈ wsL_law := zk_t4 (List.mem_of_getElem? (i := 122) rfl) rfl
theorem zk_t4_123 : (Cond.fieldLink RX7 38 "StitchpathModel" "pull" "[I") ∈ wsL_law := zk_t4 (List.mem_of_getElem? (i := 123) rfl) rfl
theorem zk_t4_124 : (Cond.fieldLink RX7 41 "StitchpathModel" "hasUnderlay" "[Z") ∈ wsL_law := zk_t4 (List.mem_of_getElem? (i := 124) rfl) rfl
theorem zk_t4_125 : (Cond.fieldLink RX7 44 "StitchpathModel" "bound" "I") ∈ wsL_law := zk_t4 (List.mem_of_getElem? (i := 125) rfl) rfl
theorem zk_t4_126 : (Cond.fieldLink RX7 48 "StitchpathModel" "pointX" "[I") ∈ wsL_law := zk_t4 (List.mem_of_getElem? (i := 126) rfl) rfl
theorem zk_t4_127 : (Cond.fieldLink RX7 51 "StitchpathModel" "pointY" "[I") ∈ wsL_law := zk_t4 (List.mem_of_getElem? (i := 127) rfl) rfl
theorem zk_t4_129 : (Cond.fieldLink RX7 54 "StitchpathModel" "crossing" "[I") ∈ wsL_law := zk_t4 (List.mem_of_getElem? (i := 129) rfl) rfl
theorem zk_t4_133 : (Cond.fieldLink RX7 57 "StitchpathModel" "kind" "[I") ∈ wsL_law := zk_t4 (List.mem_of_getElem? (i := 133) rfl) rfl
theorem zk_t4_134 : (Cond.fieldLink RX7 60 "StitchpathModel" "byX" "[I") ∈ wsL_law := zk_t4 (List.mem_of_getElem? (i := 134) rfl) rfl
theorem zk_t4_135 : (Cond.fieldLink RX7 63 "StitchpathModel" "byY" "[I") ∈ wsL_law := zk_t4 (List.mem_of_getElem? (i := 135) rfl) rfl
theorem zk_t4_136 : (Cond.fieldLink RX7 66 "StitchpathModel" "fieldOf" "[I") ∈ wsL_law := zk_t4 (List.mem_of_getElem? (i := 136) rfl) rfl
theorem zk_t4_139 : (Cond.fieldLink RX7 69 "StitchpathModel" "isSewn" "[Z") ∈ wsL_law := zk_t4 (List.mem_of_getElem? (i := 139) rfl) rfl
theorem zk_t4_140 : (Cond.fieldLink RX7 72 "StitchpathModel" "isTouched" "[Z") ∈ wsL_law := zk_t4 (List.mem_of_getElem? (i := 140) rfl) rfl
theorem zk_t4_112 : (Cond.constant RX7 75 (70000)) ∈ wsL_law := zk_t4 (List.mem_of_getElem? (i := 112) rfl) rfl
theorem zk_t4_144 : (Cond.fieldLink RX7 76 "StitchpathModel" "bytes" "[I") ∈ wsL_law := zk_t4 (List.mem_of_getElem? (i := 144) rfl) rfl
theorem zk_t4_149 : (Cond.fieldLink RX7 79 "StitchpathModel" "kinds" "[I") ∈ wsL_law := zk_t4 (List.mem_of_getElem? (i := 149) rfl) rfl
theorem zk_t4_150 : (Cond.fieldLink RX7 82 "StitchpathModel" "brokenAt" "[I") ∈ wsL_law := zk_t4 (List.mem_of_getElem? (i := 150) rfl) rfl
theorem zk_t4_151 : (Cond.fieldLink RX7 85 "StitchpathModel" "sewn" "[I") ∈ wsL_law := zk_t4 (List.mem_of_getElem? (i := 151) rfl) rfl
theorem zk_t4_137 : (Cond.fieldLink RX7 88 "StitchpathModel" "needleX" "I") ∈ wsL_law := zk_t4 (List.mem_of_getElem? (i := 137) rfl) rfl
theorem zk_t4_152 : (Cond.fieldLink RX7 91 "StitchpathModel" "thrown" "I") ∈ wsL_law := zk_t4 (List.mem_of_getElem? (i := 152) rfl) rfl
theorem zk_t4_113 : (Cond.fieldLink RX7 94 "StitchpathModel" "fields" "I") ∈ wsL_law := zk_t4 (List.mem_of_getElem? (i := 113) rfl) rfl
theorem zk_t5_8 : (Cond.methodLink RX7 97 yX7_in) ∈ wsL_law := zk_t5 (List.mem_of_getElem? (i := 8) rfl) rfl
theorem zk_t5_9 : (Cond.static yX7_in) ∈ wsL_law := zk_t5 (List.mem_of_getElem? (i := 9) rfl) rfl
theorem zk_t1_6 : (Cond.initialized RX7) ∈ wsL_law := zk_t1 (List.mem_of_getElem? (i := 6) rfl) rfl
theorem zk_t5_10 : (Cond.code yX7_in cX7_in 3 (some .boolean)) ∈ wsL_law := zk_t5 (List.mem_of_getElem? (i := 10) rfl) rfl
theorem zk_t4_131 : (Cond.fieldLink RX7 109 "StitchpathModel" "isKnown" "Z") ∈ wsL_law := zk_t4 (List.mem_of_getElem? (i := 131) rfl) rfl
theorem zk_t5_11 : (Cond.methodLink RX7 101 yX7_asks) ∈ wsL_law := zk_t5 (List.mem_of_getElem? (i := 11) rfl) rfl
theorem zk_t5_13 : (Cond.instanceMethod yX7_asks) ∈ wsL_law := zk_t5 (List.mem_of_getElem? (i := 13) rfl) rfl
theorem zk_s2_13 : (Cond.selects RX7 yX7_asks yX7_asks) ∈ wsL_law := zk_s2 (List.mem_of_getElem? (i := 13) rfl) rfl
theorem zk_t5_14 : (Cond.code yX7_asks cX7_asks 2 (some .boolean)) ∈ wsL_law := zk_t5 (List.mem_of_getElem? (i := 14) rfl) rfl
theorem zk_t5_15 : (Cond.methodLink RX7 105 yX7_fails) ∈ wsL_law := zk_t5 (List.mem_of_getElem? (i := 15) rfl) rfl
theorem zk_t5_17 : (Cond.instanceMethod yX7_fails) ∈ wsL_law := zk_t5 (List.mem_of_getElem? (i := 17) rfl) rfl
theorem zk_s2_14 : (Cond.selects RX7 yX7_fails yX7_fails) ∈ wsL_law := zk_s2 (List.mem_of_getElem? (i := 14) rfl) rfl
theorem zk_t5_18 : (Cond.code yX7_fails cX7_fails 2 (some .int)) ∈ wsL_law := zk_t5 (List.mem_of_getElem? (i := 18) rfl) rfl
theorem zk_t5_23 : (Cond.methodLink RX7 113 yX7_isField) ∈ wsL_law := zk_t5 (List.mem_of_getElem? (i := 23) rfl) rfl
theorem zk_t5_25 : (Cond.instanceMethod yX7_isField) ∈ wsL_law := zk_t5 (List.mem_of_getElem? (i := 25) rfl) rfl
theorem zk_s2_15 : (Cond.selects RX7 yX7_isField yX7_isField) ∈ wsL_law := zk_s2 (List.mem_of_getElem? (i := 15) rfl) rfl
theorem zk_t5_26 : (Cond.code yX7_isField cX7_isField 2 (some .boolean)) ∈ wsL_law := zk_t5 (List.mem_of_getElem? (i := 26) rfl) rfl
theorem zk_t4_128 : (Cond.fieldLink RX7 117 "StitchpathModel" "points" "I") ∈ wsL_law := zk_t4 (List.mem_of_getElem? (i := 128) rfl) rfl
theorem zk_t4_130 : (Cond.fieldLink RX7 120 "StitchpathModel" "crossings" "I") ∈ wsL_law := zk_t4 (List.mem_of_getElem? (i := 130) rfl) rfl
theorem zk_t5_65 : (Cond.methodLink RX7 123 yX7_down) ∈ wsL_law := zk_t5 (List.mem_of_getElem? (i := 65) rfl) rfl
theorem zk_t5_66 : (Cond.static yX7_down) ∈ wsL_law := zk_t5 (List.mem_of_getElem? (i := 66) rfl) rfl
theorem zk_t5_67 : (Cond.code yX7_down cX7_down 4 (some .int)) ∈ wsL_law := zk_t5 (List.mem_of_getElem? (i := 67) rfl) rfl
theorem zk_t4_153 : (Cond.fieldLink RX7 127 "StitchpathModel" "rowY" "I") ∈ wsL_law := zk_t4 (List.mem_of_getElem? (i := 153) rfl) rfl
theorem zk_t5_68 : (Cond.methodLink RX7 130 yX7_point) ∈ wsL_law := zk_t5 (List.mem_of_getElem? (i := 68) rfl) rfl
theorem zk_t5_70 : (Cond.instanceMethod yX7_point) ∈ wsL_law := zk_t5 (List.mem_of_getElem? (i := 70) rfl) rfl
theorem zk_s3_4 : (Cond.selects RX7 yX7_point yX7_point) ∈ wsL_law := zk_s3 (List.mem_of_getElem? (i := 4) rfl) rfl
theorem zk_t5_71 : (Cond.code yX7_point cX7_point 3 none) ∈ wsL_law := zk_t5 (List.mem_of_getElem? (i := 71) rfl) rfl
theorem zk_t5_62 : (Cond.methodLink RX7 134 yX7_greater) ∈ wsL_law := zk_t5 (List.mem_of_getElem? (i := 62) rfl) rfl
theorem zk_t5_63 : (Cond.static yX7_greater) ∈ wsL_law := zk_t5 (List.mem_of_getElem? (i := 63) rfl) rfl
theorem zk_t5_64 : (Cond.code yX7_greater cX7_greater 2 (some .int)) ∈ wsL_law := zk_t5 (List.mem_of_getElem? (i := 64) rfl) rfl
theorem zk_t5_83 : (Cond.methodLink RX7 137 yX7_crosses) ∈ wsL_law := zk_t5 (List.mem_of_getElem? (i := 83) rfl) rfl
theorem zk_t5_85 : (Cond.instanceMethod yX7_crosses) ∈ wsL_law := zk_t5 (List.mem_of_getElem? (i := 85) rfl) rfl
theorem zk_s3_7 : (Cond.selects RX7 yX7_crosses yX7_crosses) ∈ wsL_law := zk_s3 (List.mem_of_getElem? (i := 7) rfl) rfl
theorem zk_t5_86 : (Cond.code yX7_crosses cX7_crosses 11 none) ∈ wsL_law := zk_t5 (List.mem_of_getElem? (i := 86) rfl) rfl
theorem zk_t5_87 : (Cond.methodLink RX7 140 yX7_spans) ∈ wsL_law := zk_t5 (List.mem_of_getElem? (i := 87) rfl) rfl
theorem zk_t5_89 : (Cond.instanceMethod yX7_spans) ∈ wsL_law := zk_t5 (List.mem_of_getElem? (i := 89) rfl) rfl
theorem zk_s3_8 : (Cond.selects RX7 yX7_spans yX7_spans) ∈ wsL_law := zk_s3 (List.mem_of_getElem? (i := 8) rfl) rfl
theorem zk_t5_90 : (Cond.code yX7_spans cX7_spans 11 none) ∈ wsL_law := zk_t5 (List.mem_of_getElem? (i := 90) rfl) rfl
theorem zk_t5_59 : (Cond.methodLink RX7 143 yX7_size) ∈ wsL_law := zk_t5 (List.mem_of_getElem? (i := 59) rfl) rfl
theorem zk_t5_60 : (Cond.static yX7_size) ∈ wsL_law := zk_t5 (List.mem_of_getElem? (i := 60) rfl) rfl
theorem zk_t5_61 : (Cond.code yX7_size cX7_size 1 (some .int)) ∈ wsL_law := zk_t5 (List.mem_of_getElem? (i := 61) rfl) rfl
theorem zk_t5_76 : (Cond.methodLink RX7 146 yX7_steps) ∈ wsL_law := zk_t5 (List.mem_of_getElem? (i := 76) rfl) rfl
theorem zk_t5_77 : (Cond.static yX7_steps) ∈ wsL_law := zk_t5 (List.mem_of_getElem? (i := 77) rfl) rfl
theorem zk_t5_78 : (Cond.code yX7_steps cX7_steps 3 (some .int)) ∈ wsL_law := zk_t5 (List.mem_of_getElem? (i := 78) rfl) rfl
theorem zk_t5_55 : (Cond.methodLink RX7 150 yX7_column) ∈ wsL_law := zk_t5 (List.mem_of_getElem? (i := 55) rfl) rfl
theorem zk_t5_57 : (Cond.instanceMethod yX7_column) ∈ wsL_law := zk_t5 (List.mem_of_getElem? (i := 57) rfl) rfl
theorem zk_s3_3 : (Cond.selects RX7 yX7_column yX7_column) ∈ wsL_law := zk_s3 (List.mem_of_getElem? (i := 3) rfl) rfl
theorem zk_t5_58 : (Cond.code yX7_column cX7_column 9 none) ∈ wsL_law := zk_t5 (List.mem_of_getElem? (i := 58) rfl) rfl
theorem zk_t5_72 : (Cond.methodLink RX7 154 yX7_underlays) ∈ wsL_law := zk_t5 (List.mem_of_getElem? (i := 72) rfl) rfl
theorem zk_t5_74 : (Cond.instanceMethod yX7_underlays) ∈ wsL_law := zk_t5 (List.mem_of_getElem? (i := 74) rfl) rfl
theorem zk_s3_5 : (Cond.selects RX7 yX7_underlays yX7_underlays) ∈ wsL_law := zk_s3 (List.mem_of_getElem? (i := 5) rfl) rfl
theorem zk_t5_75 : (Cond.code yX7_underlays cX7_underlays 10 none) ∈ wsL_law := zk_t5 (List.mem_of_getElem? (i := 75) rfl) rfl
theorem zk_t5_79 : (Cond.methodLink RX7 157 yX7_rows) ∈ wsL_law := zk_t5 (List.mem_of_getElem? (i := 79) rfl) rfl
theorem zk_t5_81 : (Cond.instanceMethod yX7_rows) ∈ wsL_law := zk_t5 (List.mem_of_getElem? (i := 81) rfl) rfl
theorem zk_s3_6 : (Cond.selects RX7 yX7_rows yX7_rows) ∈ wsL_law := zk_s3 (List.mem_of_getElem? (i := 6) rfl) rfl
theorem zk_t5_82 : (Cond.code yX7_rows cX7_rows 6 none) ∈ wsL_law := zk_t5 (List.mem_of_getElem? (i := 82) rfl) rfl
theorem zk_t4_132 : (Cond.fieldLink RX7 160 "StitchpathModel" "commands" "I") ∈ wsL_law := zk_t4 (List.mem_of_getElem? (i := 132) rfl) rfl
theorem zk_t4_138 : (Cond.fieldLink RX7 163 "StitchpathModel" "needleY" "I") ∈ wsL_law := zk_t4 (List.mem_of_getElem? (i := 138) rfl) rfl
theorem zk_t5_51 : (Cond.methodLink RX7 166 yX7_finds) ∈ wsL_law := zk_t5 (List.mem_of_getElem? (i := 51) rfl) rfl
theorem zk_t5_53 : (Cond.instanceMethod yX7_finds) ∈ wsL_law := zk_t5 (List.mem_of_getElem? (i := 53) rfl) rfl
theorem zk_s3_2 : (Cond.selects RX7 yX7_finds yX7_finds) ∈ wsL_law := zk_s3 (List.mem_of_getElem? (i := 2) rfl) rfl
theorem zk_t5_54 : (Cond.code yX7_finds cX7_finds 2 none) ∈ wsL_law := zk_t5 (List.mem_of_getElem? (i := 54) rfl) rfl
theorem zk_t5_91 : (Cond.methodLink RX7 169 yX7_squareTo) ∈ wsL_law := zk_t5 (List.mem_of_getElem? (i := 91) rfl) rfl
theorem zk_t5_93 : (Cond.instanceMethod yX7_squareTo) ∈ wsL_law := zk_t5 (List.mem_of_getElem? (i := 93) rfl) rfl
theorem zk_s3_9 : (Cond.selects RX7 yX7_squareTo yX7_squareTo) ∈ wsL_law := zk_s3 (List.mem_of_getElem? (i := 9) rfl) rfl
theorem zk_t5_94 : (Cond.code yX7_squareTo cX7_squareTo 3 (some .int)) ∈ wsL_law := zk_t5 (List.mem_of_getElem? (i := 94) rfl) rfl
theorem zk_t5_99 : (Cond.methodLink RX7 172 yX7_command) ∈ wsL_law := zk_t5 (List.mem_of_getElem? (i := 99) rfl) rfl
theorem zk_t5_101 : (Cond.instanceMethod yX7_command) ∈ wsL_law := zk_t5 (List.mem_of_getElem? (i := 101) rfl) rfl
theorem zk_s3_11 : (Cond.selects RX7 yX7_command yX7_command) ∈ wsL_law := zk_s3 (List.mem_of_getElem? (i := 11) rfl) rfl
theorem zk_t5_102 : (Cond.code yX7_command cX7_command 5 none) ∈ wsL_law := zk_t5 (List.mem_of_getElem? (i := 102) rfl) rfl
theorem zk_t5_47 : (Cond.methodLink RX7 176 yX7_nearest) ∈ wsL_law := zk_t5 (List.mem_of_getElem? (i := 47) rfl) rfl
theorem zk_t5_49 : (Cond.instanceMethod yX7_nearest) ∈ wsL_law := zk_t5 (List.mem_of_getElem? (i := 49) rfl) rfl
theorem zk_s3_1 : (Cond.selects RX7 yX7_nearest yX7_nearest) ∈ wsL_law := zk_s3 (List.mem_of_getElem? (i := 1) rfl) rfl
theorem zk_t5_50 : (Cond.code yX7_nearest cX7_nearest 8 (some .int)) ∈ wsL_law := zk_t5 (List.mem_of_getElem? (i := 50) rfl) rfl
theorem zk_t5_95 : (Cond.methodLink RX7 179 yX7_sews) ∈ wsL_law := zk_t5 (List.mem_of_getElem? (i := 95) rfl) rfl
theorem zk_t5_97 : (Cond.instanceMethod yX7_sews) ∈ wsL_law := zk_t5 (List.mem_of_getElem? (i := 97) rfl) rfl
theorem zk_s3_10 : (Cond.selects RX7 yX7_sews yX7_sews) ∈ wsL_law := zk_s3 (List.mem_of_getElem? (i := 10) rfl) rfl
theorem zk_t5_98 : (Cond.code yX7_sews cX7_sews 7 none) ∈ wsL_law := zk_t5 (List.mem_of_getElem? (i := 98) rfl) rfl
theorem zk_t5_43 : (Cond.methodLink RX7 182 yX7_reckons) ∈ wsL_law := zk_t5 (List.mem_of_getElem? (i := 43) rfl) rfl
theorem zk_t5_45 : (Cond.instanceMethod yX7_reckons) ∈ wsL_law := zk_t5 (List.mem_of_getElem? (i := 45) rfl) rfl
theorem zk_s3_0 : (Cond.selects RX7 yX7_reckons yX7_reckons) ∈ wsL_law := zk_s3 (List.mem_of_getElem? (i := 0) rfl) rfl
theorem zk_t5_46 : (Cond.code yX7_reckons cX7_reckons 5 none) ∈ wsL_law := zk_t5 (List.mem_of_getElem? (i := 46) rfl) rfl
theorem zk_t5_119 : (Cond.constantFloat RX7 185 (1033476506)) ∈ wsL_law := zk_t5 (List.mem_of_getElem? (i := 119) rfl) rfl
theorem zk_t5_120 : (Cond.constantFloat RX7 186 (1036831949)) ∈ wsL_law := zk_t5 (List.mem_of_getElem? (i := 120) rfl) rfl
theorem zk_t5_121 : (Cond.constantFloat RX7 187 (1045220557)) ∈ wsL_law := zk_t5 (List.mem_of_getElem? (i := 121) rfl) rfl
theorem zk_t5_122 : (Cond.constantFloat RX7 188 (1086324736)) ∈ wsL_law := zk_t5 (List.mem_of_getElem? (i := 122) rfl) rfl
theorem zk_t5_123 : (Cond.constantFloat RX7 189 (1090519040)) ∈ wsL_law := zk_t5 (List.mem_of_getElem? (i := 123) rfl) rfl
theorem zk_t5_115 : (Cond.methodLink RX7 190 yX7_secondsOf) ∈ wsL_law := zk_t5 (List.mem_of_getElem? (i := 115) rfl) rfl
theorem zk_t5_117 : (Cond.instanceMethod yX7_secondsOf) ∈ wsL_law := zk_t5 (List.mem_of_getElem? (i := 117) rfl) rfl
theorem zk_s3_12 : (Cond.selects RX7 yX7_secondsOf yX7_secondsOf) ∈ wsL_law := zk_s3 (List.mem_of_getElem? (i := 12) rfl) rfl
theorem zk_t5_118 : (Cond.code yX7_secondsOf cX7_secondsOf 2 (some .float)) ∈ wsL_law := zk_t5 (List.mem_of_getElem? (i := 118) rfl) rfl
theorem zk_t5_128 : (Cond.methodLink RX7 194 yX7_root) ∈ wsL_law := zk_t5 (List.mem_of_getElem? (i := 128) rfl) rfl
theorem zk_t5_129 : (Cond.static yX7_root) ∈ wsL_law := zk_t5 (List.mem_of_getElem? (i := 129) rfl) rfl
theorem zk_t5_130 : (Cond.code yX7_root cX7_root 2 (some .int)) ∈ wsL_law := zk_t5 (List.mem_of_getElem? (i := 130) rfl) rfl
theorem zk_t5_139 : (Cond.methodLink RX7 197 yX7_marks) ∈ wsL_law := zk_t5 (List.mem_of_getElem? (i := 139) rfl) rfl
theorem zk_t5_141 : (Cond.instanceMethod yX7_marks) ∈ wsL_law := zk_t5 (List.mem_of_getElem? (i := 141) rfl) rfl
theorem zk_s3_14 : (Cond.selects RX7 yX7_marks yX7_marks) ∈ wsL_law := zk_s3 (List.mem_of_getElem? (i := 14) rfl) rfl
theorem zk_t5_142 : (Cond.code yX7_marks cX7_marks 3 none) ∈ wsL_law := zk_t5 (List.mem_of_getElem? (i := 142) rfl) rfl
theorem zk_t5_135 : (Cond.methodLink RX7 200 yX7_touches) ∈ wsL_law := zk_t5 (List.mem_of_getElem? (i := 135) rfl) rfl
theorem zk_t5_137 : (Cond.instanceMethod yX7_touches) ∈ wsL_law := zk_t5 (List.mem_of_getElem? (i := 137) rfl) rfl
theorem zk_s3_13 : (Cond.selects RX7 yX7_touches yX7_touches) ∈ wsL_law := zk_s3 (List.mem_of_getElem? (i := 13) rfl) rfl
theorem zk_t5_138 : (Cond.code yX7_touches cX7_touches 7 (some .int)) ∈ wsL_law := zk_t5 (List.mem_of_getElem? (i := 138) rfl) rfl
theorem zk_t5_143 : (Cond.methodLink RX7 203 yX7_isCovered) ∈ wsL_law := zk_t5 (List.mem_of_getElem? (i := 143) rfl) rfl
theorem zk_t5_145 : (Cond.instanceMethod yX7_isCovered) ∈ wsL_law := zk_t5 (List.mem_of_getElem? (i := 145) rfl) rfl
theorem zk_s3_15 : (Cond.selects RX7 yX7_isCovered yX7_isCovered) ∈ wsL_law := zk_s3 (List.mem_of_getElem? (i := 15) rfl) rfl
theorem zk_t5_146 : (Cond.code yX7_isCovered cX7_isCovered 6 (some .boolean)) ∈ wsL_law := zk_t5 (List.mem_of_getElem? (i := 146) rfl) rfl
theorem zk_t4_142 : (Cond.fieldLink RX7 206 "StitchpathModel" "format" "I") ∈ wsL_law := zk_t4 (List.mem_of_getElem? (i := 142) rfl) rfl
theorem zk_t4_143 : (Cond.fieldLink RX7 209 "StitchpathModel" "length" "I") ∈ wsL_law := zk_t4 (List.mem_of_getElem? (i := 143) rfl) rfl
theorem zk_t4_141 : (Cond.fieldLink RX7 212 "StitchpathModel" "hasFile" "Z") ∈ wsL_law := zk_t4 (List.mem_of_getElem? (i := 141) rfl) rfl
theorem zk_t5_155 : (Cond.methodLink RX7 215 yX7_limitOf) ∈ wsL_law := zk_t5 (List.mem_of_getElem? (i := 155) rfl) rfl
theorem zk_t5_156 : (Cond.static yX7_limitOf) ∈ wsL_law := zk_t5 (List.mem_of_getElem? (i := 156) rfl) rfl
theorem zk_t5_157 : (Cond.code yX7_limitOf cX7_limitOf 1 (some .int)) ∈ wsL_law := zk_t5 (List.mem_of_getElem? (i := 157) rfl) rfl
theorem zk_t5_158 : (Cond.methodLink RX7 218 yX7_writes) ∈ wsL_law := zk_t5 (List.mem_of_getElem? (i := 158) rfl) rfl
theorem zk_t5_160 : (Cond.instanceMethod yX7_writes) ∈ wsL_law := zk_t5 (List.mem_of_getElem? (i := 160) rfl) rfl
theorem zk_s4_0 : (Cond.selects RX7 yX7_writes yX7_writes) ∈ wsL_law := zk_s4 (List.mem_of_getElem? (i := 0) rfl) rfl
theorem zk_t5_161 : (Cond.code yX7_writes cX7_writes 4 none) ∈ wsL_law := zk_t5 (List.mem_of_getElem? (i := 161) rfl) rfl
theorem zk_t5_162 : (Cond.methodLink RX7 222 yX7_sumTo) ∈ wsL_law := zk_t5 (List.mem_of_getElem? (i := 162) rfl) rfl
theorem zk_t5_164 : (Cond.instanceMethod yX7_sumTo) ∈ wsL_law := zk_t5 (List.mem_of_getElem? (i := 164) rfl) rfl
theorem zk_s4_1 : (Cond.selects RX7 yX7_sumTo yX7_sumTo) ∈ wsL_law := zk_s4 (List.mem_of_getElem? (i := 1) rfl) rfl
theorem zk_t5_165 : (Cond.code yX7_sumTo cX7_sumTo 4 (some .int)) ∈ wsL_law := zk_t5 (List.mem_of_getElem? (i := 165) rfl) rfl
theorem zk_t5_190 : (Cond.methodLink RX7 225 yX7_isBad) ∈ wsL_law := zk_t5 (List.mem_of_getElem? (i := 190) rfl) rfl
theorem zk_t5_191 : (Cond.static yX7_isBad) ∈ wsL_law := zk_t5 (List.mem_of_getElem? (i := 191) rfl) rfl
theorem zk_t5_192 : (Cond.code yX7_isBad cX7_isBad 3 (some .boolean)) ∈ wsL_law := zk_t5 (List.mem_of_getElem? (i := 192) rfl) rfl
theorem zk_t4_154 : (Cond.fieldLink RX7 228 "StitchpathModel" "stitches" "I") ∈ wsL_law := zk_t4 (List.mem_of_getElem? (i := 154) rfl) rfl
theorem zk_t5_186 : (Cond.methodLink RX7 231 yX7_faultAt) ∈ wsL_law := zk_t5 (List.mem_of_getElem? (i := 186) rfl) rfl
theorem zk_t5_188 : (Cond.instanceMethod yX7_faultAt) ∈ wsL_law := zk_t5 (List.mem_of_getElem? (i := 188) rfl) rfl
theorem zk_s4_3 : (Cond.selects RX7 yX7_faultAt yX7_faultAt) ∈ wsL_law := zk_s4 (List.mem_of_getElem? (i := 3) rfl) rfl
theorem zk_t5_189 : (Cond.code yX7_faultAt cX7_faultAt 7 (some .int)) ∈ wsL_law := zk_t5 (List.mem_of_getElem? (i := 189) rfl) rfl
theorem zk_t5_182 : (Cond.methodLink RX7 234 yX7_reading) ∈ wsL_law := zk_t5 (List.mem_of_getElem? (i := 182) rfl) rfl
theorem zk_t5_184 : (Cond.instanceMethod yX7_reading) ∈ wsL_law := zk_t5 (List.mem_of_getElem? (i := 184) rfl) rfl
theorem zk_s4_2 : (Cond.selects RX7 yX7_reading yX7_reading) ∈ wsL_law := zk_s4 (List.mem_of_getElem? (i := 2) rfl) rfl
theorem zk_t5_185 : (Cond.code yX7_reading cX7_reading 6 (some .int)) ∈ wsL_law := zk_t5 (List.mem_of_getElem? (i := 185) rfl) rfl
theorem zk_t4_145 : (Cond.fieldLink RX7 238 "StitchpathModel" "heads" "I") ∈ wsL_law := zk_t4 (List.mem_of_getElem? (i := 145) rfl) rfl
theorem zk_t4_146 : (Cond.fieldLink RX7 241 "StitchpathModel" "late" "I") ∈ wsL_law := zk_t4 (List.mem_of_getElem? (i := 146) rfl) rfl
theorem zk_t4_147 : (Cond.fieldLink RX7 244 "StitchpathModel" "ran" "I") ∈ wsL_law := zk_t4 (List.mem_of_getElem? (i := 147) rfl) rfl
theorem zk_t4_148 : (Cond.fieldLink RX7 247 "StitchpathModel" "program" "I") ∈ wsL_law := zk_t4 (List.mem_of_getElem? (i := 148) rfl) rfl
theorem zk_t5_209 : (Cond.methodLink RX7 250 yX7_isSeen) ∈ wsL_law := zk_t5 (List.mem_of_getElem? (i := 209) rfl) rfl
theorem zk_t5_211 : (Cond.instanceMethod yX7_isSeen) ∈ wsL_law := zk_t5 (List.mem_of_getElem? (i := 211) rfl) rfl
theorem zk_s4_5 : (Cond.selects RX7 yX7_isSeen yX7_isSeen) ∈ wsL_law := zk_s4 (List.mem_of_getElem? (i := 5) rfl) rfl
theorem zk_t5_212 : (Cond.code yX7_isSeen cX7_isSeen 2 (some .boolean)) ∈ wsL_law := zk_t5 (List.mem_of_getElem? (i := 212) rfl) rfl
theorem zk_t5_205 : (Cond.methodLink RX7 253 yX7_stands) ∈ wsL_law := zk_t5 (List.mem_of_getElem? (i := 205) rfl) rfl
theorem zk_t5_207 : (Cond.instanceMethod yX7_stands) ∈ wsL_law := zk_t5 (List.mem_of_getElem? (i := 207) rfl) rfl
theorem zk_s4_4 : (Cond.selects RX7 yX7_stands yX7_stands) ∈ wsL_law := zk_s4 (List.mem_of_getElem? (i := 4) rfl) rfl
theorem zk_t5_208 : (Cond.code yX7_stands cX7_stands 3 (some .boolean)) ∈ wsL_law := zk_t5 (List.mem_of_getElem? (i := 208) rfl) rfl
theorem zk_t5_217 : (Cond.methodLink RX7 257 yX7_isHead) ∈ wsL_law := zk_t5 (List.mem_of_getElem? (i := 217) rfl) rfl
theorem zk_t5_219 : (Cond.instanceMethod yX7_isHead) ∈ wsL_law := zk_t5 (List.mem_of_getElem? (i := 219) rfl) rfl
theorem zk_s4_6 : (Cond.selects RX7 yX7_isHead yX7_isHead) ∈ wsL_law := zk_s4 (List.mem_of_getElem? (i := 6) rfl) rfl
theorem zk_t5_220 : (Cond.code yX7_isHead cX7_isHead 2 (some .boolean)) ∈ wsL_law := zk_t5 (List.mem_of_getElem? (i := 220) rfl) rfl
theorem zk_t2_123 : (Cond.classLink RL 13 "java/lang/IllegalArgumentException") ∈ wsL_law := zk_t2 (List.mem_of_getElem? (i := 123) rfl) rfl
theorem zk_t2_124 : (Cond.classLink RL 15 "java/lang/IllegalStateException") ∈ wsL_law := zk_t2 (List.mem_of_getElem? (i := 124) rfl) rfl
theorem zk_t2_125 : (Cond.methodLink RL 7 yX6_field) ∈ wsL_law := zk_t2 (List.mem_of_getElem? (i := 125) rfl) rfl
theorem zk_t2_126 : (Cond.instanceMethod yX6_field) ∈ wsL_law := zk_t2 (List.mem_of_getElem? (i := 126) rfl) rfl
theorem zk_t2_127 : (Cond.selects RX6 yX6_field yX6_field) ∈ wsL_law := zk_t2 (List.mem_of_getElem? (i := 127) rfl) rfl
theorem zk_t2_128 : (Cond.code yX6_field cX6_field 5 (some .int)) ∈ wsL_law := zk_t2 (List.mem_of_getElem? (i := 128) rfl) rfl
theorem zk_t3_62 : (Cond.classLink RL 21 "java/lang/IndexOutOfBoundsException") ∈ wsL_law := zk_t3 (List.mem_of_getElem? (i := 62) rfl) rfl
theorem zk_t3_63 : (Cond.methodLink RL 17 yX6_corner) ∈ wsL_law := zk_t3 (List.mem_of_getElem? (i := 63) rfl) rfl
theorem zk_t3_64 : (Cond.instanceMethod yX6_corner) ∈ wsL_law := zk_t3 (List.mem_of_getElem? (i := 64) rfl) rfl
theorem zk_t3_65 : (Cond.selects RX6 yX6_corner yX6_corner) ∈ wsL_law := zk_t3 (List.mem_of_getElem? (i := 65) rfl) rfl
theorem zk_t3_66 : (Cond.code yX6_corner cX6_corner 5 (some .int)) ∈ wsL_law := zk_t3 (List.mem_of_getElem? (i := 66) rfl) rfl
theorem zk_t3_100 : (Cond.methodLink RL 23 yX6_sew) ∈ wsL_law := zk_t3 (List.mem_of_getElem? (i := 100) rfl) rfl
theorem zk_t3_101 : (Cond.instanceMethod yX6_sew) ∈ wsL_law := zk_t3 (List.mem_of_getElem? (i := 101) rfl) rfl
theorem zk_t3_102 : (Cond.selects RX6 yX6_sew yX6_sew) ∈ wsL_law := zk_t3 (List.mem_of_getElem? (i := 102) rfl) rfl
theorem zk_t3_103 : (Cond.code yX6_sew cX6_sew 8 none) ∈ wsL_law := zk_t3 (List.mem_of_getElem? (i := 103) rfl) rfl
theorem zk_t3_115 : (Cond.methodLink RL 27 yX6_scale) ∈ wsL_law := zk_t3 (List.mem_of_getElem? (i := 115) rfl) rfl
theorem zk_t3_116 : (Cond.instanceMethod yX6_scale) ∈ wsL_law := zk_t3 (List.mem_of_getElem? (i := 116) rfl) rfl
theorem zk_t3_117 : (Cond.selects RX6 yX6_scale yX6_scale) ∈ wsL_law := zk_t3 (List.mem_of_getElem? (i := 117) rfl) rfl
theorem zk_t3_118 : (Cond.code yX6_scale cX6_scale 4 none) ∈ wsL_law := zk_t3 (List.mem_of_getElem? (i := 118) rfl) rfl
theorem zk_t3_132 : (Cond.methodLink RL 31 yX6_bound) ∈ wsL_law := zk_t3 (List.mem_of_getElem? (i := 132) rfl) rfl
theorem zk_t3_133 : (Cond.instanceMethod yX6_bound) ∈ wsL_law := zk_t3 (List.mem_of_getElem? (i := 133) rfl) rfl
theorem zk_t3_134 : (Cond.selects RX6 yX6_bound yX6_bound) ∈ wsL_law := zk_t3 (List.mem_of_getElem? (i := 134) rfl) rfl
theorem zk_t3_135 : (Cond.code yX6_bound cX6_bound 3 (some .int)) ∈ wsL_law := zk_t3 (List.mem_of_getElem? (i := 135) rfl) rfl
theorem zk_t3_140 : (Cond.methodLink RL 35 yX6_ofCommand) ∈ wsL_law := zk_t3 (List.mem_of_getElem? (i := 140) rfl) rfl
theorem zk_t3_141 : (Cond.instanceMethod yX6_ofCommand) ∈ wsL_law := zk_t3 (List.mem_of_getElem? (i := 141) rfl) rfl
theorem zk_t3_142 : (Cond.selects RX6 yX6_ofCommand yX6_ofCommand) ∈ wsL_law := zk_t3 (List.mem_of_getElem? (i := 142) rfl) rfl
theorem zk_t3_143 : (Cond.code yX6_ofCommand cX6_ofCommand 3 (some .int)) ∈ wsL_law := zk_t3 (List.mem_of_getElem? (i := 143) rfl) rfl
theorem zk_t3_153 : (Cond.methodLink RL 39 yX6_count) ∈ wsL_law := zk_t3 (List.mem_of_getElem? (i := 153) rfl) rfl
theorem zk_t3_154 : (Cond.instanceMethod yX6_count) ∈ wsL_law := zk_t3 (List.mem_of_getElem? (i := 154) rfl) rfl
theorem zk_t3_155 : (Cond.selects RX6 yX6_count yX6_count) ∈ wsL_law := zk_t3 (List.mem_of_getElem? (i := 155) rfl) rfl
theorem zk_t3_156 : (Cond.code yX6_count cX6_count 2 (some .int)) ∈ wsL_law := zk_t3 (List.mem_of_getElem? (i := 156) rfl) rfl
theorem zk_t3_161 : (Cond.methodLink RL 42 yX6_thread) ∈ wsL_law := zk_t3 (List.mem_of_getElem? (i := 161) rfl) rfl
theorem zk_t3_162 : (Cond.instanceMethod yX6_thread) ∈ wsL_law := zk_t3 (List.mem_of_getElem? (i := 162) rfl) rfl
theorem zk_t3_163 : (Cond.selects RX6 yX6_thread yX6_thread) ∈ wsL_law := zk_t3 (List.mem_of_getElem? (i := 163) rfl) rfl
theorem zk_t3_164 : (Cond.code yX6_thread cX6_thread 2 (some .int)) ∈ wsL_law := zk_t3 (List.mem_of_getElem? (i := 164) rfl) rfl
theorem zk_t3_168 : (Cond.methodLink RL 45 yX6_covered) ∈ wsL_law := zk_t3 (List.mem_of_getElem? (i := 168) rfl) rfl
theorem zk_t3_169 : (Cond.instanceMethod yX6_covered) ∈ wsL_law := zk_t3 (List.mem_of_getElem? (i := 169) rfl) rfl
theorem zk_t3_170 : (Cond.selects RX6 yX6_covered yX6_covered) ∈ wsL_law := zk_t3 (List.mem_of_getElem? (i := 170) rfl) rfl
theorem zk_t3_171 : (Cond.code yX6_covered cX6_covered 3 (some .float)) ∈ wsL_law := zk_t3 (List.mem_of_getElem? (i := 171) rfl) rfl
theorem zk_t3_207 : (Cond.methodLink RL 49 yX6_touched) ∈ wsL_law := zk_t3 (List.mem_of_getElem? (i := 207) rfl) rfl
theorem zk_t3_208 : (Cond.instanceMethod yX6_touched) ∈ wsL_law := zk_t3 (List.mem_of_getElem? (i := 208) rfl) rfl
theorem zk_t3_209 : (Cond.selects RX6 yX6_touched yX6_touched) ∈ wsL_law := zk_t3 (List.mem_of_getElem? (i := 209) rfl) rfl
theorem zk_t3_210 : (Cond.code yX6_touched cX6_touched 3 (some .int)) ∈ wsL_law := zk_t3 (List.mem_of_getElem? (i := 210) rfl) rfl
theorem zk_t3_214 : (Cond.methodLink RL 52 yX6_write) ∈ wsL_law := zk_t3 (List.mem_of_getElem? (i := 214) rfl) rfl
theorem zk_t3_215 : (Cond.instanceMethod yX6_write) ∈ wsL_law := zk_t3 (List.mem_of_getElem? (i := 215) rfl) rfl
theorem zk_t3_216 : (Cond.selects RX6 yX6_write yX6_write) ∈ wsL_law := zk_t3 (List.mem_of_getElem? (i := 216) rfl) rfl
theorem zk_t3_217 : (Cond.code yX6_write cX6_write 2 (some .int)) ∈ wsL_law := zk_t3 (List.mem_of_getElem? (i := 217) rfl) rfl
theorem zk_t4_2 : (Cond.methodLink RL 55 yX6_byteAt) ∈ wsL_law := zk_t4 (List.mem_of_getElem? (i := 2) rfl) rfl
theorem zk_t4_3 : (Cond.instanceMethod yX6_byteAt) ∈ wsL_law := zk_t4 (List.mem_of_getElem? (i := 3) rfl) rfl
theorem zk_t4_4 : (Cond.selects RX6 yX6_byteAt yX6_byteAt) ∈ wsL_law := zk_t4 (List.mem_of_getElem? (i := 4) rfl) rfl
theorem zk_t4_5 : (Cond.code yX6_byteAt cX6_byteAt 2 (some .int)) ∈ wsL_law := zk_t4 (List.mem_of_getElem? (i := 5) rfl) rfl
theorem zk_t4_11 : (Cond.methodLink RL 58 yX6_damage) ∈ wsL_law := zk_t4 (List.mem_of_getElem? (i := 11) rfl) rfl
theorem zk_t4_12 : (Cond.instanceMethod yX6_damage) ∈ wsL_law := zk_t4 (List.mem_of_getElem? (i := 12) rfl) rfl
theorem zk_t4_13 : (Cond.selects RX6 yX6_damage yX6_damage) ∈ wsL_law := zk_t4 (List.mem_of_getElem? (i := 13) rfl) rfl
theorem zk_t4_14 : (Cond.code yX6_damage cX6_damage 4 (some .int)) ∈ wsL_law := zk_t4 (List.mem_of_getElem? (i := 14) rfl) rfl
theorem zk_t4_19 : (Cond.methodLink RL 61 yX6_shorten) ∈ wsL_law := zk_t4 (List.mem_of_getElem? (i := 19) rfl) rfl
theorem zk_t4_20 : (Cond.instanceMethod yX6_shorten) ∈ wsL_law := zk_t4 (List.mem_of_getElem? (i := 20) rfl) rfl
theorem zk_t4_21 : (Cond.selects RX6 yX6_shorten yX6_shorten) ∈ wsL_law := zk_t4 (List.mem_of_getElem? (i := 21) rfl) rfl
theorem zk_t4_22 : (Cond.code yX6_shorten cX6_shorten 3 (some .int)) ∈ wsL_law := zk_t4 (List.mem_of_getElem? (i := 22) rfl) rfl
theorem zk_t4_27 : (Cond.methodLink RL 64 yX6_start) ∈ wsL_law := zk_t4 (List.mem_of_getElem? (i := 27) rfl) rfl
theorem zk_t4_28 : (Cond.instanceMethod yX6_start) ∈ wsL_law := zk_t4 (List.mem_of_getElem? (i := 28) rfl) rfl
theorem zk_t4_29 : (Cond.selects RX6 yX6_start yX6_start) ∈ wsL_law := zk_t4 (List.mem_of_getElem? (i := 29) rfl) rfl
theorem zk_t4_30 : (Cond.code yX6_start cX6_start 3 none) ∈ wsL_law := zk_t4 (List.mem_of_getElem? (i := 30) rfl) rfl
theorem zk_t4_41 : (Cond.methodLink RL 67 yX6_run) ∈ wsL_law := zk_t4 (List.mem_of_getElem? (i := 41) rfl) rfl
theorem zk_t4_42 : (Cond.instanceMethod yX6_run) ∈ wsL_law := zk_t4 (List.mem_of_getElem? (i := 42) rfl) rfl
theorem zk_t4_43 : (Cond.selects RX6 yX6_run yX6_run) ∈ wsL_law := zk_t4 (List.mem_of_getElem? (i := 43) rfl) rfl
theorem zk_t4_44 : (Cond.code yX6_run cX6_run 2 (some .int)) ∈ wsL_law := zk_t4 (List.mem_of_getElem? (i := 44) rfl) rfl
theorem zk_t4_74 : (Cond.methodLink RL 70 yX6_breaks) ∈ wsL_law := zk_t4 (List.mem_of_getElem? (i := 74) rfl) rfl
theorem zk_t4_75 : (Cond.instanceMethod yX6_breaks) ∈ wsL_law := zk_t4 (List.mem_of_getElem? (i := 75) rfl) rfl
theorem zk_t4_76 : (Cond.selects RX6 yX6_breaks yX6_breaks) ∈ wsL_law := zk_t4 (List.mem_of_getElem? (i := 76) rfl) rfl
theorem zk_t4_77 : (Cond.code yX6_breaks cX6_breaks 2 none) ∈ wsL_law := zk_t4 (List.mem_of_getElem? (i := 77) rfl) rfl
theorem zk_t4_88 : (Cond.methodLink RL 74 yX6_mend) ∈ wsL_law := zk_t4 (List.mem_of_getElem? (i := 88) rfl) rfl
theorem zk_t4_89 : (Cond.instanceMethod yX6_mend) ∈ wsL_law := zk_t4 (List.mem_of_getElem? (i := 89) rfl) rfl
theorem zk_t4_90 : (Cond.selects RX6 yX6_mend yX6_mend) ∈ wsL_law := zk_t4 (List.mem_of_getElem? (i := 90) rfl) rfl
theorem zk_t4_91 : (Cond.code yX6_mend cX6_mend 2 (some .int)) ∈ wsL_law := zk_t4 (List.mem_of_getElem? (i := 91) rfl) rfl
theorem zk_t4_102 : (Cond.methodLink RL 77 yX6_sewn) ∈ wsL_law := zk_t4 (List.mem_of_getElem? (i := 102) rfl) rfl
theorem zk_t4_103 : (Cond.instanceMethod yX6_sewn) ∈ wsL_law := zk_t4 (List.mem_of_getElem? (i := 103) rfl) rfl
theorem zk_t4_104 : (Cond.selects RX6 yX6_sewn yX6_sewn) ∈ wsL_law := zk_t4 (List.mem_of_getElem? (i := 104) rfl) rfl
theorem zk_t4_105 : (Cond.code yX6_sewn cX6_sewn 2 (some .int)) ∈ wsL_law := zk_t4 (List.mem_of_getElem? (i := 105) rfl) rfl
theorem zk_t1_16 : (Cond.classLink RL 8 RX6) ∈ wsL_law := zk_t1 (List.mem_of_getElem? (i := 16) rfl) rfl
theorem zk_t1_17 : (Cond.instantiable RX6 9) ∈ wsL_law := zk_t1 (List.mem_of_getElem? (i := 17) rfl) rfl
theorem zk_t4_106 : (Cond.classLink RL 81 RX7) ∈ wsL_law := zk_t4 (List.mem_of_getElem? (i := 106) rfl) rfl
theorem zk_t4_107 : (Cond.instantiable RX7 42) ∈ wsL_law := zk_t4 (List.mem_of_getElem? (i := 107) rfl) rfl
theorem zk_t5_229 : (Cond.arrayClass .long) ∈ wsL_law := zk_t5 (List.mem_of_getElem? (i := 229) rfl) rfl
theorem zk_t5_230 : (Cond.arrayClass .double) ∈ wsL_law := zk_t5 (List.mem_of_getElem? (i := 230) rfl) rfl
theorem zk_t1_18 : (Cond.methodLink RL 80 yX6_init) ∈ wsL_law := zk_t1 (List.mem_of_getElem? (i := 18) rfl) rfl
theorem zk_t1_19 : (Cond.instanceMethod yX6_init) ∈ wsL_law := zk_t1 (List.mem_of_getElem? (i := 19) rfl) rfl
theorem zk_t1_20 : (Cond.code yX6_init cX6_init 1 none) ∈ wsL_law := zk_t1 (List.mem_of_getElem? (i := 20) rfl) rfl
theorem zk_t4_108 : (Cond.methodLink RL 83 yX7_init) ∈ wsL_law := zk_t4 (List.mem_of_getElem? (i := 108) rfl) rfl
theorem zk_t4_109 : (Cond.instanceMethod yX7_init) ∈ wsL_law := zk_t4 (List.mem_of_getElem? (i := 109) rfl) rfl
theorem zk_t4_110 : (Cond.code yX7_init cX7_init 1 none) ∈ wsL_law := zk_t4 (List.mem_of_getElem? (i := 110) rfl) rfl
theorem zk_t2_120 : (Cond.methodLink RL 84 yL_field) ∈ wsL_law := zk_t2 (List.mem_of_getElem? (i := 120) rfl) rfl
theorem zk_t2_121 : (Cond.static yL_field) ∈ wsL_law := zk_t2 (List.mem_of_getElem? (i := 121) rfl) rfl
theorem zk_t1_0 : (Cond.initialized RL) ∈ wsL_law := zk_t1 (List.mem_of_getElem? (i := 0) rfl) rfl
theorem zk_t2_122 : (Cond.codeWith yL_field cL_field 6 (some .int) [(0, 12, 15, 13), (0, 12, 19, 15)]) ∈ wsL_law := zk_t2 (List.mem_of_getElem? (i := 122) rfl) rfl
theorem zk_t5_4 : (Cond.methodLink RL 89 yX7_field) ∈ wsL_law := zk_t5 (List.mem_of_getElem? (i := 4) rfl) rfl
theorem zk_t5_5 : (Cond.instanceMethod yX7_field) ∈ wsL_law := zk_t5 (List.mem_of_getElem? (i := 5) rfl) rfl
theorem zk_t5_6 : (Cond.selects RX7 yX7_field yX7_field) ∈ wsL_law := zk_t5 (List.mem_of_getElem? (i := 6) rfl) rfl
theorem zk_t5_7 : (Cond.code yX7_field cX7_field 4 (some .int)) ∈ wsL_law := zk_t5 (List.mem_of_getElem? (i := 7) rfl) rfl
theorem zk_t5_0 : (Cond.methodLink RL 90 yX7_thrown) ∈ wsL_law := zk_t5 (List.mem_of_getElem? (i := 0) rfl) rfl
theorem zk_t5_1 : (Cond.instanceMethod yX7_thrown) ∈ wsL_law := zk_t5 (List.mem_of_getElem? (i := 1) rfl) rfl
theorem zk_t5_2 : (Cond.selects RX7 yX7_thrown yX7_thrown) ∈ wsL_law := zk_t5 (List.mem_of_getElem? (i := 2) rfl) rfl
theorem zk_t5_3 : (Cond.code yX7_thrown cX7_thrown 1 (some .int)) ∈ wsL_law := zk_t5 (List.mem_of_getElem? (i := 3) rfl) rfl
theorem zk_t3_59 : (Cond.methodLink RL 94 yL_corner) ∈ wsL_law := zk_t3 (List.mem_of_getElem? (i := 59) rfl) rfl
theorem zk_t3_60 : (Cond.static yL_corner) ∈ wsL_law := zk_t3 (List.mem_of_getElem? (i := 60) rfl) rfl
theorem zk_t3_61 : (Cond.codeWith yL_corner cL_corner 6 (some .int) [(0, 12, 15, 21), (0, 12, 19, 13), (0, 12, 23, 15)]) ∈ wsL_law := zk_t3 (List.mem_of_getElem? (i := 61) rfl) rfl
theorem zk_t5_19 : (Cond.methodLink RL 97 yX7_corner) ∈ wsL_law := zk_t5 (List.mem_of_getElem? (i := 19) rfl) rfl
theorem zk_t5_20 : (Cond.instanceMethod yX7_corner) ∈ wsL_law := zk_t5 (List.mem_of_getElem? (i := 20) rfl) rfl
theorem zk_t5_21 : (Cond.selects RX7 yX7_corner yX7_corner) ∈ wsL_law := zk_t5 (List.mem_of_getElem? (i := 21) rfl) rfl
theorem zk_t5_22 : (Cond.code yX7_corner cX7_corner 4 (some .int)) ∈ wsL_law := zk_t5 (List.mem_of_getElem? (i := 22) rfl) rfl
theorem zk_t3_97 : (Cond.methodLink RL 98 yL_sew) ∈ wsL_law := zk_t3 (List.mem_of_getElem? (i := 97) rfl) rfl
theorem zk_t3_98 : (Cond.static yL_sew) ∈ wsL_law := zk_t3 (List.mem_of_getElem? (i := 98) rfl) rfl
theorem zk_t3_99 : (Cond.codeWith yL_sew cL_sew 8 (some .int) [(0, 13, 16, 21), (0, 13, 20, 13)]) ∈ wsL_law := zk_t3 (List.mem_of_getElem? (i := 99) rfl) rfl
theorem zk_t5_27 : (Cond.methodLink RL 101 yX7_sew) ∈ wsL_law := zk_t5 (List.mem_of_getElem? (i := 27) rfl) rfl
theorem zk_t5_28 : (Cond.instanceMethod yX7_sew) ∈ wsL_law := zk_t5 (List.mem_of_getElem? (i := 28) rfl) rfl
theorem zk_t5_29 : (Cond.selects RX7 yX7_sew yX7_sew) ∈ wsL_law := zk_t5 (List.mem_of_getElem? (i := 29) rfl) rfl
theorem zk_t5_30 : (Cond.code yX7_sew cX7_sew 7 none) ∈ wsL_law := zk_t5 (List.mem_of_getElem? (i := 30) rfl) rfl
theorem zk_t3_112 : (Cond.methodLink RL 102 yL_scale) ∈ wsL_law := zk_t3 (List.mem_of_getElem? (i := 112) rfl) rfl
theorem zk_t3_113 : (Cond.static yL_scale) ∈ wsL_law := zk_t3 (List.mem_of_getElem? (i := 113) rfl) rfl
theorem zk_t3_114 : (Cond.codeWith yL_scale cL_scale 4 (some .int) [(0, 6, 9, 21), (0, 6, 12, 13), (0, 6, 15, 15)]) ∈ wsL_law := zk_t3 (List.mem_of_getElem? (i := 114) rfl) rfl
theorem zk_t5_31 : (Cond.methodLink RL 105 yX7_scale) ∈ wsL_law := zk_t5 (List.mem_of_getElem? (i := 31) rfl) rfl
theorem zk_t5_32 : (Cond.instanceMethod yX7_scale) ∈ wsL_law := zk_t5 (List.mem_of_getElem? (i := 32) rfl) rfl
theorem zk_t5_33 : (Cond.selects RX7 yX7_scale yX7_scale) ∈ wsL_law := zk_t5 (List.mem_of_getElem? (i := 33) rfl) rfl
theorem zk_t5_34 : (Cond.code yX7_scale cX7_scale 6 none) ∈ wsL_law := zk_t5 (List.mem_of_getElem? (i := 34) rfl) rfl
theorem zk_t3_129 : (Cond.methodLink RL 106 yL_bound) ∈ wsL_law := zk_t3 (List.mem_of_getElem? (i := 129) rfl) rfl
theorem zk_t3_130 : (Cond.static yL_bound) ∈ wsL_law := zk_t3 (List.mem_of_getElem? (i := 130) rfl) rfl
theorem zk_t3_131 : (Cond.codeWith yL_bound cL_bound 4 (some .int) [(0, 9, 12, 13)]) ∈ wsL_law := zk_t3 (List.mem_of_getElem? (i := 131) rfl) rfl
theorem zk_t5_35 : (Cond.methodLink RL 109 yX7_bound) ∈ wsL_law := zk_t5 (List.mem_of_getElem? (i := 35) rfl) rfl
theorem zk_t5_36 : (Cond.instanceMethod yX7_bound) ∈ wsL_law := zk_t5 (List.mem_of_getElem? (i := 36) rfl) rfl
theorem zk_t5_37 : (Cond.selects RX7 yX7_bound yX7_bound) ∈ wsL_law := zk_t5 (List.mem_of_getElem? (i := 37) rfl) rfl
theorem zk_t5_38 : (Cond.code yX7_bound cX7_bound 3 (some .int)) ∈ wsL_law := zk_t5 (List.mem_of_getElem? (i := 38) rfl) rfl
theorem zk_t1_178 : (Cond.methodLink RL 110 yX6_commands) ∈ wsL_law := zk_t1 (List.mem_of_getElem? (i := 178) rfl) rfl
theorem zk_t1_179 : (Cond.instanceMethod yX6_commands) ∈ wsL_law := zk_t1 (List.mem_of_getElem? (i := 179) rfl) rfl
theorem zk_t1_180 : (Cond.selects RX6 yX6_commands yX6_commands) ∈ wsL_law := zk_t1 (List.mem_of_getElem? (i := 180) rfl) rfl
theorem zk_t1_181 : (Cond.code yX6_commands cX6_commands 1 (some .int)) ∈ wsL_law := zk_t1 (List.mem_of_getElem? (i := 181) rfl) rfl
theorem zk_t5_39 : (Cond.methodLink RL 113 yX7_commands) ∈ wsL_law := zk_t5 (List.mem_of_getElem? (i := 39) rfl) rfl
theorem zk_t5_40 : (Cond.instanceMethod yX7_commands) ∈ wsL_law := zk_t5 (List.mem_of_getElem? (i := 40) rfl) rfl
theorem zk_t5_41 : (Cond.selects RX7 yX7_commands yX7_commands) ∈ wsL_law := zk_t5 (List.mem_of_getElem? (i := 41) rfl) rfl
theorem zk_t5_42 : (Cond.code yX7_commands cX7_commands 1 (some .int)) ∈ wsL_law := zk_t5 (List.mem_of_getElem? (i := 42) rfl) rfl
theorem zk_t3_137 : (Cond.methodLink RL 114 yL_ofCommand) ∈ wsL_law := zk_t3 (List.mem_of_getElem? (i := 137) rfl) rfl
theorem zk_t3_138 : (Cond.static yL_ofCommand) ∈ wsL_law := zk_t3 (List.mem_of_getElem? (i := 138) rfl) rfl
theorem zk_t3_139 : (Cond.codeWith yL_ofCommand cL_ofCommand 5 (some .int) [(0, 10, 13, 21), (0, 10, 17, 13)]) ∈ wsL_law := zk_t3 (List.mem_of_getElem? (i := 139) rfl) rfl
theorem zk_t5_103 : (Cond.methodLink RL 117 yX7_ofCommand) ∈ wsL_law := zk_t5 (List.mem_of_getElem? (i := 103) rfl) rfl
theorem zk_t5_104 : (Cond.instanceMethod yX7_ofCommand) ∈ wsL_law := zk_t5 (List.mem_of_getElem? (i := 104) rfl) rfl
theorem zk_t5_105 : (Cond.selects RX7 yX7_ofCommand yX7_ofCommand) ∈ wsL_law := zk_t5 (List.mem_of_getElem? (i := 105) rfl) rfl
theorem zk_t5_106 : (Cond.code yX7_ofCommand cX7_ofCommand 3 (some .int)) ∈ wsL_law := zk_t5 (List.mem_of_getElem? (i := 106) rfl) rfl
theorem zk_t3_150 : (Cond.methodLink RL 118 yL_count) ∈ wsL_law := zk_t3 (List.mem_of_getElem? (i := 150) rfl) rfl
theorem zk_t3_151 : (Cond.static yL_count) ∈ wsL_law := zk_t3 (List.mem_of_getElem? (i := 151) rfl) rfl
theorem zk_t3_152 : (Cond.codeWith yL_count cL_count 4 (some .int) [(0, 9, 12, 13)]) ∈ wsL_law := zk_t3 (List.mem_of_getElem? (i := 152) rfl) rfl
theorem zk_t5_107 : (Cond.methodLink RL 120 yX7_count) ∈ wsL_law := zk_t5 (List.mem_of_getElem? (i := 107) rfl) rfl
theorem zk_t5_108 : (Cond.instanceMethod yX7_count) ∈ wsL_law := zk_t5 (List.mem_of_getElem? (i := 108) rfl) rfl
theorem zk_t5_109 : (Cond.selects RX7 yX7_count yX7_count) ∈ wsL_law := zk_t5 (List.mem_of_getElem? (i := 109) rfl) rfl
theorem zk_t5_110 : (Cond.code yX7_count cX7_count 4 (some .int)) ∈ wsL_law := zk_t5 (List.mem_of_getElem? (i := 110) rfl) rfl
theorem zk_t2_71 : (Cond.methodLink RL 121 yX6_time) ∈ wsL_law := zk_t2 (List.mem_of_getElem? (i := 71) rfl) rfl
theorem zk_t2_72 : (Cond.instanceMethod yX6_time) ∈ wsL_law := zk_t2 (List.mem_of_getElem? (i := 72) rfl) rfl
theorem zk_t2_73 : (Cond.selects RX6 yX6_time yX6_time) ∈ wsL_law := zk_t2 (List.mem_of_getElem? (i := 73) rfl) rfl
theorem zk_t2_74 : (Cond.code yX6_time cX6_time 1 (some .float)) ∈ wsL_law := zk_t2 (List.mem_of_getElem? (i := 74) rfl) rfl
theorem zk_t5_111 : (Cond.methodLink RL 125 yX7_time) ∈ wsL_law := zk_t5 (List.mem_of_getElem? (i := 111) rfl) rfl
theorem zk_t5_112 : (Cond.instanceMethod yX7_time) ∈ wsL_law := zk_t5 (List.mem_of_getElem? (i := 112) rfl) rfl
theorem zk_t5_113 : (Cond.selects RX7 yX7_time yX7_time) ∈ wsL_law := zk_t5 (List.mem_of_getElem? (i := 113) rfl) rfl
theorem zk_t5_114 : (Cond.code yX7_time cX7_time 3 (some .float)) ∈ wsL_law := zk_t5 (List.mem_of_getElem? (i := 114) rfl) rfl
theorem zk_t3_158 : (Cond.methodLink RL 126 yL_thread) ∈ wsL_law := zk_t3 (List.mem_of_getElem? (i := 158) rfl) rfl
theorem zk_t3_159 : (Cond.static yL_thread) ∈ wsL_law := zk_t3 (List.mem_of_getElem? (i := 159) rfl) rfl
theorem zk_t3_160 : (Cond.codeWith yL_thread cL_thread 4 (some .int) [(0, 9, 12, 13)]) ∈ wsL_law := zk_t3 (List.mem_of_getElem? (i := 160) rfl) rfl
theorem zk_t5_124 : (Cond.methodLink RL 128 yX7_thread) ∈ wsL_law := zk_t5 (List.mem_of_getElem? (i := 124) rfl) rfl
theorem zk_t5_125 : (Cond.instanceMethod yX7_thread) ∈ wsL_law := zk_t5 (List.mem_of_getElem? (i := 125) rfl) rfl
theorem zk_t5_126 : (Cond.selects RX7 yX7_thread yX7_thread) ∈ wsL_law := zk_t5 (List.mem_of_getElem? (i := 126) rfl) rfl
theorem zk_t5_127 : (Cond.code yX7_thread cX7_thread 5 (some .int)) ∈ wsL_law := zk_t5 (List.mem_of_getElem? (i := 127) rfl) rfl
theorem zk_t3_165 : (Cond.methodLink RL 129 yL_covered) ∈ wsL_law := zk_t3 (List.mem_of_getElem? (i := 165) rfl) rfl
theorem zk_t3_166 : (Cond.static yL_covered) ∈ wsL_law := zk_t3 (List.mem_of_getElem? (i := 166) rfl) rfl
theorem zk_t3_167 : (Cond.codeWith yL_covered cL_covered 4 (some .int) [(0, 9, 12, 21)]) ∈ wsL_law := zk_t3 (List.mem_of_getElem? (i := 167) rfl) rfl
theorem zk_t5_131 : (Cond.methodLink RL 132 yX7_covered) ∈ wsL_law := zk_t5 (List.mem_of_getElem? (i := 131) rfl) rfl
theorem zk_t5_132 : (Cond.instanceMethod yX7_covered) ∈ wsL_law := zk_t5 (List.mem_of_getElem? (i := 132) rfl) rfl
theorem zk_t5_133 : (Cond.selects RX7 yX7_covered yX7_covered) ∈ wsL_law := zk_t5 (List.mem_of_getElem? (i := 133) rfl) rfl
theorem zk_t5_134 : (Cond.code yX7_covered cX7_covered 9 (some .float)) ∈ wsL_law := zk_t5 (List.mem_of_getElem? (i := 134) rfl) rfl
theorem zk_t3_204 : (Cond.methodLink RL 133 yL_touched) ∈ wsL_law := zk_t3 (List.mem_of_getElem? (i := 204) rfl) rfl
theorem zk_t3_205 : (Cond.static yL_touched) ∈ wsL_law := zk_t3 (List.mem_of_getElem? (i := 205) rfl) rfl
theorem zk_t3_206 : (Cond.codeWith yL_touched cL_touched 4 (some .int) [(0, 9, 12, 21)]) ∈ wsL_law := zk_t3 (List.mem_of_getElem? (i := 206) rfl) rfl
theorem zk_t5_147 : (Cond.methodLink RL 135 yX7_touched) ∈ wsL_law := zk_t5 (List.mem_of_getElem? (i := 147) rfl) rfl
theorem zk_t5_148 : (Cond.instanceMethod yX7_touched) ∈ wsL_law := zk_t5 (List.mem_of_getElem? (i := 148) rfl) rfl
theorem zk_t5_149 : (Cond.selects RX7 yX7_touched yX7_touched) ∈ wsL_law := zk_t5 (List.mem_of_getElem? (i := 149) rfl) rfl
theorem zk_t5_150 : (Cond.code yX7_touched cX7_touched 2 (some .int)) ∈ wsL_law := zk_t5 (List.mem_of_getElem? (i := 150) rfl) rfl
theorem zk_t3_211 : (Cond.methodLink RL 136 yL_write) ∈ wsL_law := zk_t3 (List.mem_of_getElem? (i := 211) rfl) rfl
theorem zk_t3_212 : (Cond.static yL_write) ∈ wsL_law := zk_t3 (List.mem_of_getElem? (i := 212) rfl) rfl
theorem zk_t3_213 : (Cond.codeWith yL_write cL_write 4 (some .int) [(0, 9, 12, 13)]) ∈ wsL_law := zk_t3 (List.mem_of_getElem? (i := 213) rfl) rfl
theorem zk_t5_151 : (Cond.methodLink RL 138 yX7_write) ∈ wsL_law := zk_t5 (List.mem_of_getElem? (i := 151) rfl) rfl
theorem zk_t5_152 : (Cond.instanceMethod yX7_write) ∈ wsL_law := zk_t5 (List.mem_of_getElem? (i := 152) rfl) rfl
theorem zk_t5_153 : (Cond.selects RX7 yX7_write yX7_write) ∈ wsL_law := zk_t5 (List.mem_of_getElem? (i := 153) rfl) rfl
theorem zk_t5_154 : (Cond.code yX7_write cX7_write 8 (some .int)) ∈ wsL_law := zk_t5 (List.mem_of_getElem? (i := 154) rfl) rfl
theorem zk_t3_239 : (Cond.methodLink RL 139 yL_byteAt) ∈ wsL_law := zk_t3 (List.mem_of_getElem? (i := 239) rfl) rfl
theorem zk_t4_0 : (Cond.static yL_byteAt) ∈ wsL_law := zk_t4 (List.mem_of_getElem? (i := 0) rfl) rfl
theorem zk_t4_1 : (Cond.codeWith yL_byteAt cL_byteAt 4 (some .int) [(0, 9, 12, 21)]) ∈ wsL_law := zk_t4 (List.mem_of_getElem? (i := 1) rfl) rfl
theorem zk_t5_166 : (Cond.methodLink RL 141 yX7_byteAt) ∈ wsL_law := zk_t5 (List.mem_of_getElem? (i := 166) rfl) rfl
theorem zk_t5_167 : (Cond.instanceMethod yX7_byteAt) ∈ wsL_law := zk_t5 (List.mem_of_getElem? (i := 167) rfl) rfl
theorem zk_t5_168 : (Cond.selects RX7 yX7_byteAt yX7_byteAt) ∈ wsL_law := zk_t5 (List.mem_of_getElem? (i := 168) rfl) rfl
theorem zk_t5_169 : (Cond.code yX7_byteAt cX7_byteAt 2 (some .int)) ∈ wsL_law := zk_t5 (List.mem_of_getElem? (i := 169) rfl) rfl
theorem zk_t4_8 : (Cond.methodLink RL 142 yL_damage) ∈ wsL_law := zk_t4 (List.mem_of_getElem? (i := 8) rfl) rfl
theorem zk_t4_9 : (Cond.static yL_damage) ∈ wsL_law := zk_t4 (List.mem_of_getElem? (i := 9) rfl) rfl
theorem zk_t4_10 : (Cond.codeWith yL_damage cL_damage 5 (some .int) [(0, 10, 13, 21), (0, 10, 17, 13)]) ∈ wsL_law := zk_t4 (List.mem_of_getElem? (i := 10) rfl) rfl
theorem zk_t5_170 : (Cond.methodLink RL 144 yX7_damage) ∈ wsL_law := zk_t5 (List.mem_of_getElem? (i := 170) rfl) rfl
theorem zk_t5_171 : (Cond.instanceMethod yX7_damage) ∈ wsL_law := zk_t5 (List.mem_of_getElem? (i := 171) rfl) rfl
theorem zk_t5_172 : (Cond.selects RX7 yX7_damage yX7_damage) ∈ wsL_law := zk_t5 (List.mem_of_getElem? (i := 172) rfl) rfl
theorem zk_t5_173 : (Cond.code yX7_damage cX7_damage 4 (some .int)) ∈ wsL_law := zk_t5 (List.mem_of_getElem? (i := 173) rfl) rfl
theorem zk_t4_16 : (Cond.methodLink RL 145 yL_shorten) ∈ wsL_law := zk_t4 (List.mem_of_getElem? (i := 16) rfl) rfl
theorem zk_t4_17 : (Cond.static yL_shorten) ∈ wsL_law := zk_t4 (List.mem_of_getElem? (i := 17) rfl) rfl
theorem zk_t4_18 : (Cond.codeWith yL_shorten cL_shorten 4 (some .int) [(0, 9, 12, 13)]) ∈ wsL_law := zk_t4 (List.mem_of_getElem? (i := 18) rfl) rfl
theorem zk_t5_174 : (Cond.methodLink RL 147 yX7_shorten) ∈ wsL_law := zk_t5 (List.mem_of_getElem? (i := 174) rfl) rfl
theorem zk_t5_175 : (Cond.instanceMethod yX7_shorten) ∈ wsL_law := zk_t5 (List.mem_of_getElem? (i := 175) rfl) rfl
theorem zk_t5_176 : (Cond.selects RX7 yX7_shorten yX7_shorten) ∈ wsL_law := zk_t5 (List.mem_of_getElem? (i := 176) rfl) rfl
theorem zk_t5_177 : (Cond.code yX7_shorten cX7_shorten 3 (some .int)) ∈ wsL_law := zk_t5 (List.mem_of_getElem? (i := 177) rfl) rfl
theorem zk_t2_75 : (Cond.methodLink RL 148 yX6_fault) ∈ wsL_law := zk_t2 (List.mem_of_getElem? (i := 75) rfl) rfl
theorem zk_t2_76 : (Cond.instanceMethod yX6_fault) ∈ wsL_law := zk_t2 (List.mem_of_getElem? (i := 76) rfl) rfl
theorem zk_t2_77 : (Cond.selects RX6 yX6_fault yX6_fault) ∈ wsL_law := zk_t2 (List.mem_of_getElem? (i := 77) rfl) rfl
theorem zk_t2_78 : (Cond.code yX6_fault cX6_fault 1 (some .int)) ∈ wsL_law := zk_t2 (List.mem_of_getElem? (i := 78) rfl) rfl
theorem zk_t5_178 : (Cond.methodLink RL 151 yX7_fault) ∈ wsL_law := zk_t5 (List.mem_of_getElem? (i := 178) rfl) rfl
theorem zk_t5_179 : (Cond.instanceMethod yX7_fault) ∈ wsL_law := zk_t5 (List.mem_of_getElem? (i := 179) rfl) rfl
theorem zk_t5_180 : (Cond.selects RX7 yX7_fault yX7_fault) ∈ wsL_law := zk_t5 (List.mem_of_getElem? (i := 180) rfl) rfl
theorem zk_t5_181 : (Cond.code yX7_fault cX7_fault 1 (some .int)) ∈ wsL_law := zk_t5 (List.mem_of_getElem? (i := 181) rfl) rfl
theorem zk_t2_116 : (Cond.methodLink RL 152 yX6_reads) ∈ wsL_law := zk_t2 (List.mem_of_getElem? (i := 116) rfl) rfl
theorem zk_t2_117 : (Cond.instanceMethod yX6_reads) ∈ wsL_law := zk_t2 (List.mem_of_getElem? (i := 117) rfl) rfl
theorem zk_t2_118 : (Cond.selects RX6 yX6_reads yX6_reads) ∈ wsL_law := zk_t2 (List.mem_of_getElem? (i := 118) rfl) rfl
theorem zk_t2_119 : (Cond.code yX6_reads cX6_reads 1 (some .int)) ∈ wsL_law := zk_t2 (List.mem_of_getElem? (i := 119) rfl) rfl
theorem zk_t5_193 : (Cond.methodLink RL 155 yX7_reads) ∈ wsL_law := zk_t5 (List.mem_of_getElem? (i := 193) rfl) rfl
theorem zk_t5_194 : (Cond.instanceMethod yX7_reads) ∈ wsL_law := zk_t5 (List.mem_of_getElem? (i := 194) rfl) rfl
theorem zk_t5_195 : (Cond.selects RX7 yX7_reads yX7_reads) ∈ wsL_law := zk_t5 (List.mem_of_getElem? (i := 195) rfl) rfl
theorem zk_t5_196 : (Cond.code yX7_reads cX7_reads 2 (some .int)) ∈ wsL_law := zk_t5 (List.mem_of_getElem? (i := 196) rfl) rfl
theorem zk_t4_24 : (Cond.methodLink RL 156 yL_start) ∈ wsL_law := zk_t4 (List.mem_of_getElem? (i := 24) rfl) rfl
theorem zk_t4_25 : (Cond.static yL_start) ∈ wsL_law := zk_t4 (List.mem_of_getElem? (i := 25) rfl) rfl
theorem zk_t4_26 : (Cond.codeWith yL_start cL_start 4 (some .int) [(0, 6, 9, 13)]) ∈ wsL_law := zk_t4 (List.mem_of_getElem? (i := 26) rfl) rfl
theorem zk_t5_197 : (Cond.methodLink RL 158 yX7_start) ∈ wsL_law := zk_t5 (List.mem_of_getElem? (i := 197) rfl) rfl
theorem zk_t5_198 : (Cond.instanceMethod yX7_start) ∈ wsL_law := zk_t5 (List.mem_of_getElem? (i := 198) rfl) rfl
theorem zk_t5_199 : (Cond.selects RX7 yX7_start yX7_start) ∈ wsL_law := zk_t5 (List.mem_of_getElem? (i := 199) rfl) rfl
theorem zk_t5_200 : (Cond.code yX7_start cX7_start 4 none) ∈ wsL_law := zk_t5 (List.mem_of_getElem? (i := 200) rfl) rfl
theorem zk_t4_38 : (Cond.methodLink RL 159 yL_run) ∈ wsL_law := zk_t4 (List.mem_of_getElem? (i := 38) rfl) rfl
theorem zk_t4_39 : (Cond.static yL_run) ∈ wsL_law := zk_t4 (List.mem_of_getElem? (i := 39) rfl) rfl
theorem zk_t4_40 : (Cond.codeWith yL_run cL_run 4 (some .int) [(0, 9, 12, 13), (0, 9, 15, 15)]) ∈ wsL_law := zk_t4 (List.mem_of_getElem? (i := 40) rfl) rfl
theorem zk_t5_201 : (Cond.methodLink RL 161 yX7_run) ∈ wsL_law := zk_t5 (List.mem_of_getElem? (i := 201) rfl) rfl
theorem zk_t5_202 : (Cond.instanceMethod yX7_run) ∈ wsL_law := zk_t5 (List.mem_of_getElem? (i := 202) rfl) rfl
theorem zk_t5_203 : (Cond.selects RX7 yX7_run yX7_run) ∈ wsL_law := zk_t5 (List.mem_of_getElem? (i := 203) rfl) rfl
theorem zk_t5_204 : (Cond.code yX7_run cX7_run 4 (some .int)) ∈ wsL_law := zk_t5 (List.mem_of_getElem? (i := 204) rfl) rfl
theorem zk_t4_71 : (Cond.methodLink RL 162 yL_breaks) ∈ wsL_law := zk_t4 (List.mem_of_getElem? (i := 71) rfl) rfl
theorem zk_t4_72 : (Cond.static yL_breaks) ∈ wsL_law := zk_t4 (List.mem_of_getElem? (i := 72) rfl) rfl
theorem zk_t4_73 : (Cond.codeWith yL_breaks cL_breaks 3 (some .int) [(0, 5, 8, 21), (0, 5, 11, 15)]) ∈ wsL_law := zk_t4 (List.mem_of_getElem? (i := 73) rfl) rfl
theorem zk_t5_213 : (Cond.methodLink RL 165 yX7_breaks) ∈ wsL_law := zk_t5 (List.mem_of_getElem? (i := 213) rfl) rfl
theorem zk_t5_214 : (Cond.instanceMethod yX7_breaks) ∈ wsL_law := zk_t5 (List.mem_of_getElem? (i := 214) rfl) rfl
theorem zk_t5_215 : (Cond.selects RX7 yX7_breaks yX7_breaks) ∈ wsL_law := zk_t5 (List.mem_of_getElem? (i := 215) rfl) rfl
theorem zk_t5_216 : (Cond.code yX7_breaks cX7_breaks 2 none) ∈ wsL_law := zk_t5 (List.mem_of_getElem? (i := 216) rfl) rfl
theorem zk_t4_85 : (Cond.methodLink RL 166 yL_mend) ∈ wsL_law := zk_t4 (List.mem_of_getElem? (i := 85) rfl) rfl
theorem zk_t4_86 : (Cond.static yL_mend) ∈ wsL_law := zk_t4 (List.mem_of_getElem? (i := 86) rfl) rfl
theorem zk_t4_87 : (Cond.codeWith yL_mend cL_mend 4 (some .int) [(0, 9, 12, 21), (0, 9, 15, 15)]) ∈ wsL_law := zk_t4 (List.mem_of_getElem? (i := 87) rfl) rfl
theorem zk_t5_221 : (Cond.methodLink RL 168 yX7_mend) ∈ wsL_law := zk_t5 (List.mem_of_getElem? (i := 221) rfl) rfl
theorem zk_t5_222 : (Cond.instanceMethod yX7_mend) ∈ wsL_law := zk_t5 (List.mem_of_getElem? (i := 222) rfl) rfl
theorem zk_t5_223 : (Cond.selects RX7 yX7_mend yX7_mend) ∈ wsL_law := zk_t5 (List.mem_of_getElem? (i := 223) rfl) rfl
theorem zk_t5_224 : (Cond.code yX7_mend cX7_mend 4 (some .int)) ∈ wsL_law := zk_t5 (List.mem_of_getElem? (i := 224) rfl) rfl
theorem zk_t4_99 : (Cond.methodLink RL 169 yL_sewn) ∈ wsL_law := zk_t4 (List.mem_of_getElem? (i := 99) rfl) rfl
theorem zk_t4_100 : (Cond.static yL_sewn) ∈ wsL_law := zk_t4 (List.mem_of_getElem? (i := 100) rfl) rfl
theorem zk_t4_101 : (Cond.codeWith yL_sewn cL_sewn 4 (some .int) [(0, 9, 12, 21)]) ∈ wsL_law := zk_t4 (List.mem_of_getElem? (i := 101) rfl) rfl
theorem zk_t5_225 : (Cond.methodLink RL 171 yX7_sewn) ∈ wsL_law := zk_t5 (List.mem_of_getElem? (i := 225) rfl) rfl
theorem zk_t5_226 : (Cond.instanceMethod yX7_sewn) ∈ wsL_law := zk_t5 (List.mem_of_getElem? (i := 226) rfl) rfl
theorem zk_t5_227 : (Cond.selects RX7 yX7_sewn yX7_sewn) ∈ wsL_law := zk_t5 (List.mem_of_getElem? (i := 227) rfl) rfl
theorem zk_t5_228 : (Cond.code yX7_sewn cX7_sewn 2 (some .int)) ∈ wsL_law := zk_t5 (List.mem_of_getElem? (i := 228) rfl) rfl
theorem zk_t3_28 : (Cond.laysFinal RX0 "Stitchpath$Field" "colour" "I") ∈ wsL_law := zk_t3 (List.mem_of_getElem? (i := 28) rfl) rfl
theorem zk_t3_30 : (Cond.laysFinal RX0 "Stitchpath$Field" "layer" "I") ∈ wsL_law := zk_t3 (List.mem_of_getElem? (i := 30) rfl) rfl
theorem zk_t3_32 : (Cond.laysFinal RX0 "Stitchpath$Field" "column" "Z") ∈ wsL_law := zk_t3 (List.mem_of_getElem? (i := 32) rfl) rfl
theorem zk_t3_34 : (Cond.laysFinal RX0 "Stitchpath$Field" "cornerXs" "[I") ∈ wsL_law := zk_t3 (List.mem_of_getElem? (i := 34) rfl) rfl
theorem zk_t3_36 : (Cond.laysFinal RX0 "Stitchpath$Field" "cornerYs" "[I") ∈ wsL_law := zk_t3 (List.mem_of_getElem? (i := 36) rfl) rfl
theorem zk_t3_38 : (Cond.laysFinal RX0 "Stitchpath$Field" "crossings" "[I") ∈ wsL_law := zk_t3 (List.mem_of_getElem? (i := 38) rfl) rfl
theorem zk_t3_40 : (Cond.laysFinal RX0 "Stitchpath$Field" "points" "LStitchpath$Points;") ∈ wsL_law := zk_t3 (List.mem_of_getElem? (i := 40) rfl) rfl
theorem zk_t3_42 : (Cond.lays RX0 "Stitchpath$Field" "cornerCount" "I") ∈ wsL_law := zk_t3 (List.mem_of_getElem? (i := 42) rfl) rfl
theorem zk_t3_44 : (Cond.lays RX0 "Stitchpath$Field" "crossingCount" "I") ∈ wsL_law := zk_t3 (List.mem_of_getElem? (i := 44) rfl) rfl
theorem zk_t3_46 : (Cond.lays RX0 "Stitchpath$Field" "density" "I") ∈ wsL_law := zk_t3 (List.mem_of_getElem? (i := 46) rfl) rfl
theorem zk_t3_48 : (Cond.lays RX0 "Stitchpath$Field" "length" "I") ∈ wsL_law := zk_t3 (List.mem_of_getElem? (i := 48) rfl) rfl
theorem zk_t3_50 : (Cond.lays RX0 "Stitchpath$Field" "shift" "I") ∈ wsL_law := zk_t3 (List.mem_of_getElem? (i := 50) rfl) rfl
theorem zk_t3_52 : (Cond.lays RX0 "Stitchpath$Field" "pull" "I") ∈ wsL_law := zk_t3 (List.mem_of_getElem? (i := 52) rfl) rfl
theorem zk_t3_54 : (Cond.lays RX0 "Stitchpath$Field" "underlay" "Z") ∈ wsL_law := zk_t3 (List.mem_of_getElem? (i := 54) rfl) rfl
theorem zk_t3_56 : (Cond.lays RX0 "Stitchpath$Field" "drawn" "Z") ∈ wsL_law := zk_t3 (List.mem_of_getElem? (i := 56) rfl) rfl
theorem zk_t1_133 : (Cond.laysFinal RX1 "Stitchpath$Machine" "stitchesAhead" "[I") ∈ wsL_law := zk_t1 (List.mem_of_getElem? (i := 133) rfl) rfl
theorem zk_t1_135 : (Cond.laysFinal RX1 "Stitchpath$Machine" "broken" "[Z") ∈ wsL_law := zk_t1 (List.mem_of_getElem? (i := 135) rfl) rfl
theorem zk_t1_137 : (Cond.laysFinal RX1 "Stitchpath$Machine" "brokeAt" "[I") ∈ wsL_law := zk_t1 (List.mem_of_getElem? (i := 137) rfl) rfl
theorem zk_t1_139 : (Cond.laysFinal RX1 "Stitchpath$Machine" "stitches" "[I") ∈ wsL_law := zk_t1 (List.mem_of_getElem? (i := 139) rfl) rfl
theorem zk_t1_141 : (Cond.lays RX1 "Stitchpath$Machine" "headCount" "I") ∈ wsL_law := zk_t1 (List.mem_of_getElem? (i := 141) rfl) rfl
theorem zk_t1_143 : (Cond.lays RX1 "Stitchpath$Machine" "late" "I") ∈ wsL_law := zk_t1 (List.mem_of_getElem? (i := 143) rfl) rfl
theorem zk_t1_145 : (Cond.lays RX1 "Stitchpath$Machine" "commandCount" "I") ∈ wsL_law := zk_t1 (List.mem_of_getElem? (i := 145) rfl) rfl
theorem zk_t1_147 : (Cond.lays RX1 "Stitchpath$Machine" "place" "I") ∈ wsL_law := zk_t1 (List.mem_of_getElem? (i := 147) rfl) rfl
theorem zk_t1_105 : (Cond.laysFinal RX2 "Stitchpath$Pattern" "bytes" "[I") ∈ wsL_law := zk_t1 (List.mem_of_getElem? (i := 105) rfl) rfl
theorem zk_t1_107 : (Cond.lays RX2 "Stitchpath$Pattern" "size" "I") ∈ wsL_law := zk_t1 (List.mem_of_getElem? (i := 107) rfl) rfl
theorem zk_t1_109 : (Cond.lays RX2 "Stitchpath$Pattern" "format" "I") ∈ wsL_law := zk_t1 (List.mem_of_getElem? (i := 109) rfl) rfl
theorem zk_t1_111 : (Cond.lays RX2 "Stitchpath$Pattern" "faultPlace" "I") ∈ wsL_law := zk_t1 (List.mem_of_getElem? (i := 111) rfl) rfl
theorem zk_t1_113 : (Cond.lays RX2 "Stitchpath$Pattern" "stitchesRead" "I") ∈ wsL_law := zk_t1 (List.mem_of_getElem? (i := 113) rfl) rfl
theorem zk_t1_50 : (Cond.laysFinal RX3 "Stitchpath$Plan" "kinds" "[I") ∈ wsL_law := zk_t1 (List.mem_of_getElem? (i := 50) rfl) rfl
theorem zk_t1_52 : (Cond.laysFinal RX3 "Stitchpath$Plan" "differencesX" "[I") ∈ wsL_law := zk_t1 (List.mem_of_getElem? (i := 52) rfl) rfl
theorem zk_t1_54 : (Cond.laysFinal RX3 "Stitchpath$Plan" "differencesY" "[I") ∈ wsL_law := zk_t1 (List.mem_of_getElem? (i := 54) rfl) rfl
theorem zk_t1_56 : (Cond.laysFinal RX3 "Stitchpath$Plan" "owners" "[I") ∈ wsL_law := zk_t1 (List.mem_of_getElem? (i := 56) rfl) rfl
theorem zk_t1_58 : (Cond.laysFinal RX3 "Stitchpath$Plan" "kindCounts" "[I") ∈ wsL_law := zk_t1 (List.mem_of_getElem? (i := 58) rfl) rfl
theorem zk_t1_60 : (Cond.laysFinal RX3 "Stitchpath$Plan" "threads" "[I") ∈ wsL_law := zk_t1 (List.mem_of_getElem? (i := 60) rfl) rfl
theorem zk_t1_62 : (Cond.lays RX3 "Stitchpath$Plan" "size" "I") ∈ wsL_law := zk_t1 (List.mem_of_getElem? (i := 62) rfl) rfl
theorem zk_t1_64 : (Cond.lays RX3 "Stitchpath$Plan" "seconds" "F") ∈ wsL_law := zk_t1 (List.mem_of_getElem? (i := 64) rfl) rfl
theorem zk_t1_66 : (Cond.lays RX3 "Stitchpath$Plan" "needleX" "I") ∈ wsL_law := zk_t1 (List.mem_of_getElem? (i := 66) rfl) rfl
theorem zk_t1_68 : (Cond.lays RX3 "Stitchpath$Plan" "needleY" "I") ∈ wsL_law := zk_t1 (List.mem_of_getElem? (i := 68) rfl) rfl
theorem zk_t1_70 : (Cond.lays RX3 "Stitchpath$Plan" "colour" "I") ∈ wsL_law := zk_t1 (List.mem_of_getElem? (i := 70) rfl) rfl
theorem zk_t2_238 : (Cond.laysFinal RX4 "Stitchpath$Points" "xs" "[I") ∈ wsL_law := zk_t2 (List.mem_of_getElem? (i := 238) rfl) rfl
theorem zk_t3_0 : (Cond.laysFinal RX4 "Stitchpath$Points" "ys" "[I") ∈ wsL_law := zk_t3 (List.mem_of_getElem? (i := 0) rfl) rfl
theorem zk_t3_2 : (Cond.lays RX4 "Stitchpath$Points" "size" "I") ∈ wsL_law := zk_t3 (List.mem_of_getElem? (i := 2) rfl) rfl
theorem zk_t1_84 : (Cond.laysFinal RX5 "Stitchpath$Raster" "cells" "[Z") ∈ wsL_law := zk_t1 (List.mem_of_getElem? (i := 84) rfl) rfl
theorem zk_t1_86 : (Cond.lays RX5 "Stitchpath$Raster" "cellCount" "I") ∈ wsL_law := zk_t1 (List.mem_of_getElem? (i := 86) rfl) rfl
theorem zk_t1_159 : (Cond.laysFinal RX6 "Stitchpath" "fields" "[LStitchpath$Field;") ∈ wsL_law := zk_t1 (List.mem_of_getElem? (i := 159) rfl) rfl
theorem zk_t1_161 : (Cond.laysFinal RX6 "Stitchpath" "waiting" "[Z") ∈ wsL_law := zk_t1 (List.mem_of_getElem? (i := 161) rfl) rfl
theorem zk_t1_163 : (Cond.laysFinal RX6 "Stitchpath" "plan" "LStitchpath$Plan;") ∈ wsL_law := zk_t1 (List.mem_of_getElem? (i := 163) rfl) rfl
theorem zk_t1_165 : (Cond.laysFinal RX6 "Stitchpath" "raster" "LStitchpath$Raster;") ∈ wsL_law := zk_t1 (List.mem_of_getElem? (i := 165) rfl) rfl
theorem zk_t1_167 : (Cond.laysFinal RX6 "Stitchpath" "pattern" "LStitchpath$Pattern;") ∈ wsL_law := zk_t1 (List.mem_of_getElem? (i := 167) rfl) rfl
theorem zk_t1_169 : (Cond.laysFinal RX6 "Stitchpath" "machine" "LStitchpath$Machine;") ∈ wsL_law := zk_t1 (List.mem_of_getElem? (i := 169) rfl) rfl
theorem zk_t1_171 : (Cond.lays RX6 "Stitchpath" "fieldCount" "I") ∈ wsL_law := zk_t1 (List.mem_of_getElem? (i := 171) rfl) rfl
theorem zk_t1_173 : (Cond.lays RX6 "Stitchpath" "trimBound" "I") ∈ wsL_law := zk_t1 (List.mem_of_getElem? (i := 173) rfl) rfl
theorem zk_t1_175 : (Cond.lays RX6 "Stitchpath" "planned" "Z") ∈ wsL_law := zk_t1 (List.mem_of_getElem? (i := 175) rfl) rfl
theorem zk_t4_155 : (Cond.lays RX7 "StitchpathModel" "fields" "I") ∈ wsL_law := zk_t4 (List.mem_of_getElem? (i := 155) rfl) rfl
theorem zk_t4_157 : (Cond.laysFinal RX7 "StitchpathModel" "colour" "[I") ∈ wsL_law := zk_t4 (List.mem_of_getElem? (i := 157) rfl) rfl
theorem zk_t4_159 : (Cond.laysFinal RX7 "StitchpathModel" "layer" "[I") ∈ wsL_law := zk_t4 (List.mem_of_getElem? (i := 159) rfl) rfl
theorem zk_t4_161 : (Cond.laysFinal RX7 "StitchpathModel" "isColumn" "[Z") ∈ wsL_law := zk_t4 (List.mem_of_getElem? (i := 161) rfl) rfl
theorem zk_t4_163 : (Cond.laysFinal RX7 "StitchpathModel" "corners" "[I") ∈ wsL_law := zk_t4 (List.mem_of_getElem? (i := 163) rfl) rfl
theorem zk_t4_165 : (Cond.laysFinal RX7 "StitchpathModel" "cornerX" "[I") ∈ wsL_law := zk_t4 (List.mem_of_getElem? (i := 165) rfl) rfl
theorem zk_t4_167 : (Cond.laysFinal RX7 "StitchpathModel" "cornerY" "[I") ∈ wsL_law := zk_t4 (List.mem_of_getElem? (i := 167) rfl) rfl
theorem zk_t4_169 : (Cond.laysFinal RX7 "StitchpathModel" "density" "[I") ∈ wsL_law := zk_t4 (List.mem_of_getElem? (i := 169) rfl) rfl
theorem zk_t4_171 : (Cond.laysFinal RX7 "StitchpathModel" "longest" "[I") ∈ wsL_law := zk_t4 (List.mem_of_getElem? (i := 171) rfl) rfl
theorem zk_t4_173 : (Cond.laysFinal RX7 "StitchpathModel" "shift" "[I") ∈ wsL_law := zk_t4 (List.mem_of_getElem? (i := 173) rfl) rfl
theorem zk_t4_175 : (Cond.laysFinal RX7 "StitchpathModel" "pull" "[I") ∈ wsL_law := zk_t4 (List.mem_of_getElem? (i := 175) rfl) rfl
theorem zk_t4_177 : (Cond.laysFinal RX7 "StitchpathModel" "hasUnderlay" "[Z") ∈ wsL_law := zk_t4 (List.mem_of_getElem? (i := 177) rfl) rfl
theorem zk_t4_179 : (Cond.lays RX7 "StitchpathModel" "bound" "I") ∈ wsL_law := zk_t4 (List.mem_of_getElem? (i := 179) rfl) rfl
theorem zk_t4_181 : (Cond.laysFinal RX7 "StitchpathModel" "pointX" "[I") ∈ wsL_law := zk_t4 (List.mem_of_getElem? (i := 181) rfl) rfl
theorem zk_t4_183 : (Cond.laysFinal RX7 "StitchpathModel" "pointY" "[I") ∈ wsL_law := zk_t4 (List.mem_of_getElem? (i := 183) rfl) rfl
theorem zk_t4_185 : (Cond.lays RX7 "StitchpathModel" "points" "I") ∈ wsL_law := zk_t4 (List.mem_of_getElem? (i := 185) rfl) rfl
theorem zk_t4_187 : (Cond.laysFinal RX7 "StitchpathModel" "crossing" "[I") ∈ wsL_law := zk_t4 (List.mem_of_getElem? (i := 187) rfl) rfl
theorem zk_t4_189 : (Cond.lays RX7 "StitchpathModel" "crossings" "I") ∈ wsL_law := zk_t4 (List.mem_of_getElem? (i := 189) rfl) rfl
theorem zk_t4_191 : (Cond.lays RX7 "StitchpathModel" "isKnown" "Z") ∈ wsL_law := zk_t4 (List.mem_of_getElem? (i := 191) rfl) rfl
theorem zk_t4_193 : (Cond.lays RX7 "StitchpathModel" "commands" "I") ∈ wsL_law := zk_t4 (List.mem_of_getElem? (i := 193) rfl) rfl
theorem zk_t4_195 : (Cond.laysFinal RX7 "StitchpathModel" "kind" "[I") ∈ wsL_law := zk_t4 (List.mem_of_getElem? (i := 195) rfl) rfl
theorem zk_t4_197 : (Cond.laysFinal RX7 "StitchpathModel" "byX" "[I") ∈ wsL_law := zk_t4 (List.mem_of_getElem? (i := 197) rfl) rfl
theorem zk_t4_199 : (Cond.laysFinal RX7 "StitchpathModel" "byY" "[I") ∈ wsL_law := zk_t4 (List.mem_of_getElem? (i := 199) rfl) rfl
theorem zk_t4_201 : (Cond.laysFinal RX7 "StitchpathModel" "fieldOf" "[I") ∈ wsL_law := zk_t4 (List.mem_of_getElem? (i := 201) rfl) rfl
theorem zk_t4_203 : (Cond.lays RX7 "StitchpathModel" "needleX" "I") ∈ wsL_law := zk_t4 (List.mem_of_getElem? (i := 203) rfl) rfl
theorem zk_t4_205 : (Cond.lays RX7 "StitchpathModel" "needleY" "I") ∈ wsL_law := zk_t4 (List.mem_of_getElem? (i := 205) rfl) rfl
theorem zk_t4_207 : (Cond.laysFinal RX7 "StitchpathModel" "isSewn" "[Z") ∈ wsL_law := zk_t4 (List.mem_of_getElem? (i := 207) rfl) rfl
theorem zk_t4_209 : (Cond.laysFinal RX7 "StitchpathModel" "isTouched" "[Z") ∈ wsL_law := zk_t4 (List.mem_of_getElem? (i := 209) rfl) rfl
theorem zk_t4_211 : (Cond.lays RX7 "StitchpathModel" "hasFile" "Z") ∈ wsL_law := zk_t4 (List.mem_of_getElem? (i := 211) rfl) rfl
theorem zk_t4_213 : (Cond.lays RX7 "StitchpathModel" "format" "I") ∈ wsL_law := zk_t4 (List.mem_of_getElem? (i := 213) rfl) rfl
theorem zk_t4_215 : (Cond.lays RX7 "StitchpathModel" "length" "I") ∈ wsL_law := zk_t4 (List.mem_of_getElem? (i := 215) rfl) rfl
theorem zk_t4_217 : (Cond.laysFinal RX7 "StitchpathModel" "bytes" "[I") ∈ wsL_law := zk_t4 (List.mem_of_getElem? (i := 217) rfl) rfl
theorem zk_t4_219 : (Cond.lays RX7 "StitchpathModel" "heads" "I") ∈ wsL_law := zk_t4 (List.mem_of_getElem? (i := 219) rfl) rfl
theorem zk_t4_221 : (Cond.lays RX7 "StitchpathModel" "late" "I") ∈ wsL_law := zk_t4 (List.mem_of_getElem? (i := 221) rfl) rfl
theorem zk_t4_223 : (Cond.lays RX7 "StitchpathModel" "ran" "I") ∈ wsL_law := zk_t4 (List.mem_of_getElem? (i := 223) rfl) rfl
theorem zk_t4_225 : (Cond.lays RX7 "StitchpathModel" "program" "I") ∈ wsL_law := zk_t4 (List.mem_of_getElem? (i := 225) rfl) rfl
theorem zk_t4_227 : (Cond.laysFinal RX7 "StitchpathModel" "kinds" "[I") ∈ wsL_law := zk_t4 (List.mem_of_getElem? (i := 227) rfl) rfl
theorem zk_t4_229 : (Cond.laysFinal RX7 "StitchpathModel" "brokenAt" "[I") ∈ wsL_law := zk_t4 (List.mem_of_getElem? (i := 229) rfl) rfl
theorem zk_t4_231 : (Cond.laysFinal RX7 "StitchpathModel" "sewn" "[I") ∈ wsL_law := zk_t4 (List.mem_of_getElem? (i := 231) rfl) rfl
theorem zk_t4_233 : (Cond.lays RX7 "StitchpathModel" "thrown" "I") ∈ wsL_law := zk_t4 (List.mem_of_getElem? (i := 233) rfl) rfl
theorem zk_t4_235 : (Cond.lays RX7 "StitchpathModel" "rowY" "I") ∈ wsL_law := zk_t4 (List.mem_of_getElem? (i := 235) rfl) rfl
theorem zk_t4_237 : (Cond.lays RX7 "StitchpathModel" "stitches" "I") ∈ wsL_law := zk_t4 (List.mem_of_getElem? (i := 237) rfl) rfl
theorem inlX0 : ∀ w ∈ u_ws RX0 TX0 15, w ∈ wsL_law := fun w hw => by
  obtain ⟨k, hk, rfl⟩ := List.mem_map.mp hw
  have hk := List.mem_range.mp hk
  exact match k, hk with
  | 0, _ => zk_t3_28
  | 1, _ => zk_t3_30
  | 2, _ => zk_t3_32
  | 3, _ => zk_t3_34
  | 4, _ => zk_t3_36
  | 5, _ => zk_t3_38
  | 6, _ => zk_t3_40
  | 7, _ => zk_t3_42
  | 8, _ => zk_t3_44
  | 9, _ => zk_t3_46
  | 10, _ => zk_t3_48
  | 11, _ => zk_t3_50
  | 12, _ => zk_t3_52
  | 13, _ => zk_t3_54
  | 14, _ => zk_t3_56
  | q + 15, h => absurd h (by omega)
theorem inlX1 : ∀ w ∈ u_ws RX1 TX1 8, w ∈ wsL_law := fun w hw => by
  obtain ⟨k, hk, rfl⟩ := List.mem_map.mp hw
  have hk := List.mem_range.mp hk
  exact match k, hk with
  | 0, _ => zk_t1_133
  | 1, _ => zk_t1_135
  | 2, _ => zk_t1_137
  | 3, _ => zk_t1_139
  | 4, _ => zk_t1_141
  | 5, _ => zk_t1_143
  | 6, _ => zk_t1_145
  | 7, _ => zk_t1_147
  | q + 8, h => absurd h (by omega)
theorem inlX2 : ∀ w ∈ u_ws RX2 TX2 5, w ∈ wsL_law := fun w hw => by
  obtain ⟨k, hk, rfl⟩ := List.mem_map.mp hw
  have hk := List.mem_range.mp hk
  exact match k, hk with
  | 0, _ => zk_t1_105
  | 1, _ => zk_t1_107
  | 2, _ => zk_t1_109
  | 3, _ => zk_t1_111
  | 4, _ => zk_t1_113
  | q + 5, h => absurd h (by omega)
theorem inlX3 : ∀ w ∈ u_ws RX3 TX3 11, w ∈ wsL_law := fun w hw => by
  obtain ⟨k, hk, rfl⟩ := List.mem_map.mp hw
  have hk := List.mem_range.mp hk
  exact match k, hk with
  | 0, _ => zk_t1_50
  | 1, _ => zk_t1_52
  | 2, _ => zk_t1_54
  | 3, _ => zk_t1_56
  | 4, _ => zk_t1_58
  | 5, _ => zk_t1_60
  | 6, _ => zk_t1_62
  | 7, _ => zk_t1_64
  | 8, _ => zk_t1_66
  | 9, _ => zk_t1_68
  | 10, _ => zk_t1_70
  | q + 11, h => absurd h (by omega)
theorem inlX4 : ∀ w ∈ u_ws RX4 TX4 3, w ∈ wsL_law := fun w hw => by
  obtain ⟨k, hk, rfl⟩ := List.mem_map.mp hw
  have hk := List.mem_range.mp hk
  exact match k, hk with
  | 0, _ => zk_t2_238
  | 1, _ => zk_t3_0
  | 2, _ => zk_t3_2
  | q + 3, h => absurd h (by omega)
theorem inlX5 : ∀ w ∈ u_ws RX5 TX5 2, w ∈ wsL_law := fun w hw => by
  obtain ⟨k, hk, rfl⟩ := List.mem_map.mp hw
  have hk := List.mem_range.mp hk
  exact match k, hk with
  | 0, _ => zk_t1_84
  | 1, _ => zk_t1_86
  | q + 2, h => absurd h (by omega)
theorem inlX6 : ∀ w ∈ u_ws RX6 TX6 9, w ∈ wsL_law := fun w hw => by
  obtain ⟨k, hk, rfl⟩ := List.mem_map.mp hw
  have hk := List.mem_range.mp hk
  exact match k, hk with
  | 0, _ => zk_t1_159
  | 1, _ => zk_t1_161
  | 2, _ => zk_t1_163
  | 3, _ => zk_t1_165
  | 4, _ => zk_t1_167
  | 5, _ => zk_t1_169
  | 6, _ => zk_t1_171
  | 7, _ => zk_t1_173
  | 8, _ => zk_t1_175
  | q + 9, h => absurd h (by omega)
theorem inlX7 : ∀ w ∈ u_ws RX7 TX7 42, w ∈ wsL_law := fun w hw => by
  obtain ⟨k, hk, rfl⟩ := List.mem_map.mp hw
  have hk := List.mem_range.mp hk
  exact match k, hk with
  | 0, _ => zk_t4_155
  | 1, _ => zk_t4_157
  | 2, _ => zk_t4_159
  | 3, _ => zk_t4_161
  | 4, _ => zk_t4_163
  | 5, _ => zk_t4_165
  | 6, _ => zk_t4_167
  | 7, _ => zk_t4_169
  | 8, _ => zk_t4_171
  | 9, _ => zk_t4_173
  | 10, _ => zk_t4_175
  | 11, _ => zk_t4_177
  | 12, _ => zk_t4_179
  | 13, _ => zk_t4_181
  | 14, _ => zk_t4_183
  | 15, _ => zk_t4_185
  | 16, _ => zk_t4_187
  | 17, _ => zk_t4_189
  | 18, _ => zk_t4_191
  | 19, _ => zk_t4_193
  | 20, _ => zk_t4_195
  | 21, _ => zk_t4_197
  | 22, _ => zk_t4_199
  | 23, _ => zk_t4_201
  | 24, _ => zk_t4_203
  | 25, _ => zk_t4_205
  | 26, _ => zk_t4_207
  | 27, _ => zk_t4_209
  | 28, _ => zk_t4_211
  | 29, _ => zk_t4_213
  | 30, _ => zk_t4_215
  | 31, _ => zk_t4_217
  | 32, _ => zk_t4_219
  | 33, _ => zk_t4_221
  | 34, _ => zk_t4_223
  | 35, _ => zk_t4_225
  | 36, _ => zk_t4_227
  | 37, _ => zk_t4_229
  | 38, _ => zk_t4_231
  | 39, _ => zk_t4_233
  | 40, _ => zk_t4_235
  | 41, _ => zk_t4_237
  | q + 42, h => absurd h (by omega)
