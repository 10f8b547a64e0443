abbrev isT (o : Nat) : Prop := o = 25 ∨ o = 33
abbrev isL (o : Nat) : Prop := o = 41 ∨ o = 48
abbrev isS (o : Nat) : Prop := o = 19 ∨ o = 21 ∨ o = 23
theorem kI_1 : Int32.ofInt (1) = (1 : Int32) := by decide
theorem gw0 : Cond.constant RJ6 265 (1431655765 : Int32) ∈ Gw := inGw (in_t3 (List.mem_of_getElem? (i := 238) (by decide +kernel))) (by decide +kernel)
theorem gw1 : Cond.constant RJ6 266 (858993459 : Int32) ∈ Gw := inGw (in_t3 (List.mem_of_getElem? (i := 239) (by decide +kernel))) (by decide +kernel)
theorem kI_2 : Int32.ofInt (2) = (2 : Int32) := by decide
theorem kI_4 : Int32.ofInt (4) = (4 : Int32) := by decide
theorem gw2 : Cond.constant RJ6 267 (252645135 : Int32) ∈ Gw := inGw (in_t4 (List.mem_of_getElem? (i := 0) (by decide +kernel))) (by decide +kernel)
theorem kB_8 : (Int8.ofInt (8)).toInt32 = (8 : Int32) := by decide
theorem kB_16 : (Int8.ofInt (16)).toInt32 = (16 : Int32) := by decide
theorem kB_63 : (Int8.ofInt (63)).toInt32 = (63 : Int32) := by decide
theorem kS_256 : (Int16.ofInt (256)).toInt32 = (256 : Int32) := by decide
theorem kI_8 : Int32.ofInt (8) = (8 : Int32) := by decide
theorem kI_m1 : Int32.ofInt (-1) = (-1 : Int32) := by decide
theorem gw3 : Cond.constant RJ6 264 (65536 : Int32) ∈ Gw := inGw (in_t5 (List.mem_of_getElem? (i := 82) (by decide +kernel))) (by decide +kernel)
theorem kI_16 : Int32.ofInt (16) = (16 : Int32) := by decide
theorem kB_32 : (Int8.ofInt (32)).toInt32 = (32 : Int32) := by decide
theorem kI_0 : Int32.ofInt (0) = (0 : Int32) := by decide
theorem gw4 : Cond.fieldLink RJ0 38 "java/lang/String" "COMPACT_STRINGS" "Z" ∈ Gw := inGw (in_t2 (List.mem_of_getElem? (i := 184) (by decide +kernel))) (by decide +kernel)
theorem gw5 : Cond.fieldLink RJ0 15 "java/lang/String" "coder" "B" ∈ Gw := inGw (in_t8 (List.mem_of_getElem? (i := 46) (by decide +kernel))) (by decide +kernel)
theorem gw6 : Cond.fieldLink RJ0 9 "java/lang/String" "value" "[B" ∈ Gw := inGw (in_t8 (List.mem_of_getElem? (i := 47) (by decide +kernel))) (by decide +kernel)
theorem gw7 : Cond.methodLink RJ0 335 yJ0_coder_7d493 ∈ Gw := inGw (in_t2 (List.mem_of_getElem? (i := 190) (by decide +kernel))) (by decide +kernel)
theorem gw8 : Cond.initialized RJ0 ∈ Gw := inGw (in_t1 (List.mem_of_getElem? (i := 14) (by decide +kernel))) (by decide +kernel)
theorem gw9 : Cond.code yJ0_coder_7d493 cJ0_coder_7d493 1 (some .byte) ∈ Gw := inGw (in_t2 (List.mem_of_getElem? (i := 193) (by rfl))) (by decide +kernel)
theorem gw10 : Cond.instanceMethod yJ0_coder_7d493 ∈ Gw := inGw (in_t2 (List.mem_of_getElem? (i := 191) (by decide +kernel))) (by decide +kernel)
theorem gw11 : Cond.selects RJ0 yJ0_coder_7d493 yJ0_coder_7d493 ∈ Gw := inGw (in_t2 (List.mem_of_getElem? (i := 192) (by decide +kernel))) (by decide +kernel)
theorem cv_RJ0_335 : CV RJ0 RJ0 335 yJ0_coder_7d493 cJ0_coder_7d493 1 (some .byte) 0 := ⟨Or.inl gw7, gw10, gw11, gw8, gw9, rfl, by decide +kernel, by decide⟩
theorem kS_255 : (Int16.ofInt (255)).toInt32 = (255 : Int32) := by decide
theorem gw12 : Cond.methodLink RJ1 88 yJ1_canEncode_9a6ad ∈ Gw := inGw (in_t2 (List.mem_of_getElem? (i := 197) (by decide +kernel))) (by decide +kernel)
theorem gw13 : Cond.initialized RJ1 ∈ Gw := inGw (in_t1 (List.mem_of_getElem? (i := 15) (by decide +kernel))) (by decide +kernel)
theorem gw14 : Cond.code yJ1_canEncode_9a6ad cJ1_canEncode_9a6ad 1 (some .boolean) ∈ Gw := inGw (in_t2 (List.mem_of_getElem? (i := 199) (by rfl))) (by decide +kernel)
theorem gw15 : Cond.static yJ1_canEncode_9a6ad ∈ Gw := inGw (in_t2 (List.mem_of_getElem? (i := 198) (by decide +kernel))) (by decide +kernel)
theorem cs_RJ1_88 : CS RJ1 RJ1 88 yJ1_canEncode_9a6ad cJ1_canEncode_9a6ad 1 (some .boolean) 1 := ⟨Or.inl gw12, gw15, gw13, gw14, rfl, by decide +kernel, by decide⟩
theorem gw16 : Cond.methodLink RJ1 92 Lib.Math.max.name ∈ Gw := inGw (in_t2 (List.mem_of_getElem? (i := 200) (by decide +kernel))) (by decide +kernel)
theorem gw17 : Cond.static Lib.Math.max.name ∈ Gw := inGw (in_t2 (List.mem_of_getElem? (i := 201) (by decide +kernel))) (by decide +kernel)
theorem gw18 : Cond.initialized RJ9 ∈ Gw := inGw (in_t1 (List.mem_of_getElem? (i := 16) (by decide +kernel))) (by decide +kernel)
theorem gw19 : Cond.code Lib.Math.max.name Lib.Math.max.code 2 (some .int) ∈ Gw := inGw (in_t2 (List.mem_of_getElem? (i := 202) (by rfl))) (by decide +kernel)
theorem mw_RJ1_92 : MW RJ1 92 Lib.Math.max.name Lib.Math.max.code 2 := ⟨gw16, gw17, gw18, gw19⟩
theorem gw20 : Cond.methodLink RJ1 38 Lib.Math.min.name ∈ Gw := inGw (in_t2 (List.mem_of_getElem? (i := 203) (by decide +kernel))) (by decide +kernel)
theorem gw21 : Cond.static Lib.Math.min.name ∈ Gw := inGw (in_t2 (List.mem_of_getElem? (i := 204) (by decide +kernel))) (by decide +kernel)
theorem gw22 : Cond.code Lib.Math.min.name Lib.Math.min.code 2 (some .int) ∈ Gw := inGw (in_t2 (List.mem_of_getElem? (i := 205) (by rfl))) (by decide +kernel)
theorem mw_RJ1_38 : MW RJ1 38 Lib.Math.min.name Lib.Math.min.code 2 := ⟨gw20, gw21, gw18, gw22⟩
theorem gw23 : Cond.methodLink RJ1 95 yJ1_indexOfChar_4cfef ∈ Gw := inGw (in_t2 (List.mem_of_getElem? (i := 206) (by decide +kernel))) (by decide +kernel)
theorem gw24 : Cond.code yJ1_indexOfChar_4cfef cJ1_indexOfChar_4cfef 6 (some .int) ∈ Gw := inGw (in_t2 (List.mem_of_getElem? (i := 208) (by rfl))) (by decide +kernel)
theorem gw25 : Cond.static yJ1_indexOfChar_4cfef ∈ Gw := inGw (in_t2 (List.mem_of_getElem? (i := 207) (by decide +kernel))) (by decide +kernel)
theorem cs_RJ1_95 : CS RJ1 RJ1 95 yJ1_indexOfChar_4cfef cJ1_indexOfChar_4cfef 6 (some .int) 4 := ⟨Or.inl gw23, gw25, gw13, gw24, rfl, by decide +kernel, by decide⟩
theorem gw26 : Cond.methodLink RJ0 492 yJ0_isLatin1_aae02 ∈ Gw := inGw (in_t2 (List.mem_of_getElem? (i := 180) (by decide +kernel))) (by decide +kernel)
theorem gw27 : Cond.code yJ0_isLatin1_aae02 cJ0_isLatin1_aae02 1 (some .boolean) ∈ Gw := inGw (in_t2 (List.mem_of_getElem? (i := 183) (by rfl))) (by decide +kernel)
theorem gw28 : Cond.instanceMethod yJ0_isLatin1_aae02 ∈ Gw := inGw (in_t2 (List.mem_of_getElem? (i := 181) (by decide +kernel))) (by decide +kernel)
theorem gw29 : Cond.selects RJ0 yJ0_isLatin1_aae02 yJ0_isLatin1_aae02 ∈ Gw := inGw (in_t2 (List.mem_of_getElem? (i := 182) (by decide +kernel))) (by decide +kernel)
theorem cv_RJ0_492 : CV RJ0 RJ0 492 yJ0_isLatin1_aae02 cJ0_isLatin1_aae02 1 (some .boolean) 0 := ⟨Or.inl gw26, gw28, gw29, gw8, gw27, rfl, by decide +kernel, by decide⟩
theorem gw30 : Cond.methodLink RJ0 505 yJ0_length_8abf5 ∈ Gw := inGw (in_t2 (List.mem_of_getElem? (i := 186) (by decide +kernel))) (by decide +kernel)
theorem gw31 : Cond.code yJ0_length_8abf5 cJ0_length_8abf5 1 (some .int) ∈ Gw := inGw (in_t2 (List.mem_of_getElem? (i := 189) (by rfl))) (by decide +kernel)
theorem gw32 : Cond.instanceMethod yJ0_length_8abf5 ∈ Gw := inGw (in_t2 (List.mem_of_getElem? (i := 187) (by decide +kernel))) (by decide +kernel)
theorem gw33 : Cond.selects RJ0 yJ0_length_8abf5 yJ0_length_8abf5 ∈ Gw := inGw (in_t2 (List.mem_of_getElem? (i := 188) (by decide +kernel))) (by decide +kernel)
theorem cv_RJ0_505 : CV RJ0 RJ0 505 yJ0_length_8abf5 cJ0_length_8abf5 1 (some .int) 0 := ⟨Or.inl gw30, gw32, gw33, gw8, gw31, rfl, by decide +kernel, by decide⟩
theorem gw34 : Cond.methodLink RJ0 637 yJ1_indexOf_4cfef ∈ Gw := inGw (in_t2 (List.mem_of_getElem? (i := 194) (by decide +kernel))) (by decide +kernel)
theorem gw35 : Cond.code yJ1_indexOf_4cfef cJ1_indexOf_4cfef 4 (some .int) ∈ Gw := inGw (in_t2 (List.mem_of_getElem? (i := 196) (by rfl))) (by decide +kernel)
theorem gw36 : Cond.static yJ1_indexOf_4cfef ∈ Gw := inGw (in_t2 (List.mem_of_getElem? (i := 195) (by decide +kernel))) (by decide +kernel)
theorem cs_RJ0_637 : CS RJ0 RJ1 637 yJ1_indexOf_4cfef cJ1_indexOf_4cfef 4 (some .int) 4 := ⟨Or.inl gw34, gw36, gw13, gw35, rfl, by decide +kernel, by decide⟩
theorem gw37 : Cond.methodLink RJ0 633 yJ0_indexOf_7cf53 ∈ Gw := inGw (in_t2 (List.mem_of_getElem? (i := 176) (by decide +kernel))) (by decide +kernel)
theorem gw38 : Cond.code yJ0_indexOf_7cf53 cJ0_indexOf_7cf53 3 (some .int) ∈ Gw := inGw (in_t2 (List.mem_of_getElem? (i := 179) (by rfl))) (by decide +kernel)
theorem gw39 : Cond.instanceMethod yJ0_indexOf_7cf53 ∈ Gw := inGw (in_t2 (List.mem_of_getElem? (i := 177) (by decide +kernel))) (by decide +kernel)
theorem gw40 : Cond.selects RJ0 yJ0_indexOf_7cf53 yJ0_indexOf_7cf53 ∈ Gw := inGw (in_t2 (List.mem_of_getElem? (i := 178) (by decide +kernel))) (by decide +kernel)
theorem cv_RJ0_633 : CV RJ0 RJ0 633 yJ0_indexOf_7cf53 cJ0_indexOf_7cf53 3 (some .int) 2 := ⟨Or.inl gw37, gw39, gw40, gw8, gw38, rfl, by decide +kernel, by decide⟩
theorem gw41 : Cond.fieldLink RX7 13 RX7 (TX7 1).2.1 (TX7 1).2.2.1 ∈ Gw := inGw (in_t1 (List.mem_of_getElem? (i := 37) (by decide +kernel))) (by decide +kernel)
theorem lf_RX7_13 : LF RX7 13 RX7 TX7 2 1 false := ⟨by decide, rfl, rfl, Or.inl gw41⟩
theorem fI_1_1 : FI 0 55 1 7 1 := by decide
theorem ci7 : CI 7 RX7 TX7 2 tyX7 := ⟨rfl, fun w h => inGw ((show ∀ w ∈ u_ws RX7 TX7 2, w ∈ lw_tbl from by decide +kernel) w h) ((show ∀ w ∈ u_ws RX7 TX7 2, goodWord w = true from by decide +kernel) w h), tyX7_ok, nmX7⟩
theorem kB_20 : (Int8.ofInt (20)).toInt32 = (20 : Int32) := by decide
theorem kS_260 : (Int16.ofInt (260)).toInt32 = (260 : Int32) := by decide
theorem gw42 : Cond.fieldLink RX7 9 RX7 (TX7 0).2.1 (TX7 0).2.2.1 ∈ Gw := inGw (in_t1 (List.mem_of_getElem? (i := 36) (by decide +kernel))) (by decide +kernel)
theorem lf_RX7_9 : LF RX7 9 RX7 TX7 2 0 true := ⟨by decide, rfl, rfl, Or.inl gw42⟩
theorem fR_1_0 : FR 0 55 1 7 0 2 := by decide
theorem kI_m8 : Int32.ofInt (-8) = (-8 : Int32) := by decide
theorem aF_2 : AI 0 55 2 260 := by decide
theorem kB_24 : (Int8.ofInt (24)).toInt32 = (24 : Int32) := by decide
theorem gw43 : Cond.fieldLink RX0 24 RX0 (TX0 0).2.1 (TX0 0).2.2.1 ∈ Gw := inGw (in_t1 (List.mem_of_getElem? (i := 50) (by decide +kernel))) (by decide +kernel)
theorem lf_RX0_24 : LF RX0 24 RX0 TX0 5 0 true := ⟨by decide, rfl, rfl, Or.inl gw43⟩
theorem fR_3_0 : FR 0 55 3 0 0 1 := by decide
theorem gw44 : Cond.fieldLink RX0 9 RX0 (TX0 1).2.1 (TX0 1).2.2.1 ∈ Gw := inGw (in_t1 (List.mem_of_getElem? (i := 51) (by decide +kernel))) (by decide +kernel)
theorem lf_RX0_9 : LF RX0 9 RX0 TX0 5 1 false := ⟨by decide, rfl, rfl, Or.inl gw44⟩
theorem fI_3_1 : FI 0 55 3 0 1 := by decide
theorem ci0 : CI 0 RX0 TX0 5 tyX0 := ⟨rfl, fun w h => inGw ((show ∀ w ∈ u_ws RX0 TX0 5, w ∈ lw_tbl from by decide +kernel) w h) ((show ∀ w ∈ u_ws RX0 TX0 5, goodWord w = true from by decide +kernel) w h), tyX0_ok, nmX0⟩
theorem gw45 : Cond.fieldLink RX0 15 RX0 (TX0 2).2.1 (TX0 2).2.2.1 ∈ Gw := inGw (in_t1 (List.mem_of_getElem? (i := 52) (by decide +kernel))) (by decide +kernel)
theorem lf_RX0_15 : LF RX0 15 RX0 TX0 5 2 false := ⟨by decide, rfl, rfl, Or.inl gw45⟩
theorem fI_3_2 : FI 0 55 3 0 2 := by decide
theorem gw46 : Cond.methodLinkNest RX0 28 yX7_byteAt "SharedWindow" ∈ NW := inNW (in_t2 (List.mem_of_getElem? (i := 128) (by decide +kernel))) (by decide +kernel)
theorem gw47 : Cond.initialized RX7 ∈ Gw := inGw (in_t1 (List.mem_of_getElem? (i := 2) (by decide +kernel))) (by decide +kernel)
theorem gw48 : Cond.code yX7_byteAt cX7_byteAt 2 (some .int) ∈ Gw := inGw (in_t2 (List.mem_of_getElem? (i := 131) (by rfl))) (by decide +kernel)
theorem gw49 : Cond.instanceMethod yX7_byteAt ∈ Gw := inGw (in_t2 (List.mem_of_getElem? (i := 130) (by decide +kernel))) (by decide +kernel)
theorem gw50 : Cond.selects RX7 yX7_byteAt yX7_byteAt ∈ Gw := inGw (in_sel (q := (yX7_byteAt, 2)) (by decide +kernel)) (by decide +kernel)
theorem cv_RX0_28 : CV RX0 RX7 28 yX7_byteAt cX7_byteAt 2 (some .int) 1 := ⟨Or.inr ⟨_, gw46⟩, gw49, gw50, gw47, gw48, rfl, by decide +kernel, by decide⟩
theorem oB_1 : OB 0 55 1 7 := by decide
theorem gw51 : Cond.fieldLink RX0 18 RX0 (TX0 3).2.1 (TX0 3).2.2.1 ∈ Gw := inGw (in_t1 (List.mem_of_getElem? (i := 55) (by decide +kernel))) (by decide +kernel)
theorem lf_RX0_18 : LF RX0 18 RX0 TX0 5 3 false := ⟨by decide, rfl, rfl, Or.inl gw51⟩
theorem fI_3_3 : FI 0 55 3 0 3 := by decide
theorem gw52 : Cond.fieldLink RX0 21 RX0 (TX0 4).2.1 (TX0 4).2.2.1 ∈ Gw := inGw (in_t1 (List.mem_of_getElem? (i := 59) (by decide +kernel))) (by decide +kernel)
theorem lf_RX0_21 : LF RX0 21 RX0 TX0 5 4 false := ⟨by decide, rfl, rfl, Or.inl gw52⟩
theorem fI_3_4 : FI 0 55 3 0 4 := by decide
theorem kB_48 : (Int8.ofInt (48)).toInt32 = (48 : Int32) := by decide
theorem kB_57 : (Int8.ofInt (57)).toInt32 = (57 : Int32) := by decide
theorem kS_m1000 : (Int16.ofInt (-1000)).toInt32 = (-1000 : Int32) := by decide
theorem gw53 : Cond.methodLink RX0 34 yX0_fail ∈ Gw := inGw (in_t2 (List.mem_of_getElem? (i := 144) (by decide +kernel))) (by decide +kernel)
theorem gw54 : Cond.initialized RX0 ∈ Gw := inGw (in_t1 (List.mem_of_getElem? (i := 3) (by decide +kernel))) (by decide +kernel)
theorem gw55 : Cond.code yX0_fail cX0_fail 3 none ∈ Gw := inGw (in_t2 (List.mem_of_getElem? (i := 147) (by rfl))) (by decide +kernel)
theorem gw56 : Cond.instanceMethod yX0_fail ∈ Gw := inGw (in_t2 (List.mem_of_getElem? (i := 146) (by decide +kernel))) (by decide +kernel)
theorem gw57 : Cond.selects RX0 yX0_fail yX0_fail ∈ Gw := inGw (in_sel (q := (yX0_fail, 5)) (by decide +kernel)) (by decide +kernel)
theorem cv_RX0_34 : CV RX0 RX0 34 yX0_fail cX0_fail 3 none 2 := ⟨Or.inl gw53, gw56, gw57, gw54, gw55, rfl, by decide +kernel, by decide⟩
theorem oB_3 : OB 0 55 3 0 := by decide
theorem gw58 : Cond.methodLink RX0 41 yX0_failHere ∈ Gw := inGw (in_t3 (List.mem_of_getElem? (i := 30) (by decide +kernel))) (by decide +kernel)
theorem gw59 : Cond.code yX0_failHere cX0_failHere 2 none ∈ Gw := inGw (in_t2 (List.mem_of_getElem? (i := 143) (by rfl))) (by decide +kernel)
theorem gw60 : Cond.instanceMethod yX0_failHere ∈ Gw := inGw (in_t2 (List.mem_of_getElem? (i := 142) (by decide +kernel))) (by decide +kernel)
theorem gw61 : Cond.selects RX0 yX0_failHere yX0_failHere ∈ Gw := inGw (in_sel (q := (yX0_failHere, 5)) (by decide +kernel)) (by decide +kernel)
theorem cv_RX0_41 : CV RX0 RX0 41 yX0_failHere cX0_failHere 2 none 1 := ⟨Or.inl gw58, gw60, gw61, gw54, gw59, rfl, by decide +kernel, by decide⟩
theorem gw62 : Cond.methodLink RX0 38 yX0_step ∈ Gw := inGw (in_t3 (List.mem_of_getElem? (i := 32) (by decide +kernel))) (by decide +kernel)
theorem gw63 : Cond.code yX0_step cX0_step 1 none ∈ Gw := inGw (in_t2 (List.mem_of_getElem? (i := 151) (by rfl))) (by decide +kernel)
theorem gw64 : Cond.instanceMethod yX0_step ∈ Gw := inGw (in_t2 (List.mem_of_getElem? (i := 150) (by decide +kernel))) (by decide +kernel)
theorem gw65 : Cond.selects RX0 yX0_step yX0_step ∈ Gw := inGw (in_sel (q := (yX0_step, 5)) (by decide +kernel)) (by decide +kernel)
theorem cv_RX0_38 : CV RX0 RX0 38 yX0_step cX0_step 1 none 0 := ⟨Or.inl gw62, gw64, gw65, gw54, gw63, rfl, by decide +kernel, by decide⟩
theorem gw66 : Cond.methodLink RX0 45 yX0_fine ∈ Gw := inGw (in_t3 (List.mem_of_getElem? (i := 31) (by decide +kernel))) (by decide +kernel)
theorem gw67 : Cond.code yX0_fine cX0_fine 1 (some .boolean) ∈ Gw := inGw (in_t2 (List.mem_of_getElem? (i := 167) (by rfl))) (by decide +kernel)
theorem gw68 : Cond.instanceMethod yX0_fine ∈ Gw := inGw (in_t2 (List.mem_of_getElem? (i := 166) (by decide +kernel))) (by decide +kernel)
theorem gw69 : Cond.selects RX0 yX0_fine yX0_fine ∈ Gw := inGw (in_sel (q := (yX0_fine, 5)) (by decide +kernel)) (by decide +kernel)
theorem cv_RX0_45 : CV RX0 RX0 45 yX0_fine cX0_fine 1 (some .boolean) 0 := ⟨Or.inl gw66, gw68, gw69, gw54, gw67, rfl, by decide +kernel, by decide⟩
theorem kB_59 : (Int8.ofInt (59)).toInt32 = (59 : Int32) := by decide
theorem gw70 : Cond.methodLink RX0 49 yX0_expect ∈ Gw := inGw (in_t3 (List.mem_of_getElem? (i := 74) (by decide +kernel))) (by decide +kernel)
theorem gw71 : Cond.code yX0_expect cX0_expect 2 none ∈ Gw := inGw (in_t3 (List.mem_of_getElem? (i := 40) (by rfl))) (by decide +kernel)
theorem gw72 : Cond.instanceMethod yX0_expect ∈ Gw := inGw (in_t3 (List.mem_of_getElem? (i := 39) (by decide +kernel))) (by decide +kernel)
theorem gw73 : Cond.selects RX0 yX0_expect yX0_expect ∈ Gw := inGw (in_sel (q := (yX0_expect, 5)) (by decide +kernel)) (by decide +kernel)
theorem cv_RX0_49 : CV RX0 RX0 49 yX0_expect cX0_expect 2 none 1 := ⟨Or.inl gw70, gw72, gw73, gw54, gw71, rfl, by decide +kernel, by decide⟩
theorem gw74 : Cond.methodLink RX0 52 yX0_isDigit ∈ Gw := inGw (in_t3 (List.mem_of_getElem? (i := 26) (by decide +kernel))) (by decide +kernel)
theorem gw75 : Cond.code yX0_isDigit cX0_isDigit 1 (some .boolean) ∈ Gw := inGw (in_t3 (List.mem_of_getElem? (i := 29) (by rfl))) (by decide +kernel)
theorem gw76 : Cond.instanceMethod yX0_isDigit ∈ Gw := inGw (in_t3 (List.mem_of_getElem? (i := 28) (by decide +kernel))) (by decide +kernel)
theorem gw77 : Cond.selects RX0 yX0_isDigit yX0_isDigit ∈ Gw := inGw (in_sel (q := (yX0_isDigit, 5)) (by decide +kernel)) (by decide +kernel)
theorem cv_RX0_52 : CV RX0 RX0 52 yX0_isDigit cX0_isDigit 1 (some .boolean) 0 := ⟨Or.inl gw74, gw76, gw77, gw54, gw75, rfl, by decide +kernel, by decide⟩
theorem kB_10 : (Int8.ofInt (10)).toInt32 = (10 : Int32) := by decide
theorem kB_12 : (Int8.ofInt (12)).toInt32 = (12 : Int32) := by decide
theorem gw78 : Cond.fieldLink RX8 33 RX8 (TX8 7).2.1 (TX8 7).2.2.1 ∈ Gw := inGw (in_t1 (List.mem_of_getElem? (i := 209) (by decide +kernel))) (by decide +kernel)
theorem lf_RX8_33 : LF RX8 33 RX8 TX8 9 7 false := ⟨by decide, rfl, rfl, Or.inl gw78⟩
theorem fI_T_7 {o : Nat} (h : isT o) : FI 0 55 o 8 7 := by rcases h with rfl | rfl <;> decide
theorem ci8 : CI 8 RX8 TX8 9 tyX8 := ⟨rfl, fun w h => inGw ((show ∀ w ∈ u_ws RX8 TX8 9, w ∈ lw_tbl from by decide +kernel) w h) ((show ∀ w ∈ u_ws RX8 TX8 9, goodWord w = true from by decide +kernel) w h), tyX8_ok, nmX8⟩
theorem gw79 : Cond.fieldLink RX8 37 RX8 (TX8 8).2.1 (TX8 8).2.2.1 ∈ Gw := inGw (in_t1 (List.mem_of_getElem? (i := 211) (by decide +kernel))) (by decide +kernel)
theorem lf_RX8_37 : LF RX8 37 RX8 TX8 9 8 false := ⟨by decide, rfl, rfl, Or.inl gw79⟩
theorem fI_T_8 {o : Nat} (h : isT o) : FI 0 55 o 8 8 := by rcases h with rfl | rfl <;> decide
theorem gw80 : Cond.fieldLink RX8 9 RX8 (TX8 0).2.1 (TX8 0).2.2.1 ∈ Gw := inGw (in_t1 (List.mem_of_getElem? (i := 201) (by decide +kernel))) (by decide +kernel)
theorem lf_RX8_9 : LF RX8 9 RX8 TX8 9 0 true := ⟨by decide, rfl, rfl, Or.inl gw80⟩
theorem fR_T_0 {o : Nat} (h : isT o) : FR 0 55 o 8 0 (o + 1) := by rcases h with rfl | rfl <;> decide
theorem aF_T_1 {o : Nat} (h : isT o) : AI 0 55 (o + 1) 16 := by rcases h with rfl | rfl <;> decide
theorem gw81 : Cond.fieldLink RX8 15 RX8 (TX8 1).2.1 (TX8 1).2.2.1 ∈ Gw := inGw (in_t1 (List.mem_of_getElem? (i := 203) (by decide +kernel))) (by decide +kernel)
theorem lf_RX8_15 : LF RX8 15 RX8 TX8 9 1 true := ⟨by decide, rfl, rfl, Or.inl gw81⟩
theorem fR_T_1 {o : Nat} (h : isT o) : FR 0 55 o 8 1 (o + 2) := by rcases h with rfl | rfl <;> decide
theorem gw82 : Cond.fieldLink RX8 18 RX8 (TX8 2).2.1 (TX8 2).2.2.1 ∈ Gw := inGw (in_t1 (List.mem_of_getElem? (i := 204) (by decide +kernel))) (by decide +kernel)
theorem lf_RX8_18 : LF RX8 18 RX8 TX8 9 2 true := ⟨by decide, rfl, rfl, Or.inl gw82⟩
theorem fR_T_2 {o : Nat} (h : isT o) : FR 0 55 o 8 2 (o + 3) := by rcases h with rfl | rfl <;> decide
theorem gw83 : Cond.fieldLink RX8 21 RX8 (TX8 3).2.1 (TX8 3).2.2.1 ∈ Gw := inGw (in_t1 (List.mem_of_getElem? (i := 205) (by decide +kernel))) (by decide +kernel)
theorem lf_RX8_21 : LF RX8 21 RX8 TX8 9 3 true := ⟨by decide, rfl, rfl, Or.inl gw83⟩
theorem fR_T_3 {o : Nat} (h : isT o) : FR 0 55 o 8 3 (o + 4) := by rcases h with rfl | rfl <;> decide
theorem aF_T_2 {o : Nat} (h : isT o) : AI 0 55 (o + 2) 16 := by rcases h with rfl | rfl <;> decide
theorem aF_T_3 {o : Nat} (h : isT o) : AI 0 55 (o + 3) 16 := by rcases h with rfl | rfl <;> decide
theorem aF_T_4 {o : Nat} (h : isT o) : AI 0 55 (o + 4) 16 := by rcases h with rfl | rfl <;> decide
theorem gw84 : Cond.methodLink RX8 61 Lib.Math.abs.name ∈ Gw := inGw (in_t3 (List.mem_of_getElem? (i := 143) (by decide +kernel))) (by decide +kernel)
theorem gw85 : Cond.static Lib.Math.abs.name ∈ Gw := inGw (in_t3 (List.mem_of_getElem? (i := 144) (by decide +kernel))) (by decide +kernel)
theorem gw86 : Cond.code Lib.Math.abs.name Lib.Math.abs.code 1 (some .int) ∈ Gw := inGw (in_t3 (List.mem_of_getElem? (i := 145) (by rfl))) (by decide +kernel)
theorem mw_RX8_61 : MW RX8 61 Lib.Math.abs.name Lib.Math.abs.code 1 := ⟨gw84, gw85, gw18, gw86⟩
theorem kB_11 : (Int8.ofInt (11)).toInt32 = (11 : Int32) := by decide
theorem gw87 : Cond.methodLink RX8 51 yX8_hasThing ∈ Gw := inGw (in_t3 (List.mem_of_getElem? (i := 138) (by decide +kernel))) (by decide +kernel)
theorem gw88 : Cond.initialized RX8 ∈ Gw := inGw (in_t1 (List.mem_of_getElem? (i := 11) (by decide +kernel))) (by decide +kernel)
theorem gw89 : Cond.code yX8_hasThing cX8_hasThing 2 (some .boolean) ∈ Gw := inGw (in_t3 (List.mem_of_getElem? (i := 102) (by rfl))) (by decide +kernel)
theorem gw90 : Cond.instanceMethod yX8_hasThing ∈ Gw := inGw (in_t3 (List.mem_of_getElem? (i := 101) (by decide +kernel))) (by decide +kernel)
theorem gw91 : Cond.selects RX8 yX8_hasThing yX8_hasThing ∈ Gw := inGw (in_sel (q := (yX8_hasThing, 9)) (by decide +kernel)) (by decide +kernel)
theorem cv_RX8_51 : CV RX8 RX8 51 yX8_hasThing cX8_hasThing 2 (some .boolean) 1 := ⟨Or.inl gw87, gw90, gw91, gw88, gw89, rfl, by decide +kernel, by decide⟩
theorem oB_T {o : Nat} (h : isT o) : OB 0 55 o 8 := by rcases h with rfl | rfl <;> decide
theorem gw92 : Cond.methodLink RX8 54 yX8_isBefore ∈ Gw := inGw (in_t3 (List.mem_of_getElem? (i := 139) (by decide +kernel))) (by decide +kernel)
theorem gw93 : Cond.code yX8_isBefore cX8_isBefore 4 (some .boolean) ∈ Gw := inGw (in_t3 (List.mem_of_getElem? (i := 142) (by rfl))) (by decide +kernel)
theorem gw94 : Cond.instanceMethod yX8_isBefore ∈ Gw := inGw (in_t3 (List.mem_of_getElem? (i := 141) (by decide +kernel))) (by decide +kernel)
theorem gw95 : Cond.selects RX8 yX8_isBefore yX8_isBefore ∈ Gw := inGw (in_sel (q := (yX8_isBefore, 9)) (by decide +kernel)) (by decide +kernel)
theorem cv_RX8_54 : CV RX8 RX8 54 yX8_isBefore cX8_isBefore 4 (some .boolean) 2 := ⟨Or.inl gw92, gw94, gw95, gw88, gw93, rfl, by decide +kernel, by decide⟩
theorem gw96 : Cond.methodLink RX8 58 yX8_isThere ∈ Gw := inGw (in_t3 (List.mem_of_getElem? (i := 150) (by decide +kernel))) (by decide +kernel)
theorem gw97 : Cond.code yX8_isThere cX8_isThere 5 (some .boolean) ∈ Gw := inGw (in_t3 (List.mem_of_getElem? (i := 153) (by rfl))) (by decide +kernel)
theorem gw98 : Cond.instanceMethod yX8_isThere ∈ Gw := inGw (in_t3 (List.mem_of_getElem? (i := 152) (by decide +kernel))) (by decide +kernel)
theorem gw99 : Cond.selects RX8 yX8_isThere yX8_isThere ∈ Gw := inGw (in_sel (q := (yX8_isThere, 9)) (by decide +kernel)) (by decide +kernel)
theorem cv_RX8_58 : CV RX8 RX8 58 yX8_isThere cX8_isThere 5 (some .boolean) 2 := ⟨Or.inl gw96, gw98, gw99, gw88, gw97, rfl, by decide +kernel, by decide⟩
theorem gw100 : Cond.fieldLink RX8 27 RX8 (TX8 5).2.1 (TX8 5).2.2.1 ∈ Gw := inGw (in_t1 (List.mem_of_getElem? (i := 207) (by decide +kernel))) (by decide +kernel)
theorem lf_RX8_27 : LF RX8 27 RX8 TX8 9 5 true := ⟨by decide, rfl, rfl, Or.inl gw100⟩
theorem fR_T_5 {o : Nat} (h : isT o) : FR 0 55 o 8 5 (o + 6) := by rcases h with rfl | rfl <;> decide
theorem gw101 : Cond.fieldLink RX8 24 RX8 (TX8 4).2.1 (TX8 4).2.2.1 ∈ Gw := inGw (in_t1 (List.mem_of_getElem? (i := 206) (by decide +kernel))) (by decide +kernel)
theorem lf_RX8_24 : LF RX8 24 RX8 TX8 9 4 true := ⟨by decide, rfl, rfl, Or.inl gw101⟩
theorem fR_T_4 {o : Nat} (h : isT o) : FR 0 55 o 8 4 (o + 5) := by rcases h with rfl | rfl <;> decide
theorem aF_T_6 {o : Nat} (h : isT o) : AI 0 55 (o + 6) 16 := by rcases h with rfl | rfl <;> decide
theorem aF_T_5 {o : Nat} (h : isT o) : AI 0 55 (o + 5) 192 := by rcases h with rfl | rfl <;> decide
theorem gw102 : Cond.methodLink RX8 48 yX8_thingsThere ∈ Gw := inGw (in_t3 (List.mem_of_getElem? (i := 146) (by decide +kernel))) (by decide +kernel)
theorem gw103 : Cond.code yX8_thingsThere cX8_thingsThere 4 (some .int) ∈ Gw := inGw (in_t3 (List.mem_of_getElem? (i := 149) (by rfl))) (by decide +kernel)
theorem gw104 : Cond.instanceMethod yX8_thingsThere ∈ Gw := inGw (in_t3 (List.mem_of_getElem? (i := 148) (by decide +kernel))) (by decide +kernel)
theorem gw105 : Cond.selects RX8 yX8_thingsThere yX8_thingsThere ∈ Gw := inGw (in_sel (q := (yX8_thingsThere, 9)) (by decide +kernel)) (by decide +kernel)
theorem cv_RX8_48 : CV RX8 RX8 48 yX8_thingsThere cX8_thingsThere 4 (some .int) 1 := ⟨Or.inl gw102, gw104, gw105, gw88, gw103, rfl, by decide +kernel, by decide⟩
theorem gw106 : Cond.methodLink RX8 40 yX8_hasHouse ∈ Gw := inGw (in_t3 (List.mem_of_getElem? (i := 133) (by decide +kernel))) (by decide +kernel)
theorem gw107 : Cond.code yX8_hasHouse cX8_hasHouse 2 (some .boolean) ∈ Gw := inGw (in_t2 (List.mem_of_getElem? (i := 90) (by rfl))) (by decide +kernel)
theorem gw108 : Cond.instanceMethod yX8_hasHouse ∈ Gw := inGw (in_t2 (List.mem_of_getElem? (i := 89) (by decide +kernel))) (by decide +kernel)
theorem gw109 : Cond.selects RX8 yX8_hasHouse yX8_hasHouse ∈ Gw := inGw (in_sel (q := (yX8_hasHouse, 9)) (by decide +kernel)) (by decide +kernel)
theorem cv_RX8_40 : CV RX8 RX8 40 yX8_hasHouse cX8_hasHouse 2 (some .boolean) 1 := ⟨Or.inl gw106, gw108, gw109, gw88, gw107, rfl, by decide +kernel, by decide⟩
theorem gw110 : Cond.methodLink RX8 44 yX8_thingsBefore ∈ Gw := inGw (in_t3 (List.mem_of_getElem? (i := 134) (by decide +kernel))) (by decide +kernel)
theorem gw111 : Cond.code yX8_thingsBefore cX8_thingsBefore 4 (some .int) ∈ Gw := inGw (in_t3 (List.mem_of_getElem? (i := 137) (by rfl))) (by decide +kernel)
theorem gw112 : Cond.instanceMethod yX8_thingsBefore ∈ Gw := inGw (in_t3 (List.mem_of_getElem? (i := 136) (by decide +kernel))) (by decide +kernel)
theorem gw113 : Cond.selects RX8 yX8_thingsBefore yX8_thingsBefore ∈ Gw := inGw (in_sel (q := (yX8_thingsBefore, 9)) (by decide +kernel)) (by decide +kernel)
theorem cv_RX8_44 : CV RX8 RX8 44 yX8_thingsBefore cX8_thingsBefore 4 (some .int) 1 := ⟨Or.inl gw110, gw112, gw113, gw88, gw111, rfl, by decide +kernel, by decide⟩
theorem gw114 : Cond.methodLinkNest RX8 66 yX11_isTurn "SharedWindow" ∈ NW := inNW (in_t3 (List.mem_of_getElem? (i := 225) (by decide +kernel))) (by decide +kernel)
theorem gw115 : Cond.initialized RX11 ∈ Gw := inGw (in_t1 (List.mem_of_getElem? (i := 1) (by decide +kernel))) (by decide +kernel)
theorem gw116 : Cond.code yX11_isTurn cX11_isTurn 1 (some .boolean) ∈ Gw := inGw (in_t2 (List.mem_of_getElem? (i := 86) (by rfl))) (by decide +kernel)
theorem gw117 : Cond.static yX11_isTurn ∈ Gw := inGw (in_t2 (List.mem_of_getElem? (i := 85) (by decide +kernel))) (by decide +kernel)
theorem cs_RX8_66 : CS RX8 RX11 66 yX11_isTurn cX11_isTurn 1 (some .boolean) 1 := ⟨Or.inr ⟨_, gw114⟩, gw117, gw115, gw116, rfl, by decide +kernel, by decide⟩
theorem gw118 : Cond.methodLink RX8 69 yX8_view ∈ Gw := inGw (in_t4 (List.mem_of_getElem? (i := 148) (by decide +kernel))) (by decide +kernel)
theorem gw119 : Cond.code yX8_view cX8_view 3 (some .int) ∈ Gw := inGw (in_t3 (List.mem_of_getElem? (i := 224) (by rfl))) (by decide +kernel)
theorem gw120 : Cond.instanceMethod yX8_view ∈ Gw := inGw (in_t3 (List.mem_of_getElem? (i := 223) (by decide +kernel))) (by decide +kernel)
theorem gw121 : Cond.selects RX8 yX8_view yX8_view ∈ Gw := inGw (in_sel (q := (yX8_view, 9)) (by decide +kernel)) (by decide +kernel)
theorem cv_RX8_69 : CV RX8 RX8 69 yX8_view cX8_view 3 (some .int) 2 := ⟨Or.inl gw118, gw120, gw121, gw88, gw119, rfl, by decide +kernel, by decide⟩
theorem gw122 : Cond.methodLink RX8 73 yX8_wholeView ∈ Gw := inGw (in_t4 (List.mem_of_getElem? (i := 157) (by decide +kernel))) (by decide +kernel)
theorem gw123 : Cond.code yX8_wholeView cX8_wholeView 2 (some .int) ∈ Gw := inGw (in_t4 (List.mem_of_getElem? (i := 110) (by rfl))) (by decide +kernel)
theorem gw124 : Cond.instanceMethod yX8_wholeView ∈ Gw := inGw (in_t4 (List.mem_of_getElem? (i := 109) (by decide +kernel))) (by decide +kernel)
theorem gw125 : Cond.selects RX8 yX8_wholeView yX8_wholeView ∈ Gw := inGw (in_sel (q := (yX8_wholeView, 9)) (by decide +kernel)) (by decide +kernel)
theorem cv_RX8_73 : CV RX8 RX8 73 yX8_wholeView cX8_wholeView 2 (some .int) 1 := ⟨Or.inl gw122, gw124, gw125, gw88, gw123, rfl, by decide +kernel, by decide⟩
theorem gw126 : Cond.methodLink RX8 76 yJ6_bitCount_0f7a4 ∈ Gw := inGw (in_t4 (List.mem_of_getElem? (i := 170) (by decide +kernel))) (by decide +kernel)
theorem gw127 : Cond.initialized RJ6 ∈ Gw := inGw (in_t1 (List.mem_of_getElem? (i := 20) (by decide +kernel))) (by decide +kernel)
theorem gw128 : Cond.code yJ6_bitCount_0f7a4 cJ6_bitCount_0f7a4 1 (some .int) ∈ Gw := inGw (in_t3 (List.mem_of_getElem? (i := 237) (by rfl))) (by decide +kernel)
theorem gw129 : Cond.static yJ6_bitCount_0f7a4 ∈ Gw := inGw (in_t3 (List.mem_of_getElem? (i := 236) (by decide +kernel))) (by decide +kernel)
theorem cs_RX8_76 : CS RX8 RJ6 76 yJ6_bitCount_0f7a4 cJ6_bitCount_0f7a4 1 (some .int) 1 := ⟨Or.inl gw126, gw129, gw127, gw128, rfl, by decide +kernel, by decide⟩
theorem gw130 : Cond.methodLink RX8 81 yX8_twosIn ∈ Gw := inGw (in_t4 (List.mem_of_getElem? (i := 166) (by decide +kernel))) (by decide +kernel)
theorem gw131 : Cond.code yX8_twosIn cX8_twosIn 4 (some .int) ∈ Gw := inGw (in_t4 (List.mem_of_getElem? (i := 169) (by rfl))) (by decide +kernel)
theorem gw132 : Cond.instanceMethod yX8_twosIn ∈ Gw := inGw (in_t4 (List.mem_of_getElem? (i := 168) (by decide +kernel))) (by decide +kernel)
theorem gw133 : Cond.selects RX8 yX8_twosIn yX8_twosIn ∈ Gw := inGw (in_sel (q := (yX8_twosIn, 9)) (by decide +kernel)) (by decide +kernel)
theorem cv_RX8_81 : CV RX8 RX8 81 yX8_twosIn cX8_twosIn 4 (some .int) 1 := ⟨Or.inl gw130, gw132, gw133, gw88, gw131, rfl, by decide +kernel, by decide⟩
theorem gw134 : Cond.fieldLink RX8 30 RX8 (TX8 6).2.1 (TX8 6).2.2.1 ∈ Gw := inGw (in_t1 (List.mem_of_getElem? (i := 208) (by decide +kernel))) (by decide +kernel)
theorem lf_RX8_30 : LF RX8 30 RX8 TX8 9 6 true := ⟨by decide, rfl, rfl, Or.inl gw134⟩
theorem fR_T_6 {o : Nat} (h : isT o) : FR 0 55 o 8 6 (o + 7) := by rcases h with rfl | rfl <;> decide
theorem aF_T_7 {o : Nat} (h : isT o) : AI 0 55 (o + 7) 16 := by rcases h with rfl | rfl <;> decide
theorem gw135 : Cond.methodLink RX8 88 yX8_leastWatchers ∈ Gw := inGw (in_t4 (List.mem_of_getElem? (i := 192) (by decide +kernel))) (by decide +kernel)
theorem gw136 : Cond.code yX8_leastWatchers cX8_leastWatchers 7 (some .int) ∈ Gw := inGw (in_t4 (List.mem_of_getElem? (i := 195) (by rfl))) (by decide +kernel)
theorem gw137 : Cond.instanceMethod yX8_leastWatchers ∈ Gw := inGw (in_t4 (List.mem_of_getElem? (i := 194) (by decide +kernel))) (by decide +kernel)
theorem gw138 : Cond.selects RX8 yX8_leastWatchers yX8_leastWatchers ∈ Gw := inGw (in_sel (q := (yX8_leastWatchers, 9)) (by decide +kernel)) (by decide +kernel)
theorem cv_RX8_88 : CV RX8 RX8 88 yX8_leastWatchers cX8_leastWatchers 7 (some .int) 3 := ⟨Or.inl gw135, gw137, gw138, gw88, gw136, rfl, by decide +kernel, by decide⟩
theorem gw139 : Cond.methodLink RX8 92 Lib.Math.max.name ∈ Gw := inGw (in_t4 (List.mem_of_getElem? (i := 196) (by decide +kernel))) (by decide +kernel)
theorem mw_RX8_92 : MW RX8 92 Lib.Math.max.name Lib.Math.max.code 2 := ⟨gw139, gw17, gw18, gw19⟩
theorem gw140 : Cond.methodLink RX8 84 yX8_gatherCandidates ∈ Gw := inGw (in_t4 (List.mem_of_getElem? (i := 188) (by decide +kernel))) (by decide +kernel)
theorem gw141 : Cond.code yX8_gatherCandidates cX8_gatherCandidates 5 (some .int) ∈ Gw := inGw (in_t4 (List.mem_of_getElem? (i := 191) (by rfl))) (by decide +kernel)
theorem gw142 : Cond.instanceMethod yX8_gatherCandidates ∈ Gw := inGw (in_t4 (List.mem_of_getElem? (i := 190) (by decide +kernel))) (by decide +kernel)
theorem gw143 : Cond.selects RX8 yX8_gatherCandidates yX8_gatherCandidates ∈ Gw := inGw (in_sel (q := (yX8_gatherCandidates, 9)) (by decide +kernel)) (by decide +kernel)
theorem cv_RX8_84 : CV RX8 RX8 84 yX8_gatherCandidates cX8_gatherCandidates 5 (some .int) 0 := ⟨Or.inl gw140, gw142, gw143, gw88, gw141, rfl, by decide +kernel, by decide⟩
theorem gw144 : Cond.fieldLink RX9 9 RX9 (TX9 0).2.1 (TX9 0).2.2.1 ∈ Gw := inGw (in_t1 (List.mem_of_getElem? (i := 80) (by decide +kernel))) (by decide +kernel)
theorem lf_RX9_9 : LF RX9 9 RX9 TX9 1 0 true := ⟨by decide, rfl, rfl, Or.inl gw144⟩
theorem fR_4_0 : FR 0 55 4 9 0 3 := by decide
theorem gw145 : Cond.fieldLinkNest RX9 81 RX0 (TX0 2).2.1 (TX0 2).2.2.1 "SharedWindow" ∈ NW := inNW (in_t1 (List.mem_of_getElem? (i := 54) (by decide +kernel))) (by decide +kernel)
theorem lf_RX9_81 : LF RX9 81 RX0 TX0 5 2 false := ⟨by decide, rfl, rfl, Or.inr ⟨_, gw145⟩⟩
theorem ci9 : CI 9 RX9 TX9 1 tyX9 := ⟨rfl, fun w h => inGw ((show ∀ w ∈ u_ws RX9 TX9 1, w ∈ lw_tbl from by decide +kernel) w h) ((show ∀ w ∈ u_ws RX9 TX9 1, goodWord w = true from by decide +kernel) w h), tyX9_ok, nmX9⟩
theorem gw146 : Cond.methodLinkNest RX9 84 yX0_readNumber "SharedWindow" ∈ NW := inNW (in_t3 (List.mem_of_getElem? (i := 112) (by decide +kernel))) (by decide +kernel)
theorem gw147 : Cond.code yX0_readNumber cX0_readNumber 4 (some .int) ∈ Gw := inGw (in_t3 (List.mem_of_getElem? (i := 25) (by rfl))) (by decide +kernel)
theorem gw148 : Cond.instanceMethod yX0_readNumber ∈ Gw := inGw (in_t3 (List.mem_of_getElem? (i := 24) (by decide +kernel))) (by decide +kernel)
theorem gw149 : Cond.selects RX0 yX0_readNumber yX0_readNumber ∈ Gw := inGw (in_sel (q := (yX0_readNumber, 5)) (by decide +kernel)) (by decide +kernel)
theorem cv_RX9_84 : CV RX9 RX0 84 yX0_readNumber cX0_readNumber 4 (some .int) 1 := ⟨Or.inr ⟨_, gw146⟩, gw148, gw149, gw54, gw147, rfl, by decide +kernel, by decide⟩
theorem kI_3 : Int32.ofInt (3) = (3 : Int32) := by decide
theorem gw150 : Cond.methodLinkNest RX9 88 yX0_fail "SharedWindow" ∈ NW := inNW (in_t3 (List.mem_of_getElem? (i := 113) (by decide +kernel))) (by decide +kernel)
theorem cv_RX9_88 : CV RX9 RX0 88 yX0_fail cX0_fail 3 none 2 := ⟨Or.inr ⟨_, gw150⟩, gw56, gw57, gw54, gw55, rfl, by decide +kernel, by decide⟩
theorem gw151 : Cond.methodLink RX9 66 yX9_readWay ∈ Gw := inGw (in_t3 (List.mem_of_getElem? (i := 108) (by decide +kernel))) (by decide +kernel)
theorem gw152 : Cond.initialized RX9 ∈ Gw := inGw (in_t1 (List.mem_of_getElem? (i := 4) (by decide +kernel))) (by decide +kernel)
theorem gw153 : Cond.code yX9_readWay cX9_readWay 3 (some .int) ∈ Gw := inGw (in_t3 (List.mem_of_getElem? (i := 111) (by rfl))) (by decide +kernel)
theorem gw154 : Cond.instanceMethod yX9_readWay ∈ Gw := inGw (in_t3 (List.mem_of_getElem? (i := 110) (by decide +kernel))) (by decide +kernel)
theorem gw155 : Cond.selects RX9 yX9_readWay yX9_readWay ∈ Gw := inGw (in_sel (q := (yX9_readWay, 1)) (by decide +kernel)) (by decide +kernel)
theorem cv_RX9_66 : CV RX9 RX9 66 yX9_readWay cX9_readWay 3 (some .int) 0 := ⟨Or.inl gw151, gw154, gw155, gw152, gw153, rfl, by decide +kernel, by decide⟩
theorem oB_4 : OB 0 55 4 9 := by decide
theorem gw156 : Cond.methodLinkNest RX9 34 yX0_fine "SharedWindow" ∈ NW := inNW (in_t3 (List.mem_of_getElem? (i := 114) (by decide +kernel))) (by decide +kernel)
theorem cv_RX9_34 : CV RX9 RX0 34 yX0_fine cX0_fine 1 (some .boolean) 0 := ⟨Or.inr ⟨_, gw156⟩, gw68, gw69, gw54, gw67, rfl, by decide +kernel, by decide⟩
theorem gw157 : Cond.methodLinkNest RX9 70 yX8_addHouse "SharedWindow" ∈ NW := inNW (in_t3 (List.mem_of_getElem? (i := 115) (by decide +kernel))) (by decide +kernel)
theorem gw158 : Cond.code yX8_addHouse cX8_addHouse 3 none ∈ Gw := inGw (in_t3 (List.mem_of_getElem? (i := 118) (by rfl))) (by decide +kernel)
theorem gw159 : Cond.instanceMethod yX8_addHouse ∈ Gw := inGw (in_t3 (List.mem_of_getElem? (i := 117) (by decide +kernel))) (by decide +kernel)
theorem gw160 : Cond.selects RX8 yX8_addHouse yX8_addHouse ∈ Gw := inGw (in_sel (q := (yX8_addHouse, 9)) (by decide +kernel)) (by decide +kernel)
theorem cv_RX9_70 : CV RX9 RX8 70 yX8_addHouse cX8_addHouse 3 none 2 := ⟨Or.inr ⟨_, gw157⟩, gw159, gw160, gw88, gw158, rfl, by decide +kernel, by decide⟩
theorem kB_64 : (Int8.ofInt (64)).toInt32 = (64 : Int32) := by decide
theorem gw161 : Cond.methodLinkNest RX9 74 yX0_expect "SharedWindow" ∈ NW := inNW (in_t3 (List.mem_of_getElem? (i := 123) (by decide +kernel))) (by decide +kernel)
theorem cv_RX9_74 : CV RX9 RX0 74 yX0_expect cX0_expect 2 none 1 := ⟨Or.inr ⟨_, gw161⟩, gw72, gw73, gw54, gw71, rfl, by decide +kernel, by decide⟩
theorem kB_45 : (Int8.ofInt (45)).toInt32 = (45 : Int32) := by decide
theorem gw162 : Cond.methodLinkNest RX9 77 yX8_addThing "SharedWindow" ∈ NW := inNW (in_t3 (List.mem_of_getElem? (i := 124) (by decide +kernel))) (by decide +kernel)
theorem gw163 : Cond.code yX8_addThing cX8_addThing 5 none ∈ Gw := inGw (in_t3 (List.mem_of_getElem? (i := 127) (by rfl))) (by decide +kernel)
theorem gw164 : Cond.instanceMethod yX8_addThing ∈ Gw := inGw (in_t3 (List.mem_of_getElem? (i := 126) (by decide +kernel))) (by decide +kernel)
theorem gw165 : Cond.selects RX8 yX8_addThing yX8_addThing ∈ Gw := inGw (in_sel (q := (yX8_addThing, 9)) (by decide +kernel)) (by decide +kernel)
theorem cv_RX9_77 : CV RX9 RX8 77 yX8_addThing cX8_addThing 5 none 4 := ⟨Or.inr ⟨_, gw162⟩, gw164, gw165, gw88, gw163, rfl, by decide +kernel, by decide⟩
theorem gw166 : Cond.fieldLinkNest RX9 44 RX0 (TX0 3).2.1 (TX0 3).2.2.1 "SharedWindow" ∈ NW := inNW (in_t1 (List.mem_of_getElem? (i := 58) (by decide +kernel))) (by decide +kernel)
theorem lf_RX9_44 : LF RX9 44 RX0 TX0 5 3 false := ⟨by decide, rfl, rfl, Or.inr ⟨_, gw166⟩⟩
theorem kB_6 : (Int8.ofInt (6)).toInt32 = (6 : Int32) := by decide
theorem gw167 : Cond.methodLinkNest RX9 47 yX0_failHere "SharedWindow" ∈ NW := inNW (in_t3 (List.mem_of_getElem? (i := 97) (by decide +kernel))) (by decide +kernel)
theorem cv_RX9_47 : CV RX9 RX0 47 yX0_failHere cX0_failHere 2 none 1 := ⟨Or.inr ⟨_, gw167⟩, gw60, gw61, gw54, gw59, rfl, by decide +kernel, by decide⟩
theorem gw168 : Cond.methodLinkNest RX9 57 yX0_step "SharedWindow" ∈ NW := inNW (in_t3 (List.mem_of_getElem? (i := 103) (by decide +kernel))) (by decide +kernel)
theorem cv_RX9_57 : CV RX9 RX0 57 yX0_step cX0_step 1 none 0 := ⟨Or.inr ⟨_, gw168⟩, gw64, gw65, gw54, gw63, rfl, by decide +kernel, by decide⟩
theorem kB_65 : (Int8.ofInt (65)).toInt32 = (65 : Int32) := by decide
theorem gw169 : Cond.methodLink RX9 63 yX9_readThing ∈ Gw := inGw (in_t3 (List.mem_of_getElem? (i := 119) (by decide +kernel))) (by decide +kernel)
theorem gw170 : Cond.code yX9_readThing cX9_readThing 6 none ∈ Gw := inGw (in_t3 (List.mem_of_getElem? (i := 122) (by rfl))) (by decide +kernel)
theorem gw171 : Cond.instanceMethod yX9_readThing ∈ Gw := inGw (in_t3 (List.mem_of_getElem? (i := 121) (by decide +kernel))) (by decide +kernel)
theorem gw172 : Cond.selects RX9 yX9_readThing yX9_readThing ∈ Gw := inGw (in_sel (q := (yX9_readThing, 1)) (by decide +kernel)) (by decide +kernel)
theorem cv_RX9_63 : CV RX9 RX9 63 yX9_readThing cX9_readThing 6 none 2 := ⟨Or.inl gw169, gw171, gw172, gw152, gw170, rfl, by decide +kernel, by decide⟩
theorem kB_97 : (Int8.ofInt (97)).toInt32 = (97 : Int32) := by decide
theorem gw173 : Cond.methodLink RX9 60 yX9_readHouse ∈ Gw := inGw (in_t3 (List.mem_of_getElem? (i := 104) (by decide +kernel))) (by decide +kernel)
theorem gw174 : Cond.code yX9_readHouse cX9_readHouse 4 none ∈ Gw := inGw (in_t3 (List.mem_of_getElem? (i := 107) (by rfl))) (by decide +kernel)
theorem gw175 : Cond.instanceMethod yX9_readHouse ∈ Gw := inGw (in_t3 (List.mem_of_getElem? (i := 106) (by decide +kernel))) (by decide +kernel)
theorem gw176 : Cond.selects RX9 yX9_readHouse yX9_readHouse ∈ Gw := inGw (in_sel (q := (yX9_readHouse, 1)) (by decide +kernel)) (by decide +kernel)
theorem cv_RX9_60 : CV RX9 RX9 60 yX9_readHouse cX9_readHouse 4 none 2 := ⟨Or.inl gw173, gw175, gw176, gw152, gw174, rfl, by decide +kernel, by decide⟩
theorem gw177 : Cond.methodLinkNest RX9 54 yX8_hasThing "SharedWindow" ∈ NW := inNW (in_t3 (List.mem_of_getElem? (i := 99) (by decide +kernel))) (by decide +kernel)
theorem cv_RX9_54 : CV RX9 RX8 54 yX8_hasThing cX8_hasThing 2 (some .boolean) 1 := ⟨Or.inr ⟨_, gw177⟩, gw90, gw91, gw88, gw89, rfl, by decide +kernel, by decide⟩
theorem gw178 : Cond.methodLinkNest RX9 50 yX8_hasHouse "SharedWindow" ∈ NW := inNW (in_t3 (List.mem_of_getElem? (i := 98) (by decide +kernel))) (by decide +kernel)
theorem cv_RX9_50 : CV RX9 RX8 50 yX8_hasHouse cX8_hasHouse 2 (some .boolean) 1 := ⟨Or.inr ⟨_, gw178⟩, gw108, gw109, gw88, gw107, rfl, by decide +kernel, by decide⟩
theorem kB_80 : (Int8.ofInt (80)).toInt32 = (80 : Int32) := by decide
theorem kB_112 : (Int8.ofInt (112)).toInt32 = (112 : Int32) := by decide
theorem gw179 : Cond.fieldLinkNest RX9 37 RX0 (TX0 4).2.1 (TX0 4).2.2.1 "SharedWindow" ∈ NW := inNW (in_t1 (List.mem_of_getElem? (i := 60) (by decide +kernel))) (by decide +kernel)
theorem lf_RX9_37 : LF RX9 37 RX0 TX0 5 4 false := ⟨by decide, rfl, rfl, Or.inr ⟨_, gw179⟩⟩
theorem gw180 : Cond.methodLinkNest RX9 41 yX8_lookAround "SharedWindow" ∈ NW := inNW (in_t3 (List.mem_of_getElem? (i := 129) (by decide +kernel))) (by decide +kernel)
theorem gw181 : Cond.code yX8_lookAround cX8_lookAround 4 none ∈ Gw := inGw (in_t3 (List.mem_of_getElem? (i := 132) (by rfl))) (by decide +kernel)
theorem gw182 : Cond.instanceMethod yX8_lookAround ∈ Gw := inGw (in_t3 (List.mem_of_getElem? (i := 131) (by decide +kernel))) (by decide +kernel)
theorem gw183 : Cond.selects RX8 yX8_lookAround yX8_lookAround ∈ Gw := inGw (in_sel (q := (yX8_lookAround, 9)) (by decide +kernel)) (by decide +kernel)
theorem cv_RX9_41 : CV RX9 RX8 41 yX8_lookAround cX8_lookAround 4 none 0 := ⟨Or.inr ⟨_, gw180⟩, gw182, gw183, gw88, gw181, rfl, by decide +kernel, by decide⟩
theorem gw184 : Cond.methodLink RX9 26 yX9_readLine ∈ Gw := inGw (in_t3 (List.mem_of_getElem? (i := 93) (by decide +kernel))) (by decide +kernel)
theorem gw185 : Cond.code yX9_readLine cX9_readLine 6 none ∈ Gw := inGw (in_t3 (List.mem_of_getElem? (i := 96) (by rfl))) (by decide +kernel)
theorem gw186 : Cond.instanceMethod yX9_readLine ∈ Gw := inGw (in_t3 (List.mem_of_getElem? (i := 95) (by decide +kernel))) (by decide +kernel)
theorem gw187 : Cond.selects RX9 yX9_readLine yX9_readLine ∈ Gw := inGw (in_sel (q := (yX9_readLine, 1)) (by decide +kernel)) (by decide +kernel)
theorem cv_RX9_26 : CV RX9 RX9 26 yX9_readLine cX9_readLine 6 none 2 := ⟨Or.inl gw184, gw186, gw187, gw152, gw185, rfl, by decide +kernel, by decide⟩
theorem gw188 : Cond.methodLinkNest RX9 30 yX0_passesSemicolon "SharedWindow" ∈ NW := inNW (in_t3 (List.mem_of_getElem? (i := 128) (by decide +kernel))) (by decide +kernel)
theorem gw189 : Cond.code yX0_passesSemicolon cX0_passesSemicolon 1 (some .boolean) ∈ Gw := inGw (in_t3 (List.mem_of_getElem? (i := 73) (by rfl))) (by decide +kernel)
theorem gw190 : Cond.instanceMethod yX0_passesSemicolon ∈ Gw := inGw (in_t3 (List.mem_of_getElem? (i := 72) (by decide +kernel))) (by decide +kernel)
theorem gw191 : Cond.selects RX0 yX0_passesSemicolon yX0_passesSemicolon ∈ Gw := inGw (in_sel (q := (yX0_passesSemicolon, 5)) (by decide +kernel)) (by decide +kernel)
theorem cv_RX9_30 : CV RX9 RX0 30 yX0_passesSemicolon cX0_passesSemicolon 1 (some .boolean) 0 := ⟨Or.inr ⟨_, gw188⟩, gw190, gw191, gw54, gw189, rfl, by decide +kernel, by decide⟩
theorem gw192 : Cond.methodLinkNest RX9 15 yX0_start "SharedWindow" ∈ NW := inNW (in_t3 (List.mem_of_getElem? (i := 88) (by decide +kernel))) (by decide +kernel)
theorem gw193 : Cond.code yX0_start cX0_start 2 none ∈ Gw := inGw (in_t2 (List.mem_of_getElem? (i := 127) (by rfl))) (by decide +kernel)
theorem gw194 : Cond.instanceMethod yX0_start ∈ Gw := inGw (in_t2 (List.mem_of_getElem? (i := 126) (by decide +kernel))) (by decide +kernel)
theorem gw195 : Cond.selects RX0 yX0_start yX0_start ∈ Gw := inGw (in_sel (q := (yX0_start, 5)) (by decide +kernel)) (by decide +kernel)
theorem cv_RX9_15 : CV RX9 RX0 15 yX0_start cX0_start 2 none 1 := ⟨Or.inr ⟨_, gw192⟩, gw194, gw195, gw54, gw193, rfl, by decide +kernel, by decide⟩
theorem gw196 : Cond.methodLinkNest RX9 21 yX8_clear "SharedWindow" ∈ NW := inNW (in_t3 (List.mem_of_getElem? (i := 89) (by decide +kernel))) (by decide +kernel)
theorem gw197 : Cond.code yX8_clear cX8_clear 1 none ∈ Gw := inGw (in_t3 (List.mem_of_getElem? (i := 92) (by rfl))) (by decide +kernel)
theorem gw198 : Cond.instanceMethod yX8_clear ∈ Gw := inGw (in_t3 (List.mem_of_getElem? (i := 91) (by decide +kernel))) (by decide +kernel)
theorem gw199 : Cond.selects RX8 yX8_clear yX8_clear ∈ Gw := inGw (in_sel (q := (yX8_clear, 9)) (by decide +kernel)) (by decide +kernel)
theorem cv_RX9_21 : CV RX9 RX8 21 yX8_clear cX8_clear 1 none 0 := ⟨Or.inr ⟨_, gw196⟩, gw198, gw199, gw88, gw197, rfl, by decide +kernel, by decide⟩
theorem gw200 : Cond.fieldLink RX4 9 RX4 (TX4 0).2.1 (TX4 0).2.2.1 ∈ Gw := inGw (in_t1 (List.mem_of_getElem? (i := 119) (by decide +kernel))) (by decide +kernel)
theorem lf_RX4_9 : LF RX4 9 RX4 TX4 1 0 true := ⟨by decide, rfl, rfl, Or.inl gw200⟩
theorem fR_8_0 : FR 0 55 8 4 0 9 := by decide
theorem gw201 : Cond.methodLinkNest RX4 15 yX11_isTurn "SharedWindow" ∈ NW := inNW (in_t2 (List.mem_of_getElem? (i := 95) (by decide +kernel))) (by decide +kernel)
theorem cs_RX4_15 : CS RX4 RX11 15 yX11_isTurn cX11_isTurn 1 (some .boolean) 1 := ⟨Or.inr ⟨_, gw201⟩, gw117, gw115, gw116, rfl, by decide +kernel, by decide⟩
theorem ci4 : CI 4 RX4 TX4 1 tyX4 := ⟨rfl, fun w h => inGw ((show ∀ w ∈ u_ws RX4 TX4 1, w ∈ lw_tbl from by decide +kernel) w h) ((show ∀ w ∈ u_ws RX4 TX4 1, goodWord w = true from by decide +kernel) w h), tyX4_ok, nmX4⟩
theorem aF_9 : AI 0 55 9 12 := by decide
theorem gw202 : Cond.methodLinkNest RX4 19 yX8_hasHouse "SharedWindow" ∈ NW := inNW (in_t3 (List.mem_of_getElem? (i := 158) (by decide +kernel))) (by decide +kernel)
theorem cv_RX4_19 : CV RX4 RX8 19 yX8_hasHouse cX8_hasHouse 2 (some .boolean) 1 := ⟨Or.inr ⟨_, gw202⟩, gw108, gw109, gw88, gw107, rfl, by decide +kernel, by decide⟩
theorem gw203 : Cond.methodLink RX4 24 Lib.Math.abs.name ∈ Gw := inGw (in_t4 (List.mem_of_getElem? (i := 120) (by decide +kernel))) (by decide +kernel)
theorem mw_RX4_24 : MW RX4 24 Lib.Math.abs.name Lib.Math.abs.code 1 := ⟨gw203, gw85, gw18, gw86⟩
theorem gw204 : Cond.methodLink RX4 38 yX4_holder ∈ Gw := inGw (in_t4 (List.mem_of_getElem? (i := 139) (by decide +kernel))) (by decide +kernel)
theorem gw205 : Cond.initialized RX4 ∈ Gw := inGw (in_t1 (List.mem_of_getElem? (i := 7) (by decide +kernel))) (by decide +kernel)
theorem gw206 : Cond.code yX4_holder cX4_holder 2 (some .int) ∈ Gw := inGw (in_t3 (List.mem_of_getElem? (i := 215) (by rfl))) (by decide +kernel)
theorem gw207 : Cond.instanceMethod yX4_holder ∈ Gw := inGw (in_t3 (List.mem_of_getElem? (i := 214) (by decide +kernel))) (by decide +kernel)
theorem gw208 : Cond.selects RX4 yX4_holder yX4_holder ∈ Gw := inGw (in_sel (q := (yX4_holder, 1)) (by decide +kernel)) (by decide +kernel)
theorem cv_RX4_38 : CV RX4 RX4 38 yX4_holder cX4_holder 2 (some .int) 1 := ⟨Or.inl gw204, gw207, gw208, gw205, gw206, rfl, by decide +kernel, by decide⟩
theorem oB_8 : OB 0 55 8 4 := by decide
theorem gw209 : Cond.methodLink RX4 41 yX4_give ∈ Gw := inGw (in_t4 (List.mem_of_getElem? (i := 209) (by decide +kernel))) (by decide +kernel)
theorem gw210 : Cond.code yX4_give cX4_give 3 none ∈ Gw := inGw (in_t2 (List.mem_of_getElem? (i := 94) (by rfl))) (by decide +kernel)
theorem gw211 : Cond.instanceMethod yX4_give ∈ Gw := inGw (in_t2 (List.mem_of_getElem? (i := 93) (by decide +kernel))) (by decide +kernel)
theorem gw212 : Cond.selects RX4 yX4_give yX4_give ∈ Gw := inGw (in_sel (q := (yX4_give, 1)) (by decide +kernel)) (by decide +kernel)
theorem cv_RX4_41 : CV RX4 RX4 41 yX4_give cX4_give 3 none 2 := ⟨Or.inl gw209, gw211, gw212, gw205, gw210, rfl, by decide +kernel, by decide⟩
theorem gw213 : Cond.methodLink RX4 30 yX4_exchange ∈ Gw := inGw (in_t4 (List.mem_of_getElem? (i := 205) (by decide +kernel))) (by decide +kernel)
theorem gw214 : Cond.code yX4_exchange cX4_exchange 4 none ∈ Gw := inGw (in_t4 (List.mem_of_getElem? (i := 208) (by rfl))) (by decide +kernel)
theorem gw215 : Cond.instanceMethod yX4_exchange ∈ Gw := inGw (in_t4 (List.mem_of_getElem? (i := 207) (by decide +kernel))) (by decide +kernel)
theorem gw216 : Cond.selects RX4 yX4_exchange yX4_exchange ∈ Gw := inGw (in_sel (q := (yX4_exchange, 1)) (by decide +kernel)) (by decide +kernel)
theorem cv_RX4_30 : CV RX4 RX4 30 yX4_exchange cX4_exchange 4 none 2 := ⟨Or.inl gw213, gw215, gw216, gw205, gw214, rfl, by decide +kernel, by decide⟩
theorem gw217 : Cond.methodLink RX4 34 yX4_way ∈ Gw := inGw (in_t4 (List.mem_of_getElem? (i := 210) (by decide +kernel))) (by decide +kernel)
theorem gw218 : Cond.code yX4_way cX4_way 5 (some .int) ∈ Gw := inGw (in_t4 (List.mem_of_getElem? (i := 119) (by rfl))) (by decide +kernel)
theorem gw219 : Cond.instanceMethod yX4_way ∈ Gw := inGw (in_t4 (List.mem_of_getElem? (i := 118) (by decide +kernel))) (by decide +kernel)
theorem gw220 : Cond.selects RX4 yX4_way yX4_way ∈ Gw := inGw (in_sel (q := (yX4_way, 1)) (by decide +kernel)) (by decide +kernel)
theorem cv_RX4_34 : CV RX4 RX4 34 yX4_way cX4_way 5 (some .int) 0 := ⟨Or.inl gw217, gw219, gw220, gw205, gw218, rfl, by decide +kernel, by decide⟩
theorem gw221 : Cond.methodLink RX4 52 Lib.Math.max.name ∈ Gw := inGw (in_t4 (List.mem_of_getElem? (i := 221) (by decide +kernel))) (by decide +kernel)
theorem mw_RX4_52 : MW RX4 52 Lib.Math.max.name Lib.Math.max.code 2 := ⟨gw221, gw17, gw18, gw19⟩
theorem gw222 : Cond.methodLink RX4 44 yX4_turnsOf ∈ Gw := inGw (in_t4 (List.mem_of_getElem? (i := 219) (by decide +kernel))) (by decide +kernel)
theorem gw223 : Cond.code yX4_turnsOf cX4_turnsOf 4 (some .int) ∈ Gw := inGw (in_t4 (List.mem_of_getElem? (i := 102) (by rfl))) (by decide +kernel)
theorem gw224 : Cond.instanceMethod yX4_turnsOf ∈ Gw := inGw (in_t4 (List.mem_of_getElem? (i := 101) (by decide +kernel))) (by decide +kernel)
theorem gw225 : Cond.selects RX4 yX4_turnsOf yX4_turnsOf ∈ Gw := inGw (in_sel (q := (yX4_turnsOf, 1)) (by decide +kernel)) (by decide +kernel)
theorem cv_RX4_44 : CV RX4 RX4 44 yX4_turnsOf cX4_turnsOf 4 (some .int) 1 := ⟨Or.inl gw222, gw224, gw225, gw205, gw223, rfl, by decide +kernel, by decide⟩
theorem gw226 : Cond.methodLink RX4 47 yJ6_bitCount_0f7a4 ∈ Gw := inGw (in_t4 (List.mem_of_getElem? (i := 220) (by decide +kernel))) (by decide +kernel)
theorem cs_RX4_47 : CS RX4 RJ6 47 yJ6_bitCount_0f7a4 cJ6_bitCount_0f7a4 1 (some .int) 1 := ⟨Or.inl gw226, gw129, gw127, gw128, rfl, by decide +kernel, by decide⟩
theorem gw227 : Cond.methodLink RX4 56 Lib.Math.min.name ∈ Gw := inGw (in_t4 (List.mem_of_getElem? (i := 222) (by decide +kernel))) (by decide +kernel)
theorem mw_RX4_56 : MW RX4 56 Lib.Math.min.name Lib.Math.min.code 2 := ⟨gw227, gw21, gw18, gw22⟩
theorem gw228 : Cond.methodLinkNest RX4 59 yX8_view "SharedWindow" ∈ NW := inNW (in_t4 (List.mem_of_getElem? (i := 129) (by decide +kernel))) (by decide +kernel)
theorem cv_RX4_59 : CV RX4 RX8 59 yX8_view cX8_view 3 (some .int) 2 := ⟨Or.inr ⟨_, gw228⟩, gw120, gw121, gw88, gw119, rfl, by decide +kernel, by decide⟩
theorem kB_m2 : (Int8.ofInt (-2)).toInt32 = (-2 : Int32) := by decide
theorem gw229 : Cond.methodLink RX4 62 yX4_readBy ∈ Gw := inGw (in_t5 (List.mem_of_getElem? (i := 3) (by decide +kernel))) (by decide +kernel)
theorem gw230 : Cond.code yX4_readBy cX4_readBy 8 (some .int) ∈ Gw := inGw (in_t4 (List.mem_of_getElem? (i := 230) (by rfl))) (by decide +kernel)
theorem gw231 : Cond.instanceMethod yX4_readBy ∈ Gw := inGw (in_t4 (List.mem_of_getElem? (i := 229) (by decide +kernel))) (by decide +kernel)
theorem gw232 : Cond.selects RX4 yX4_readBy yX4_readBy ∈ Gw := inGw (in_sel (q := (yX4_readBy, 1)) (by decide +kernel)) (by decide +kernel)
theorem cv_RX4_62 : CV RX4 RX4 62 yX4_readBy cX4_readBy 8 (some .int) 3 := ⟨Or.inl gw229, gw231, gw232, gw205, gw230, rfl, by decide +kernel, by decide⟩
theorem gw233 : Cond.methodLink RX4 66 yX4_othersWhoRead ∈ Gw := inGw (in_t4 (List.mem_of_getElem? (i := 239) (by decide +kernel))) (by decide +kernel)
theorem gw234 : Cond.code yX4_othersWhoRead cX4_othersWhoRead 4 (some .int) ∈ Gw := inGw (in_t5 (List.mem_of_getElem? (i := 2) (by rfl))) (by decide +kernel)
theorem gw235 : Cond.instanceMethod yX4_othersWhoRead ∈ Gw := inGw (in_t5 (List.mem_of_getElem? (i := 1) (by decide +kernel))) (by decide +kernel)
theorem gw236 : Cond.selects RX4 yX4_othersWhoRead yX4_othersWhoRead ∈ Gw := inGw (in_sel (q := (yX4_othersWhoRead, 1)) (by decide +kernel)) (by decide +kernel)
theorem cv_RX4_66 : CV RX4 RX4 66 yX4_othersWhoRead cX4_othersWhoRead 4 (some .int) 3 := ⟨Or.inl gw233, gw235, gw236, gw205, gw234, rfl, by decide +kernel, by decide⟩
theorem gw237 : Cond.fieldLink RX5 22 RX5 (TX5 0).2.1 (TX5 0).2.2.1 ∈ Gw := inGw (in_t1 (List.mem_of_getElem? (i := 90) (by decide +kernel))) (by decide +kernel)
theorem lf_RX5_22 : LF RX5 22 RX5 TX5 4 0 true := ⟨by decide, rfl, rfl, Or.inl gw237⟩
theorem fR_5_0 : FR 0 55 5 5 0 3 := by decide
theorem gw238 : Cond.fieldLinkNest RX5 40 RX0 (TX0 3).2.1 (TX0 3).2.2.1 "SharedWindow" ∈ NW := inNW (in_t1 (List.mem_of_getElem? (i := 56) (by decide +kernel))) (by decide +kernel)
theorem lf_RX5_40 : LF RX5 40 RX0 TX0 5 3 false := ⟨by decide, rfl, rfl, Or.inr ⟨_, gw238⟩⟩
theorem gw239 : Cond.fieldLink RX5 15 RX5 (TX5 2).2.1 (TX5 2).2.2.1 ∈ Gw := inGw (in_t1 (List.mem_of_getElem? (i := 92) (by decide +kernel))) (by decide +kernel)
theorem lf_RX5_15 : LF RX5 15 RX5 TX5 4 2 false := ⟨by decide, rfl, rfl, Or.inl gw239⟩
theorem fI_5_2 : FI 0 55 5 5 2 := by decide
theorem gw240 : Cond.fieldLink RX5 19 RX5 (TX5 3).2.1 (TX5 3).2.2.1 ∈ Gw := inGw (in_t1 (List.mem_of_getElem? (i := 93) (by decide +kernel))) (by decide +kernel)
theorem lf_RX5_19 : LF RX5 19 RX5 TX5 4 3 false := ⟨by decide, rfl, rfl, Or.inl gw240⟩
theorem fI_5_3 : FI 0 55 5 5 3 := by decide
theorem gw241 : Cond.fieldLinkNest RX5 61 RX0 (TX0 2).2.1 (TX0 2).2.2.1 "SharedWindow" ∈ NW := inNW (in_t1 (List.mem_of_getElem? (i := 53) (by decide +kernel))) (by decide +kernel)
theorem lf_RX5_61 : LF RX5 61 RX0 TX0 5 2 false := ⟨by decide, rfl, rfl, Or.inr ⟨_, gw241⟩⟩
theorem gw242 : Cond.fieldLink RX5 9 RX5 (TX5 1).2.1 (TX5 1).2.2.1 ∈ Gw := inGw (in_t1 (List.mem_of_getElem? (i := 91) (by decide +kernel))) (by decide +kernel)
theorem lf_RX5_9 : LF RX5 9 RX5 TX5 4 1 true := ⟨by decide, rfl, rfl, Or.inl gw242⟩
theorem fR_5_1 : FR 0 55 5 5 1 6 := by decide
theorem aF_6 : AI 0 55 6 12 := by decide
theorem ci5 : CI 5 RX5 TX5 4 tyX5 := ⟨rfl, fun w h => inGw ((show ∀ w ∈ u_ws RX5 TX5 4, w ∈ lw_tbl from by decide +kernel) w h) ((show ∀ w ∈ u_ws RX5 TX5 4, goodWord w = true from by decide +kernel) w h), tyX5_ok, nmX5⟩
theorem gw243 : Cond.methodLinkNest RX5 64 yX0_step "SharedWindow" ∈ NW := inNW (in_t3 (List.mem_of_getElem? (i := 180) (by decide +kernel))) (by decide +kernel)
theorem cv_RX5_64 : CV RX5 RX0 64 yX0_step cX0_step 1 none 0 := ⟨Or.inr ⟨_, gw243⟩, gw64, gw65, gw54, gw63, rfl, by decide +kernel, by decide⟩
theorem gw244 : Cond.methodLinkNest RX5 80 yX8_hasHouse "SharedWindow" ∈ NW := inNW (in_t3 (List.mem_of_getElem? (i := 193) (by decide +kernel))) (by decide +kernel)
theorem cv_RX5_80 : CV RX5 RX8 80 yX8_hasHouse cX8_hasHouse 2 (some .boolean) 1 := ⟨Or.inr ⟨_, gw244⟩, gw108, gw109, gw88, gw107, rfl, by decide +kernel, by decide⟩
theorem gw245 : Cond.methodLinkNest RX5 46 yX0_fail "SharedWindow" ∈ NW := inNW (in_t3 (List.mem_of_getElem? (i := 192) (by decide +kernel))) (by decide +kernel)
theorem cv_RX5_46 : CV RX5 RX0 46 yX0_fail cX0_fail 3 none 2 := ⟨Or.inr ⟨_, gw245⟩, gw56, gw57, gw54, gw55, rfl, by decide +kernel, by decide⟩
theorem gw246 : Cond.methodLinkNest RX5 43 yX0_failHere "SharedWindow" ∈ NW := inNW (in_t3 (List.mem_of_getElem? (i := 185) (by decide +kernel))) (by decide +kernel)
theorem cv_RX5_43 : CV RX5 RX0 43 yX0_failHere cX0_failHere 2 none 1 := ⟨Or.inr ⟨_, gw246⟩, gw60, gw61, gw54, gw59, rfl, by decide +kernel, by decide⟩
theorem kB_60 : (Int8.ofInt (60)).toInt32 = (60 : Int32) := by decide
theorem gw247 : Cond.methodLink RX5 58 yX5_readOne ∈ Gw := inGw (in_t3 (List.mem_of_getElem? (i := 176) (by decide +kernel))) (by decide +kernel)
theorem gw248 : Cond.initialized RX5 ∈ Gw := inGw (in_t1 (List.mem_of_getElem? (i := 5) (by decide +kernel))) (by decide +kernel)
theorem gw249 : Cond.code yX5_readOne cX5_readOne 6 none ∈ Gw := inGw (in_t3 (List.mem_of_getElem? (i := 179) (by rfl))) (by decide +kernel)
theorem gw250 : Cond.instanceMethod yX5_readOne ∈ Gw := inGw (in_t3 (List.mem_of_getElem? (i := 178) (by decide +kernel))) (by decide +kernel)
theorem gw251 : Cond.selects RX5 yX5_readOne yX5_readOne ∈ Gw := inGw (in_sel (q := (yX5_readOne, 4)) (by decide +kernel)) (by decide +kernel)
theorem cv_RX5_58 : CV RX5 RX5 58 yX5_readOne cX5_readOne 6 none 2 := ⟨Or.inl gw247, gw250, gw251, gw248, gw249, rfl, by decide +kernel, by decide⟩
theorem oB_5 : OB 0 55 5 5 := by decide
theorem gw252 : Cond.methodLinkNest RX5 36 yX0_fine "SharedWindow" ∈ NW := inNW (in_t3 (List.mem_of_getElem? (i := 186) (by decide +kernel))) (by decide +kernel)
theorem cv_RX5_36 : CV RX5 RX0 36 yX0_fine cX0_fine 1 (some .boolean) 0 := ⟨Or.inr ⟨_, gw252⟩, gw68, gw69, gw54, gw67, rfl, by decide +kernel, by decide⟩
theorem kB_41 : (Int8.ofInt (41)).toInt32 = (41 : Int32) := by decide
theorem gw253 : Cond.methodLink RX5 73 yX5_repeat ∈ Gw := inGw (in_t3 (List.mem_of_getElem? (i := 194) (by decide +kernel))) (by decide +kernel)
theorem gw254 : Cond.code yX5_repeat cX5_repeat 6 none ∈ Gw := inGw (in_t3 (List.mem_of_getElem? (i := 197) (by rfl))) (by decide +kernel)
theorem gw255 : Cond.instanceMethod yX5_repeat ∈ Gw := inGw (in_t3 (List.mem_of_getElem? (i := 196) (by decide +kernel))) (by decide +kernel)
theorem gw256 : Cond.selects RX5 yX5_repeat yX5_repeat ∈ Gw := inGw (in_sel (q := (yX5_repeat, 4)) (by decide +kernel)) (by decide +kernel)
theorem cv_RX5_73 : CV RX5 RX5 73 yX5_repeat cX5_repeat 6 none 3 := ⟨Or.inl gw253, gw255, gw256, gw248, gw254, rfl, by decide +kernel, by decide⟩
theorem kB_40 : (Int8.ofInt (40)).toInt32 = (40 : Int32) := by decide
theorem gw257 : Cond.methodLink RX5 70 yX5_readHolder ∈ Gw := inGw (in_t3 (List.mem_of_getElem? (i := 188) (by decide +kernel))) (by decide +kernel)
theorem gw258 : Cond.code yX5_readHolder cX5_readHolder 5 none ∈ Gw := inGw (in_t3 (List.mem_of_getElem? (i := 191) (by rfl))) (by decide +kernel)
theorem gw259 : Cond.instanceMethod yX5_readHolder ∈ Gw := inGw (in_t3 (List.mem_of_getElem? (i := 190) (by decide +kernel))) (by decide +kernel)
theorem gw260 : Cond.selects RX5 yX5_readHolder yX5_readHolder ∈ Gw := inGw (in_sel (q := (yX5_readHolder, 4)) (by decide +kernel)) (by decide +kernel)
theorem cv_RX5_70 : CV RX5 RX5 70 yX5_readHolder cX5_readHolder 5 none 2 := ⟨Or.inl gw257, gw259, gw260, gw248, gw258, rfl, by decide +kernel, by decide⟩
theorem gw261 : Cond.methodLink RX5 67 yX5_readRound ∈ Gw := inGw (in_t3 (List.mem_of_getElem? (i := 181) (by decide +kernel))) (by decide +kernel)
theorem gw262 : Cond.code yX5_readRound cX5_readRound 3 none ∈ Gw := inGw (in_t3 (List.mem_of_getElem? (i := 184) (by rfl))) (by decide +kernel)
theorem gw263 : Cond.instanceMethod yX5_readRound ∈ Gw := inGw (in_t3 (List.mem_of_getElem? (i := 183) (by decide +kernel))) (by decide +kernel)
theorem gw264 : Cond.selects RX5 yX5_readRound yX5_readRound ∈ Gw := inGw (in_sel (q := (yX5_readRound, 4)) (by decide +kernel)) (by decide +kernel)
theorem cv_RX5_67 : CV RX5 RX5 67 yX5_readRound cX5_readRound 3 none 2 := ⟨Or.inl gw261, gw263, gw264, gw248, gw262, rfl, by decide +kernel, by decide⟩
theorem kB_50 : (Int8.ofInt (50)).toInt32 = (50 : Int32) := by decide
theorem gw265 : Cond.methodLink RX5 32 yX5_readTurns ∈ Gw := inGw (in_t3 (List.mem_of_getElem? (i := 172) (by decide +kernel))) (by decide +kernel)
theorem gw266 : Cond.code yX5_readTurns cX5_readTurns 5 none ∈ Gw := inGw (in_t3 (List.mem_of_getElem? (i := 175) (by rfl))) (by decide +kernel)
theorem gw267 : Cond.instanceMethod yX5_readTurns ∈ Gw := inGw (in_t3 (List.mem_of_getElem? (i := 174) (by decide +kernel))) (by decide +kernel)
theorem gw268 : Cond.selects RX5 yX5_readTurns yX5_readTurns ∈ Gw := inGw (in_sel (q := (yX5_readTurns, 4)) (by decide +kernel)) (by decide +kernel)
theorem cv_RX5_32 : CV RX5 RX5 32 yX5_readTurns cX5_readTurns 5 none 2 := ⟨Or.inl gw265, gw267, gw268, gw248, gw266, rfl, by decide +kernel, by decide⟩
theorem gw269 : Cond.methodLinkNest RX5 77 yX0_expect "SharedWindow" ∈ NW := inNW (in_t3 (List.mem_of_getElem? (i := 187) (by decide +kernel))) (by decide +kernel)
theorem cv_RX5_77 : CV RX5 RX0 77 yX0_expect cX0_expect 2 none 1 := ⟨Or.inr ⟨_, gw269⟩, gw72, gw73, gw54, gw71, rfl, by decide +kernel, by decide⟩
theorem kI_5 : Int32.ofInt (5) = (5 : Int32) := by decide
theorem gw270 : Cond.fieldLinkNest RX5 50 RX0 (TX0 4).2.1 (TX0 4).2.2.1 "SharedWindow" ∈ NW := inNW (in_t1 (List.mem_of_getElem? (i := 62) (by decide +kernel))) (by decide +kernel)
theorem lf_RX5_50 : LF RX5 50 RX0 TX0 5 4 false := ⟨by decide, rfl, rfl, Or.inr ⟨_, gw270⟩⟩
theorem gw271 : Cond.methodLinkNest RX5 53 yX4_give "SharedWindow" ∈ NW := inNW (in_t3 (List.mem_of_getElem? (i := 198) (by decide +kernel))) (by decide +kernel)
theorem cv_RX5_53 : CV RX5 RX4 53 yX4_give cX4_give 3 none 2 := ⟨Or.inr ⟨_, gw271⟩, gw211, gw212, gw205, gw210, rfl, by decide +kernel, by decide⟩
theorem kB_7 : (Int8.ofInt (7)).toInt32 = (7 : Int32) := by decide
theorem gw272 : Cond.methodLinkNest RX5 26 yX0_start "SharedWindow" ∈ NW := inNW (in_t3 (List.mem_of_getElem? (i := 171) (by decide +kernel))) (by decide +kernel)
theorem cv_RX5_26 : CV RX5 RX0 26 yX0_start cX0_start 2 none 1 := ⟨Or.inr ⟨_, gw272⟩, gw194, gw195, gw54, gw193, rfl, by decide +kernel, by decide⟩
theorem gw273 : Cond.fieldLink RX2 30 RX2 (TX2 6).2.1 (TX2 6).2.2.1 ∈ Gw := inGw (in_t2 (List.mem_of_getElem? (i := 4) (by decide +kernel))) (by decide +kernel)
theorem lf_RX2_30 : LF RX2 30 RX2 TX2 11 6 false := ⟨by decide, rfl, rfl, Or.inl gw273⟩
theorem fI_L_6 {o : Nat} (h : isL o) : FI 0 55 o 2 6 := by rcases h with rfl | rfl <;> decide
theorem ci2 : CI 2 RX2 TX2 11 tyX2 := ⟨rfl, fun w h => inGw ((show ∀ w ∈ u_ws RX2 TX2 11, w ∈ lw_tbl from by decide +kernel) w h) ((show ∀ w ∈ u_ws RX2 TX2 11, goodWord w = true from by decide +kernel) w h), tyX2_ok, nmX2⟩
theorem gw274 : Cond.fieldLink RX2 34 RX2 (TX2 7).2.1 (TX2 7).2.2.1 ∈ Gw := inGw (in_t2 (List.mem_of_getElem? (i := 6) (by decide +kernel))) (by decide +kernel)
theorem lf_RX2_34 : LF RX2 34 RX2 TX2 11 7 false := ⟨by decide, rfl, rfl, Or.inl gw274⟩
theorem fI_L_7 {o : Nat} (h : isL o) : FI 0 55 o 2 7 := by rcases h with rfl | rfl <;> decide
theorem gw275 : Cond.fieldLink RX2 11 RX2 (TX2 0).2.1 (TX2 0).2.2.1 ∈ Gw := inGw (in_t1 (List.mem_of_getElem? (i := 238) (by decide +kernel))) (by decide +kernel)
theorem lf_RX2_11 : LF RX2 11 RX2 TX2 11 0 true := ⟨by decide, rfl, rfl, Or.inl gw275⟩
theorem fR_L_0 {o : Nat} (h : isL o) : FR 0 55 o 2 0 (o + 1) := by rcases h with rfl | rfl <;> decide
theorem gw276 : Cond.fieldLink RX2 15 RX2 (TX2 1).2.1 (TX2 1).2.2.1 ∈ Gw := inGw (in_t1 (List.mem_of_getElem? (i := 239) (by decide +kernel))) (by decide +kernel)
theorem lf_RX2_15 : LF RX2 15 RX2 TX2 11 1 true := ⟨by decide, rfl, rfl, Or.inl gw276⟩
theorem fR_L_1 {o : Nat} (h : isL o) : FR 0 55 o 2 1 (o + 2) := by rcases h with rfl | rfl <;> decide
theorem gw277 : Cond.fieldLink RX2 18 RX2 (TX2 2).2.1 (TX2 2).2.2.1 ∈ Gw := inGw (in_t2 (List.mem_of_getElem? (i := 0) (by decide +kernel))) (by decide +kernel)
theorem lf_RX2_18 : LF RX2 18 RX2 TX2 11 2 true := ⟨by decide, rfl, rfl, Or.inl gw277⟩
theorem fR_L_2 {o : Nat} (h : isL o) : FR 0 55 o 2 2 (o + 3) := by rcases h with rfl | rfl <;> decide
theorem aF_L_1 {o : Nat} (h : isL o) : AI 0 55 (o + 1) 16 := by rcases h with rfl | rfl <;> decide
theorem aF_L_2 {o : Nat} (h : isL o) : AI 0 55 (o + 2) 16 := by rcases h with rfl | rfl <;> decide
theorem aF_L_3 {o : Nat} (h : isL o) : AI 0 55 (o + 3) 16 := by rcases h with rfl | rfl <;> decide
theorem gw278 : Cond.fieldLink RX2 21 RX2 (TX2 3).2.1 (TX2 3).2.2.1 ∈ Gw := inGw (in_t2 (List.mem_of_getElem? (i := 1) (by decide +kernel))) (by decide +kernel)
theorem lf_RX2_21 : LF RX2 21 RX2 TX2 11 3 true := ⟨by decide, rfl, rfl, Or.inl gw278⟩
theorem fR_L_3 {o : Nat} (h : isL o) : FR 0 55 o 2 3 (o + 4) := by rcases h with rfl | rfl <;> decide
theorem kS_288 : (Int16.ofInt (288)).toInt32 = (288 : Int32) := by decide
theorem aF_L_4 {o : Nat} (h : isL o) : AI 0 55 (o + 4) 288 := by rcases h with rfl | rfl <;> decide
theorem kB_15 : (Int8.ofInt (15)).toInt32 = (15 : Int32) := by decide
theorem gw279 : Cond.fieldLink RX2 24 RX2 (TX2 4).2.1 (TX2 4).2.2.1 ∈ Gw := inGw (in_t2 (List.mem_of_getElem? (i := 2) (by decide +kernel))) (by decide +kernel)
theorem lf_RX2_24 : LF RX2 24 RX2 TX2 11 4 true := ⟨by decide, rfl, rfl, Or.inl gw279⟩
theorem fR_L_4 {o : Nat} (h : isL o) : FR 0 55 o 2 4 (o + 5) := by rcases h with rfl | rfl <;> decide
theorem kB_9 : (Int8.ofInt (9)).toInt32 = (9 : Int32) := by decide
theorem aF_L_5 {o : Nat} (h : isL o) : AI 0 55 (o + 5) 9 := by rcases h with rfl | rfl <;> decide
theorem gw280 : Cond.fieldLink RX2 44 RX2 (TX2 10).2.1 (TX2 10).2.2.1 ∈ Gw := inGw (in_t2 (List.mem_of_getElem? (i := 10) (by decide +kernel))) (by decide +kernel)
theorem lf_RX2_44 : LF RX2 44 RX2 TX2 11 10 false := ⟨by decide, rfl, rfl, Or.inl gw280⟩
theorem fI_L_10 {o : Nat} (h : isL o) : FI 0 55 o 2 10 := by rcases h with rfl | rfl <;> decide
theorem gw281 : Cond.fieldLink RX2 37 RX2 (TX2 8).2.1 (TX2 8).2.2.1 ∈ Gw := inGw (in_t2 (List.mem_of_getElem? (i := 8) (by decide +kernel))) (by decide +kernel)
theorem lf_RX2_37 : LF RX2 37 RX2 TX2 11 8 false := ⟨by decide, rfl, rfl, Or.inl gw281⟩
theorem fI_L_8 {o : Nat} (h : isL o) : FI 0 55 o 2 8 := by rcases h with rfl | rfl <;> decide
theorem gw282 : Cond.fieldLink RX2 27 RX2 (TX2 5).2.1 (TX2 5).2.2.1 ∈ Gw := inGw (in_t2 (List.mem_of_getElem? (i := 3) (by decide +kernel))) (by decide +kernel)
theorem lf_RX2_27 : LF RX2 27 RX2 TX2 11 5 true := ⟨by decide, rfl, rfl, Or.inl gw282⟩
theorem fR_L_5 {o : Nat} (h : isL o) : FR 0 55 o 2 5 (o + 6) := by rcases h with rfl | rfl <;> decide
theorem gw283 : Cond.fieldLink RX2 40 RX2 (TX2 9).2.1 (TX2 9).2.2.1 ∈ Gw := inGw (in_t2 (List.mem_of_getElem? (i := 9) (by decide +kernel))) (by decide +kernel)
theorem lf_RX2_40 : LF RX2 40 RX2 TX2 11 9 false := ⟨by decide, rfl, rfl, Or.inl gw283⟩
theorem fI_L_9 {o : Nat} (h : isL o) : FI 0 55 o 2 9 := by rcases h with rfl | rfl <;> decide
theorem aF_L_6 {o : Nat} (h : isL o) : AI 0 55 (o + 6) 32 := by rcases h with rfl | rfl <;> decide
theorem gw284 : Cond.methodLink RX2 68 yX2_letterValue ∈ Gw := inGw (in_t4 (List.mem_of_getElem? (i := 17) (by decide +kernel))) (by decide +kernel)
theorem gw285 : Cond.initialized RX2 ∈ Gw := inGw (in_t1 (List.mem_of_getElem? (i := 12) (by decide +kernel))) (by decide +kernel)
theorem gw286 : Cond.code yX2_letterValue cX2_letterValue 2 (some .int) ∈ Gw := inGw (in_t4 (List.mem_of_getElem? (i := 20) (by rfl))) (by decide +kernel)
theorem gw287 : Cond.instanceMethod yX2_letterValue ∈ Gw := inGw (in_t4 (List.mem_of_getElem? (i := 19) (by decide +kernel))) (by decide +kernel)
theorem gw288 : Cond.selects RX2 yX2_letterValue yX2_letterValue ∈ Gw := inGw (in_sel (q := (yX2_letterValue, 11)) (by decide +kernel)) (by decide +kernel)
theorem cv_RX2_68 : CV RX2 RX2 68 yX2_letterValue cX2_letterValue 2 (some .int) 1 := ⟨Or.inl gw284, gw287, gw288, gw285, gw286, rfl, by decide +kernel, by decide⟩
theorem oB_L {o : Nat} (h : isL o) : OB 0 55 o 2 := by rcases h with rfl | rfl <;> decide
theorem gw289 : Cond.methodLink RX2 71 yX2_reckon ∈ Gw := inGw (in_t4 (List.mem_of_getElem? (i := 21) (by decide +kernel))) (by decide +kernel)
theorem gw290 : Cond.code yX2_reckon cX2_reckon 4 (some .int) ∈ Gw := inGw (in_t4 (List.mem_of_getElem? (i := 24) (by rfl))) (by decide +kernel)
theorem gw291 : Cond.instanceMethod yX2_reckon ∈ Gw := inGw (in_t4 (List.mem_of_getElem? (i := 23) (by decide +kernel))) (by decide +kernel)
theorem gw292 : Cond.selects RX2 yX2_reckon yX2_reckon ∈ Gw := inGw (in_sel (q := (yX2_reckon, 11)) (by decide +kernel)) (by decide +kernel)
theorem cv_RX2_71 : CV RX2 RX2 71 yX2_reckon cX2_reckon 4 (some .int) 3 := ⟨Or.inl gw289, gw291, gw292, gw285, gw290, rfl, by decide +kernel, by decide⟩
theorem gw293 : Cond.methodLink RX2 64 yX2_takeStep ∈ Gw := inGw (in_t4 (List.mem_of_getElem? (i := 13) (by decide +kernel))) (by decide +kernel)
theorem gw294 : Cond.code yX2_takeStep cX2_takeStep 5 none ∈ Gw := inGw (in_t4 (List.mem_of_getElem? (i := 16) (by rfl))) (by decide +kernel)
theorem gw295 : Cond.instanceMethod yX2_takeStep ∈ Gw := inGw (in_t4 (List.mem_of_getElem? (i := 15) (by decide +kernel))) (by decide +kernel)
theorem gw296 : Cond.selects RX2 yX2_takeStep yX2_takeStep ∈ Gw := inGw (in_sel (q := (yX2_takeStep, 11)) (by decide +kernel)) (by decide +kernel)
theorem cv_RX2_64 : CV RX2 RX2 64 yX2_takeStep cX2_takeStep 5 none 2 := ⟨Or.inl gw293, gw295, gw296, gw285, gw294, rfl, by decide +kernel, by decide⟩
theorem kB_13 : (Int8.ofInt (13)).toInt32 = (13 : Int32) := by decide
theorem gw297 : Cond.methodLink RX2 51 yX2_work ∈ Gw := inGw (in_t4 (List.mem_of_getElem? (i := 9) (by decide +kernel))) (by decide +kernel)
theorem gw298 : Cond.code yX2_work cX2_work 7 none ∈ Gw := inGw (in_t4 (List.mem_of_getElem? (i := 12) (by rfl))) (by decide +kernel)
theorem gw299 : Cond.instanceMethod yX2_work ∈ Gw := inGw (in_t4 (List.mem_of_getElem? (i := 11) (by decide +kernel))) (by decide +kernel)
theorem gw300 : Cond.selects RX2 yX2_work yX2_work ∈ Gw := inGw (in_sel (q := (yX2_work, 11)) (by decide +kernel)) (by decide +kernel)
theorem cv_RX2_51 : CV RX2 RX2 51 yX2_work cX2_work 7 none 1 := ⟨Or.inl gw297, gw299, gw300, gw285, gw298, rfl, by decide +kernel, by decide⟩
theorem kB_120 : (Int8.ofInt (120)).toInt32 = (120 : Int32) := by decide
theorem gw301 : Cond.methodLink RX2 47 yX2_firstRule ∈ Gw := inGw (in_t4 (List.mem_of_getElem? (i := 5) (by decide +kernel))) (by decide +kernel)
theorem gw302 : Cond.code yX2_firstRule cX2_firstRule 3 (some .int) ∈ Gw := inGw (in_t4 (List.mem_of_getElem? (i := 8) (by rfl))) (by decide +kernel)
theorem gw303 : Cond.instanceMethod yX2_firstRule ∈ Gw := inGw (in_t4 (List.mem_of_getElem? (i := 7) (by decide +kernel))) (by decide +kernel)
theorem gw304 : Cond.selects RX2 yX2_firstRule yX2_firstRule ∈ Gw := inGw (in_sel (q := (yX2_firstRule, 11)) (by decide +kernel)) (by decide +kernel)
theorem cv_RX2_47 : CV RX2 RX2 47 yX2_firstRule cX2_firstRule 3 (some .int) 1 := ⟨Or.inl gw301, gw303, gw304, gw285, gw302, rfl, by decide +kernel, by decide⟩
theorem kN_0_32 : inb 0 32 = true := by decide
theorem kU_0 : (0 : Int32).toNatClampNeg = 0 := by decide
theorem gw305 : Cond.methodLink RX2 55 Lib.Math.min.name ∈ Gw := inGw (in_t4 (List.mem_of_getElem? (i := 29) (by decide +kernel))) (by decide +kernel)
theorem mw_RX2_55 : MW RX2 55 Lib.Math.min.name Lib.Math.min.code 2 := ⟨gw305, gw21, gw18, gw22⟩
theorem gw306 : Cond.methodLink RX2 61 Lib.Math.max.name ∈ Gw := inGw (in_t4 (List.mem_of_getElem? (i := 30) (by decide +kernel))) (by decide +kernel)
theorem mw_RX2_61 : MW RX2 61 Lib.Math.max.name Lib.Math.max.code 2 := ⟨gw306, gw17, gw18, gw19⟩
theorem gw307 : Cond.fieldLink RX3 9 RX3 (TX3 0).2.1 (TX3 0).2.2.1 ∈ Gw := inGw (in_t1 (List.mem_of_getElem? (i := 109) (by decide +kernel))) (by decide +kernel)
theorem lf_RX3_9 : LF RX3 9 RX3 TX3 1 0 true := ⟨by decide, rfl, rfl, Or.inl gw307⟩
theorem fR_7_0 : FR 0 55 7 3 0 3 := by decide
theorem ci3 : CI 3 RX3 TX3 1 tyX3 := ⟨rfl, fun w h => inGw ((show ∀ w ∈ u_ws RX3 TX3 1, w ∈ lw_tbl from by decide +kernel) w h) ((show ∀ w ∈ u_ws RX3 TX3 1, goodWord w = true from by decide +kernel) w h), tyX3_ok, nmX3⟩
theorem gw308 : Cond.methodLinkNest RX3 47 yX0_step "SharedWindow" ∈ NW := inNW (in_t2 (List.mem_of_getElem? (i := 148) (by decide +kernel))) (by decide +kernel)
theorem cv_RX3_47 : CV RX3 RX0 47 yX0_step cX0_step 1 none 0 := ⟨Or.inr ⟨_, gw308⟩, gw64, gw65, gw54, gw63, rfl, by decide +kernel, by decide⟩
theorem gw309 : Cond.methodLinkNest RX3 44 yX0_failHere "SharedWindow" ∈ NW := inNW (in_t2 (List.mem_of_getElem? (i := 140) (by decide +kernel))) (by decide +kernel)
theorem cv_RX3_44 : CV RX3 RX0 44 yX0_failHere cX0_failHere 2 none 1 := ⟨Or.inr ⟨_, gw309⟩, gw60, gw61, gw54, gw59, rfl, by decide +kernel, by decide⟩
theorem kB_62 : (Int8.ofInt (62)).toInt32 = (62 : Int32) := by decide
theorem kB_61 : (Int8.ofInt (61)).toInt32 = (61 : Int32) := by decide
theorem kB_43 : (Int8.ofInt (43)).toInt32 = (43 : Int32) := by decide
theorem kB_42 : (Int8.ofInt (42)).toInt32 = (42 : Int32) := by decide
theorem kB_47 : (Int8.ofInt (47)).toInt32 = (47 : Int32) := by decide
theorem kB_37 : (Int8.ofInt (37)).toInt32 = (37 : Int32) := by decide
theorem gw310 : Cond.methodLink RX3 108 yJ0_indexOf_0f7a4 ∈ Gw := inGw (in_t2 (List.mem_of_getElem? (i := 172) (by decide +kernel))) (by decide +kernel)
theorem gw311 : Cond.code yJ0_indexOf_0f7a4 cJ0_indexOf_0f7a4 2 (some .int) ∈ Gw := inGw (in_t2 (List.mem_of_getElem? (i := 175) (by rfl))) (by decide +kernel)
theorem gw312 : Cond.instanceMethod yJ0_indexOf_0f7a4 ∈ Gw := inGw (in_t2 (List.mem_of_getElem? (i := 173) (by decide +kernel))) (by decide +kernel)
theorem gw313 : Cond.selects RJ0 yJ0_indexOf_0f7a4 yJ0_indexOf_0f7a4 ∈ Gw := inGw (in_t2 (List.mem_of_getElem? (i := 174) (by decide +kernel))) (by decide +kernel)
theorem cv_RX3_108 : CV RX3 RJ0 108 yJ0_indexOf_0f7a4 cJ0_indexOf_0f7a4 2 (some .int) 1 := ⟨Or.inl gw310, gw312, gw313, gw8, gw311, rfl, by decide +kernel, by decide⟩
theorem gw314 : Cond.fieldLinkNest RX3 41 RX0 (TX0 3).2.1 (TX0 3).2.2.1 "SharedWindow" ∈ NW := inNW (in_t1 (List.mem_of_getElem? (i := 57) (by decide +kernel))) (by decide +kernel)
theorem lf_RX3_41 : LF RX3 41 RX0 TX0 5 3 false := ⟨by decide, rfl, rfl, Or.inr ⟨_, gw314⟩⟩
theorem kS_240 : (Int16.ofInt (240)).toInt32 = (240 : Int32) := by decide
theorem gw315 : Cond.methodLinkNest RX3 34 yX0_fine "SharedWindow" ∈ NW := inNW (in_t2 (List.mem_of_getElem? (i := 164) (by decide +kernel))) (by decide +kernel)
theorem cv_RX3_34 : CV RX3 RX0 34 yX0_fine cX0_fine 1 (some .boolean) 0 := ⟨Or.inr ⟨_, gw315⟩, gw68, gw69, gw54, gw67, rfl, by decide +kernel, by decide⟩
theorem kB_124 : (Int8.ofInt (124)).toInt32 = (124 : Int32) := by decide
theorem gw316 : Cond.methodLinkNest RX3 57 yX2_addStep "SharedWindow" ∈ NW := inNW (in_t3 (List.mem_of_getElem? (i := 18) (by decide +kernel))) (by decide +kernel)
theorem gw317 : Cond.code yX2_addStep cX2_addStep 4 (some .int) ∈ Gw := inGw (in_t3 (List.mem_of_getElem? (i := 21) (by rfl))) (by decide +kernel)
theorem gw318 : Cond.instanceMethod yX2_addStep ∈ Gw := inGw (in_t3 (List.mem_of_getElem? (i := 20) (by decide +kernel))) (by decide +kernel)
theorem gw319 : Cond.selects RX2 yX2_addStep yX2_addStep ∈ Gw := inGw (in_sel (q := (yX2_addStep, 11)) (by decide +kernel)) (by decide +kernel)
theorem cv_RX3_57 : CV RX3 RX2 57 yX2_addStep cX2_addStep 4 (some .int) 2 := ⟨Or.inr ⟨_, gw316⟩, gw318, gw319, gw285, gw317, rfl, by decide +kernel, by decide⟩
theorem gw320 : Cond.methodLink RX3 71 yX3_readPart ∈ Gw := inGw (in_t3 (List.mem_of_getElem? (i := 51) (by decide +kernel))) (by decide +kernel)
theorem gw321 : Cond.initialized RX3 ∈ Gw := inGw (in_t1 (List.mem_of_getElem? (i := 6) (by decide +kernel))) (by decide +kernel)
theorem gw322 : Cond.code yX3_readPart cX3_readPart 5 none ∈ Gw := inGw (in_t3 (List.mem_of_getElem? (i := 54) (by rfl))) (by decide +kernel)
theorem gw323 : Cond.instanceMethod yX3_readPart ∈ Gw := inGw (in_t3 (List.mem_of_getElem? (i := 53) (by decide +kernel))) (by decide +kernel)
theorem gw324 : Cond.selects RX3 yX3_readPart yX3_readPart ∈ Gw := inGw (in_sel (q := (yX3_readPart, 1)) (by decide +kernel)) (by decide +kernel)
theorem cv_RX3_71 : CV RX3 RX3 71 yX3_readPart cX3_readPart 5 none 2 := ⟨Or.inl gw320, gw323, gw324, gw321, gw322, rfl, by decide +kernel, by decide⟩
theorem oB_7 : OB 0 55 7 3 := by decide
theorem gw325 : Cond.methodLinkNest RX3 74 yX2_aimHere "SharedWindow" ∈ NW := inNW (in_t3 (List.mem_of_getElem? (i := 62) (by decide +kernel))) (by decide +kernel)
theorem gw326 : Cond.code yX2_aimHere cX2_aimHere 2 none ∈ Gw := inGw (in_t3 (List.mem_of_getElem? (i := 65) (by rfl))) (by decide +kernel)
theorem gw327 : Cond.instanceMethod yX2_aimHere ∈ Gw := inGw (in_t3 (List.mem_of_getElem? (i := 64) (by decide +kernel))) (by decide +kernel)
theorem gw328 : Cond.selects RX2 yX2_aimHere yX2_aimHere ∈ Gw := inGw (in_sel (q := (yX2_aimHere, 11)) (by decide +kernel)) (by decide +kernel)
theorem cv_RX3_74 : CV RX3 RX2 74 yX2_aimHere cX2_aimHere 2 none 1 := ⟨Or.inr ⟨_, gw325⟩, gw327, gw328, gw285, gw326, rfl, by decide +kernel, by decide⟩
theorem kB_38 : (Int8.ofInt (38)).toInt32 = (38 : Int32) := by decide
theorem gw329 : Cond.methodLink RX3 77 yX3_readTest ∈ Gw := inGw (in_t3 (List.mem_of_getElem? (i := 55) (by decide +kernel))) (by decide +kernel)
theorem gw330 : Cond.code yX3_readTest cX3_readTest 5 none ∈ Gw := inGw (in_t3 (List.mem_of_getElem? (i := 58) (by rfl))) (by decide +kernel)
theorem gw331 : Cond.instanceMethod yX3_readTest ∈ Gw := inGw (in_t3 (List.mem_of_getElem? (i := 57) (by decide +kernel))) (by decide +kernel)
theorem gw332 : Cond.selects RX3 yX3_readTest yX3_readTest ∈ Gw := inGw (in_sel (q := (yX3_readTest, 1)) (by decide +kernel)) (by decide +kernel)
theorem cv_RX3_77 : CV RX3 RX3 77 yX3_readTest cX3_readTest 5 none 2 := ⟨Or.inl gw329, gw331, gw332, gw321, gw330, rfl, by decide +kernel, by decide⟩
theorem gw333 : Cond.methodLink RX3 53 yX3_readSum ∈ Gw := inGw (in_t2 (List.mem_of_getElem? (i := 152) (by decide +kernel))) (by decide +kernel)
theorem gw334 : Cond.code yX3_readSum cX3_readSum 5 none ∈ Gw := inGw (in_t2 (List.mem_of_getElem? (i := 155) (by rfl))) (by decide +kernel)
theorem gw335 : Cond.instanceMethod yX3_readSum ∈ Gw := inGw (in_t2 (List.mem_of_getElem? (i := 154) (by decide +kernel))) (by decide +kernel)
theorem gw336 : Cond.selects RX3 yX3_readSum yX3_readSum ∈ Gw := inGw (in_sel (q := (yX3_readSum, 1)) (by decide +kernel)) (by decide +kernel)
theorem cv_RX3_53 : CV RX3 RX3 53 yX3_readSum cX3_readSum 5 none 2 := ⟨Or.inl gw333, gw335, gw336, gw321, gw334, rfl, by decide +kernel, by decide⟩
theorem gw337 : Cond.methodLink RX3 84 yX3_comparisonOf ∈ Gw := inGw (in_t3 (List.mem_of_getElem? (i := 59) (by decide +kernel))) (by decide +kernel)
theorem gw338 : Cond.code yX3_comparisonOf cX3_comparisonOf 1 (some .int) ∈ Gw := inGw (in_t3 (List.mem_of_getElem? (i := 61) (by rfl))) (by decide +kernel)
theorem gw339 : Cond.static yX3_comparisonOf ∈ Gw := inGw (in_t3 (List.mem_of_getElem? (i := 60) (by decide +kernel))) (by decide +kernel)
theorem cs_RX3_84 : CS RX3 RX3 84 yX3_comparisonOf cX3_comparisonOf 1 (some .int) 1 := ⟨Or.inl gw337, gw339, gw321, gw338, rfl, by decide +kernel, by decide⟩
theorem gw340 : Cond.methodLink RX3 80 yX3_opens ∈ Gw := inGw (in_t3 (List.mem_of_getElem? (i := 33) (by decide +kernel))) (by decide +kernel)
theorem gw341 : Cond.code yX3_opens cX3_opens 2 (some .boolean) ∈ Gw := inGw (in_t3 (List.mem_of_getElem? (i := 36) (by rfl))) (by decide +kernel)
theorem gw342 : Cond.instanceMethod yX3_opens ∈ Gw := inGw (in_t3 (List.mem_of_getElem? (i := 35) (by decide +kernel))) (by decide +kernel)
theorem gw343 : Cond.selects RX3 yX3_opens yX3_opens ∈ Gw := inGw (in_sel (q := (yX3_opens, 1)) (by decide +kernel)) (by decide +kernel)
theorem cv_RX3_80 : CV RX3 RX3 80 yX3_opens cX3_opens 2 (some .boolean) 1 := ⟨Or.inl gw340, gw342, gw343, gw321, gw341, rfl, by decide +kernel, by decide⟩
theorem gw344 : Cond.methodLink RX3 64 yX3_readChoice ∈ Gw := inGw (in_t3 (List.mem_of_getElem? (i := 47) (by decide +kernel))) (by decide +kernel)
theorem gw345 : Cond.code yX3_readChoice cX3_readChoice 5 none ∈ Gw := inGw (in_t3 (List.mem_of_getElem? (i := 50) (by rfl))) (by decide +kernel)
theorem gw346 : Cond.instanceMethod yX3_readChoice ∈ Gw := inGw (in_t3 (List.mem_of_getElem? (i := 49) (by decide +kernel))) (by decide +kernel)
theorem gw347 : Cond.selects RX3 yX3_readChoice yX3_readChoice ∈ Gw := inGw (in_sel (q := (yX3_readChoice, 1)) (by decide +kernel)) (by decide +kernel)
theorem cv_RX3_64 : CV RX3 RX3 64 yX3_readChoice cX3_readChoice 5 none 2 := ⟨Or.inl gw344, gw346, gw347, gw321, gw345, rfl, by decide +kernel, by decide⟩
theorem gw348 : Cond.methodLinkNest RX3 61 yX0_expect "SharedWindow" ∈ NW := inNW (in_t3 (List.mem_of_getElem? (i := 37) (by decide +kernel))) (by decide +kernel)
theorem cv_RX3_61 : CV RX3 RX0 61 yX0_expect cX0_expect 2 none 1 := ⟨Or.inr ⟨_, gw348⟩, gw72, gw73, gw54, gw71, rfl, by decide +kernel, by decide⟩
theorem kB_33 : (Int8.ofInt (33)).toInt32 = (33 : Int32) := by decide
theorem gw349 : Cond.methodLink RX3 88 yX3_readTerm ∈ Gw := inGw (in_t2 (List.mem_of_getElem? (i := 156) (by decide +kernel))) (by decide +kernel)
theorem gw350 : Cond.code yX3_readTerm cX3_readTerm 5 none ∈ Gw := inGw (in_t2 (List.mem_of_getElem? (i := 159) (by rfl))) (by decide +kernel)
theorem gw351 : Cond.instanceMethod yX3_readTerm ∈ Gw := inGw (in_t2 (List.mem_of_getElem? (i := 158) (by decide +kernel))) (by decide +kernel)
theorem gw352 : Cond.selects RX3 yX3_readTerm yX3_readTerm ∈ Gw := inGw (in_sel (q := (yX3_readTerm, 1)) (by decide +kernel)) (by decide +kernel)
theorem cv_RX3_88 : CV RX3 RX3 88 yX3_readTerm cX3_readTerm 5 none 2 := ⟨Or.inl gw349, gw351, gw352, gw321, gw350, rfl, by decide +kernel, by decide⟩
theorem gw353 : Cond.methodLink RX3 91 yX3_sumOf ∈ Gw := inGw (in_t3 (List.mem_of_getElem? (i := 44) (by decide +kernel))) (by decide +kernel)
theorem gw354 : Cond.code yX3_sumOf cX3_sumOf 1 (some .int) ∈ Gw := inGw (in_t3 (List.mem_of_getElem? (i := 46) (by rfl))) (by decide +kernel)
theorem gw355 : Cond.static yX3_sumOf ∈ Gw := inGw (in_t3 (List.mem_of_getElem? (i := 45) (by decide +kernel))) (by decide +kernel)
theorem cs_RX3_91 : CS RX3 RX3 91 yX3_sumOf cX3_sumOf 1 (some .int) 1 := ⟨Or.inl gw353, gw355, gw321, gw354, rfl, by decide +kernel, by decide⟩
theorem gw356 : Cond.methodLink RX3 94 yX3_readFactor ∈ Gw := inGw (in_t2 (List.mem_of_getElem? (i := 160) (by decide +kernel))) (by decide +kernel)
theorem gw357 : Cond.code yX3_readFactor cX3_readFactor 4 none ∈ Gw := inGw (in_t2 (List.mem_of_getElem? (i := 163) (by rfl))) (by decide +kernel)
theorem gw358 : Cond.instanceMethod yX3_readFactor ∈ Gw := inGw (in_t2 (List.mem_of_getElem? (i := 162) (by decide +kernel))) (by decide +kernel)
theorem gw359 : Cond.selects RX3 yX3_readFactor yX3_readFactor ∈ Gw := inGw (in_sel (q := (yX3_readFactor, 1)) (by decide +kernel)) (by decide +kernel)
theorem cv_RX3_94 : CV RX3 RX3 94 yX3_readFactor cX3_readFactor 4 none 2 := ⟨Or.inl gw356, gw358, gw359, gw321, gw357, rfl, by decide +kernel, by decide⟩
theorem gw360 : Cond.methodLink RX3 97 yX3_productOf ∈ Gw := inGw (in_t3 (List.mem_of_getElem? (i := 41) (by decide +kernel))) (by decide +kernel)
theorem gw361 : Cond.code yX3_productOf cX3_productOf 1 (some .int) ∈ Gw := inGw (in_t3 (List.mem_of_getElem? (i := 43) (by rfl))) (by decide +kernel)
theorem gw362 : Cond.static yX3_productOf ∈ Gw := inGw (in_t3 (List.mem_of_getElem? (i := 42) (by decide +kernel))) (by decide +kernel)
theorem cs_RX3_97 : CS RX3 RX3 97 yX3_productOf cX3_productOf 1 (some .int) 1 := ⟨Or.inl gw360, gw362, gw321, gw361, rfl, by decide +kernel, by decide⟩
theorem gw363 : Cond.methodLink RX3 100 yX3_letterOf ∈ Gw := inGw (in_t2 (List.mem_of_getElem? (i := 168) (by decide +kernel))) (by decide +kernel)
theorem gw364 : Cond.code yX3_letterOf cX3_letterOf 1 (some .int) ∈ Gw := inGw (in_t2 (List.mem_of_getElem? (i := 170) (by rfl))) (by decide +kernel)
theorem gw365 : Cond.static yX3_letterOf ∈ Gw := inGw (in_t2 (List.mem_of_getElem? (i := 169) (by decide +kernel))) (by decide +kernel)
theorem cs_RX3_100 : CS RX3 RX3 100 yX3_letterOf cX3_letterOf 1 (some .int) 1 := ⟨Or.inl gw363, gw365, gw321, gw364, rfl, by decide +kernel, by decide⟩
theorem kB_91 : (Int8.ofInt (91)).toInt32 = (91 : Int32) := by decide
theorem kB_93 : (Int8.ofInt (93)).toInt32 = (93 : Int32) := by decide
theorem gw366 : Cond.methodLinkNest RX3 103 yX0_readNumber "SharedWindow" ∈ NW := inNW (in_t3 (List.mem_of_getElem? (i := 22) (by decide +kernel))) (by decide +kernel)
theorem cv_RX3_103 : CV RX3 RX0 103 yX0_readNumber cX0_readNumber 4 (some .int) 1 := ⟨Or.inr ⟨_, gw366⟩, gw148, gw149, gw54, gw147, rfl, by decide +kernel, by decide⟩
theorem gw367 : Cond.fieldLinkNest RX3 50 RX2 (TX2 7).2.1 (TX2 7).2.2.1 "SharedWindow" ∈ NW := inNW (in_t2 (List.mem_of_getElem? (i := 7) (by decide +kernel))) (by decide +kernel)
theorem lf_RX3_50 : LF RX3 50 RX2 TX2 11 7 false := ⟨by decide, rfl, rfl, Or.inr ⟨_, gw367⟩⟩
theorem gw368 : Cond.methodLinkNest RX3 67 yX2_addRule "SharedWindow" ∈ NW := inNW (in_t3 (List.mem_of_getElem? (i := 66) (by decide +kernel))) (by decide +kernel)
theorem gw369 : Cond.code yX2_addRule cX2_addRule 4 none ∈ Gw := inGw (in_t3 (List.mem_of_getElem? (i := 69) (by rfl))) (by decide +kernel)
theorem gw370 : Cond.instanceMethod yX2_addRule ∈ Gw := inGw (in_t3 (List.mem_of_getElem? (i := 68) (by decide +kernel))) (by decide +kernel)
theorem gw371 : Cond.selects RX2 yX2_addRule yX2_addRule ∈ Gw := inGw (in_sel (q := (yX2_addRule, 11)) (by decide +kernel)) (by decide +kernel)
theorem cv_RX3_67 : CV RX3 RX2 67 yX2_addRule cX2_addRule 4 none 3 := ⟨Or.inr ⟨_, gw368⟩, gw370, gw371, gw285, gw369, rfl, by decide +kernel, by decide⟩
theorem kB_99 : (Int8.ofInt (99)).toInt32 = (99 : Int32) := by decide
theorem kB_106 : (Int8.ofInt (106)).toInt32 = (106 : Int32) := by decide
theorem gw372 : Cond.fieldLinkNest RX3 37 RX0 (TX0 4).2.1 (TX0 4).2.2.1 "SharedWindow" ∈ NW := inNW (in_t1 (List.mem_of_getElem? (i := 61) (by decide +kernel))) (by decide +kernel)
theorem lf_RX3_37 : LF RX3 37 RX0 TX0 5 4 false := ⟨by decide, rfl, rfl, Or.inr ⟨_, gw372⟩⟩
theorem gw373 : Cond.methodLink RX3 26 yX3_readRule ∈ Gw := inGw (in_t2 (List.mem_of_getElem? (i := 136) (by decide +kernel))) (by decide +kernel)
theorem gw374 : Cond.code yX3_readRule cX3_readRule 6 none ∈ Gw := inGw (in_t2 (List.mem_of_getElem? (i := 139) (by rfl))) (by decide +kernel)
theorem gw375 : Cond.instanceMethod yX3_readRule ∈ Gw := inGw (in_t2 (List.mem_of_getElem? (i := 138) (by decide +kernel))) (by decide +kernel)
theorem gw376 : Cond.selects RX3 yX3_readRule yX3_readRule ∈ Gw := inGw (in_sel (q := (yX3_readRule, 1)) (by decide +kernel)) (by decide +kernel)
theorem cv_RX3_26 : CV RX3 RX3 26 yX3_readRule cX3_readRule 6 none 2 := ⟨Or.inl gw373, gw375, gw376, gw321, gw374, rfl, by decide +kernel, by decide⟩
theorem gw377 : Cond.methodLinkNest RX3 30 yX0_passesSemicolon "SharedWindow" ∈ NW := inNW (in_t3 (List.mem_of_getElem? (i := 70) (by decide +kernel))) (by decide +kernel)
theorem cv_RX3_30 : CV RX3 RX0 30 yX0_passesSemicolon cX0_passesSemicolon 1 (some .boolean) 0 := ⟨Or.inr ⟨_, gw377⟩, gw190, gw191, gw54, gw189, rfl, by decide +kernel, by decide⟩
theorem gw378 : Cond.methodLinkNest RX3 15 yX0_start "SharedWindow" ∈ NW := inNW (in_t2 (List.mem_of_getElem? (i := 124) (by decide +kernel))) (by decide +kernel)
theorem cv_RX3_15 : CV RX3 RX0 15 yX0_start cX0_start 2 none 1 := ⟨Or.inr ⟨_, gw378⟩, gw194, gw195, gw54, gw193, rfl, by decide +kernel, by decide⟩
theorem gw379 : Cond.methodLinkNest RX3 21 yX2_clear "SharedWindow" ∈ NW := inNW (in_t2 (List.mem_of_getElem? (i := 132) (by decide +kernel))) (by decide +kernel)
theorem gw380 : Cond.code yX2_clear cX2_clear 1 none ∈ Gw := inGw (in_t2 (List.mem_of_getElem? (i := 135) (by rfl))) (by decide +kernel)
theorem gw381 : Cond.instanceMethod yX2_clear ∈ Gw := inGw (in_t2 (List.mem_of_getElem? (i := 134) (by decide +kernel))) (by decide +kernel)
theorem gw382 : Cond.selects RX2 yX2_clear yX2_clear ∈ Gw := inGw (in_sel (q := (yX2_clear, 11)) (by decide +kernel)) (by decide +kernel)
theorem cv_RX3_21 : CV RX3 RX2 21 yX2_clear cX2_clear 1 none 0 := ⟨Or.inr ⟨_, gw379⟩, gw381, gw382, gw285, gw380, rfl, by decide +kernel, by decide⟩
theorem gw383 : Cond.fieldLink RX6 9 RX6 (TX6 0).2.1 (TX6 0).2.2.1 ∈ Gw := inGw (in_t1 (List.mem_of_getElem? (i := 171) (by decide +kernel))) (by decide +kernel)
theorem lf_RX6_9 : LF RX6 9 RX6 TX6 6 0 true := ⟨by decide, rfl, rfl, Or.inl gw383⟩
theorem fR_S_0 {o : Nat} (h : isS o) : FR 0 55 o 6 0 (o + 1) := by rcases h with rfl | rfl | rfl <;> decide
theorem ci6 : CI 6 RX6 TX6 6 tyX6 := ⟨rfl, fun w h => inGw ((show ∀ w ∈ u_ws RX6 TX6 6, w ∈ lw_tbl from by decide +kernel) w h) ((show ∀ w ∈ u_ws RX6 TX6 6, goodWord w = true from by decide +kernel) w h), tyX6_ok, nmX6⟩
theorem aF_S_1 {o : Nat} (h : isS o) : AI 0 55 (o + 1) 16 := by rcases h with rfl | rfl | rfl <;> decide
theorem gw384 : Cond.fieldLink RX6 15 RX6 (TX6 1).2.1 (TX6 1).2.2.1 ∈ Gw := inGw (in_t1 (List.mem_of_getElem? (i := 172) (by decide +kernel))) (by decide +kernel)
theorem lf_RX6_15 : LF RX6 15 RX6 TX6 6 1 false := ⟨by decide, rfl, rfl, Or.inl gw384⟩
theorem fI_S_1 {o : Nat} (h : isS o) : FI 0 55 o 6 1 := by rcases h with rfl | rfl | rfl <;> decide
theorem gw385 : Cond.fieldLink RX6 19 RX6 (TX6 2).2.1 (TX6 2).2.2.1 ∈ Gw := inGw (in_t1 (List.mem_of_getElem? (i := 174) (by decide +kernel))) (by decide +kernel)
theorem lf_RX6_19 : LF RX6 19 RX6 TX6 6 2 false := ⟨by decide, rfl, rfl, Or.inl gw385⟩
theorem fI_S_2 {o : Nat} (h : isS o) : FI 0 55 o 6 2 := by rcases h with rfl | rfl | rfl <;> decide
theorem gw386 : Cond.fieldLink RX6 22 RX6 (TX6 3).2.1 (TX6 3).2.2.1 ∈ Gw := inGw (in_t1 (List.mem_of_getElem? (i := 176) (by decide +kernel))) (by decide +kernel)
theorem lf_RX6_22 : LF RX6 22 RX6 TX6 6 3 false := ⟨by decide, rfl, rfl, Or.inl gw386⟩
theorem fI_S_3 {o : Nat} (h : isS o) : FI 0 55 o 6 3 := by rcases h with rfl | rfl | rfl <;> decide
theorem gw387 : Cond.fieldLink RX6 25 RX6 (TX6 4).2.1 (TX6 4).2.2.1 ∈ Gw := inGw (in_t1 (List.mem_of_getElem? (i := 178) (by decide +kernel))) (by decide +kernel)
theorem lf_RX6_25 : LF RX6 25 RX6 TX6 6 4 false := ⟨by decide, rfl, rfl, Or.inl gw387⟩
theorem fI_S_4 {o : Nat} (h : isS o) : FI 0 55 o 6 4 := by rcases h with rfl | rfl | rfl <;> decide
theorem gw388 : Cond.fieldLink RX6 28 RX6 (TX6 5).2.1 (TX6 5).2.2.1 ∈ Gw := inGw (in_t1 (List.mem_of_getElem? (i := 180) (by decide +kernel))) (by decide +kernel)
theorem lf_RX6_28 : LF RX6 28 RX6 TX6 6 5 false := ⟨by decide, rfl, rfl, Or.inl gw388⟩
theorem fI_S_5 {o : Nat} (h : isS o) : FI 0 55 o 6 5 := by rcases h with rfl | rfl | rfl <;> decide
theorem gw389 : Cond.methodLink RX6 31 arraycopyName ∈ Gw := inGw (in_t4 (List.mem_of_getElem? (i := 49) (by decide +kernel))) (by decide +kernel)
theorem gw390 : Cond.native arraycopyName ∈ Gw := inGw (in_t4 (List.mem_of_getElem? (i := 51) (by decide +kernel))) (by decide +kernel)
theorem gw391 : Cond.static arraycopyName ∈ Gw := inGw (in_t4 (List.mem_of_getElem? (i := 50) (by decide +kernel))) (by decide +kernel)
theorem gw392 : Cond.initialized "java/lang/System" ∈ Gw := inGw (in_t1 (List.mem_of_getElem? (i := 21) (by decide +kernel))) (by decide +kernel)
theorem gw393 : Cond.methodLinkNest RX6 37 yX8_hasHouse "SharedWindow" ∈ NW := inNW (in_t4 (List.mem_of_getElem? (i := 75) (by decide +kernel))) (by decide +kernel)
theorem cv_RX6_37 : CV RX6 RX8 37 yX8_hasHouse cX8_hasHouse 2 (some .boolean) 1 := ⟨Or.inr ⟨_, gw393⟩, gw108, gw109, gw88, gw107, rfl, by decide +kernel, by decide⟩
theorem gw394 : Cond.methodLinkNest RX6 87 yX2_setLetter "SharedWindow" ∈ NW := inNW (in_t3 (List.mem_of_getElem? (i := 230) (by decide +kernel))) (by decide +kernel)
theorem gw395 : Cond.code yX2_setLetter cX2_setLetter 3 none ∈ Gw := inGw (in_t3 (List.mem_of_getElem? (i := 233) (by rfl))) (by decide +kernel)
theorem gw396 : Cond.instanceMethod yX2_setLetter ∈ Gw := inGw (in_t3 (List.mem_of_getElem? (i := 232) (by decide +kernel))) (by decide +kernel)
theorem gw397 : Cond.selects RX2 yX2_setLetter yX2_setLetter ∈ Gw := inGw (in_sel (q := (yX2_setLetter, 11)) (by decide +kernel)) (by decide +kernel)
theorem cv_RX6_87 : CV RX6 RX2 87 yX2_setLetter cX2_setLetter 3 none 2 := ⟨Or.inr ⟨_, gw394⟩, gw396, gw397, gw285, gw395, rfl, by decide +kernel, by decide⟩
theorem gw398 : Cond.methodLink RX6 81 yJ6_bitCount_0f7a4 ∈ Gw := inGw (in_t3 (List.mem_of_getElem? (i := 235) (by decide +kernel))) (by decide +kernel)
theorem cs_RX6_81 : CS RX6 RJ6 81 yJ6_bitCount_0f7a4 cJ6_bitCount_0f7a4 1 (some .int) 1 := ⟨Or.inl gw398, gw129, gw127, gw128, rfl, by decide +kernel, by decide⟩
theorem kB_100 : (Int8.ofInt (100)).toInt32 = (100 : Int32) := by decide
theorem gw399 : Cond.methodLink RX6 91 Lib.Math.abs.name ∈ Gw := inGw (in_t3 (List.mem_of_getElem? (i := 234) (by decide +kernel))) (by decide +kernel)
theorem mw_RX6_91 : MW RX6 91 Lib.Math.abs.name Lib.Math.abs.code 1 := ⟨gw399, gw85, gw18, gw86⟩
theorem gw400 : Cond.methodLinkNest RX6 58 yX8_view "SharedWindow" ∈ NW := inNW (in_t3 (List.mem_of_getElem? (i := 221) (by decide +kernel))) (by decide +kernel)
theorem cv_RX6_58 : CV RX6 RX8 58 yX8_view cX8_view 3 (some .int) 2 := ⟨Or.inr ⟨_, gw400⟩, gw120, gw121, gw88, gw119, rfl, by decide +kernel, by decide⟩
theorem gw401 : Cond.methodLink RX6 62 yX6_tellLaw ∈ Gw := inGw (in_t3 (List.mem_of_getElem? (i := 226) (by decide +kernel))) (by decide +kernel)
theorem gw402 : Cond.initialized RX6 ∈ Gw := inGw (in_t1 (List.mem_of_getElem? (i := 10) (by decide +kernel))) (by decide +kernel)
theorem gw403 : Cond.code yX6_tellLaw cX6_tellLaw 5 none ∈ Gw := inGw (in_t3 (List.mem_of_getElem? (i := 229) (by rfl))) (by decide +kernel)
theorem gw404 : Cond.instanceMethod yX6_tellLaw ∈ Gw := inGw (in_t3 (List.mem_of_getElem? (i := 228) (by decide +kernel))) (by decide +kernel)
theorem gw405 : Cond.selects RX6 yX6_tellLaw yX6_tellLaw ∈ Gw := inGw (in_sel (q := (yX6_tellLaw, 6)) (by decide +kernel)) (by decide +kernel)
theorem cv_RX6_62 : CV RX6 RX6 62 yX6_tellLaw cX6_tellLaw 5 none 4 := ⟨Or.inl gw401, gw404, gw405, gw402, gw403, rfl, by decide +kernel, by decide⟩
theorem oB_S {o : Nat} (h : isS o) : OB 0 55 o 6 := by rcases h with rfl | rfl | rfl <;> decide
theorem gw406 : Cond.methodLinkNest RX6 66 yX2_leavesIt "SharedWindow" ∈ NW := inNW (in_t4 (List.mem_of_getElem? (i := 1) (by decide +kernel))) (by decide +kernel)
theorem gw407 : Cond.code yX2_leavesIt cX2_leavesIt 1 (some .boolean) ∈ Gw := inGw (in_t4 (List.mem_of_getElem? (i := 4) (by rfl))) (by decide +kernel)
theorem gw408 : Cond.instanceMethod yX2_leavesIt ∈ Gw := inGw (in_t4 (List.mem_of_getElem? (i := 3) (by decide +kernel))) (by decide +kernel)
theorem gw409 : Cond.selects RX2 yX2_leavesIt yX2_leavesIt ∈ Gw := inGw (in_sel (q := (yX2_leavesIt, 11)) (by decide +kernel)) (by decide +kernel)
theorem cv_RX6_66 : CV RX6 RX2 66 yX2_leavesIt cX2_leavesIt 1 (some .boolean) 0 := ⟨Or.inr ⟨_, gw406⟩, gw408, gw409, gw285, gw407, rfl, by decide +kernel, by decide⟩
theorem kS_9999 : (Int16.ofInt (9999)).toInt32 = (9999 : Int32) := by decide
theorem gw410 : Cond.methodLinkNest RX6 72 yX2_worthOf "SharedWindow" ∈ NW := inNW (in_t4 (List.mem_of_getElem? (i := 25) (by decide +kernel))) (by decide +kernel)
theorem gw411 : Cond.code yX2_worthOf cX2_worthOf 5 (some .int) ∈ Gw := inGw (in_t4 (List.mem_of_getElem? (i := 28) (by rfl))) (by decide +kernel)
theorem gw412 : Cond.instanceMethod yX2_worthOf ∈ Gw := inGw (in_t4 (List.mem_of_getElem? (i := 27) (by decide +kernel))) (by decide +kernel)
theorem gw413 : Cond.selects RX2 yX2_worthOf yX2_worthOf ∈ Gw := inGw (in_sel (q := (yX2_worthOf, 11)) (by decide +kernel)) (by decide +kernel)
theorem cv_RX6_72 : CV RX6 RX2 72 yX2_worthOf cX2_worthOf 5 (some .int) 3 := ⟨Or.inr ⟨_, gw410⟩, gw412, gw413, gw285, gw411, rfl, by decide +kernel, by decide⟩
theorem gw414 : Cond.methodLink RX6 76 Lib.Math.min.name ∈ Gw := inGw (in_t4 (List.mem_of_getElem? (i := 31) (by decide +kernel))) (by decide +kernel)
theorem mw_RX6_76 : MW RX6 76 Lib.Math.min.name Lib.Math.min.code 2 := ⟨gw414, gw21, gw18, gw22⟩
theorem gw415 : Cond.constant RX6 86 (99999 : Int32) ∈ Gw := inGw (in_t4 (List.mem_of_getElem? (i := 36) (by decide +kernel))) (by decide +kernel)
theorem gw416 : Cond.methodLinkNest RX6 43 yX4_holder "SharedWindow" ∈ NW := inNW (in_t3 (List.mem_of_getElem? (i := 212) (by decide +kernel))) (by decide +kernel)
theorem cv_RX6_43 : CV RX6 RX4 43 yX4_holder cX4_holder 2 (some .int) 1 := ⟨Or.inr ⟨_, gw416⟩, gw207, gw208, gw205, gw206, rfl, by decide +kernel, by decide⟩
theorem kS_25173 : (Int16.ofInt (25173)).toInt32 = (25173 : Int32) := by decide
theorem kS_13849 : (Int16.ofInt (13849)).toInt32 = (13849 : Int32) := by decide
theorem gw417 : Cond.constant RX6 49 (65536 : Int32) ∈ Gw := inGw (in_t3 (List.mem_of_getElem? (i := 216) (by decide +kernel))) (by decide +kernel)
theorem gw418 : Cond.methodLink RX6 50 yX6_carry ∈ Gw := inGw (in_t3 (List.mem_of_getElem? (i := 217) (by decide +kernel))) (by decide +kernel)
theorem gw419 : Cond.code yX6_carry cX6_carry 5 none ∈ Gw := inGw (in_t3 (List.mem_of_getElem? (i := 220) (by rfl))) (by decide +kernel)
theorem gw420 : Cond.instanceMethod yX6_carry ∈ Gw := inGw (in_t3 (List.mem_of_getElem? (i := 219) (by decide +kernel))) (by decide +kernel)
theorem gw421 : Cond.selects RX6 yX6_carry yX6_carry ∈ Gw := inGw (in_sel (q := (yX6_carry, 6)) (by decide +kernel)) (by decide +kernel)
theorem cv_RX6_50 : CV RX6 RX6 50 yX6_carry cX6_carry 5 none 4 := ⟨Or.inl gw418, gw420, gw421, gw402, gw419, rfl, by decide +kernel, by decide⟩
theorem gw422 : Cond.methodLink RX6 54 yX6_lookThrough ∈ Gw := inGw (in_t4 (List.mem_of_getElem? (i := 32) (by decide +kernel))) (by decide +kernel)
theorem gw423 : Cond.code yX6_lookThrough cX6_lookThrough 6 none ∈ Gw := inGw (in_t4 (List.mem_of_getElem? (i := 35) (by rfl))) (by decide +kernel)
theorem gw424 : Cond.instanceMethod yX6_lookThrough ∈ Gw := inGw (in_t4 (List.mem_of_getElem? (i := 34) (by decide +kernel))) (by decide +kernel)
theorem gw425 : Cond.selects RX6 yX6_lookThrough yX6_lookThrough ∈ Gw := inGw (in_sel (q := (yX6_lookThrough, 6)) (by decide +kernel)) (by decide +kernel)
theorem cv_RX6_54 : CV RX6 RX6 54 yX6_lookThrough cX6_lookThrough 6 none 3 := ⟨Or.inl gw422, gw424, gw425, gw402, gw423, rfl, by decide +kernel, by decide⟩
theorem gw426 : Cond.fieldLink RX10 24 RX10 (TX10 4).2.1 (TX10 4).2.2.1 ∈ Gw := inGw (in_t1 (List.mem_of_getElem? (i := 133) (by decide +kernel))) (by decide +kernel)
theorem lf_RX10_24 : LF RX10 24 RX10 TX10 5 4 false := ⟨by decide, rfl, rfl, Or.inl gw426⟩
theorem fI_10_4 : FI 0 55 10 10 4 := by decide
theorem gw427 : Cond.fieldLink RX10 11 RX10 (TX10 0).2.1 (TX10 0).2.2.1 ∈ Gw := inGw (in_t1 (List.mem_of_getElem? (i := 129) (by decide +kernel))) (by decide +kernel)
theorem lf_RX10_11 : LF RX10 11 RX10 TX10 5 0 true := ⟨by decide, rfl, rfl, Or.inl gw427⟩
theorem fR_10_0 : FR 0 55 10 10 0 11 := by decide
theorem gw428 : Cond.fieldLink RX10 15 RX10 (TX10 1).2.1 (TX10 1).2.2.1 ∈ Gw := inGw (in_t1 (List.mem_of_getElem? (i := 130) (by decide +kernel))) (by decide +kernel)
theorem lf_RX10_15 : LF RX10 15 RX10 TX10 5 1 true := ⟨by decide, rfl, rfl, Or.inl gw428⟩
theorem fR_10_1 : FR 0 55 10 10 1 12 := by decide
theorem ci10 : CI 10 RX10 TX10 5 tyX10 := ⟨rfl, fun w h => inGw ((show ∀ w ∈ u_ws RX10 TX10 5, w ∈ lw_tbl from by decide +kernel) w h) ((show ∀ w ∈ u_ws RX10 TX10 5, goodWord w = true from by decide +kernel) w h), tyX10_ok, nmX10⟩
theorem gw429 : Cond.methodLinkNest RX10 34 yX7_byteAt "SharedWindow" ∈ NW := inNW (in_t5 (List.mem_of_getElem? (i := 14) (by decide +kernel))) (by decide +kernel)
theorem cv_RX10_34 : CV RX10 RX7 34 yX7_byteAt cX7_byteAt 2 (some .int) 1 := ⟨Or.inr ⟨_, gw429⟩, gw49, gw50, gw47, gw48, rfl, by decide +kernel, by decide⟩
theorem aF_11 : AI 0 55 11 6 := by decide
theorem aF_12 : AI 0 55 12 6 := by decide
theorem gw430 : Cond.methodLinkNest RX10 40 yX8_hasHouse "SharedWindow" ∈ NW := inNW (in_t5 (List.mem_of_getElem? (i := 15) (by decide +kernel))) (by decide +kernel)
theorem cv_RX10_40 : CV RX10 RX8 40 yX8_hasHouse cX8_hasHouse 2 (some .boolean) 1 := ⟨Or.inr ⟨_, gw430⟩, gw108, gw109, gw88, gw107, rfl, by decide +kernel, by decide⟩
theorem gw431 : Cond.methodLinkNest RX10 46 yX8_hasThing "SharedWindow" ∈ NW := inNW (in_t5 (List.mem_of_getElem? (i := 16) (by decide +kernel))) (by decide +kernel)
theorem cv_RX10_46 : CV RX10 RX8 46 yX8_hasThing cX8_hasThing 2 (some .boolean) 1 := ⟨Or.inr ⟨_, gw431⟩, gw90, gw91, gw88, gw89, rfl, by decide +kernel, by decide⟩
theorem gw432 : Cond.methodLink RX10 28 Lib.Math.min.name ∈ Gw := inGw (in_t5 (List.mem_of_getElem? (i := 13) (by decide +kernel))) (by decide +kernel)
theorem mw_RX10_28 : MW RX10 28 Lib.Math.min.name Lib.Math.min.code 2 := ⟨gw432, gw21, gw18, gw22⟩
theorem gw433 : Cond.fieldLink RX10 21 RX10 (TX10 3).2.1 (TX10 3).2.2.1 ∈ Gw := inGw (in_t1 (List.mem_of_getElem? (i := 132) (by decide +kernel))) (by decide +kernel)
theorem lf_RX10_21 : LF RX10 21 RX10 TX10 5 3 true := ⟨by decide, rfl, rfl, Or.inl gw433⟩
theorem fR_10_3 : FR 0 55 10 10 3 14 := by decide
theorem aF_14 : AI 0 55 14 384 := by decide
theorem gw434 : Cond.constant RX10 49 (1000000 : Int32) ∈ Gw := inGw (in_t5 (List.mem_of_getElem? (i := 21) (by decide +kernel))) (by decide +kernel)
theorem gw435 : Cond.methodLink RX10 63 Lib.Math.abs.name ∈ Gw := inGw (in_t5 (List.mem_of_getElem? (i := 35) (by decide +kernel))) (by decide +kernel)
theorem mw_RX10_63 : MW RX10 63 Lib.Math.abs.name Lib.Math.abs.code 1 := ⟨gw435, gw85, gw18, gw86⟩
theorem gw436 : Cond.fieldLink RX10 18 RX10 (TX10 2).2.1 (TX10 2).2.2.1 ∈ Gw := inGw (in_t1 (List.mem_of_getElem? (i := 131) (by decide +kernel))) (by decide +kernel)
theorem lf_RX10_18 : LF RX10 18 RX10 TX10 5 2 true := ⟨by decide, rfl, rfl, Or.inl gw436⟩
theorem fR_10_2 : FR 0 55 10 10 2 13 := by decide
theorem aF_13 : AI 0 55 13 6 := by decide
theorem gw437 : Cond.methodLink RX10 60 yX10_costTo ∈ Gw := inGw (in_t5 (List.mem_of_getElem? (i := 31) (by decide +kernel))) (by decide +kernel)
theorem gw438 : Cond.initialized RX10 ∈ Gw := inGw (in_t1 (List.mem_of_getElem? (i := 8) (by decide +kernel))) (by decide +kernel)
theorem gw439 : Cond.code yX10_costTo cX10_costTo 6 (some .int) ∈ Gw := inGw (in_t5 (List.mem_of_getElem? (i := 34) (by rfl))) (by decide +kernel)
theorem gw440 : Cond.instanceMethod yX10_costTo ∈ Gw := inGw (in_t5 (List.mem_of_getElem? (i := 33) (by decide +kernel))) (by decide +kernel)
theorem gw441 : Cond.selects RX10 yX10_costTo yX10_costTo ∈ Gw := inGw (in_sel (q := (yX10_costTo, 5)) (by decide +kernel)) (by decide +kernel)
theorem cv_RX10_60 : CV RX10 RX10 60 yX10_costTo cX10_costTo 6 (some .int) 2 := ⟨Or.inl gw437, gw440, gw441, gw438, gw439, rfl, by decide +kernel, by decide⟩
theorem oB_10 : OB 0 55 10 10 := by decide
theorem gw442 : Cond.methodLinkNest RX10 54 yX8_view "SharedWindow" ∈ NW := inNW (in_t5 (List.mem_of_getElem? (i := 26) (by decide +kernel))) (by decide +kernel)
theorem cv_RX10_54 : CV RX10 RX8 54 yX8_view cX8_view 3 (some .int) 2 := ⟨Or.inr ⟨_, gw442⟩, gw120, gw121, gw88, gw119, rfl, by decide +kernel, by decide⟩
theorem gw443 : Cond.methodLink RX10 57 yX10_granted ∈ Gw := inGw (in_t5 (List.mem_of_getElem? (i := 27) (by decide +kernel))) (by decide +kernel)
theorem gw444 : Cond.code yX10_granted cX10_granted 5 (some .int) ∈ Gw := inGw (in_t5 (List.mem_of_getElem? (i := 30) (by rfl))) (by decide +kernel)
theorem gw445 : Cond.instanceMethod yX10_granted ∈ Gw := inGw (in_t5 (List.mem_of_getElem? (i := 29) (by decide +kernel))) (by decide +kernel)
theorem gw446 : Cond.selects RX10 yX10_granted yX10_granted ∈ Gw := inGw (in_sel (q := (yX10_granted, 5)) (by decide +kernel)) (by decide +kernel)
theorem cv_RX10_57 : CV RX10 RX10 57 yX10_granted cX10_granted 5 (some .int) 2 := ⟨Or.inl gw443, gw445, gw446, gw438, gw444, rfl, by decide +kernel, by decide⟩
theorem gw447 : Cond.methodLink RX10 50 yX10_tryTurn ∈ Gw := inGw (in_t5 (List.mem_of_getElem? (i := 22) (by decide +kernel))) (by decide +kernel)
theorem gw448 : Cond.code yX10_tryTurn cX10_tryTurn 7 none ∈ Gw := inGw (in_t5 (List.mem_of_getElem? (i := 25) (by rfl))) (by decide +kernel)
theorem gw449 : Cond.instanceMethod yX10_tryTurn ∈ Gw := inGw (in_t5 (List.mem_of_getElem? (i := 24) (by decide +kernel))) (by decide +kernel)
theorem gw450 : Cond.selects RX10 yX10_tryTurn yX10_tryTurn ∈ Gw := inGw (in_sel (q := (yX10_tryTurn, 5)) (by decide +kernel)) (by decide +kernel)
theorem cv_RX10_50 : CV RX10 RX10 50 yX10_tryTurn cX10_tryTurn 7 none 2 := ⟨Or.inl gw447, gw449, gw450, gw438, gw448, rfl, by decide +kernel, by decide⟩
theorem kS_384 : (Int16.ofInt (384)).toInt32 = (384 : Int32) := by decide
theorem gw451 : Cond.fieldLink RX1 22 RX1 (TX1 0).2.1 (TX1 0).2.2.1 ∈ Gw := inGw (in_t1 (List.mem_of_getElem? (i := 151) (by decide +kernel))) (by decide +kernel)
theorem lf_RX1_22 : LF RX1 22 RX1 TX1 4 0 true := ⟨by decide, rfl, rfl, Or.inl gw451⟩
theorem fR_15_0 : FR 0 55 15 1 0 1 := by decide
theorem ci1 : CI 1 RX1 TX1 4 tyX1 := ⟨rfl, fun w h => inGw ((show ∀ w ∈ u_ws RX1 TX1 4, w ∈ lw_tbl from by decide +kernel) w h) ((show ∀ w ∈ u_ws RX1 TX1 4, goodWord w = true from by decide +kernel) w h), tyX1_ok, nmX1⟩
theorem gw452 : Cond.methodLinkNest RX1 26 yX7_byteAt "SharedWindow" ∈ NW := inNW (in_t5 (List.mem_of_getElem? (i := 44) (by decide +kernel))) (by decide +kernel)
theorem cv_RX1_26 : CV RX1 RX7 26 yX7_byteAt cX7_byteAt 2 (some .int) 1 := ⟨Or.inr ⟨_, gw452⟩, gw49, gw50, gw47, gw48, rfl, by decide +kernel, by decide⟩
theorem gw453 : Cond.methodLinkNest RX1 32 yX11_isTurn "SharedWindow" ∈ NW := inNW (in_t5 (List.mem_of_getElem? (i := 45) (by decide +kernel))) (by decide +kernel)
theorem cs_RX1_32 : CS RX1 RX11 32 yX11_isTurn cX11_isTurn 1 (some .boolean) 1 := ⟨Or.inr ⟨_, gw453⟩, gw117, gw115, gw116, rfl, by decide +kernel, by decide⟩
theorem kB_m3 : (Int8.ofInt (-3)).toInt32 = (-3 : Int32) := by decide
theorem gw454 : Cond.fieldLink RX1 11 RX1 (TX1 1).2.1 (TX1 1).2.2.1 ∈ Gw := inGw (in_t1 (List.mem_of_getElem? (i := 152) (by decide +kernel))) (by decide +kernel)
theorem lf_RX1_11 : LF RX1 11 RX1 TX1 4 1 true := ⟨by decide, rfl, rfl, Or.inl gw454⟩
theorem fR_15_1 : FR 0 55 15 1 1 16 := by decide
theorem aF_16 : AI 0 55 16 12 := by decide
theorem gw455 : Cond.methodLink RX1 36 Lib.Math.max.name ∈ Gw := inGw (in_t5 (List.mem_of_getElem? (i := 58) (by decide +kernel))) (by decide +kernel)
theorem mw_RX1_36 : MW RX1 36 Lib.Math.max.name Lib.Math.max.code 2 := ⟨gw455, gw17, gw18, gw19⟩
theorem kN_0_12 : inb 0 12 = true := by decide
theorem gw456 : Cond.methodLink RX1 42 yX1_worth ∈ Gw := inGw (in_t5 (List.mem_of_getElem? (i := 71) (by decide +kernel))) (by decide +kernel)
theorem gw457 : Cond.initialized RX1 ∈ Gw := inGw (in_t1 (List.mem_of_getElem? (i := 9) (by decide +kernel))) (by decide +kernel)
theorem gw458 : Cond.code yX1_worth cX1_worth 4 (some .int) ∈ Gw := inGw (in_t5 (List.mem_of_getElem? (i := 74) (by rfl))) (by decide +kernel)
theorem gw459 : Cond.instanceMethod yX1_worth ∈ Gw := inGw (in_t5 (List.mem_of_getElem? (i := 73) (by decide +kernel))) (by decide +kernel)
theorem gw460 : Cond.selects RX1 yX1_worth yX1_worth ∈ Gw := inGw (in_sel (q := (yX1_worth, 4)) (by decide +kernel)) (by decide +kernel)
theorem cv_RX1_42 : CV RX1 RX1 42 yX1_worth cX1_worth 4 (some .int) 3 := ⟨Or.inl gw456, gw459, gw460, gw457, gw458, rfl, by decide +kernel, by decide⟩
theorem oB_15 : OB 0 55 15 1 := by decide
theorem gw461 : Cond.methodLink RX1 46 yX1_wouldSwap ∈ Gw := inGw (in_t5 (List.mem_of_getElem? (i := 67) (by decide +kernel))) (by decide +kernel)
theorem gw462 : Cond.code yX1_wouldSwap cX1_wouldSwap 4 (some .boolean) ∈ Gw := inGw (in_t5 (List.mem_of_getElem? (i := 70) (by rfl))) (by decide +kernel)
theorem gw463 : Cond.instanceMethod yX1_wouldSwap ∈ Gw := inGw (in_t5 (List.mem_of_getElem? (i := 69) (by decide +kernel))) (by decide +kernel)
theorem gw464 : Cond.selects RX1 yX1_wouldSwap yX1_wouldSwap ∈ Gw := inGw (in_sel (q := (yX1_wouldSwap, 4)) (by decide +kernel)) (by decide +kernel)
theorem cv_RX1_46 : CV RX1 RX1 46 yX1_wouldSwap cX1_wouldSwap 4 (some .boolean) 3 := ⟨Or.inl gw461, gw463, gw464, gw457, gw462, rfl, by decide +kernel, by decide⟩
theorem gw465 : Cond.fieldLink RX1 15 RX1 (TX1 2).2.1 (TX1 2).2.2.1 ∈ Gw := inGw (in_t1 (List.mem_of_getElem? (i := 153) (by decide +kernel))) (by decide +kernel)
theorem lf_RX1_15 : LF RX1 15 RX1 TX1 4 2 true := ⟨by decide, rfl, rfl, Or.inl gw465⟩
theorem fR_15_2 : FR 0 55 15 1 2 17 := by decide
theorem aF_17 : AI 0 55 17 256 := by decide
theorem gw466 : Cond.methodLink RX1 50 yJ6_numberOfTrailingZeros_0f7a4 ∈ Gw := inGw (in_t5 (List.mem_of_getElem? (i := 79) (by decide +kernel))) (by decide +kernel)
theorem gw467 : Cond.code yJ6_numberOfTrailingZeros_0f7a4 cJ6_numberOfTrailingZeros_0f7a4 2 (some .int) ∈ Gw := inGw (in_t5 (List.mem_of_getElem? (i := 81) (by rfl))) (by decide +kernel)
theorem gw468 : Cond.static yJ6_numberOfTrailingZeros_0f7a4 ∈ Gw := inGw (in_t5 (List.mem_of_getElem? (i := 80) (by decide +kernel))) (by decide +kernel)
theorem cs_RX1_50 : CS RX1 RJ6 50 yJ6_numberOfTrailingZeros_0f7a4 cJ6_numberOfTrailingZeros_0f7a4 2 (some .int) 1 := ⟨Or.inl gw466, gw468, gw127, gw467, rfl, by decide +kernel, by decide⟩
theorem kN_0_256 : inb 0 256 = true := by decide
theorem gw469 : Cond.methodLink RX1 58 yJ6_bitCount_0f7a4 ∈ Gw := inGw (in_t5 (List.mem_of_getElem? (i := 92) (by decide +kernel))) (by decide +kernel)
theorem cs_RX1_58 : CS RX1 RJ6 58 yJ6_bitCount_0f7a4 cJ6_bitCount_0f7a4 1 (some .int) 1 := ⟨Or.inl gw469, gw129, gw127, gw128, rfl, by decide +kernel, by decide⟩
theorem gw470 : Cond.methodLink RX1 55 Lib.Math.min.name ∈ Gw := inGw (in_t5 (List.mem_of_getElem? (i := 91) (by decide +kernel))) (by decide +kernel)
theorem mw_RX1_55 : MW RX1 55 Lib.Math.min.name Lib.Math.min.code 2 := ⟨gw470, gw21, gw18, gw22⟩
theorem gw471 : Cond.methodLink RX1 61 yX1_turnOf ∈ Gw := inGw (in_t5 (List.mem_of_getElem? (i := 97) (by decide +kernel))) (by decide +kernel)
theorem gw472 : Cond.code yX1_turnOf cX1_turnOf 6 (some .int) ∈ Gw := inGw (in_t5 (List.mem_of_getElem? (i := 100) (by rfl))) (by decide +kernel)
theorem gw473 : Cond.instanceMethod yX1_turnOf ∈ Gw := inGw (in_t5 (List.mem_of_getElem? (i := 99) (by decide +kernel))) (by decide +kernel)
theorem gw474 : Cond.selects RX1 yX1_turnOf yX1_turnOf ∈ Gw := inGw (in_sel (q := (yX1_turnOf, 4)) (by decide +kernel)) (by decide +kernel)
theorem cv_RX1_61 : CV RX1 RX1 61 yX1_turnOf cX1_turnOf 6 (some .int) 3 := ⟨Or.inl gw471, gw473, gw474, gw457, gw472, rfl, by decide +kernel, by decide⟩
theorem gw475 : Cond.fieldLink RX1 18 RX1 (TX1 3).2.1 (TX1 3).2.2.1 ∈ Gw := inGw (in_t1 (List.mem_of_getElem? (i := 154) (by decide +kernel))) (by decide +kernel)
theorem lf_RX1_18 : LF RX1 18 RX1 TX1 4 3 true := ⟨by decide, rfl, rfl, Or.inl gw475⟩
theorem fR_15_3 : FR 0 55 15 1 3 18 := by decide
theorem aF_18 : AJ 0 55 18 13 := by decide
theorem gw476 : Cond.constantLong RX1 64 (-1) ∈ Gw := inGw (in_t5 (List.mem_of_getElem? (i := 109) (by decide +kernel))) (by decide +kernel)
theorem gw477 : Cond.methodLink RX1 66 yX1_widestClear ∈ Gw := inGw (in_t5 (List.mem_of_getElem? (i := 118) (by decide +kernel))) (by decide +kernel)
theorem gw478 : Cond.code yX1_widestClear cX1_widestClear 5 (some .int) ∈ Gw := inGw (in_t5 (List.mem_of_getElem? (i := 120) (by rfl))) (by decide +kernel)
theorem gw479 : Cond.static yX1_widestClear ∈ Gw := inGw (in_t5 (List.mem_of_getElem? (i := 119) (by decide +kernel))) (by decide +kernel)
theorem cs_RX1_66 : CS RX1 RX1 66 yX1_widestClear cX1_widestClear 5 (some .int) 2 := ⟨Or.inl gw477, gw479, gw457, gw478, rfl, by decide +kernel, by decide⟩
theorem gw480 : Cond.methodLink RX1 69 yX1_hadByLettingGo ∈ Gw := inGw (in_t5 (List.mem_of_getElem? (i := 129) (by decide +kernel))) (by decide +kernel)
theorem gw481 : Cond.code yX1_hadByLettingGo cX1_hadByLettingGo 6 (some .int) ∈ Gw := inGw (in_t5 (List.mem_of_getElem? (i := 132) (by rfl))) (by decide +kernel)
theorem gw482 : Cond.instanceMethod yX1_hadByLettingGo ∈ Gw := inGw (in_t5 (List.mem_of_getElem? (i := 131) (by decide +kernel))) (by decide +kernel)
theorem gw483 : Cond.selects RX1 yX1_hadByLettingGo yX1_hadByLettingGo ∈ Gw := inGw (in_sel (q := (yX1_hadByLettingGo, 4)) (by decide +kernel)) (by decide +kernel)
theorem cv_RX1_69 : CV RX1 RX1 69 yX1_hadByLettingGo cX1_hadByLettingGo 6 (some .int) 2 := ⟨Or.inl gw480, gw482, gw483, gw457, gw481, rfl, by decide +kernel, by decide⟩
theorem gw484 : Cond.fieldLink RX11 81 RX11 (TX11 10).2.1 (TX11 10).2.2.1 ∈ Gw := inGw (in_t2 (List.mem_of_getElem? (i := 44) (by decide +kernel))) (by decide +kernel)
theorem lf_RX11_81 : LF RX11 81 RX11 TX11 15 10 false := ⟨by decide, rfl, rfl, Or.inl gw484⟩
theorem fD_0_10 : FD 0 55 0 11 10 0 := by decide
theorem gw485 : Cond.fieldLink RX11 47 RX11 (TX11 4).2.1 (TX11 4).2.2.1 ∈ Gw := inGw (in_t2 (List.mem_of_getElem? (i := 38) (by decide +kernel))) (by decide +kernel)
theorem lf_RX11_47 : LF RX11 47 RX11 TX11 15 4 true := ⟨by decide, rfl, rfl, Or.inl gw485⟩
theorem fR_0_4 : FR 0 55 0 11 4 8 := by decide
theorem ci11 : CI 11 RX11 TX11 15 tyX11 := ⟨rfl, fun w h => inGw ((show ∀ w ∈ u_ws RX11 TX11 15, w ∈ lw_tbl from by decide +kernel) w h) ((show ∀ w ∈ u_ws RX11 TX11 15, goodWord w = true from by decide +kernel) w h), tyX11_ok, nmX11⟩
theorem gw486 : Cond.methodLinkNest RX11 109 yX4_give "SharedWindow" ∈ NW := inNW (in_t2 (List.mem_of_getElem? (i := 91) (by decide +kernel))) (by decide +kernel)
theorem cv_RX11_109 : CV RX11 RX4 109 yX4_give cX4_give 3 none 2 := ⟨Or.inr ⟨_, gw486⟩, gw211, gw212, gw205, gw210, rfl, by decide +kernel, by decide⟩
theorem gw487 : Cond.methodLink RX11 102 yX11_isTurn ∈ Gw := inGw (in_t2 (List.mem_of_getElem? (i := 84) (by decide +kernel))) (by decide +kernel)
theorem cs_RX11_102 : CS RX11 RX11 102 yX11_isTurn cX11_isTurn 1 (some .boolean) 1 := ⟨Or.inl gw487, gw117, gw115, gw116, rfl, by decide +kernel, by decide⟩
theorem gw488 : Cond.methodLinkNest RX11 106 yX8_hasHouse "SharedWindow" ∈ NW := inNW (in_t2 (List.mem_of_getElem? (i := 87) (by decide +kernel))) (by decide +kernel)
theorem cv_RX11_106 : CV RX11 RX8 106 yX8_hasHouse cX8_hasHouse 2 (some .boolean) 1 := ⟨Or.inr ⟨_, gw488⟩, gw108, gw109, gw88, gw107, rfl, by decide +kernel, by decide⟩
theorem gw489 : Cond.fieldLink RX11 10 RX11 (TX11 0).2.1 (TX11 0).2.2.1 ∈ Gw := inGw (in_t2 (List.mem_of_getElem? (i := 34) (by decide +kernel))) (by decide +kernel)
theorem lf_RX11_10 : LF RX11 10 RX11 TX11 15 0 true := ⟨by decide, rfl, rfl, Or.inl gw489⟩
theorem fR_0_0 : FR 0 55 0 11 0 1 := by decide
theorem gw490 : Cond.methodLinkNest RX11 113 yX7_hasRoom "SharedWindow" ∈ NW := inNW (in_t2 (List.mem_of_getElem? (i := 100) (by decide +kernel))) (by decide +kernel)
theorem gw491 : Cond.code yX7_hasRoom cX7_hasRoom 1 (some .boolean) ∈ Gw := inGw (in_t2 (List.mem_of_getElem? (i := 103) (by rfl))) (by decide +kernel)
theorem gw492 : Cond.instanceMethod yX7_hasRoom ∈ Gw := inGw (in_t2 (List.mem_of_getElem? (i := 102) (by decide +kernel))) (by decide +kernel)
theorem gw493 : Cond.selects RX7 yX7_hasRoom yX7_hasRoom ∈ Gw := inGw (in_sel (q := (yX7_hasRoom, 2)) (by decide +kernel)) (by decide +kernel)
theorem cv_RX11_113 : CV RX11 RX7 113 yX7_hasRoom cX7_hasRoom 1 (some .boolean) 0 := ⟨Or.inr ⟨_, gw490⟩, gw492, gw493, gw47, gw491, rfl, by decide +kernel, by decide⟩
theorem gw494 : Cond.methodLinkNest RX11 117 yX7_addInt "SharedWindow" ∈ NW := inNW (in_t2 (List.mem_of_getElem? (i := 104) (by decide +kernel))) (by decide +kernel)
theorem gw495 : Cond.code yX7_addInt cX7_addInt 3 none ∈ Gw := inGw (in_t2 (List.mem_of_getElem? (i := 107) (by rfl))) (by decide +kernel)
theorem gw496 : Cond.instanceMethod yX7_addInt ∈ Gw := inGw (in_t2 (List.mem_of_getElem? (i := 106) (by decide +kernel))) (by decide +kernel)
theorem gw497 : Cond.selects RX7 yX7_addInt yX7_addInt ∈ Gw := inGw (in_sel (q := (yX7_addInt, 2)) (by decide +kernel)) (by decide +kernel)
theorem cv_RX11_117 : CV RX11 RX7 117 yX7_addInt cX7_addInt 3 none 1 := ⟨Or.inr ⟨_, gw494⟩, gw496, gw497, gw47, gw495, rfl, by decide +kernel, by decide⟩
theorem gw498 : Cond.methodLinkNest RX11 121 yX7_size "SharedWindow" ∈ NW := inNW (in_t2 (List.mem_of_getElem? (i := 108) (by decide +kernel))) (by decide +kernel)
theorem gw499 : Cond.code yX7_size cX7_size 1 (some .int) ∈ Gw := inGw (in_t2 (List.mem_of_getElem? (i := 111) (by rfl))) (by decide +kernel)
theorem gw500 : Cond.instanceMethod yX7_size ∈ Gw := inGw (in_t2 (List.mem_of_getElem? (i := 110) (by decide +kernel))) (by decide +kernel)
theorem gw501 : Cond.selects RX7 yX7_size yX7_size ∈ Gw := inGw (in_sel (q := (yX7_size, 2)) (by decide +kernel)) (by decide +kernel)
theorem cv_RX11_121 : CV RX11 RX7 121 yX7_size cX7_size 1 (some .int) 0 := ⟨Or.inr ⟨_, gw498⟩, gw500, gw501, gw47, gw499, rfl, by decide +kernel, by decide⟩
theorem gw502 : Cond.fieldLink RX11 40 RX11 (TX11 3).2.1 (TX11 3).2.2.1 ∈ Gw := inGw (in_t2 (List.mem_of_getElem? (i := 37) (by decide +kernel))) (by decide +kernel)
theorem lf_RX11_40 : LF RX11 40 RX11 TX11 15 3 true := ⟨by decide, rfl, rfl, Or.inl gw502⟩
theorem fR_0_3 : FR 0 55 0 11 3 7 := by decide
theorem gw503 : Cond.fieldLink RX11 95 RX11 (TX11 13).2.1 (TX11 13).2.2.1 ∈ Gw := inGw (in_t2 (List.mem_of_getElem? (i := 47) (by decide +kernel))) (by decide +kernel)
theorem lf_RX11_95 : LF RX11 95 RX11 TX11 15 13 false := ⟨by decide, rfl, rfl, Or.inl gw503⟩
theorem fD_0_13 : FD 0 55 0 11 13 3 := by decide
theorem gw504 : Cond.fieldLink RX11 91 RX11 (TX11 12).2.1 (TX11 12).2.2.1 ∈ Gw := inGw (in_t2 (List.mem_of_getElem? (i := 46) (by decide +kernel))) (by decide +kernel)
theorem lf_RX11_91 : LF RX11 91 RX11 TX11 15 12 false := ⟨by decide, rfl, rfl, Or.inl gw504⟩
theorem fD_0_12 : FD 0 55 0 11 12 2 := by decide
theorem gw505 : Cond.methodLinkNest RX11 125 yX7_holds "SharedWindow" ∈ NW := inNW (in_t2 (List.mem_of_getElem? (i := 116) (by decide +kernel))) (by decide +kernel)
theorem gw506 : Cond.code yX7_holds cX7_holds 2 (some .boolean) ∈ Gw := inGw (in_t2 (List.mem_of_getElem? (i := 119) (by rfl))) (by decide +kernel)
theorem gw507 : Cond.instanceMethod yX7_holds ∈ Gw := inGw (in_t2 (List.mem_of_getElem? (i := 118) (by decide +kernel))) (by decide +kernel)
theorem gw508 : Cond.selects RX7 yX7_holds yX7_holds ∈ Gw := inGw (in_sel (q := (yX7_holds, 2)) (by decide +kernel)) (by decide +kernel)
theorem cv_RX11_125 : CV RX11 RX7 125 yX7_holds cX7_holds 2 (some .boolean) 1 := ⟨Or.inr ⟨_, gw505⟩, gw507, gw508, gw47, gw506, rfl, by decide +kernel, by decide⟩
theorem gw509 : Cond.methodLinkNest RX11 128 yX3_readLaw "SharedWindow" ∈ NW := inNW (in_t2 (List.mem_of_getElem? (i := 120) (by decide +kernel))) (by decide +kernel)
theorem gw510 : Cond.code yX3_readLaw cX3_readLaw 5 (some .int) ∈ Gw := inGw (in_t2 (List.mem_of_getElem? (i := 123) (by rfl))) (by decide +kernel)
theorem gw511 : Cond.instanceMethod yX3_readLaw ∈ Gw := inGw (in_t2 (List.mem_of_getElem? (i := 122) (by decide +kernel))) (by decide +kernel)
theorem gw512 : Cond.selects RX3 yX3_readLaw yX3_readLaw ∈ Gw := inGw (in_sel (q := (yX3_readLaw, 1)) (by decide +kernel)) (by decide +kernel)
theorem cv_RX11_128 : CV RX11 RX3 128 yX3_readLaw cX3_readLaw 5 (some .int) 2 := ⟨Or.inr ⟨_, gw509⟩, gw511, gw512, gw321, gw510, rfl, by decide +kernel, by decide⟩
theorem gw513 : Cond.methodLinkNest RX11 132 yX7_clear "SharedWindow" ∈ NW := inNW (in_t3 (List.mem_of_getElem? (i := 75) (by decide +kernel))) (by decide +kernel)
theorem gw514 : Cond.code yX7_clear cX7_clear 1 none ∈ Gw := inGw (in_t3 (List.mem_of_getElem? (i := 78) (by rfl))) (by decide +kernel)
theorem gw515 : Cond.instanceMethod yX7_clear ∈ Gw := inGw (in_t3 (List.mem_of_getElem? (i := 77) (by decide +kernel))) (by decide +kernel)
theorem gw516 : Cond.selects RX7 yX7_clear yX7_clear ∈ Gw := inGw (in_sel (q := (yX7_clear, 2)) (by decide +kernel)) (by decide +kernel)
theorem cv_RX11_132 : CV RX11 RX7 132 yX7_clear cX7_clear 1 none 0 := ⟨Or.inr ⟨_, gw513⟩, gw515, gw516, gw47, gw514, rfl, by decide +kernel, by decide⟩
theorem gw517 : Cond.fieldLink RX11 26 RX11 (TX11 1).2.1 (TX11 1).2.2.1 ∈ Gw := inGw (in_t2 (List.mem_of_getElem? (i := 35) (by decide +kernel))) (by decide +kernel)
theorem lf_RX11_26 : LF RX11 26 RX11 TX11 15 1 true := ⟨by decide, rfl, rfl, Or.inl gw517⟩
theorem fR_0_1 : FR 0 55 0 11 1 4 := by decide
theorem gw518 : Cond.fieldLink RX11 85 RX11 (TX11 11).2.1 (TX11 11).2.2.1 ∈ Gw := inGw (in_t2 (List.mem_of_getElem? (i := 45) (by decide +kernel))) (by decide +kernel)
theorem lf_RX11_85 : LF RX11 85 RX11 TX11 15 11 false := ⟨by decide, rfl, rfl, Or.inl gw518⟩
theorem fD_0_11 : FD 0 55 0 11 11 1 := by decide
theorem gw519 : Cond.fieldLink RX11 68 RX11 (TX11 7).2.1 (TX11 7).2.2.1 ∈ Gw := inGw (in_t2 (List.mem_of_getElem? (i := 41) (by decide +kernel))) (by decide +kernel)
theorem lf_RX11_68 : LF RX11 68 RX11 TX11 15 7 true := ⟨by decide, rfl, rfl, Or.inl gw519⟩
theorem fR_0_7 : FR 0 55 0 11 7 19 := by decide
theorem kS_200 : (Int16.ofInt (200)).toInt32 = (200 : Int32) := by decide
theorem gw520 : Cond.methodLinkNest RX11 135 yX9_readTerrace "SharedWindow" ∈ NW := inNW (in_t3 (List.mem_of_getElem? (i := 84) (by decide +kernel))) (by decide +kernel)
theorem gw521 : Cond.code yX9_readTerrace cX9_readTerrace 5 (some .int) ∈ Gw := inGw (in_t3 (List.mem_of_getElem? (i := 87) (by rfl))) (by decide +kernel)
theorem gw522 : Cond.instanceMethod yX9_readTerrace ∈ Gw := inGw (in_t3 (List.mem_of_getElem? (i := 86) (by decide +kernel))) (by decide +kernel)
theorem gw523 : Cond.selects RX9 yX9_readTerrace yX9_readTerrace ∈ Gw := inGw (in_sel (q := (yX9_readTerrace, 1)) (by decide +kernel)) (by decide +kernel)
theorem cv_RX11_135 : CV RX11 RX9 135 yX9_readTerrace cX9_readTerrace 5 (some .int) 2 := ⟨Or.inr ⟨_, gw520⟩, gw522, gw523, gw152, gw521, rfl, by decide +kernel, by decide⟩
theorem gw524 : Cond.methodLinkNest RX11 139 yX4_dropStrangers "SharedWindow" ∈ NW := inNW (in_t3 (List.mem_of_getElem? (i := 154) (by decide +kernel))) (by decide +kernel)
theorem gw525 : Cond.code yX4_dropStrangers cX4_dropStrangers 3 none ∈ Gw := inGw (in_t3 (List.mem_of_getElem? (i := 157) (by rfl))) (by decide +kernel)
theorem gw526 : Cond.instanceMethod yX4_dropStrangers ∈ Gw := inGw (in_t3 (List.mem_of_getElem? (i := 156) (by decide +kernel))) (by decide +kernel)
theorem gw527 : Cond.selects RX4 yX4_dropStrangers yX4_dropStrangers ∈ Gw := inGw (in_sel (q := (yX4_dropStrangers, 1)) (by decide +kernel)) (by decide +kernel)
theorem cv_RX11_139 : CV RX11 RX4 139 yX4_dropStrangers cX4_dropStrangers 3 none 1 := ⟨Or.inr ⟨_, gw524⟩, gw526, gw527, gw205, gw525, rfl, by decide +kernel, by decide⟩
theorem gw528 : Cond.methodLinkNest RX11 143 yX6_startAnew "SharedWindow" ∈ NW := inNW (in_t3 (List.mem_of_getElem? (i := 159) (by decide +kernel))) (by decide +kernel)
theorem gw529 : Cond.code yX6_startAnew cX6_startAnew 2 none ∈ Gw := inGw (in_t3 (List.mem_of_getElem? (i := 162) (by rfl))) (by decide +kernel)
theorem gw530 : Cond.instanceMethod yX6_startAnew ∈ Gw := inGw (in_t3 (List.mem_of_getElem? (i := 161) (by decide +kernel))) (by decide +kernel)
theorem gw531 : Cond.selects RX6 yX6_startAnew yX6_startAnew ∈ Gw := inGw (in_sel (q := (yX6_startAnew, 6)) (by decide +kernel)) (by decide +kernel)
theorem cv_RX11_143 : CV RX11 RX6 143 yX6_startAnew cX6_startAnew 2 none 0 := ⟨Or.inr ⟨_, gw528⟩, gw530, gw531, gw402, gw529, rfl, by decide +kernel, by decide⟩
theorem oB_19 : OB 0 55 19 6 := by decide
theorem gw532 : Cond.fieldLink RX11 33 RX11 (TX11 2).2.1 (TX11 2).2.2.1 ∈ Gw := inGw (in_t2 (List.mem_of_getElem? (i := 36) (by decide +kernel))) (by decide +kernel)
theorem lf_RX11_33 : LF RX11 33 RX11 TX11 15 2 true := ⟨by decide, rfl, rfl, Or.inl gw532⟩
theorem fR_0_2 : FR 0 55 0 11 2 5 := by decide
theorem gw533 : Cond.methodLinkNest RX11 146 yX5_readRota "SharedWindow" ∈ NW := inNW (in_t3 (List.mem_of_getElem? (i := 167) (by decide +kernel))) (by decide +kernel)
theorem gw534 : Cond.code yX5_readRota cX5_readRota 5 (some .int) ∈ Gw := inGw (in_t3 (List.mem_of_getElem? (i := 170) (by rfl))) (by decide +kernel)
theorem gw535 : Cond.instanceMethod yX5_readRota ∈ Gw := inGw (in_t3 (List.mem_of_getElem? (i := 169) (by decide +kernel))) (by decide +kernel)
theorem gw536 : Cond.selects RX5 yX5_readRota yX5_readRota ∈ Gw := inGw (in_sel (q := (yX5_readRota, 4)) (by decide +kernel)) (by decide +kernel)
theorem cv_RX11_146 : CV RX11 RX5 146 yX5_readRota cX5_readRota 5 (some .int) 3 := ⟨Or.inr ⟨_, gw533⟩, gw535, gw536, gw248, gw534, rfl, by decide +kernel, by decide⟩
theorem gw537 : Cond.constant RX11 150 (65535 : Int32) ∈ Gw := inGw (in_t3 (List.mem_of_getElem? (i := 203) (by decide +kernel))) (by decide +kernel)
theorem gw538 : Cond.fieldLinkNest RX11 151 RX6 (TX6 5).2.1 (TX6 5).2.2.1 "SharedWindow" ∈ NW := inNW (in_t1 (List.mem_of_getElem? (i := 181) (by decide +kernel))) (by decide +kernel)
theorem lf_RX11_151 : LF RX11 151 RX6 TX6 6 5 false := ⟨by decide, rfl, rfl, Or.inr ⟨_, gw538⟩⟩
theorem fI_19_5 : FI 0 55 19 6 5 := by decide
theorem gw539 : Cond.fieldLinkNest RX11 155 RX6 (TX6 3).2.1 (TX6 3).2.2.1 "SharedWindow" ∈ NW := inNW (in_t1 (List.mem_of_getElem? (i := 177) (by decide +kernel))) (by decide +kernel)
theorem lf_RX11_155 : LF RX11 155 RX6 TX6 6 3 false := ⟨by decide, rfl, rfl, Or.inr ⟨_, gw539⟩⟩
theorem fI_19_3 : FI 0 55 19 6 3 := by decide
theorem gw540 : Cond.methodLinkNest RX11 158 yX6_liveDays "SharedWindow" ∈ NW := inNW (in_t3 (List.mem_of_getElem? (i := 208) (by decide +kernel))) (by decide +kernel)
theorem gw541 : Cond.code yX6_liveDays cX6_liveDays 8 none ∈ Gw := inGw (in_t3 (List.mem_of_getElem? (i := 211) (by rfl))) (by decide +kernel)
theorem gw542 : Cond.instanceMethod yX6_liveDays ∈ Gw := inGw (in_t3 (List.mem_of_getElem? (i := 210) (by decide +kernel))) (by decide +kernel)
theorem gw543 : Cond.selects RX6 yX6_liveDays yX6_liveDays ∈ Gw := inGw (in_sel (q := (yX6_liveDays, 6)) (by decide +kernel)) (by decide +kernel)
theorem cv_RX11_158 : CV RX11 RX6 158 yX6_liveDays cX6_liveDays 8 none 4 := ⟨Or.inr ⟨_, gw540⟩, gw542, gw543, gw402, gw541, rfl, by decide +kernel, by decide⟩
theorem gw544 : Cond.fieldLink RX11 72 RX11 (TX11 8).2.1 (TX11 8).2.2.1 ∈ Gw := inGw (in_t2 (List.mem_of_getElem? (i := 42) (by decide +kernel))) (by decide +kernel)
theorem lf_RX11_72 : LF RX11 72 RX11 TX11 15 8 true := ⟨by decide, rfl, rfl, Or.inl gw544⟩
theorem fR_0_8 : FR 0 55 0 11 8 21 := by decide
theorem gw545 : Cond.fieldLinkNest RX11 176 RX6 (TX6 2).2.1 (TX6 2).2.2.1 "SharedWindow" ∈ NW := inNW (in_t1 (List.mem_of_getElem? (i := 175) (by decide +kernel))) (by decide +kernel)
theorem lf_RX11_176 : LF RX11 176 RX6 TX6 6 2 false := ⟨by decide, rfl, rfl, Or.inr ⟨_, gw545⟩⟩
theorem fI_21_2 : FI 0 55 21 6 2 := by decide
theorem gw546 : Cond.fieldLinkNest RX11 169 RX6 (TX6 1).2.1 (TX6 1).2.2.1 "SharedWindow" ∈ NW := inNW (in_t1 (List.mem_of_getElem? (i := 173) (by decide +kernel))) (by decide +kernel)
theorem lf_RX11_169 : LF RX11 169 RX6 TX6 6 1 false := ⟨by decide, rfl, rfl, Or.inr ⟨_, gw546⟩⟩
theorem fI_21_1 : FI 0 55 21 6 1 := by decide
theorem fI_21_3 : FI 0 55 21 6 3 := by decide
theorem gw547 : Cond.methodLink RX11 162 yX11_canBeTried ∈ Gw := inGw (in_t4 (List.mem_of_getElem? (i := 41) (by decide +kernel))) (by decide +kernel)
theorem gw548 : Cond.code yX11_canBeTried cX11_canBeTried 2 (some .boolean) ∈ Gw := inGw (in_t4 (List.mem_of_getElem? (i := 44) (by rfl))) (by decide +kernel)
theorem gw549 : Cond.instanceMethod yX11_canBeTried ∈ Gw := inGw (in_t4 (List.mem_of_getElem? (i := 43) (by decide +kernel))) (by decide +kernel)
theorem gw550 : Cond.selects RX11 yX11_canBeTried yX11_canBeTried ∈ Gw := inGw (in_sel (q := (yX11_canBeTried, 15)) (by decide +kernel)) (by decide +kernel)
theorem cv_RX11_162 : CV RX11 RX11 162 yX11_canBeTried cX11_canBeTried 2 (some .boolean) 1 := ⟨Or.inl gw547, gw549, gw550, gw115, gw548, rfl, by decide +kernel, by decide⟩
theorem oB_0 : OB 0 55 0 11 := by decide
theorem gw551 : Cond.methodLinkNest RX11 165 yX6_copyFrom "SharedWindow" ∈ NW := inNW (in_t4 (List.mem_of_getElem? (i := 45) (by decide +kernel))) (by decide +kernel)
theorem gw552 : Cond.code yX6_copyFrom cX6_copyFrom 2 none ∈ Gw := inGw (in_t4 (List.mem_of_getElem? (i := 48) (by rfl))) (by decide +kernel)
theorem gw553 : Cond.instanceMethod yX6_copyFrom ∈ Gw := inGw (in_t4 (List.mem_of_getElem? (i := 47) (by decide +kernel))) (by decide +kernel)
theorem gw554 : Cond.selects RX6 yX6_copyFrom yX6_copyFrom ∈ Gw := inGw (in_sel (q := (yX6_copyFrom, 6)) (by decide +kernel)) (by decide +kernel)
theorem cv_RX11_165 : CV RX11 RX6 165 yX6_copyFrom cX6_copyFrom 2 none 1 := ⟨Or.inr ⟨_, gw551⟩, gw553, gw554, gw402, gw552, rfl, by decide +kernel, by decide⟩
theorem oB_21 : OB 0 55 21 6 := by decide
theorem gw555 : Cond.methodLink RX11 172 yX11_orNoneAtAll ∈ Gw := inGw (in_t4 (List.mem_of_getElem? (i := 52) (by decide +kernel))) (by decide +kernel)
theorem gw556 : Cond.code yX11_orNoneAtAll cX11_orNoneAtAll 1 (some .int) ∈ Gw := inGw (in_t4 (List.mem_of_getElem? (i := 54) (by rfl))) (by decide +kernel)
theorem gw557 : Cond.static yX11_orNoneAtAll ∈ Gw := inGw (in_t4 (List.mem_of_getElem? (i := 53) (by decide +kernel))) (by decide +kernel)
theorem cs_RX11_172 : CS RX11 RX11 172 yX11_orNoneAtAll cX11_orNoneAtAll 1 (some .int) 1 := ⟨Or.inl gw555, gw557, gw115, gw556, rfl, by decide +kernel, by decide⟩
theorem gw558 : Cond.methodLinkNest RX11 179 yX6_joyOfAll "SharedWindow" ∈ NW := inNW (in_t4 (List.mem_of_getElem? (i := 55) (by decide +kernel))) (by decide +kernel)
theorem gw559 : Cond.code yX6_joyOfAll cX6_joyOfAll 3 (some .int) ∈ Gw := inGw (in_t4 (List.mem_of_getElem? (i := 58) (by rfl))) (by decide +kernel)
theorem gw560 : Cond.instanceMethod yX6_joyOfAll ∈ Gw := inGw (in_t4 (List.mem_of_getElem? (i := 57) (by decide +kernel))) (by decide +kernel)
theorem gw561 : Cond.selects RX6 yX6_joyOfAll yX6_joyOfAll ∈ Gw := inGw (in_sel (q := (yX6_joyOfAll, 6)) (by decide +kernel)) (by decide +kernel)
theorem cv_RX11_179 : CV RX11 RX6 179 yX6_joyOfAll cX6_joyOfAll 3 (some .int) 0 := ⟨Or.inr ⟨_, gw558⟩, gw560, gw561, gw402, gw559, rfl, by decide +kernel, by decide⟩
theorem gw562 : Cond.methodLinkNest RX11 182 yX6_joyOf "SharedWindow" ∈ NW := inNW (in_t4 (List.mem_of_getElem? (i := 59) (by decide +kernel))) (by decide +kernel)
theorem gw563 : Cond.code yX6_joyOf cX6_joyOf 2 (some .int) ∈ Gw := inGw (in_t4 (List.mem_of_getElem? (i := 62) (by rfl))) (by decide +kernel)
theorem gw564 : Cond.instanceMethod yX6_joyOf ∈ Gw := inGw (in_t4 (List.mem_of_getElem? (i := 61) (by decide +kernel))) (by decide +kernel)
theorem gw565 : Cond.selects RX6 yX6_joyOf yX6_joyOf ∈ Gw := inGw (in_sel (q := (yX6_joyOf, 6)) (by decide +kernel)) (by decide +kernel)
theorem cv_RX11_182 : CV RX11 RX6 182 yX6_joyOf cX6_joyOf 2 (some .int) 1 := ⟨Or.inr ⟨_, gw562⟩, gw564, gw565, gw402, gw563, rfl, by decide +kernel, by decide⟩
theorem gw566 : Cond.fieldLink RX11 75 RX11 (TX11 9).2.1 (TX11 9).2.2.1 ∈ Gw := inGw (in_t2 (List.mem_of_getElem? (i := 43) (by decide +kernel))) (by decide +kernel)
theorem lf_RX11_75 : LF RX11 75 RX11 TX11 15 9 true := ⟨by decide, rfl, rfl, Or.inl gw566⟩
theorem fR_0_9 : FR 0 55 0 11 9 23 := by decide
theorem gw567 : Cond.fieldLinkNest RX11 185 RX6 (TX6 4).2.1 (TX6 4).2.2.1 "SharedWindow" ∈ NW := inNW (in_t1 (List.mem_of_getElem? (i := 179) (by decide +kernel))) (by decide +kernel)
theorem lf_RX11_185 : LF RX11 185 RX6 TX6 6 4 false := ⟨by decide, rfl, rfl, Or.inr ⟨_, gw567⟩⟩
theorem fI_19_4 : FI 0 55 19 6 4 := by decide
theorem oB_23 : OB 0 55 23 6 := by decide
theorem gw568 : Cond.fieldLink RX11 98 RX11 (TX11 14).2.1 (TX11 14).2.2.1 ∈ Gw := inGw (in_t2 (List.mem_of_getElem? (i := 48) (by decide +kernel))) (by decide +kernel)
theorem lf_RX11_98 : LF RX11 98 RX11 TX11 15 14 false := ⟨by decide, rfl, rfl, Or.inl gw568⟩
theorem fI_0_14 : FI 0 55 0 11 14 := by decide
theorem gw569 : Cond.methodLinkNest RX11 188 yX6_dropStrangers "SharedWindow" ∈ NW := inNW (in_t4 (List.mem_of_getElem? (i := 71) (by decide +kernel))) (by decide +kernel)
theorem gw570 : Cond.code yX6_dropStrangers cX6_dropStrangers 3 none ∈ Gw := inGw (in_t4 (List.mem_of_getElem? (i := 74) (by rfl))) (by decide +kernel)
theorem gw571 : Cond.instanceMethod yX6_dropStrangers ∈ Gw := inGw (in_t4 (List.mem_of_getElem? (i := 73) (by decide +kernel))) (by decide +kernel)
theorem gw572 : Cond.selects RX6 yX6_dropStrangers yX6_dropStrangers ∈ Gw := inGw (in_sel (q := (yX6_dropStrangers, 6)) (by decide +kernel)) (by decide +kernel)
theorem cv_RX11_188 : CV RX11 RX6 188 yX6_dropStrangers cX6_dropStrangers 3 none 1 := ⟨Or.inr ⟨_, gw569⟩, gw571, gw572, gw402, gw570, rfl, by decide +kernel, by decide⟩
theorem gw573 : Cond.methodLinkNest RX11 189 yX7_byteAt "SharedWindow" ∈ NW := inNW (in_t4 (List.mem_of_getElem? (i := 80) (by decide +kernel))) (by decide +kernel)
theorem cv_RX11_189 : CV RX11 RX7 189 yX7_byteAt cX7_byteAt 2 (some .int) 1 := ⟨Or.inr ⟨_, gw573⟩, gw49, gw50, gw47, gw48, rfl, by decide +kernel, by decide⟩
theorem fI_19_2 : FI 0 55 19 6 2 := by decide
theorem gw574 : Cond.fieldLinkNest RX11 198 RX2 (TX2 6).2.1 (TX2 6).2.2.1 "SharedWindow" ∈ NW := inNW (in_t2 (List.mem_of_getElem? (i := 5) (by decide +kernel))) (by decide +kernel)
theorem lf_RX11_198 : LF RX11 198 RX2 TX2 11 6 false := ⟨by decide, rfl, rfl, Or.inr ⟨_, gw574⟩⟩
theorem fI_19_1 : FI 0 55 19 6 1 := by decide
theorem gw575 : Cond.fieldLinkNest RX11 195 RX8 (TX8 8).2.1 (TX8 8).2.2.1 "SharedWindow" ∈ NW := inNW (in_t1 (List.mem_of_getElem? (i := 212) (by decide +kernel))) (by decide +kernel)
theorem lf_RX11_195 : LF RX11 195 RX8 TX8 9 8 false := ⟨by decide, rfl, rfl, Or.inr ⟨_, gw575⟩⟩
theorem gw576 : Cond.fieldLinkNest RX11 192 RX8 (TX8 7).2.1 (TX8 7).2.2.1 "SharedWindow" ∈ NW := inNW (in_t1 (List.mem_of_getElem? (i := 210) (by decide +kernel))) (by decide +kernel)
theorem lf_RX11_192 : LF RX11 192 RX8 TX8 9 7 false := ⟨by decide, rfl, rfl, Or.inr ⟨_, gw576⟩⟩
theorem gw577 : Cond.methodLink RX11 201 yJ6_bitCount_0f7a4 ∈ Gw := inGw (in_t4 (List.mem_of_getElem? (i := 85) (by decide +kernel))) (by decide +kernel)
theorem cs_RX11_201 : CS RX11 RJ6 201 yJ6_bitCount_0f7a4 cJ6_bitCount_0f7a4 1 (some .int) 1 := ⟨Or.inl gw577, gw129, gw127, gw128, rfl, by decide +kernel, by decide⟩
theorem gw578 : Cond.methodLinkNest RX11 206 yX4_takenTurns "SharedWindow" ∈ NW := inNW (in_t4 (List.mem_of_getElem? (i := 86) (by decide +kernel))) (by decide +kernel)
theorem gw579 : Cond.code yX4_takenTurns cX4_takenTurns 3 (some .int) ∈ Gw := inGw (in_t4 (List.mem_of_getElem? (i := 89) (by rfl))) (by decide +kernel)
theorem gw580 : Cond.instanceMethod yX4_takenTurns ∈ Gw := inGw (in_t4 (List.mem_of_getElem? (i := 88) (by decide +kernel))) (by decide +kernel)
theorem gw581 : Cond.selects RX4 yX4_takenTurns yX4_takenTurns ∈ Gw := inGw (in_sel (q := (yX4_takenTurns, 1)) (by decide +kernel)) (by decide +kernel)
theorem cv_RX11_206 : CV RX11 RX4 206 yX4_takenTurns cX4_takenTurns 3 (some .int) 0 := ⟨Or.inr ⟨_, gw578⟩, gw580, gw581, gw205, gw579, rfl, by decide +kernel, by decide⟩
theorem gw582 : Cond.methodLinkNest RX11 209 yX8_view "SharedWindow" ∈ NW := inNW (in_t4 (List.mem_of_getElem? (i := 94) (by decide +kernel))) (by decide +kernel)
theorem cv_RX11_209 : CV RX11 RX8 209 yX8_view cX8_view 3 (some .int) 2 := ⟨Or.inr ⟨_, gw582⟩, gw120, gw121, gw88, gw119, rfl, by decide +kernel, by decide⟩
theorem gw583 : Cond.methodLink RX11 322 Lib.Math.max.name ∈ Gw := inGw (in_t4 (List.mem_of_getElem? (i := 106) (by decide +kernel))) (by decide +kernel)
theorem mw_RX11_322 : MW RX11 322 Lib.Math.max.name Lib.Math.max.code 2 := ⟨gw583, gw17, gw18, gw19⟩
theorem kS_4095 : (Int16.ofInt (4095)).toInt32 = (4095 : Int32) := by decide
theorem gw584 : Cond.fieldLinkNest RX11 213 RX8 (TX8 0).2.1 (TX8 0).2.2.1 "SharedWindow" ∈ NW := inNW (in_t1 (List.mem_of_getElem? (i := 202) (by decide +kernel))) (by decide +kernel)
theorem lf_RX11_213 : LF RX11 213 RX8 TX8 9 0 true := ⟨by decide, rfl, rfl, Or.inr ⟨_, gw584⟩⟩
theorem gw585 : Cond.methodLinkNest RX11 217 yX4_turnsOf "SharedWindow" ∈ NW := inNW (in_t4 (List.mem_of_getElem? (i := 99) (by decide +kernel))) (by decide +kernel)
theorem cv_RX11_217 : CV RX11 RX4 217 yX4_turnsOf cX4_turnsOf 4 (some .int) 1 := ⟨Or.inr ⟨_, gw585⟩, gw224, gw225, gw205, gw223, rfl, by decide +kernel, by decide⟩
theorem gw586 : Cond.methodLink RX11 220 yX11_longestRun ∈ Gw := inGw (in_t4 (List.mem_of_getElem? (i := 103) (by decide +kernel))) (by decide +kernel)
theorem gw587 : Cond.code yX11_longestRun cX11_longestRun 4 (some .int) ∈ Gw := inGw (in_t4 (List.mem_of_getElem? (i := 105) (by rfl))) (by decide +kernel)
theorem gw588 : Cond.static yX11_longestRun ∈ Gw := inGw (in_t4 (List.mem_of_getElem? (i := 104) (by decide +kernel))) (by decide +kernel)
theorem cs_RX11_220 : CS RX11 RX11 220 yX11_longestRun cX11_longestRun 4 (some .int) 1 := ⟨Or.inl gw586, gw588, gw115, gw587, rfl, by decide +kernel, by decide⟩
theorem gw589 : Cond.methodLinkNest RX11 223 yX8_wholeView "SharedWindow" ∈ NW := inNW (in_t4 (List.mem_of_getElem? (i := 107) (by decide +kernel))) (by decide +kernel)
theorem cv_RX11_223 : CV RX11 RX8 223 yX8_wholeView cX8_wholeView 2 (some .int) 1 := ⟨Or.inr ⟨_, gw589⟩, gw124, gw125, gw88, gw123, rfl, by decide +kernel, by decide⟩
theorem gw590 : Cond.methodLinkNest RX11 229 yX4_way "SharedWindow" ∈ NW := inNW (in_t4 (List.mem_of_getElem? (i := 116) (by decide +kernel))) (by decide +kernel)
theorem cv_RX11_229 : CV RX11 RX4 229 yX4_way cX4_way 5 (some .int) 0 := ⟨Or.inr ⟨_, gw590⟩, gw219, gw220, gw205, gw218, rfl, by decide +kernel, by decide⟩
theorem gw591 : Cond.methodLinkNest RX11 232 yX4_wayBack "SharedWindow" ∈ NW := inNW (in_t4 (List.mem_of_getElem? (i := 121) (by decide +kernel))) (by decide +kernel)
theorem gw592 : Cond.code yX4_wayBack cX4_wayBack 4 (some .int) ∈ Gw := inGw (in_t4 (List.mem_of_getElem? (i := 124) (by rfl))) (by decide +kernel)
theorem gw593 : Cond.instanceMethod yX4_wayBack ∈ Gw := inGw (in_t4 (List.mem_of_getElem? (i := 123) (by decide +kernel))) (by decide +kernel)
theorem gw594 : Cond.selects RX4 yX4_wayBack yX4_wayBack ∈ Gw := inGw (in_sel (q := (yX4_wayBack, 1)) (by decide +kernel)) (by decide +kernel)
theorem cv_RX11_232 : CV RX11 RX4 232 yX4_wayBack cX4_wayBack 4 (some .int) 0 := ⟨Or.inr ⟨_, gw591⟩, gw593, gw594, gw205, gw592, rfl, by decide +kernel, by decide⟩
theorem gw595 : Cond.methodLinkNest RX11 235 yX4_thingsSeen "SharedWindow" ∈ NW := inNW (in_t4 (List.mem_of_getElem? (i := 125) (by decide +kernel))) (by decide +kernel)
theorem gw596 : Cond.code yX4_thingsSeen cX4_thingsSeen 4 (some .int) ∈ Gw := inGw (in_t4 (List.mem_of_getElem? (i := 128) (by rfl))) (by decide +kernel)
theorem gw597 : Cond.instanceMethod yX4_thingsSeen ∈ Gw := inGw (in_t4 (List.mem_of_getElem? (i := 127) (by decide +kernel))) (by decide +kernel)
theorem gw598 : Cond.selects RX4 yX4_thingsSeen yX4_thingsSeen ∈ Gw := inGw (in_sel (q := (yX4_thingsSeen, 1)) (by decide +kernel)) (by decide +kernel)
theorem cv_RX11_235 : CV RX11 RX4 235 yX4_thingsSeen cX4_thingsSeen 4 (some .int) 1 := ⟨Or.inr ⟨_, gw595⟩, gw597, gw598, gw205, gw596, rfl, by decide +kernel, by decide⟩
theorem gw599 : Cond.methodLinkNest RX11 226 yX4_holder "SharedWindow" ∈ NW := inNW (in_t4 (List.mem_of_getElem? (i := 115) (by decide +kernel))) (by decide +kernel)
theorem cv_RX11_226 : CV RX11 RX4 226 yX4_holder cX4_holder 2 (some .int) 1 := ⟨Or.inr ⟨_, gw599⟩, gw207, gw208, gw205, gw206, rfl, by decide +kernel, by decide⟩
theorem gw600 : Cond.methodLinkNest RX11 239 yX8_hasThing "SharedWindow" ∈ NW := inNW (in_t4 (List.mem_of_getElem? (i := 134) (by decide +kernel))) (by decide +kernel)
theorem cv_RX11_239 : CV RX11 RX8 239 yX8_hasThing cX8_hasThing 2 (some .boolean) 1 := ⟨Or.inr ⟨_, gw600⟩, gw90, gw91, gw88, gw89, rfl, by decide +kernel, by decide⟩
theorem gw601 : Cond.methodLinkNest RX11 242 yX4_turnsTill "SharedWindow" ∈ NW := inNW (in_t4 (List.mem_of_getElem? (i := 135) (by decide +kernel))) (by decide +kernel)
theorem gw602 : Cond.code yX4_turnsTill cX4_turnsTill 7 (some .int) ∈ Gw := inGw (in_t4 (List.mem_of_getElem? (i := 138) (by rfl))) (by decide +kernel)
theorem gw603 : Cond.instanceMethod yX4_turnsTill ∈ Gw := inGw (in_t4 (List.mem_of_getElem? (i := 137) (by decide +kernel))) (by decide +kernel)
theorem gw604 : Cond.selects RX4 yX4_turnsTill yX4_turnsTill ∈ Gw := inGw (in_sel (q := (yX4_turnsTill, 1)) (by decide +kernel)) (by decide +kernel)
theorem cv_RX11_242 : CV RX11 RX4 242 yX4_turnsTill cX4_turnsTill 7 (some .int) 4 := ⟨Or.inr ⟨_, gw601⟩, gw603, gw604, gw205, gw602, rfl, by decide +kernel, by decide⟩
theorem gw605 : Cond.methodLinkNest RX11 246 yX8_litTurns "SharedWindow" ∈ NW := inNW (in_t4 (List.mem_of_getElem? (i := 144) (by decide +kernel))) (by decide +kernel)
theorem gw606 : Cond.code yX8_litTurns cX8_litTurns 4 (some .int) ∈ Gw := inGw (in_t4 (List.mem_of_getElem? (i := 147) (by rfl))) (by decide +kernel)
theorem gw607 : Cond.instanceMethod yX8_litTurns ∈ Gw := inGw (in_t4 (List.mem_of_getElem? (i := 146) (by decide +kernel))) (by decide +kernel)
theorem gw608 : Cond.selects RX8 yX8_litTurns yX8_litTurns ∈ Gw := inGw (in_sel (q := (yX8_litTurns, 9)) (by decide +kernel)) (by decide +kernel)
theorem cv_RX11_246 : CV RX11 RX8 246 yX8_litTurns cX8_litTurns 4 (some .int) 1 := ⟨Or.inr ⟨_, gw605⟩, gw607, gw608, gw88, gw606, rfl, by decide +kernel, by decide⟩
theorem gw609 : Cond.methodLinkNest RX11 249 yX8_watchers "SharedWindow" ∈ NW := inNW (in_t4 (List.mem_of_getElem? (i := 153) (by decide +kernel))) (by decide +kernel)
theorem gw610 : Cond.code yX8_watchers cX8_watchers 4 (some .int) ∈ Gw := inGw (in_t4 (List.mem_of_getElem? (i := 156) (by rfl))) (by decide +kernel)
theorem gw611 : Cond.instanceMethod yX8_watchers ∈ Gw := inGw (in_t4 (List.mem_of_getElem? (i := 155) (by decide +kernel))) (by decide +kernel)
theorem gw612 : Cond.selects RX8 yX8_watchers yX8_watchers ∈ Gw := inGw (in_sel (q := (yX8_watchers, 9)) (by decide +kernel)) (by decide +kernel)
theorem cv_RX11_249 : CV RX11 RX8 249 yX8_watchers cX8_watchers 4 (some .int) 1 := ⟨Or.inr ⟨_, gw609⟩, gw611, gw612, gw88, gw610, rfl, by decide +kernel, by decide⟩
theorem gw613 : Cond.methodLinkNest RX11 252 yX8_clearestTurn "SharedWindow" ∈ NW := inNW (in_t4 (List.mem_of_getElem? (i := 162) (by decide +kernel))) (by decide +kernel)
theorem gw614 : Cond.code yX8_clearestTurn cX8_clearestTurn 5 (some .int) ∈ Gw := inGw (in_t4 (List.mem_of_getElem? (i := 165) (by rfl))) (by decide +kernel)
theorem gw615 : Cond.instanceMethod yX8_clearestTurn ∈ Gw := inGw (in_t4 (List.mem_of_getElem? (i := 164) (by decide +kernel))) (by decide +kernel)
theorem gw616 : Cond.selects RX8 yX8_clearestTurn yX8_clearestTurn ∈ Gw := inGw (in_sel (q := (yX8_clearestTurn, 9)) (by decide +kernel)) (by decide +kernel)
theorem cv_RX11_252 : CV RX11 RX8 252 yX8_clearestTurn cX8_clearestTurn 5 (some .int) 0 := ⟨Or.inr ⟨_, gw613⟩, gw615, gw616, gw88, gw614, rfl, by decide +kernel, by decide⟩
theorem gw617 : Cond.methodLinkNest RX11 255 yX8_twosIn "SharedWindow" ∈ NW := inNW (in_t4 (List.mem_of_getElem? (i := 171) (by decide +kernel))) (by decide +kernel)
theorem cv_RX11_255 : CV RX11 RX8 255 yX8_twosIn cX8_twosIn 4 (some .int) 1 := ⟨Or.inr ⟨_, gw617⟩, gw132, gw133, gw88, gw131, rfl, by decide +kernel, by decide⟩
theorem gw618 : Cond.methodLinkNest RX11 258 yX8_housesThatSeeJust "SharedWindow" ∈ NW := inNW (in_t4 (List.mem_of_getElem? (i := 176) (by decide +kernel))) (by decide +kernel)
theorem gw619 : Cond.code yX8_housesThatSeeJust cX8_housesThatSeeJust 5 (some .int) ∈ Gw := inGw (in_t4 (List.mem_of_getElem? (i := 179) (by rfl))) (by decide +kernel)
theorem gw620 : Cond.instanceMethod yX8_housesThatSeeJust ∈ Gw := inGw (in_t4 (List.mem_of_getElem? (i := 178) (by decide +kernel))) (by decide +kernel)
theorem gw621 : Cond.selects RX8 yX8_housesThatSeeJust yX8_housesThatSeeJust ∈ Gw := inGw (in_sel (q := (yX8_housesThatSeeJust, 9)) (by decide +kernel)) (by decide +kernel)
theorem cv_RX11_258 : CV RX11 RX8 258 yX8_housesThatSeeJust cX8_housesThatSeeJust 5 (some .int) 2 := ⟨Or.inr ⟨_, gw618⟩, gw620, gw621, gw88, gw619, rfl, by decide +kernel, by decide⟩
theorem gw622 : Cond.methodLinkNest RX11 261 yX8_fewestWatchers "SharedWindow" ∈ NW := inNW (in_t4 (List.mem_of_getElem? (i := 184) (by decide +kernel))) (by decide +kernel)
theorem gw623 : Cond.code yX8_fewestWatchers cX8_fewestWatchers 5 (some .int) ∈ Gw := inGw (in_t4 (List.mem_of_getElem? (i := 187) (by rfl))) (by decide +kernel)
theorem gw624 : Cond.instanceMethod yX8_fewestWatchers ∈ Gw := inGw (in_t4 (List.mem_of_getElem? (i := 186) (by decide +kernel))) (by decide +kernel)
theorem gw625 : Cond.selects RX8 yX8_fewestWatchers yX8_fewestWatchers ∈ Gw := inGw (in_sel (q := (yX8_fewestWatchers, 9)) (by decide +kernel)) (by decide +kernel)
theorem cv_RX11_261 : CV RX11 RX8 261 yX8_fewestWatchers cX8_fewestWatchers 5 (some .int) 0 := ⟨Or.inr ⟨_, gw622⟩, gw624, gw625, gw88, gw623, rfl, by decide +kernel, by decide⟩
theorem gw626 : Cond.methodLinkNest RX11 264 yX4_wayIfSwapped "SharedWindow" ∈ NW := inNW (in_t4 (List.mem_of_getElem? (i := 201) (by decide +kernel))) (by decide +kernel)
theorem gw627 : Cond.code yX4_wayIfSwapped cX4_wayIfSwapped 4 (some .int) ∈ Gw := inGw (in_t4 (List.mem_of_getElem? (i := 204) (by rfl))) (by decide +kernel)
theorem gw628 : Cond.instanceMethod yX4_wayIfSwapped ∈ Gw := inGw (in_t4 (List.mem_of_getElem? (i := 203) (by decide +kernel))) (by decide +kernel)
theorem gw629 : Cond.selects RX4 yX4_wayIfSwapped yX4_wayIfSwapped ∈ Gw := inGw (in_sel (q := (yX4_wayIfSwapped, 1)) (by decide +kernel)) (by decide +kernel)
theorem cv_RX11_264 : CV RX11 RX4 264 yX4_wayIfSwapped cX4_wayIfSwapped 4 (some .int) 2 := ⟨Or.inr ⟨_, gw626⟩, gw628, gw629, gw205, gw627, rfl, by decide +kernel, by decide⟩
theorem gw630 : Cond.methodLinkNest RX11 267 yX4_spreadAmong "SharedWindow" ∈ NW := inNW (in_t4 (List.mem_of_getElem? (i := 215) (by decide +kernel))) (by decide +kernel)
theorem gw631 : Cond.code yX4_spreadAmong cX4_spreadAmong 6 (some .int) ∈ Gw := inGw (in_t4 (List.mem_of_getElem? (i := 218) (by rfl))) (by decide +kernel)
theorem gw632 : Cond.instanceMethod yX4_spreadAmong ∈ Gw := inGw (in_t4 (List.mem_of_getElem? (i := 217) (by decide +kernel))) (by decide +kernel)
theorem gw633 : Cond.selects RX4 yX4_spreadAmong yX4_spreadAmong ∈ Gw := inGw (in_sel (q := (yX4_spreadAmong, 1)) (by decide +kernel)) (by decide +kernel)
theorem cv_RX11_267 : CV RX11 RX4 267 yX4_spreadAmong cX4_spreadAmong 6 (some .int) 1 := ⟨Or.inr ⟨_, gw630⟩, gw632, gw633, gw205, gw631, rfl, by decide +kernel, by decide⟩
theorem gw634 : Cond.methodLinkNest RX11 270 yX4_readBy "SharedWindow" ∈ NW := inNW (in_t4 (List.mem_of_getElem? (i := 227) (by decide +kernel))) (by decide +kernel)
theorem cv_RX11_270 : CV RX11 RX4 270 yX4_readBy cX4_readBy 8 (some .int) 3 := ⟨Or.inr ⟨_, gw634⟩, gw231, gw232, gw205, gw230, rfl, by decide +kernel, by decide⟩
theorem gw635 : Cond.methodLinkNest RX11 274 yX4_bestTurnToWrite "SharedWindow" ∈ NW := inNW (in_t4 (List.mem_of_getElem? (i := 235) (by decide +kernel))) (by decide +kernel)
theorem gw636 : Cond.code yX4_bestTurnToWrite cX4_bestTurnToWrite 7 (some .int) ∈ Gw := inGw (in_t4 (List.mem_of_getElem? (i := 238) (by rfl))) (by decide +kernel)
theorem gw637 : Cond.instanceMethod yX4_bestTurnToWrite ∈ Gw := inGw (in_t4 (List.mem_of_getElem? (i := 237) (by decide +kernel))) (by decide +kernel)
theorem gw638 : Cond.selects RX4 yX4_bestTurnToWrite yX4_bestTurnToWrite ∈ Gw := inGw (in_sel (q := (yX4_bestTurnToWrite, 1)) (by decide +kernel)) (by decide +kernel)
theorem cv_RX11_274 : CV RX11 RX4 274 yX4_bestTurnToWrite cX4_bestTurnToWrite 7 (some .int) 2 := ⟨Or.inr ⟨_, gw635⟩, gw637, gw638, gw205, gw636, rfl, by decide +kernel, by decide⟩
theorem gw639 : Cond.methodLinkNest RX11 278 yX4_othersWhoRead "SharedWindow" ∈ NW := inNW (in_t5 (List.mem_of_getElem? (i := 4) (by decide +kernel))) (by decide +kernel)
theorem cv_RX11_278 : CV RX11 RX4 278 yX4_othersWhoRead cX4_othersWhoRead 4 (some .int) 3 := ⟨Or.inr ⟨_, gw639⟩, gw235, gw236, gw205, gw234, rfl, by decide +kernel, by decide⟩
theorem gw640 : Cond.fieldLink RX11 54 RX11 (TX11 5).2.1 (TX11 5).2.2.1 ∈ Gw := inGw (in_t2 (List.mem_of_getElem? (i := 39) (by decide +kernel))) (by decide +kernel)
theorem lf_RX11_54 : LF RX11 54 RX11 TX11 15 5 true := ⟨by decide, rfl, rfl, Or.inl gw640⟩
theorem fR_0_5 : FR 0 55 0 11 5 10 := by decide
theorem gw641 : Cond.methodLinkNest RX11 281 yX10_take "SharedWindow" ∈ NW := inNW (in_t5 (List.mem_of_getElem? (i := 9) (by decide +kernel))) (by decide +kernel)
theorem gw642 : Cond.code yX10_take cX10_take 6 (some .boolean) ∈ Gw := inGw (in_t5 (List.mem_of_getElem? (i := 12) (by rfl))) (by decide +kernel)
theorem gw643 : Cond.instanceMethod yX10_take ∈ Gw := inGw (in_t5 (List.mem_of_getElem? (i := 11) (by decide +kernel))) (by decide +kernel)
theorem gw644 : Cond.selects RX10 yX10_take yX10_take ∈ Gw := inGw (in_sel (q := (yX10_take, 5)) (by decide +kernel)) (by decide +kernel)
theorem cv_RX11_281 : CV RX11 RX10 281 yX10_take cX10_take 6 (some .boolean) 3 := ⟨Or.inr ⟨_, gw641⟩, gw643, gw644, gw438, gw642, rfl, by decide +kernel, by decide⟩
theorem gw645 : Cond.methodLinkNest RX11 285 yX10_answer "SharedWindow" ∈ NW := inNW (in_t5 (List.mem_of_getElem? (i := 17) (by decide +kernel))) (by decide +kernel)
theorem gw646 : Cond.code yX10_answer cX10_answer 5 (some .int) ∈ Gw := inGw (in_t5 (List.mem_of_getElem? (i := 20) (by rfl))) (by decide +kernel)
theorem gw647 : Cond.instanceMethod yX10_answer ∈ Gw := inGw (in_t5 (List.mem_of_getElem? (i := 19) (by decide +kernel))) (by decide +kernel)
theorem gw648 : Cond.selects RX10 yX10_answer yX10_answer ∈ Gw := inGw (in_sel (q := (yX10_answer, 5)) (by decide +kernel)) (by decide +kernel)
theorem cv_RX11_285 : CV RX11 RX10 285 yX10_answer cX10_answer 5 (some .int) 2 := ⟨Or.inr ⟨_, gw645⟩, gw647, gw648, gw438, gw646, rfl, by decide +kernel, by decide⟩
theorem gw649 : Cond.fieldLink RX11 61 RX11 (TX11 6).2.1 (TX11 6).2.2.1 ∈ Gw := inGw (in_t2 (List.mem_of_getElem? (i := 40) (by decide +kernel))) (by decide +kernel)
theorem lf_RX11_61 : LF RX11 61 RX11 TX11 15 6 true := ⟨by decide, rfl, rfl, Or.inl gw649⟩
theorem fR_0_6 : FR 0 55 0 11 6 15 := by decide
theorem gw650 : Cond.methodLinkNest RX11 288 yX1_possibleCracks "SharedWindow" ∈ NW := inNW (in_t5 (List.mem_of_getElem? (i := 40) (by decide +kernel))) (by decide +kernel)
theorem gw651 : Cond.code yX1_possibleCracks cX1_possibleCracks 7 (some .int) ∈ Gw := inGw (in_t5 (List.mem_of_getElem? (i := 43) (by rfl))) (by decide +kernel)
theorem gw652 : Cond.instanceMethod yX1_possibleCracks ∈ Gw := inGw (in_t5 (List.mem_of_getElem? (i := 42) (by decide +kernel))) (by decide +kernel)
theorem gw653 : Cond.selects RX1 yX1_possibleCracks yX1_possibleCracks ∈ Gw := inGw (in_sel (q := (yX1_possibleCracks, 4)) (by decide +kernel)) (by decide +kernel)
theorem cv_RX11_288 : CV RX11 RX1 288 yX1_possibleCracks cX1_possibleCracks 7 (some .int) 1 := ⟨Or.inr ⟨_, gw650⟩, gw652, gw653, gw457, gw651, rfl, by decide +kernel, by decide⟩
theorem gw654 : Cond.methodLinkNest RX11 291 yX4_holdersOf "SharedWindow" ∈ NW := inNW (in_t5 (List.mem_of_getElem? (i := 46) (by decide +kernel))) (by decide +kernel)
theorem gw655 : Cond.code yX4_holdersOf cX4_holdersOf 4 (some .int) ∈ Gw := inGw (in_t5 (List.mem_of_getElem? (i := 49) (by rfl))) (by decide +kernel)
theorem gw656 : Cond.instanceMethod yX4_holdersOf ∈ Gw := inGw (in_t5 (List.mem_of_getElem? (i := 48) (by decide +kernel))) (by decide +kernel)
theorem gw657 : Cond.selects RX4 yX4_holdersOf yX4_holdersOf ∈ Gw := inGw (in_sel (q := (yX4_holdersOf, 1)) (by decide +kernel)) (by decide +kernel)
theorem cv_RX11_291 : CV RX11 RX4 291 yX4_holdersOf cX4_holdersOf 4 (some .int) 1 := ⟨Or.inr ⟨_, gw654⟩, gw656, gw657, gw205, gw655, rfl, by decide +kernel, by decide⟩
theorem gw658 : Cond.methodLinkNest RX11 294 yX1_firstShare "SharedWindow" ∈ NW := inNW (in_t5 (List.mem_of_getElem? (i := 54) (by decide +kernel))) (by decide +kernel)
theorem gw659 : Cond.code yX1_firstShare cX1_firstShare 7 (some .int) ∈ Gw := inGw (in_t5 (List.mem_of_getElem? (i := 57) (by rfl))) (by decide +kernel)
theorem gw660 : Cond.instanceMethod yX1_firstShare ∈ Gw := inGw (in_t5 (List.mem_of_getElem? (i := 56) (by decide +kernel))) (by decide +kernel)
theorem gw661 : Cond.selects RX1 yX1_firstShare yX1_firstShare ∈ Gw := inGw (in_sel (q := (yX1_firstShare, 4)) (by decide +kernel)) (by decide +kernel)
theorem cv_RX11_294 : CV RX11 RX1 294 yX1_firstShare cX1_firstShare 7 (some .int) 1 := ⟨Or.inr ⟨_, gw658⟩, gw660, gw661, gw457, gw659, rfl, by decide +kernel, by decide⟩
theorem gw662 : Cond.methodLinkNest RX11 300 yX1_mostSwapsAtOnce "SharedWindow" ∈ NW := inNW (in_t5 (List.mem_of_getElem? (i := 75) (by decide +kernel))) (by decide +kernel)
theorem gw663 : Cond.code yX1_mostSwapsAtOnce cX1_mostSwapsAtOnce 7 (some .int) ∈ Gw := inGw (in_t5 (List.mem_of_getElem? (i := 78) (by rfl))) (by decide +kernel)
theorem gw664 : Cond.instanceMethod yX1_mostSwapsAtOnce ∈ Gw := inGw (in_t5 (List.mem_of_getElem? (i := 77) (by decide +kernel))) (by decide +kernel)
theorem gw665 : Cond.selects RX1 yX1_mostSwapsAtOnce yX1_mostSwapsAtOnce ∈ Gw := inGw (in_sel (q := (yX1_mostSwapsAtOnce, 4)) (by decide +kernel)) (by decide +kernel)
theorem cv_RX11_300 : CV RX11 RX1 300 yX1_mostSwapsAtOnce cX1_mostSwapsAtOnce 7 (some .int) 1 := ⟨Or.inr ⟨_, gw662⟩, gw664, gw665, gw457, gw663, rfl, by decide +kernel, by decide⟩
theorem gw666 : Cond.methodLinkNest RX11 297 yX1_willingTwos "SharedWindow" ∈ NW := inNW (in_t5 (List.mem_of_getElem? (i := 63) (by decide +kernel))) (by decide +kernel)
theorem gw667 : Cond.code yX1_willingTwos cX1_willingTwos 5 (some .int) ∈ Gw := inGw (in_t5 (List.mem_of_getElem? (i := 66) (by rfl))) (by decide +kernel)
theorem gw668 : Cond.instanceMethod yX1_willingTwos ∈ Gw := inGw (in_t5 (List.mem_of_getElem? (i := 65) (by decide +kernel))) (by decide +kernel)
theorem gw669 : Cond.selects RX1 yX1_willingTwos yX1_willingTwos ∈ Gw := inGw (in_sel (q := (yX1_willingTwos, 4)) (by decide +kernel)) (by decide +kernel)
theorem cv_RX11_297 : CV RX11 RX1 297 yX1_willingTwos cX1_willingTwos 5 (some .int) 1 := ⟨Or.inr ⟨_, gw666⟩, gw668, gw669, gw457, gw667, rfl, by decide +kernel, by decide⟩
theorem gw670 : Cond.methodLinkNest RX11 303 yX1_sell "SharedWindow" ∈ NW := inNW (in_t5 (List.mem_of_getElem? (i := 87) (by decide +kernel))) (by decide +kernel)
theorem gw671 : Cond.code yX1_sell cX1_sell 6 (some .int) ∈ Gw := inGw (in_t5 (List.mem_of_getElem? (i := 90) (by rfl))) (by decide +kernel)
theorem gw672 : Cond.instanceMethod yX1_sell ∈ Gw := inGw (in_t5 (List.mem_of_getElem? (i := 89) (by decide +kernel))) (by decide +kernel)
theorem gw673 : Cond.selects RX1 yX1_sell yX1_sell ∈ Gw := inGw (in_sel (q := (yX1_sell, 4)) (by decide +kernel)) (by decide +kernel)
theorem cv_RX11_303 : CV RX11 RX1 303 yX1_sell cX1_sell 6 (some .int) 1 := ⟨Or.inr ⟨_, gw670⟩, gw672, gw673, gw457, gw671, rfl, by decide +kernel, by decide⟩
theorem gw674 : Cond.methodLinkNest RX11 306 yX1_buyerOf "SharedWindow" ∈ NW := inNW (in_t5 (List.mem_of_getElem? (i := 93) (by decide +kernel))) (by decide +kernel)
theorem gw675 : Cond.code yX1_buyerOf cX1_buyerOf 6 (some .int) ∈ Gw := inGw (in_t5 (List.mem_of_getElem? (i := 96) (by rfl))) (by decide +kernel)
theorem gw676 : Cond.instanceMethod yX1_buyerOf ∈ Gw := inGw (in_t5 (List.mem_of_getElem? (i := 95) (by decide +kernel))) (by decide +kernel)
theorem gw677 : Cond.selects RX1 yX1_buyerOf yX1_buyerOf ∈ Gw := inGw (in_sel (q := (yX1_buyerOf, 4)) (by decide +kernel)) (by decide +kernel)
theorem cv_RX11_306 : CV RX11 RX1 306 yX1_buyerOf cX1_buyerOf 6 (some .int) 2 := ⟨Or.inr ⟨_, gw674⟩, gw676, gw677, gw457, gw675, rfl, by decide +kernel, by decide⟩
theorem gw678 : Cond.methodLinkNest RX11 309 yX1_rotasOf "SharedWindow" ∈ NW := inNW (in_t5 (List.mem_of_getElem? (i := 105) (by decide +kernel))) (by decide +kernel)
theorem gw679 : Cond.code yX1_rotasOf cX1_rotasOf 4 (some .long) ∈ Gw := inGw (in_t5 (List.mem_of_getElem? (i := 108) (by rfl))) (by decide +kernel)
theorem gw680 : Cond.instanceMethod yX1_rotasOf ∈ Gw := inGw (in_t5 (List.mem_of_getElem? (i := 107) (by decide +kernel))) (by decide +kernel)
theorem gw681 : Cond.selects RX1 yX1_rotasOf yX1_rotasOf ∈ Gw := inGw (in_sel (q := (yX1_rotasOf, 4)) (by decide +kernel)) (by decide +kernel)
theorem cv_RX11_309 : CV RX11 RX1 309 yX1_rotasOf cX1_rotasOf 4 (some .long) 1 := ⟨Or.inr ⟨_, gw678⟩, gw680, gw681, gw457, gw679, rfl, by decide +kernel, by decide⟩
theorem gw682 : Cond.methodLinkNest RX11 313 yX1_greatestPane "SharedWindow" ∈ NW := inNW (in_t5 (List.mem_of_getElem? (i := 114) (by decide +kernel))) (by decide +kernel)
theorem gw683 : Cond.code yX1_greatestPane cX1_greatestPane 7 (some .int) ∈ Gw := inGw (in_t5 (List.mem_of_getElem? (i := 117) (by rfl))) (by decide +kernel)
theorem gw684 : Cond.instanceMethod yX1_greatestPane ∈ Gw := inGw (in_t5 (List.mem_of_getElem? (i := 116) (by decide +kernel))) (by decide +kernel)
theorem gw685 : Cond.selects RX1 yX1_greatestPane yX1_greatestPane ∈ Gw := inGw (in_sel (q := (yX1_greatestPane, 4)) (by decide +kernel)) (by decide +kernel)
theorem cv_RX11_313 : CV RX11 RX1 313 yX1_greatestPane cX1_greatestPane 7 (some .int) 2 := ⟨Or.inr ⟨_, gw682⟩, gw684, gw685, gw457, gw683, rfl, by decide +kernel, by decide⟩
theorem gw686 : Cond.methodLinkNest RX11 319 yX1_hadByLettingGo "SharedWindow" ∈ NW := inNW (in_t5 (List.mem_of_getElem? (i := 133) (by decide +kernel))) (by decide +kernel)
theorem cv_RX11_319 : CV RX11 RX1 319 yX1_hadByLettingGo cX1_hadByLettingGo 6 (some .int) 2 := ⟨Or.inr ⟨_, gw686⟩, gw482, gw483, gw457, gw481, rfl, by decide +kernel, by decide⟩
theorem gw687 : Cond.methodLinkNest RX11 316 yX1_bestToLetGo "SharedWindow" ∈ NW := inNW (in_t5 (List.mem_of_getElem? (i := 125) (by decide +kernel))) (by decide +kernel)
theorem gw688 : Cond.code yX1_bestToLetGo cX1_bestToLetGo 4 (some .int) ∈ Gw := inGw (in_t5 (List.mem_of_getElem? (i := 128) (by rfl))) (by decide +kernel)
theorem gw689 : Cond.instanceMethod yX1_bestToLetGo ∈ Gw := inGw (in_t5 (List.mem_of_getElem? (i := 127) (by decide +kernel))) (by decide +kernel)
theorem gw690 : Cond.selects RX1 yX1_bestToLetGo yX1_bestToLetGo ∈ Gw := inGw (in_sel (q := (yX1_bestToLetGo, 4)) (by decide +kernel)) (by decide +kernel)
theorem cv_RX11_316 : CV RX11 RX1 316 yX1_bestToLetGo cX1_bestToLetGo 4 (some .int) 1 := ⟨Or.inr ⟨_, gw687⟩, gw689, gw690, gw457, gw688, rfl, by decide +kernel, by decide⟩
theorem gw691 : Cond.methodLink RX12 130 yX12_has ∈ Gw := inGw (in_t6 (List.mem_of_getElem? (i := 99) (by decide +kernel))) (by decide +kernel)
theorem gw692 : Cond.initialized RX12 ∈ Gw := inGw (in_t1 (List.mem_of_getElem? (i := 13) (by decide +kernel))) (by decide +kernel)
theorem gw693 : Cond.code yX12_has cX12_has 2 (some .boolean) ∈ Gw := inGw (in_t6 (List.mem_of_getElem? (i := 101) (by rfl))) (by decide +kernel)
theorem gw694 : Cond.static yX12_has ∈ Gw := inGw (in_t6 (List.mem_of_getElem? (i := 100) (by decide +kernel))) (by decide +kernel)
theorem cs_RX12_130 : CS RX12 RX12 130 yX12_has cX12_has 2 (some .boolean) 2 := ⟨Or.inl gw691, gw694, gw692, gw693, rfl, by decide +kernel, by decide⟩
theorem kB_21 : (Int8.ofInt (21)).toInt32 = (21 : Int32) := by decide
theorem gw695 : Cond.fieldLink RX12 138 RX12 (TX12 8).2.1 (TX12 8).2.2.1 ∈ Gw := inGw (in_t5 (List.mem_of_getElem? (i := 149) (by decide +kernel))) (by decide +kernel)
theorem lf_RX12_138 : LF RX12 138 RX12 TX12 61 8 false := ⟨by decide, rfl, rfl, Or.inl gw695⟩
theorem fI_55_8 : FI 55 40 55 12 8 := by decide
theorem gw696 : Cond.methodLink RX12 134 yX12_in ∈ Gw := inGw (in_t6 (List.mem_of_getElem? (i := 92) (by decide +kernel))) (by decide +kernel)
theorem gw697 : Cond.code yX12_in cX12_in 3 (some .boolean) ∈ Gw := inGw (in_t6 (List.mem_of_getElem? (i := 94) (by rfl))) (by decide +kernel)
theorem gw698 : Cond.static yX12_in ∈ Gw := inGw (in_t6 (List.mem_of_getElem? (i := 93) (by decide +kernel))) (by decide +kernel)
theorem cs_RX12_134 : CS RX12 RX12 134 yX12_in cX12_in 3 (some .boolean) 3 := ⟨Or.inl gw696, gw698, gw692, gw697, rfl, by decide +kernel, by decide⟩
theorem ci12 : CI 12 RX12 TX12 61 tyX12 := ⟨rfl, fun w h => inGw ((show ∀ w ∈ u_ws RX12 TX12 61, w ∈ lw_tbl from by decide +kernel) w h) ((show ∀ w ∈ u_ws RX12 TX12 61, goodWord w = true from by decide +kernel) w h), tyX12_ok, nmX12⟩
theorem gw699 : Cond.fieldLink RX12 142 RX12 (TX12 9).2.1 (TX12 9).2.2.1 ∈ Gw := inGw (in_t5 (List.mem_of_getElem? (i := 150) (by decide +kernel))) (by decide +kernel)
theorem lf_RX12_142 : LF RX12 142 RX12 TX12 61 9 false := ⟨by decide, rfl, rfl, Or.inl gw699⟩
theorem fI_55_9 : FI 55 40 55 12 9 := by decide
theorem gw700 : Cond.fieldLink RX12 25 RX12 (TX12 5).2.1 (TX12 5).2.2.1 ∈ Gw := inGw (in_t5 (List.mem_of_getElem? (i := 146) (by decide +kernel))) (by decide +kernel)
theorem lf_RX12_25 : LF RX12 25 RX12 TX12 61 5 true := ⟨by decide, rfl, rfl, Or.inl gw700⟩
theorem fR_55_5 : FR 55 40 55 12 5 61 := by decide
theorem gw701 : Cond.fieldLink RX12 22 RX12 (TX12 4).2.1 (TX12 4).2.2.1 ∈ Gw := inGw (in_t5 (List.mem_of_getElem? (i := 145) (by decide +kernel))) (by decide +kernel)
theorem lf_RX12_22 : LF RX12 22 RX12 TX12 61 4 true := ⟨by decide, rfl, rfl, Or.inl gw701⟩
theorem fR_55_4 : FR 55 40 55 12 4 60 := by decide
theorem gw702 : Cond.fieldLink RX12 28 RX12 (TX12 6).2.1 (TX12 6).2.2.1 ∈ Gw := inGw (in_t5 (List.mem_of_getElem? (i := 147) (by decide +kernel))) (by decide +kernel)
theorem lf_RX12_28 : LF RX12 28 RX12 TX12 61 6 true := ⟨by decide, rfl, rfl, Or.inl gw702⟩
theorem fR_55_6 : FR 55 40 55 12 6 62 := by decide
theorem gw703 : Cond.fieldLink RX12 31 RX12 (TX12 7).2.1 (TX12 7).2.2.1 ∈ Gw := inGw (in_t5 (List.mem_of_getElem? (i := 148) (by decide +kernel))) (by decide +kernel)
theorem lf_RX12_31 : LF RX12 31 RX12 TX12 61 7 true := ⟨by decide, rfl, rfl, Or.inl gw703⟩
theorem fR_55_7 : FR 55 40 55 12 7 63 := by decide
theorem aF_62 : AI 55 40 62 16 := by decide
theorem aF_63 : AI 55 40 63 16 := by decide
theorem aF_61 : AI 55 40 61 16 := by decide
theorem aF_60 : AI 55 40 60 16 := by decide
theorem gw704 : Cond.methodLink RX12 145 yX12_isThing ∈ Gw := inGw (in_t6 (List.mem_of_getElem? (i := 110) (by decide +kernel))) (by decide +kernel)
theorem gw705 : Cond.code yX12_isThing cX12_isThing 2 (some .boolean) ∈ Gw := inGw (in_t6 (List.mem_of_getElem? (i := 113) (by rfl))) (by decide +kernel)
theorem gw706 : Cond.instanceMethod yX12_isThing ∈ Gw := inGw (in_t6 (List.mem_of_getElem? (i := 112) (by decide +kernel))) (by decide +kernel)
theorem gw707 : Cond.selects RX12 yX12_isThing yX12_isThing ∈ Gw := inGw (in_sel (q := (yX12_isThing, 61)) (by decide +kernel)) (by decide +kernel)
theorem cv_RX12_145 : CV RX12 RX12 145 yX12_isThing cX12_isThing 2 (some .boolean) 1 := ⟨Or.inl gw704, gw706, gw707, gw692, gw705, rfl, by decide +kernel, by decide⟩
theorem oB_55 : OB 55 40 55 12 := by decide
theorem gw708 : Cond.methodLink RX12 149 yX12_isSeen ∈ Gw := inGw (in_t6 (List.mem_of_getElem? (i := 114) (by decide +kernel))) (by decide +kernel)
theorem gw709 : Cond.code yX12_isSeen cX12_isSeen 7 (some .boolean) ∈ Gw := inGw (in_t6 (List.mem_of_getElem? (i := 117) (by rfl))) (by decide +kernel)
theorem gw710 : Cond.instanceMethod yX12_isSeen ∈ Gw := inGw (in_t6 (List.mem_of_getElem? (i := 116) (by decide +kernel))) (by decide +kernel)
theorem gw711 : Cond.selects RX12 yX12_isSeen yX12_isSeen ∈ Gw := inGw (in_sel (q := (yX12_isSeen, 61)) (by decide +kernel)) (by decide +kernel)
theorem cv_RX12_149 : CV RX12 RX12 149 yX12_isSeen cX12_isSeen 7 (some .boolean) 3 := ⟨Or.inl gw708, gw710, gw711, gw692, gw709, rfl, by decide +kernel, by decide⟩
theorem gw712 : Cond.methodLink RX12 152 yX12_seenBy ∈ Gw := inGw (in_t6 (List.mem_of_getElem? (i := 106) (by decide +kernel))) (by decide +kernel)
theorem gw713 : Cond.code yX12_seenBy cX12_seenBy 5 (some .int) ∈ Gw := inGw (in_t6 (List.mem_of_getElem? (i := 109) (by rfl))) (by decide +kernel)
theorem gw714 : Cond.instanceMethod yX12_seenBy ∈ Gw := inGw (in_t6 (List.mem_of_getElem? (i := 108) (by decide +kernel))) (by decide +kernel)
theorem gw715 : Cond.selects RX12 yX12_seenBy yX12_seenBy ∈ Gw := inGw (in_sel (q := (yX12_seenBy, 61)) (by decide +kernel)) (by decide +kernel)
theorem cv_RX12_152 : CV RX12 RX12 152 yX12_seenBy cX12_seenBy 5 (some .int) 2 := ⟨Or.inl gw712, gw714, gw715, gw692, gw713, rfl, by decide +kernel, by decide⟩
theorem gw716 : Cond.fieldLink RX12 19 RX12 (TX12 3).2.1 (TX12 3).2.2.1 ∈ Gw := inGw (in_t5 (List.mem_of_getElem? (i := 144) (by decide +kernel))) (by decide +kernel)
theorem lf_RX12_19 : LF RX12 19 RX12 TX12 61 3 true := ⟨by decide, rfl, rfl, Or.inl gw716⟩
theorem fR_55_3 : FR 55 40 55 12 3 59 := by decide
theorem aF_59 : AI 55 40 59 12 := by decide
theorem gw717 : Cond.methodLink RX12 156 yX12_isTurn ∈ Gw := inGw (in_t6 (List.mem_of_getElem? (i := 89) (by decide +kernel))) (by decide +kernel)
theorem gw718 : Cond.code yX12_isTurn cX12_isTurn 1 (some .boolean) ∈ Gw := inGw (in_t6 (List.mem_of_getElem? (i := 91) (by rfl))) (by decide +kernel)
theorem gw719 : Cond.static yX12_isTurn ∈ Gw := inGw (in_t6 (List.mem_of_getElem? (i := 90) (by decide +kernel))) (by decide +kernel)
theorem cs_RX12_156 : CS RX12 RX12 156 yX12_isTurn cX12_isTurn 1 (some .boolean) 1 := ⟨Or.inl gw717, gw719, gw692, gw718, rfl, by decide +kernel, by decide⟩
theorem gw720 : Cond.methodLink RX12 159 yX12_isHouse ∈ Gw := inGw (in_t6 (List.mem_of_getElem? (i := 95) (by decide +kernel))) (by decide +kernel)
theorem gw721 : Cond.code yX12_isHouse cX12_isHouse 2 (some .boolean) ∈ Gw := inGw (in_t6 (List.mem_of_getElem? (i := 98) (by rfl))) (by decide +kernel)
theorem gw722 : Cond.instanceMethod yX12_isHouse ∈ Gw := inGw (in_t6 (List.mem_of_getElem? (i := 97) (by decide +kernel))) (by decide +kernel)
theorem gw723 : Cond.selects RX12 yX12_isHouse yX12_isHouse ∈ Gw := inGw (in_sel (q := (yX12_isHouse, 61)) (by decide +kernel)) (by decide +kernel)
theorem cv_RX12_159 : CV RX12 RX12 159 yX12_isHouse cX12_isHouse 2 (some .boolean) 1 := ⟨Or.inl gw720, gw722, gw723, gw692, gw721, rfl, by decide +kernel, by decide⟩
theorem gw724 : Cond.fieldLink RX12 34 RX12 (TX12 10).2.1 (TX12 10).2.2.1 ∈ Gw := inGw (in_t5 (List.mem_of_getElem? (i := 151) (by decide +kernel))) (by decide +kernel)
theorem lf_RX12_34 : LF RX12 34 RX12 TX12 61 10 true := ⟨by decide, rfl, rfl, Or.inl gw724⟩
theorem fR_55_10 : FR 55 40 55 12 10 64 := by decide
theorem gw725 : Cond.fieldLink RX12 162 RX12 (TX12 11).2.1 (TX12 11).2.2.1 ∈ Gw := inGw (in_t5 (List.mem_of_getElem? (i := 152) (by decide +kernel))) (by decide +kernel)
theorem lf_RX12_162 : LF RX12 162 RX12 TX12 61 11 false := ⟨by decide, rfl, rfl, Or.inl gw725⟩
theorem fI_55_11 : FI 55 40 55 12 11 := by decide
theorem aF_64 : AB 55 40 64 260 := by decide
theorem gw726 : Cond.methodLink RX12 165 yX12_types ∈ Gw := inGw (in_t6 (List.mem_of_getElem? (i := 122) (by decide +kernel))) (by decide +kernel)
theorem gw727 : Cond.code yX12_types cX12_types 3 none ∈ Gw := inGw (in_t6 (List.mem_of_getElem? (i := 125) (by rfl))) (by decide +kernel)
theorem gw728 : Cond.instanceMethod yX12_types ∈ Gw := inGw (in_t6 (List.mem_of_getElem? (i := 124) (by decide +kernel))) (by decide +kernel)
theorem gw729 : Cond.selects RX12 yX12_types yX12_types ∈ Gw := inGw (in_sel (q := (yX12_types, 61)) (by decide +kernel)) (by decide +kernel)
theorem cv_RX12_165 : CV RX12 RX12 165 yX12_types cX12_types 3 none 1 := ⟨Or.inl gw726, gw728, gw729, gw692, gw727, rfl, by decide +kernel, by decide⟩
theorem gw730 : Cond.fieldLink RX12 169 RX12 (TX12 12).2.1 (TX12 12).2.2.1 ∈ Gw := inGw (in_t5 (List.mem_of_getElem? (i := 153) (by decide +kernel))) (by decide +kernel)
theorem lf_RX12_169 : LF RX12 169 RX12 TX12 61 12 false := ⟨by decide, rfl, rfl, Or.inl gw730⟩
theorem fI_55_12 : FI 55 40 55 12 12 := by decide
theorem gw731 : Cond.fieldLink RX12 172 RX12 (TX12 13).2.1 (TX12 13).2.2.1 ∈ Gw := inGw (in_t5 (List.mem_of_getElem? (i := 154) (by decide +kernel))) (by decide +kernel)
theorem lf_RX12_172 : LF RX12 172 RX12 TX12 61 13 false := ⟨by decide, rfl, rfl, Or.inl gw731⟩
theorem fI_55_13 : FI 55 40 55 12 13 := by decide
theorem gw732 : Cond.methodLink RX12 175 yX12_here ∈ Gw := inGw (in_t6 (List.mem_of_getElem? (i := 138) (by decide +kernel))) (by decide +kernel)
theorem gw733 : Cond.code yX12_here cX12_here 1 (some .int) ∈ Gw := inGw (in_t6 (List.mem_of_getElem? (i := 141) (by rfl))) (by decide +kernel)
theorem gw734 : Cond.instanceMethod yX12_here ∈ Gw := inGw (in_t6 (List.mem_of_getElem? (i := 140) (by decide +kernel))) (by decide +kernel)
theorem gw735 : Cond.selects RX12 yX12_here yX12_here ∈ Gw := inGw (in_sel (q := (yX12_here, 61)) (by decide +kernel)) (by decide +kernel)
theorem cv_RX12_175 : CV RX12 RX12 175 yX12_here cX12_here 1 (some .int) 0 := ⟨Or.inl gw732, gw734, gw735, gw692, gw733, rfl, by decide +kernel, by decide⟩
theorem gw736 : Cond.fieldLink RX12 179 RX12 (TX12 14).2.1 (TX12 14).2.2.1 ∈ Gw := inGw (in_t5 (List.mem_of_getElem? (i := 155) (by decide +kernel))) (by decide +kernel)
theorem lf_RX12_179 : LF RX12 179 RX12 TX12 61 14 false := ⟨by decide, rfl, rfl, Or.inl gw736⟩
theorem fI_55_14 : FI 55 40 55 12 14 := by decide
theorem gw737 : Cond.methodLink RX12 182 yX12_wrongAt ∈ Gw := inGw (in_t6 (List.mem_of_getElem? (i := 142) (by decide +kernel))) (by decide +kernel)
theorem gw738 : Cond.code yX12_wrongAt cX12_wrongAt 3 (some .boolean) ∈ Gw := inGw (in_t6 (List.mem_of_getElem? (i := 145) (by rfl))) (by decide +kernel)
theorem gw739 : Cond.instanceMethod yX12_wrongAt ∈ Gw := inGw (in_t6 (List.mem_of_getElem? (i := 144) (by decide +kernel))) (by decide +kernel)
theorem gw740 : Cond.selects RX12 yX12_wrongAt yX12_wrongAt ∈ Gw := inGw (in_sel (q := (yX12_wrongAt, 61)) (by decide +kernel)) (by decide +kernel)
theorem cv_RX12_182 : CV RX12 RX12 182 yX12_wrongAt cX12_wrongAt 3 (some .boolean) 2 := ⟨Or.inl gw737, gw739, gw740, gw692, gw738, rfl, by decide +kernel, by decide⟩
theorem gw741 : Cond.fieldLink RX12 185 RX12 (TX12 15).2.1 (TX12 15).2.2.1 ∈ Gw := inGw (in_t5 (List.mem_of_getElem? (i := 156) (by decide +kernel))) (by decide +kernel)
theorem lf_RX12_185 : LF RX12 185 RX12 TX12 61 15 false := ⟨by decide, rfl, rfl, Or.inl gw741⟩
theorem fI_55_15 : FI 55 40 55 12 15 := by decide
theorem gw742 : Cond.methodLink RX12 188 yX12_isDigit ∈ Gw := inGw (in_t6 (List.mem_of_getElem? (i := 159) (by decide +kernel))) (by decide +kernel)
theorem gw743 : Cond.code yX12_isDigit cX12_isDigit 1 (some .boolean) ∈ Gw := inGw (in_t6 (List.mem_of_getElem? (i := 162) (by rfl))) (by decide +kernel)
theorem gw744 : Cond.instanceMethod yX12_isDigit ∈ Gw := inGw (in_t6 (List.mem_of_getElem? (i := 161) (by decide +kernel))) (by decide +kernel)
theorem gw745 : Cond.selects RX12 yX12_isDigit yX12_isDigit ∈ Gw := inGw (in_sel (q := (yX12_isDigit, 61)) (by decide +kernel)) (by decide +kernel)
theorem cv_RX12_188 : CV RX12 RX12 188 yX12_isDigit cX12_isDigit 1 (some .boolean) 0 := ⟨Or.inl gw742, gw744, gw745, gw692, gw743, rfl, by decide +kernel, by decide⟩
theorem gw746 : Cond.fieldLink RX12 38 RX12 (TX12 21).2.1 (TX12 21).2.2.1 ∈ Gw := inGw (in_t5 (List.mem_of_getElem? (i := 162) (by decide +kernel))) (by decide +kernel)
theorem lf_RX12_38 : LF RX12 38 RX12 TX12 61 21 true := ⟨by decide, rfl, rfl, Or.inl gw746⟩
theorem fR_55_21 : FR 55 40 55 12 21 65 := by decide
theorem gw747 : Cond.fieldLink RX12 192 RX12 (TX12 17).2.1 (TX12 17).2.2.1 ∈ Gw := inGw (in_t5 (List.mem_of_getElem? (i := 158) (by decide +kernel))) (by decide +kernel)
theorem lf_RX12_192 : LF RX12 192 RX12 TX12 61 17 false := ⟨by decide, rfl, rfl, Or.inl gw747⟩
theorem fI_55_17 : FI 55 40 55 12 17 := by decide
theorem gw748 : Cond.constant RX12 195 (1048576 : Int32) ∈ Gw := inGw (in_t6 (List.mem_of_getElem? (i := 158) (by decide +kernel))) (by decide +kernel)
theorem aF_65 : AI 55 40 65 260 := by decide
theorem gw749 : Cond.fieldLink RX12 196 RX12 (TX12 16).2.1 (TX12 16).2.2.1 ∈ Gw := inGw (in_t5 (List.mem_of_getElem? (i := 157) (by decide +kernel))) (by decide +kernel)
theorem lf_RX12_196 : LF RX12 196 RX12 TX12 61 16 false := ⟨by decide, rfl, rfl, Or.inl gw749⟩
theorem fI_55_16 : FI 55 40 55 12 16 := by decide
theorem gw750 : Cond.fieldLink RX12 41 RX12 (TX12 22).2.1 (TX12 22).2.2.1 ∈ Gw := inGw (in_t5 (List.mem_of_getElem? (i := 163) (by decide +kernel))) (by decide +kernel)
theorem lf_RX12_41 : LF RX12 41 RX12 TX12 61 22 true := ⟨by decide, rfl, rfl, Or.inl gw750⟩
theorem fR_55_22 : FR 55 40 55 12 22 66 := by decide
theorem gw751 : Cond.fieldLink RX12 199 RX12 (TX12 18).2.1 (TX12 18).2.2.1 ∈ Gw := inGw (in_t5 (List.mem_of_getElem? (i := 159) (by decide +kernel))) (by decide +kernel)
theorem lf_RX12_199 : LF RX12 199 RX12 TX12 61 18 false := ⟨by decide, rfl, rfl, Or.inl gw751⟩
theorem fI_55_18 : FI 55 40 55 12 18 := by decide
theorem aF_66 : AI 55 40 66 260 := by decide
theorem gw752 : Cond.methodLink RX12 202 yX12_waitTop ∈ Gw := inGw (in_t6 (List.mem_of_getElem? (i := 181) (by decide +kernel))) (by decide +kernel)
theorem gw753 : Cond.code yX12_waitTop cX12_waitTop 1 (some .int) ∈ Gw := inGw (in_t6 (List.mem_of_getElem? (i := 184) (by rfl))) (by decide +kernel)
theorem gw754 : Cond.instanceMethod yX12_waitTop ∈ Gw := inGw (in_t6 (List.mem_of_getElem? (i := 183) (by decide +kernel))) (by decide +kernel)
theorem gw755 : Cond.selects RX12 yX12_waitTop yX12_waitTop ∈ Gw := inGw (in_sel (q := (yX12_waitTop, 61)) (by decide +kernel)) (by decide +kernel)
theorem cv_RX12_202 : CV RX12 RX12 202 yX12_waitTop cX12_waitTop 1 (some .int) 0 := ⟨Or.inl gw752, gw754, gw755, gw692, gw753, rfl, by decide +kernel, by decide⟩
theorem gw756 : Cond.methodLink RX12 205 yX12_notes ∈ Gw := inGw (in_t6 (List.mem_of_getElem? (i := 167) (by decide +kernel))) (by decide +kernel)
theorem gw757 : Cond.code yX12_notes cX12_notes 3 none ∈ Gw := inGw (in_t6 (List.mem_of_getElem? (i := 170) (by rfl))) (by decide +kernel)
theorem gw758 : Cond.instanceMethod yX12_notes ∈ Gw := inGw (in_t6 (List.mem_of_getElem? (i := 169) (by decide +kernel))) (by decide +kernel)
theorem gw759 : Cond.selects RX12 yX12_notes yX12_notes ∈ Gw := inGw (in_sel (q := (yX12_notes, 61)) (by decide +kernel)) (by decide +kernel)
theorem cv_RX12_205 : CV RX12 RX12 205 yX12_notes cX12_notes 3 none 2 := ⟨Or.inl gw756, gw758, gw759, gw692, gw757, rfl, by decide +kernel, by decide⟩
theorem gw760 : Cond.methodLink RX12 215 yX12_factOf ∈ Gw := inGw (in_t6 (List.mem_of_getElem? (i := 171) (by decide +kernel))) (by decide +kernel)
theorem gw761 : Cond.code yX12_factOf cX12_factOf 1 (some .int) ∈ Gw := inGw (in_t6 (List.mem_of_getElem? (i := 173) (by rfl))) (by decide +kernel)
theorem gw762 : Cond.static yX12_factOf ∈ Gw := inGw (in_t6 (List.mem_of_getElem? (i := 172) (by decide +kernel))) (by decide +kernel)
theorem cs_RX12_215 : CS RX12 RX12 215 yX12_factOf cX12_factOf 1 (some .int) 1 := ⟨Or.inl gw760, gw762, gw692, gw761, rfl, by decide +kernel, by decide⟩
theorem gw763 : Cond.methodLink RX12 212 yX12_readsNumber ∈ Gw := inGw (in_t6 (List.mem_of_getElem? (i := 163) (by decide +kernel))) (by decide +kernel)
theorem gw764 : Cond.code yX12_readsNumber cX12_readsNumber 2 (some .boolean) ∈ Gw := inGw (in_t6 (List.mem_of_getElem? (i := 166) (by rfl))) (by decide +kernel)
theorem gw765 : Cond.instanceMethod yX12_readsNumber ∈ Gw := inGw (in_t6 (List.mem_of_getElem? (i := 165) (by decide +kernel))) (by decide +kernel)
theorem gw766 : Cond.selects RX12 yX12_readsNumber yX12_readsNumber ∈ Gw := inGw (in_sel (q := (yX12_readsNumber, 61)) (by decide +kernel)) (by decide +kernel)
theorem cv_RX12_212 : CV RX12 RX12 212 yX12_readsNumber cX12_readsNumber 2 (some .boolean) 0 := ⟨Or.inl gw763, gw765, gw766, gw692, gw764, rfl, by decide +kernel, by decide⟩
theorem kB_14 : (Int8.ofInt (14)).toInt32 = (14 : Int32) := by decide
theorem gw767 : Cond.methodLink RX12 209 yX12_opens ∈ Gw := inGw (in_t6 (List.mem_of_getElem? (i := 154) (by decide +kernel))) (by decide +kernel)
theorem gw768 : Cond.code yX12_opens cX12_opens 2 (some .boolean) ∈ Gw := inGw (in_t6 (List.mem_of_getElem? (i := 157) (by rfl))) (by decide +kernel)
theorem gw769 : Cond.instanceMethod yX12_opens ∈ Gw := inGw (in_t6 (List.mem_of_getElem? (i := 156) (by decide +kernel))) (by decide +kernel)
theorem gw770 : Cond.selects RX12 yX12_opens yX12_opens ∈ Gw := inGw (in_sel (q := (yX12_opens, 61)) (by decide +kernel)) (by decide +kernel)
theorem cv_RX12_209 : CV RX12 RX12 209 yX12_opens cX12_opens 2 (some .boolean) 1 := ⟨Or.inl gw767, gw769, gw770, gw692, gw768, rfl, by decide +kernel, by decide⟩
theorem gw771 : Cond.methodLink RX12 225 yX12_closesSums ∈ Gw := inGw (in_t6 (List.mem_of_getElem? (i := 177) (by decide +kernel))) (by decide +kernel)
theorem gw772 : Cond.code yX12_closesSums cX12_closesSums 2 none ∈ Gw := inGw (in_t6 (List.mem_of_getElem? (i := 180) (by rfl))) (by decide +kernel)
theorem gw773 : Cond.instanceMethod yX12_closesSums ∈ Gw := inGw (in_t6 (List.mem_of_getElem? (i := 179) (by decide +kernel))) (by decide +kernel)
theorem gw774 : Cond.selects RX12 yX12_closesSums yX12_closesSums ∈ Gw := inGw (in_sel (q := (yX12_closesSums, 61)) (by decide +kernel)) (by decide +kernel)
theorem cv_RX12_225 : CV RX12 RX12 225 yX12_closesSums cX12_closesSums 2 none 1 := ⟨Or.inl gw771, gw773, gw774, gw692, gw772, rfl, by decide +kernel, by decide⟩
theorem gw775 : Cond.methodLink RX12 219 yX12_readsFactor ∈ Gw := inGw (in_t6 (List.mem_of_getElem? (i := 150) (by decide +kernel))) (by decide +kernel)
theorem gw776 : Cond.code yX12_readsFactor cX12_readsFactor 2 (some .boolean) ∈ Gw := inGw (in_t6 (List.mem_of_getElem? (i := 153) (by rfl))) (by decide +kernel)
theorem gw777 : Cond.instanceMethod yX12_readsFactor ∈ Gw := inGw (in_t6 (List.mem_of_getElem? (i := 152) (by decide +kernel))) (by decide +kernel)
theorem gw778 : Cond.selects RX12 yX12_readsFactor yX12_readsFactor ∈ Gw := inGw (in_sel (q := (yX12_readsFactor, 61)) (by decide +kernel)) (by decide +kernel)
theorem cv_RX12_219 : CV RX12 RX12 219 yX12_readsFactor cX12_readsFactor 2 (some .boolean) 0 := ⟨Or.inl gw775, gw777, gw778, gw692, gw776, rfl, by decide +kernel, by decide⟩
theorem gw779 : Cond.methodLink RX12 229 yX12_hasOpenSum ∈ Gw := inGw (in_t6 (List.mem_of_getElem? (i := 185) (by decide +kernel))) (by decide +kernel)
theorem gw780 : Cond.code yX12_hasOpenSum cX12_hasOpenSum 3 (some .boolean) ∈ Gw := inGw (in_t6 (List.mem_of_getElem? (i := 188) (by rfl))) (by decide +kernel)
theorem gw781 : Cond.instanceMethod yX12_hasOpenSum ∈ Gw := inGw (in_t6 (List.mem_of_getElem? (i := 187) (by decide +kernel))) (by decide +kernel)
theorem gw782 : Cond.selects RX12 yX12_hasOpenSum yX12_hasOpenSum ∈ Gw := inGw (in_sel (q := (yX12_hasOpenSum, 61)) (by decide +kernel)) (by decide +kernel)
theorem cv_RX12_229 : CV RX12 RX12 229 yX12_hasOpenSum cX12_hasOpenSum 3 (some .boolean) 1 := ⟨Or.inl gw779, gw781, gw782, gw692, gw780, rfl, by decide +kernel, by decide⟩
theorem gw783 : Cond.methodLink RX12 222 yX12_sumSign ∈ Gw := inGw (in_t6 (List.mem_of_getElem? (i := 174) (by decide +kernel))) (by decide +kernel)
theorem gw784 : Cond.code yX12_sumSign cX12_sumSign 1 (some .int) ∈ Gw := inGw (in_t6 (List.mem_of_getElem? (i := 176) (by rfl))) (by decide +kernel)
theorem gw785 : Cond.static yX12_sumSign ∈ Gw := inGw (in_t6 (List.mem_of_getElem? (i := 175) (by decide +kernel))) (by decide +kernel)
theorem cs_RX12_222 : CS RX12 RX12 222 yX12_sumSign cX12_sumSign 1 (some .int) 1 := ⟨Or.inl gw783, gw785, gw692, gw784, rfl, by decide +kernel, by decide⟩
theorem gw786 : Cond.methodLink RX12 232 yX12_readsSum ∈ Gw := inGw (in_t6 (List.mem_of_getElem? (i := 146) (by decide +kernel))) (by decide +kernel)
theorem gw787 : Cond.code yX12_readsSum cX12_readsSum 3 (some .boolean) ∈ Gw := inGw (in_t6 (List.mem_of_getElem? (i := 149) (by rfl))) (by decide +kernel)
theorem gw788 : Cond.instanceMethod yX12_readsSum ∈ Gw := inGw (in_t6 (List.mem_of_getElem? (i := 148) (by decide +kernel))) (by decide +kernel)
theorem gw789 : Cond.selects RX12 yX12_readsSum yX12_readsSum ∈ Gw := inGw (in_sel (q := (yX12_readsSum, 61)) (by decide +kernel)) (by decide +kernel)
theorem cv_RX12_232 : CV RX12 RX12 232 yX12_readsSum cX12_readsSum 3 (some .boolean) 0 := ⟨Or.inl gw786, gw788, gw789, gw692, gw787, rfl, by decide +kernel, by decide⟩
theorem gw790 : Cond.methodLink RX12 235 yX12_endsPiece ∈ Gw := inGw (in_t6 (List.mem_of_getElem? (i := 197) (by decide +kernel))) (by decide +kernel)
theorem gw791 : Cond.code yX12_endsPiece cX12_endsPiece 1 none ∈ Gw := inGw (in_t6 (List.mem_of_getElem? (i := 200) (by rfl))) (by decide +kernel)
theorem gw792 : Cond.instanceMethod yX12_endsPiece ∈ Gw := inGw (in_t6 (List.mem_of_getElem? (i := 199) (by decide +kernel))) (by decide +kernel)
theorem gw793 : Cond.selects RX12 yX12_endsPiece yX12_endsPiece ∈ Gw := inGw (in_sel (q := (yX12_endsPiece, 61)) (by decide +kernel)) (by decide +kernel)
theorem cv_RX12_235 : CV RX12 RX12 235 yX12_endsPiece cX12_endsPiece 1 none 0 := ⟨Or.inl gw790, gw792, gw793, gw692, gw791, rfl, by decide +kernel, by decide⟩
theorem gw794 : Cond.methodLink RX12 244 yX12_jumps ∈ Gw := inGw (in_t6 (List.mem_of_getElem? (i := 205) (by decide +kernel))) (by decide +kernel)
theorem gw795 : Cond.code yX12_jumps cX12_jumps 2 none ∈ Gw := inGw (in_t6 (List.mem_of_getElem? (i := 208) (by rfl))) (by decide +kernel)
theorem gw796 : Cond.instanceMethod yX12_jumps ∈ Gw := inGw (in_t6 (List.mem_of_getElem? (i := 207) (by decide +kernel))) (by decide +kernel)
theorem gw797 : Cond.selects RX12 yX12_jumps yX12_jumps ∈ Gw := inGw (in_sel (q := (yX12_jumps, 61)) (by decide +kernel)) (by decide +kernel)
theorem cv_RX12_244 : CV RX12 RX12 244 yX12_jumps cX12_jumps 2 none 1 := ⟨Or.inl gw794, gw796, gw797, gw692, gw795, rfl, by decide +kernel, by decide⟩
theorem gw798 : Cond.methodLink RX12 241 yX12_lands ∈ Gw := inGw (in_t6 (List.mem_of_getElem? (i := 201) (by decide +kernel))) (by decide +kernel)
theorem gw799 : Cond.code yX12_lands cX12_lands 3 none ∈ Gw := inGw (in_t6 (List.mem_of_getElem? (i := 204) (by rfl))) (by decide +kernel)
theorem gw800 : Cond.instanceMethod yX12_lands ∈ Gw := inGw (in_t6 (List.mem_of_getElem? (i := 203) (by decide +kernel))) (by decide +kernel)
theorem gw801 : Cond.selects RX12 yX12_lands yX12_lands ∈ Gw := inGw (in_sel (q := (yX12_lands, 61)) (by decide +kernel)) (by decide +kernel)
theorem cv_RX12_241 : CV RX12 RX12 241 yX12_lands cX12_lands 3 none 1 := ⟨Or.inl gw798, gw800, gw801, gw692, gw799, rfl, by decide +kernel, by decide⟩
theorem gw802 : Cond.methodLink RX12 238 yX12_readsCompared ∈ Gw := inGw (in_t6 (List.mem_of_getElem? (i := 193) (by decide +kernel))) (by decide +kernel)
theorem gw803 : Cond.code yX12_readsCompared cX12_readsCompared 2 (some .boolean) ∈ Gw := inGw (in_t6 (List.mem_of_getElem? (i := 196) (by rfl))) (by decide +kernel)
theorem gw804 : Cond.instanceMethod yX12_readsCompared ∈ Gw := inGw (in_t6 (List.mem_of_getElem? (i := 195) (by decide +kernel))) (by decide +kernel)
theorem gw805 : Cond.selects RX12 yX12_readsCompared yX12_readsCompared ∈ Gw := inGw (in_sel (q := (yX12_readsCompared, 61)) (by decide +kernel)) (by decide +kernel)
theorem cv_RX12_238 : CV RX12 RX12 238 yX12_readsCompared cX12_readsCompared 2 (some .boolean) 0 := ⟨Or.inl gw802, gw804, gw805, gw692, gw803, rfl, by decide +kernel, by decide⟩
theorem gw806 : Cond.fieldLink RX12 247 RX12 (TX12 19).2.1 (TX12 19).2.2.1 ∈ Gw := inGw (in_t5 (List.mem_of_getElem? (i := 160) (by decide +kernel))) (by decide +kernel)
theorem lf_RX12_247 : LF RX12 247 RX12 TX12 61 19 false := ⟨by decide, rfl, rfl, Or.inl gw806⟩
theorem fI_55_19 : FI 55 40 55 12 19 := by decide
theorem gw807 : Cond.fieldLink RX12 44 RX12 (TX12 23).2.1 (TX12 23).2.2.1 ∈ Gw := inGw (in_t5 (List.mem_of_getElem? (i := 164) (by decide +kernel))) (by decide +kernel)
theorem lf_RX12_44 : LF RX12 44 RX12 TX12 61 23 true := ⟨by decide, rfl, rfl, Or.inl gw807⟩
theorem fR_55_23 : FR 55 40 55 12 23 67 := by decide
theorem gw808 : Cond.fieldLink RX12 47 RX12 (TX12 24).2.1 (TX12 24).2.2.1 ∈ Gw := inGw (in_t5 (List.mem_of_getElem? (i := 165) (by decide +kernel))) (by decide +kernel)
theorem lf_RX12_47 : LF RX12 47 RX12 TX12 61 24 true := ⟨by decide, rfl, rfl, Or.inl gw808⟩
theorem fR_55_24 : FR 55 40 55 12 24 68 := by decide
theorem gw809 : Cond.fieldLink RX12 50 RX12 (TX12 25).2.1 (TX12 25).2.2.1 ∈ Gw := inGw (in_t5 (List.mem_of_getElem? (i := 166) (by decide +kernel))) (by decide +kernel)
theorem lf_RX12_50 : LF RX12 50 RX12 TX12 61 25 true := ⟨by decide, rfl, rfl, Or.inl gw809⟩
theorem fR_55_25 : FR 55 40 55 12 25 69 := by decide
theorem gw810 : Cond.fieldLink RX12 53 RX12 (TX12 26).2.1 (TX12 26).2.2.1 ∈ Gw := inGw (in_t5 (List.mem_of_getElem? (i := 167) (by decide +kernel))) (by decide +kernel)
theorem lf_RX12_53 : LF RX12 53 RX12 TX12 61 26 true := ⟨by decide, rfl, rfl, Or.inl gw810⟩
theorem fR_55_26 : FR 55 40 55 12 26 70 := by decide
theorem aF_69 : AI 55 40 69 16 := by decide
theorem gw811 : Cond.methodLink RX12 250 yX12_readsCondition ∈ Gw := inGw (in_t6 (List.mem_of_getElem? (i := 189) (by decide +kernel))) (by decide +kernel)
theorem gw812 : Cond.code yX12_readsCondition cX12_readsCondition 1 (some .boolean) ∈ Gw := inGw (in_t6 (List.mem_of_getElem? (i := 192) (by rfl))) (by decide +kernel)
theorem gw813 : Cond.instanceMethod yX12_readsCondition ∈ Gw := inGw (in_t6 (List.mem_of_getElem? (i := 191) (by decide +kernel))) (by decide +kernel)
theorem gw814 : Cond.selects RX12 yX12_readsCondition yX12_readsCondition ∈ Gw := inGw (in_sel (q := (yX12_readsCondition, 61)) (by decide +kernel)) (by decide +kernel)
theorem cv_RX12_250 : CV RX12 RX12 250 yX12_readsCondition cX12_readsCondition 1 (some .boolean) 0 := ⟨Or.inl gw811, gw813, gw814, gw692, gw812, rfl, by decide +kernel, by decide⟩
theorem aF_70 : AI 55 40 70 16 := by decide
theorem aF_67 : AI 55 40 67 16 := by decide
theorem aF_68 : AI 55 40 68 16 := by decide
theorem gw815 : Cond.fieldLink RX12 56 RX12 (TX12 27).2.1 (TX12 27).2.2.1 ∈ Gw := inGw (in_t5 (List.mem_of_getElem? (i := 168) (by decide +kernel))) (by decide +kernel)
theorem lf_RX12_56 : LF RX12 56 RX12 TX12 61 27 true := ⟨by decide, rfl, rfl, Or.inl gw815⟩
theorem fR_55_27 : FR 55 40 55 12 27 71 := by decide
theorem gw816 : Cond.fieldLink RX12 59 RX12 (TX12 28).2.1 (TX12 28).2.2.1 ∈ Gw := inGw (in_t5 (List.mem_of_getElem? (i := 169) (by decide +kernel))) (by decide +kernel)
theorem lf_RX12_59 : LF RX12 59 RX12 TX12 61 28 true := ⟨by decide, rfl, rfl, Or.inl gw816⟩
theorem fR_55_28 : FR 55 40 55 12 28 72 := by decide
theorem gw817 : Cond.fieldLink RX12 62 RX12 (TX12 29).2.1 (TX12 29).2.2.1 ∈ Gw := inGw (in_t5 (List.mem_of_getElem? (i := 170) (by decide +kernel))) (by decide +kernel)
theorem lf_RX12_62 : LF RX12 62 RX12 TX12 61 29 true := ⟨by decide, rfl, rfl, Or.inl gw817⟩
theorem fR_55_29 : FR 55 40 55 12 29 73 := by decide
theorem gw818 : Cond.fieldLink RX12 65 RX12 (TX12 30).2.1 (TX12 30).2.2.1 ∈ Gw := inGw (in_t5 (List.mem_of_getElem? (i := 171) (by decide +kernel))) (by decide +kernel)
theorem lf_RX12_65 : LF RX12 65 RX12 TX12 61 30 true := ⟨by decide, rfl, rfl, Or.inl gw818⟩
theorem fR_55_30 : FR 55 40 55 12 30 74 := by decide
theorem gw819 : Cond.fieldLink RX12 68 RX12 (TX12 31).2.1 (TX12 31).2.2.1 ∈ Gw := inGw (in_t5 (List.mem_of_getElem? (i := 172) (by decide +kernel))) (by decide +kernel)
theorem lf_RX12_68 : LF RX12 68 RX12 TX12 61 31 true := ⟨by decide, rfl, rfl, Or.inl gw819⟩
theorem fR_55_31 : FR 55 40 55 12 31 75 := by decide
theorem aF_72 : AI 55 40 72 16 := by decide
theorem aF_73 : AI 55 40 73 16 := by decide
theorem aF_74 : AI 55 40 74 16 := by decide
theorem aF_75 : AI 55 40 75 16 := by decide
theorem aF_71 : AI 55 40 71 260 := by decide
theorem gw820 : Cond.fieldLink RX12 262 RX12 (TX12 20).2.1 (TX12 20).2.2.1 ∈ Gw := inGw (in_t5 (List.mem_of_getElem? (i := 161) (by decide +kernel))) (by decide +kernel)
theorem lf_RX12_262 : LF RX12 262 RX12 TX12 61 20 false := ⟨by decide, rfl, rfl, Or.inl gw820⟩
theorem fI_55_20 : FI 55 40 55 12 20 := by decide
theorem gw821 : Cond.methodLink RX12 259 yX12_takes ∈ Gw := inGw (in_t6 (List.mem_of_getElem? (i := 209) (by decide +kernel))) (by decide +kernel)
theorem gw822 : Cond.code yX12_takes cX12_takes 2 (some .boolean) ∈ Gw := inGw (in_t6 (List.mem_of_getElem? (i := 212) (by rfl))) (by decide +kernel)
theorem gw823 : Cond.instanceMethod yX12_takes ∈ Gw := inGw (in_t6 (List.mem_of_getElem? (i := 211) (by decide +kernel))) (by decide +kernel)
theorem gw824 : Cond.selects RX12 yX12_takes yX12_takes ∈ Gw := inGw (in_sel (q := (yX12_takes, 61)) (by decide +kernel)) (by decide +kernel)
theorem cv_RX12_259 : CV RX12 RX12 259 yX12_takes cX12_takes 2 (some .boolean) 1 := ⟨Or.inl gw821, gw823, gw824, gw692, gw822, rfl, by decide +kernel, by decide⟩
theorem gw825 : Cond.methodLink RX12 256 yX12_readsRule ∈ Gw := inGw (in_t6 (List.mem_of_getElem? (i := 134) (by decide +kernel))) (by decide +kernel)
theorem gw826 : Cond.code yX12_readsRule cX12_readsRule 2 (some .boolean) ∈ Gw := inGw (in_t6 (List.mem_of_getElem? (i := 137) (by rfl))) (by decide +kernel)
theorem gw827 : Cond.instanceMethod yX12_readsRule ∈ Gw := inGw (in_t6 (List.mem_of_getElem? (i := 136) (by decide +kernel))) (by decide +kernel)
theorem gw828 : Cond.selects RX12 yX12_readsRule yX12_readsRule ∈ Gw := inGw (in_sel (q := (yX12_readsRule, 61)) (by decide +kernel)) (by decide +kernel)
theorem cv_RX12_256 : CV RX12 RX12 256 yX12_readsRule cX12_readsRule 2 (some .boolean) 0 := ⟨Or.inl gw825, gw827, gw828, gw692, gw826, rfl, by decide +kernel, by decide⟩
theorem gw829 : Cond.methodLink RX12 253 yX12_beginsText ∈ Gw := inGw (in_t6 (List.mem_of_getElem? (i := 130) (by decide +kernel))) (by decide +kernel)
theorem gw830 : Cond.code yX12_beginsText cX12_beginsText 2 none ∈ Gw := inGw (in_t6 (List.mem_of_getElem? (i := 133) (by rfl))) (by decide +kernel)
theorem gw831 : Cond.instanceMethod yX12_beginsText ∈ Gw := inGw (in_t6 (List.mem_of_getElem? (i := 132) (by decide +kernel))) (by decide +kernel)
theorem gw832 : Cond.selects RX12 yX12_beginsText yX12_beginsText ∈ Gw := inGw (in_sel (q := (yX12_beginsText, 61)) (by decide +kernel)) (by decide +kernel)
theorem cv_RX12_253 : CV RX12 RX12 253 yX12_beginsText cX12_beginsText 2 none 1 := ⟨Or.inl gw829, gw831, gw832, gw692, gw830, rfl, by decide +kernel, by decide⟩
theorem gw833 : Cond.fieldLink RX12 71 RX12 (TX12 32).2.1 (TX12 32).2.2.1 ∈ Gw := inGw (in_t5 (List.mem_of_getElem? (i := 173) (by decide +kernel))) (by decide +kernel)
theorem lf_RX12_71 : LF RX12 71 RX12 TX12 61 32 true := ⟨by decide, rfl, rfl, Or.inl gw833⟩
theorem fR_55_32 : FR 55 40 55 12 32 76 := by decide
theorem gw834 : Cond.fieldLink RX12 74 RX12 (TX12 33).2.1 (TX12 33).2.2.1 ∈ Gw := inGw (in_t5 (List.mem_of_getElem? (i := 174) (by decide +kernel))) (by decide +kernel)
theorem lf_RX12_74 : LF RX12 74 RX12 TX12 61 33 true := ⟨by decide, rfl, rfl, Or.inl gw834⟩
theorem fR_55_33 : FR 55 40 55 12 33 77 := by decide
theorem aF_76 : AI 55 40 76 260 := by decide
theorem aF_77 : AI 55 40 77 9 := by decide
theorem gw835 : Cond.methodLink RX12 265 yX12_reckon ∈ Gw := inGw (in_t7 (List.mem_of_getElem? (i := 51) (by decide +kernel))) (by decide +kernel)
theorem gw836 : Cond.code yX12_reckon cX12_reckon 3 (some .int) ∈ Gw := inGw (in_t7 (List.mem_of_getElem? (i := 53) (by rfl))) (by decide +kernel)
theorem gw837 : Cond.static yX12_reckon ∈ Gw := inGw (in_t7 (List.mem_of_getElem? (i := 52) (by decide +kernel))) (by decide +kernel)
theorem cs_RX12_265 : CS RX12 RX12 265 yX12_reckon cX12_reckon 3 (some .int) 3 := ⟨Or.inl gw835, gw837, gw692, gw836, rfl, by decide +kernel, by decide⟩
theorem kN_0_260 : inb 0 260 = true := by decide
theorem gw838 : Cond.methodLink RX12 269 yX12_reckonsTo ∈ Gw := inGw (in_t7 (List.mem_of_getElem? (i := 47) (by decide +kernel))) (by decide +kernel)
theorem gw839 : Cond.code yX12_reckonsTo cX12_reckonsTo 8 (some .int) ∈ Gw := inGw (in_t7 (List.mem_of_getElem? (i := 50) (by rfl))) (by decide +kernel)
theorem gw840 : Cond.instanceMethod yX12_reckonsTo ∈ Gw := inGw (in_t7 (List.mem_of_getElem? (i := 49) (by decide +kernel))) (by decide +kernel)
theorem gw841 : Cond.selects RX12 yX12_reckonsTo yX12_reckonsTo ∈ Gw := inGw (in_sel (q := (yX12_reckonsTo, 61)) (by decide +kernel)) (by decide +kernel)
theorem cv_RX12_269 : CV RX12 RX12 269 yX12_reckonsTo cX12_reckonsTo 8 (some .int) 2 := ⟨Or.inl gw838, gw840, gw841, gw692, gw839, rfl, by decide +kernel, by decide⟩
theorem gw842 : Cond.fieldLink RX12 272 RX12 (TX12 38).2.1 (TX12 38).2.2.1 ∈ Gw := inGw (in_t5 (List.mem_of_getElem? (i := 179) (by decide +kernel))) (by decide +kernel)
theorem lf_RX12_272 : LF RX12 272 RX12 TX12 61 38 false := ⟨by decide, rfl, rfl, Or.inl gw842⟩
theorem fI_55_38 : FI 55 40 55 12 38 := by decide
theorem gw843 : Cond.fieldLink RX12 77 RX12 (TX12 34).2.1 (TX12 34).2.2.1 ∈ Gw := inGw (in_t5 (List.mem_of_getElem? (i := 175) (by decide +kernel))) (by decide +kernel)
theorem lf_RX12_77 : LF RX12 77 RX12 TX12 61 34 true := ⟨by decide, rfl, rfl, Or.inl gw843⟩
theorem fR_55_34 : FR 55 40 55 12 34 78 := by decide
theorem gw844 : Cond.methodLink RX12 275 yX12_readsWithin ∈ Gw := inGw (in_t6 (List.mem_of_getElem? (i := 225) (by decide +kernel))) (by decide +kernel)
theorem gw845 : Cond.code yX12_readsWithin cX12_readsWithin 2 (some .boolean) ∈ Gw := inGw (in_t6 (List.mem_of_getElem? (i := 228) (by rfl))) (by decide +kernel)
theorem gw846 : Cond.instanceMethod yX12_readsWithin ∈ Gw := inGw (in_t6 (List.mem_of_getElem? (i := 227) (by decide +kernel))) (by decide +kernel)
theorem gw847 : Cond.selects RX12 yX12_readsWithin yX12_readsWithin ∈ Gw := inGw (in_sel (q := (yX12_readsWithin, 61)) (by decide +kernel)) (by decide +kernel)
theorem cv_RX12_275 : CV RX12 RX12 275 yX12_readsWithin cX12_readsWithin 2 (some .boolean) 0 := ⟨Or.inl gw844, gw846, gw847, gw692, gw845, rfl, by decide +kernel, by decide⟩
theorem aF_78 : AI 55 40 78 16 := by decide
theorem gw848 : Cond.fieldLink RX12 278 RX12 (TX12 39).2.1 (TX12 39).2.2.1 ∈ Gw := inGw (in_t5 (List.mem_of_getElem? (i := 180) (by decide +kernel))) (by decide +kernel)
theorem lf_RX12_278 : LF RX12 278 RX12 TX12 61 39 false := ⟨by decide, rfl, rfl, Or.inl gw848⟩
theorem fI_55_39 : FI 55 40 55 12 39 := by decide
theorem gw849 : Cond.fieldLink RX12 80 RX12 (TX12 35).2.1 (TX12 35).2.2.1 ∈ Gw := inGw (in_t5 (List.mem_of_getElem? (i := 176) (by decide +kernel))) (by decide +kernel)
theorem lf_RX12_80 : LF RX12 80 RX12 TX12 61 35 true := ⟨by decide, rfl, rfl, Or.inl gw849⟩
theorem fR_55_35 : FR 55 40 55 12 35 79 := by decide
theorem gw850 : Cond.fieldLink RX12 83 RX12 (TX12 36).2.1 (TX12 36).2.2.1 ∈ Gw := inGw (in_t5 (List.mem_of_getElem? (i := 177) (by decide +kernel))) (by decide +kernel)
theorem lf_RX12_83 : LF RX12 83 RX12 TX12 61 36 true := ⟨by decide, rfl, rfl, Or.inl gw850⟩
theorem fR_55_36 : FR 55 40 55 12 36 80 := by decide
theorem gw851 : Cond.fieldLink RX12 86 RX12 (TX12 37).2.1 (TX12 37).2.2.1 ∈ Gw := inGw (in_t5 (List.mem_of_getElem? (i := 178) (by decide +kernel))) (by decide +kernel)
theorem lf_RX12_86 : LF RX12 86 RX12 TX12 61 37 true := ⟨by decide, rfl, rfl, Or.inl gw851⟩
theorem fR_55_37 : FR 55 40 55 12 37 81 := by decide
theorem aF_79 : AI 55 40 79 16 := by decide
theorem aF_80 : AI 55 40 80 16 := by decide
theorem aF_81 : AI 55 40 81 16 := by decide
theorem gw852 : Cond.fieldLink RX12 281 RX12 (TX12 40).2.1 (TX12 40).2.2.1 ∈ Gw := inGw (in_t5 (List.mem_of_getElem? (i := 181) (by decide +kernel))) (by decide +kernel)
theorem lf_RX12_281 : LF RX12 281 RX12 TX12 61 40 false := ⟨by decide, rfl, rfl, Or.inl gw852⟩
theorem fI_55_40 : FI 55 40 55 12 40 := by decide
theorem gw853 : Cond.methodLink RX12 287 yX12_readsThing ∈ Gw := inGw (in_t6 (List.mem_of_getElem? (i := 229) (by decide +kernel))) (by decide +kernel)
theorem gw854 : Cond.code yX12_readsThing cX12_readsThing 2 (some .boolean) ∈ Gw := inGw (in_t6 (List.mem_of_getElem? (i := 232) (by rfl))) (by decide +kernel)
theorem gw855 : Cond.instanceMethod yX12_readsThing ∈ Gw := inGw (in_t6 (List.mem_of_getElem? (i := 231) (by decide +kernel))) (by decide +kernel)
theorem gw856 : Cond.selects RX12 yX12_readsThing yX12_readsThing ∈ Gw := inGw (in_sel (q := (yX12_readsThing, 61)) (by decide +kernel)) (by decide +kernel)
theorem cv_RX12_287 : CV RX12 RX12 287 yX12_readsThing cX12_readsThing 2 (some .boolean) 1 := ⟨Or.inl gw853, gw855, gw856, gw692, gw854, rfl, by decide +kernel, by decide⟩
theorem gw857 : Cond.methodLink RX12 284 yX12_readsHouse ∈ Gw := inGw (in_t6 (List.mem_of_getElem? (i := 221) (by decide +kernel))) (by decide +kernel)
theorem gw858 : Cond.code yX12_readsHouse cX12_readsHouse 2 (some .boolean) ∈ Gw := inGw (in_t6 (List.mem_of_getElem? (i := 224) (by rfl))) (by decide +kernel)
theorem gw859 : Cond.instanceMethod yX12_readsHouse ∈ Gw := inGw (in_t6 (List.mem_of_getElem? (i := 223) (by decide +kernel))) (by decide +kernel)
theorem gw860 : Cond.selects RX12 yX12_readsHouse yX12_readsHouse ∈ Gw := inGw (in_sel (q := (yX12_readsHouse, 61)) (by decide +kernel)) (by decide +kernel)
theorem cv_RX12_284 : CV RX12 RX12 284 yX12_readsHouse cX12_readsHouse 2 (some .boolean) 1 := ⟨Or.inl gw857, gw859, gw860, gw692, gw858, rfl, by decide +kernel, by decide⟩
theorem gw861 : Cond.fieldLink RX12 7 RX12 (TX12 0).2.1 (TX12 0).2.2.1 ∈ Gw := inGw (in_t5 (List.mem_of_getElem? (i := 141) (by decide +kernel))) (by decide +kernel)
theorem lf_RX12_7 : LF RX12 7 RX12 TX12 61 0 true := ⟨by decide, rfl, rfl, Or.inl gw861⟩
theorem fR_55_0 : FR 55 40 55 12 0 56 := by decide
theorem aF_56 : AI 55 40 56 21 := by decide
theorem kN_16_21 : inb 16 21 = true := by decide
theorem kU_16 : (16 : Int32).toNatClampNeg = 16 := by decide
theorem kB_17 : (Int8.ofInt (17)).toInt32 = (17 : Int32) := by decide
theorem kN_17_21 : inb 17 21 = true := by decide
theorem kU_17 : (17 : Int32).toNatClampNeg = 17 := by decide
theorem kB_18 : (Int8.ofInt (18)).toInt32 = (18 : Int32) := by decide
theorem kN_18_21 : inb 18 21 = true := by decide
theorem kU_18 : (18 : Int32).toNatClampNeg = 18 := by decide
theorem gw862 : Cond.methodLink RX12 290 yX12_readsLine ∈ Gw := inGw (in_t6 (List.mem_of_getElem? (i := 217) (by decide +kernel))) (by decide +kernel)
theorem gw863 : Cond.code yX12_readsLine cX12_readsLine 4 (some .boolean) ∈ Gw := inGw (in_t6 (List.mem_of_getElem? (i := 220) (by rfl))) (by decide +kernel)
theorem gw864 : Cond.instanceMethod yX12_readsLine ∈ Gw := inGw (in_t6 (List.mem_of_getElem? (i := 219) (by decide +kernel))) (by decide +kernel)
theorem gw865 : Cond.selects RX12 yX12_readsLine yX12_readsLine ∈ Gw := inGw (in_sel (q := (yX12_readsLine, 61)) (by decide +kernel)) (by decide +kernel)
theorem cv_RX12_290 : CV RX12 RX12 290 yX12_readsLine cX12_readsLine 4 (some .boolean) 0 := ⟨Or.inl gw862, gw864, gw865, gw692, gw863, rfl, by decide +kernel, by decide⟩
theorem gw866 : Cond.fieldLink RX12 293 RX12 (TX12 48).2.1 (TX12 48).2.2.1 ∈ Gw := inGw (in_t5 (List.mem_of_getElem? (i := 189) (by decide +kernel))) (by decide +kernel)
theorem lf_RX12_293 : LF RX12 293 RX12 TX12 61 48 false := ⟨by decide, rfl, rfl, Or.inl gw866⟩
theorem fI_55_48 : FI 55 40 55 12 48 := by decide
theorem gw867 : Cond.fieldLink RX12 296 RX12 (TX12 49).2.1 (TX12 49).2.2.1 ∈ Gw := inGw (in_t5 (List.mem_of_getElem? (i := 190) (by decide +kernel))) (by decide +kernel)
theorem lf_RX12_296 : LF RX12 296 RX12 TX12 61 49 false := ⟨by decide, rfl, rfl, Or.inl gw867⟩
theorem fI_55_49 : FI 55 40 55 12 49 := by decide
theorem gw868 : Cond.fieldLink RX12 299 RX12 (TX12 46).2.1 (TX12 46).2.2.1 ∈ Gw := inGw (in_t5 (List.mem_of_getElem? (i := 187) (by decide +kernel))) (by decide +kernel)
theorem lf_RX12_299 : LF RX12 299 RX12 TX12 61 46 false := ⟨by decide, rfl, rfl, Or.inl gw868⟩
theorem fI_55_46 : FI 55 40 55 12 46 := by decide
theorem gw869 : Cond.fieldLink RX12 89 RX12 (TX12 41).2.1 (TX12 41).2.2.1 ∈ Gw := inGw (in_t5 (List.mem_of_getElem? (i := 182) (by decide +kernel))) (by decide +kernel)
theorem lf_RX12_89 : LF RX12 89 RX12 TX12 61 41 true := ⟨by decide, rfl, rfl, Or.inl gw869⟩
theorem fR_55_41 : FR 55 40 55 12 41 82 := by decide
theorem gw870 : Cond.fieldLink RX12 92 RX12 (TX12 42).2.1 (TX12 42).2.2.1 ∈ Gw := inGw (in_t5 (List.mem_of_getElem? (i := 183) (by decide +kernel))) (by decide +kernel)
theorem lf_RX12_92 : LF RX12 92 RX12 TX12 61 42 true := ⟨by decide, rfl, rfl, Or.inl gw870⟩
theorem fR_55_42 : FR 55 40 55 12 42 83 := by decide
theorem aF_82 : AI 55 40 82 12 := by decide
theorem aF_83 : AI 55 40 83 12 := by decide
theorem gw871 : Cond.fieldLink RX12 305 RX12 (TX12 47).2.1 (TX12 47).2.2.1 ∈ Gw := inGw (in_t5 (List.mem_of_getElem? (i := 188) (by decide +kernel))) (by decide +kernel)
theorem lf_RX12_305 : LF RX12 305 RX12 TX12 61 47 false := ⟨by decide, rfl, rfl, Or.inl gw871⟩
theorem fI_55_47 : FI 55 40 55 12 47 := by decide
theorem gw872 : Cond.fieldLink RX12 95 RX12 (TX12 43).2.1 (TX12 43).2.2.1 ∈ Gw := inGw (in_t5 (List.mem_of_getElem? (i := 184) (by decide +kernel))) (by decide +kernel)
theorem lf_RX12_95 : LF RX12 95 RX12 TX12 61 43 true := ⟨by decide, rfl, rfl, Or.inl gw872⟩
theorem fR_55_43 : FR 55 40 55 12 43 84 := by decide
theorem gw873 : Cond.fieldLink RX12 98 RX12 (TX12 44).2.1 (TX12 44).2.2.1 ∈ Gw := inGw (in_t5 (List.mem_of_getElem? (i := 185) (by decide +kernel))) (by decide +kernel)
theorem lf_RX12_98 : LF RX12 98 RX12 TX12 61 44 true := ⟨by decide, rfl, rfl, Or.inl gw873⟩
theorem fR_55_44 : FR 55 40 55 12 44 85 := by decide
theorem gw874 : Cond.fieldLink RX12 101 RX12 (TX12 45).2.1 (TX12 45).2.2.1 ∈ Gw := inGw (in_t5 (List.mem_of_getElem? (i := 186) (by decide +kernel))) (by decide +kernel)
theorem lf_RX12_101 : LF RX12 101 RX12 TX12 61 45 true := ⟨by decide, rfl, rfl, Or.inl gw874⟩
theorem fR_55_45 : FR 55 40 55 12 45 86 := by decide
theorem aF_85 : AI 55 40 85 2 := by decide
theorem aF_86 : AI 55 40 86 2 := by decide
theorem aF_84 : AI 55 40 84 2 := by decide
theorem gw875 : Cond.methodLink RX12 308 yX12_repeats ∈ Gw := inGw (in_t7 (List.mem_of_getElem? (i := 5) (by decide +kernel))) (by decide +kernel)
theorem gw876 : Cond.code yX12_repeats cX12_repeats 6 (some .boolean) ∈ Gw := inGw (in_t7 (List.mem_of_getElem? (i := 8) (by rfl))) (by decide +kernel)
theorem gw877 : Cond.instanceMethod yX12_repeats ∈ Gw := inGw (in_t7 (List.mem_of_getElem? (i := 7) (by decide +kernel))) (by decide +kernel)
theorem gw878 : Cond.selects RX12 yX12_repeats yX12_repeats ∈ Gw := inGw (in_sel (q := (yX12_repeats, 61)) (by decide +kernel)) (by decide +kernel)
theorem cv_RX12_308 : CV RX12 RX12 308 yX12_repeats cX12_repeats 6 (some .boolean) 3 := ⟨Or.inl gw875, gw877, gw878, gw692, gw876, rfl, by decide +kernel, by decide⟩
theorem gw879 : Cond.methodLink RX12 302 yX12_readsTimes ∈ Gw := inGw (in_t7 (List.mem_of_getElem? (i := 1) (by decide +kernel))) (by decide +kernel)
theorem gw880 : Cond.code yX12_readsTimes cX12_readsTimes 1 none ∈ Gw := inGw (in_t7 (List.mem_of_getElem? (i := 4) (by rfl))) (by decide +kernel)
theorem gw881 : Cond.instanceMethod yX12_readsTimes ∈ Gw := inGw (in_t7 (List.mem_of_getElem? (i := 3) (by decide +kernel))) (by decide +kernel)
theorem gw882 : Cond.selects RX12 yX12_readsTimes yX12_readsTimes ∈ Gw := inGw (in_sel (q := (yX12_readsTimes, 61)) (by decide +kernel)) (by decide +kernel)
theorem cv_RX12_302 : CV RX12 RX12 302 yX12_readsTimes cX12_readsTimes 1 none 0 := ⟨Or.inl gw879, gw881, gw882, gw692, gw880, rfl, by decide +kernel, by decide⟩
theorem gw883 : Cond.methodLink RX12 311 yX12_readsTurn ∈ Gw := inGw (in_t6 (List.mem_of_getElem? (i := 237) (by decide +kernel))) (by decide +kernel)
theorem gw884 : Cond.code yX12_readsTurn cX12_readsTurn 4 (some .boolean) ∈ Gw := inGw (in_t7 (List.mem_of_getElem? (i := 0) (by rfl))) (by decide +kernel)
theorem gw885 : Cond.instanceMethod yX12_readsTurn ∈ Gw := inGw (in_t6 (List.mem_of_getElem? (i := 239) (by decide +kernel))) (by decide +kernel)
theorem gw886 : Cond.selects RX12 yX12_readsTurn yX12_readsTurn ∈ Gw := inGw (in_sel (q := (yX12_readsTurn, 61)) (by decide +kernel)) (by decide +kernel)
theorem cv_RX12_311 : CV RX12 RX12 311 yX12_readsTurn cX12_readsTurn 4 (some .boolean) 0 := ⟨Or.inl gw883, gw885, gw886, gw692, gw884, rfl, by decide +kernel, by decide⟩
theorem gw887 : Cond.methodLink RX12 314 yX12_areTold ∈ Gw := inGw (in_t7 (List.mem_of_getElem? (i := 9) (by decide +kernel))) (by decide +kernel)
theorem gw888 : Cond.code yX12_areTold cX12_areTold 2 (some .boolean) ∈ Gw := inGw (in_t7 (List.mem_of_getElem? (i := 12) (by rfl))) (by decide +kernel)
theorem gw889 : Cond.instanceMethod yX12_areTold ∈ Gw := inGw (in_t7 (List.mem_of_getElem? (i := 11) (by decide +kernel))) (by decide +kernel)
theorem gw890 : Cond.selects RX12 yX12_areTold yX12_areTold ∈ Gw := inGw (in_sel (q := (yX12_areTold, 61)) (by decide +kernel)) (by decide +kernel)
theorem cv_RX12_314 : CV RX12 RX12 314 yX12_areTold cX12_areTold 2 (some .boolean) 0 := ⟨Or.inl gw887, gw889, gw890, gw692, gw888, rfl, by decide +kernel, by decide⟩
theorem gw891 : Cond.methodLink RX12 320 yX12_bits ∈ Gw := inGw (in_t7 (List.mem_of_getElem? (i := 40) (by decide +kernel))) (by decide +kernel)
theorem gw892 : Cond.code yX12_bits cX12_bits 3 (some .int) ∈ Gw := inGw (in_t7 (List.mem_of_getElem? (i := 42) (by rfl))) (by decide +kernel)
theorem gw893 : Cond.static yX12_bits ∈ Gw := inGw (in_t7 (List.mem_of_getElem? (i := 41) (by decide +kernel))) (by decide +kernel)
theorem cs_RX12_320 : CS RX12 RX12 320 yX12_bits cX12_bits 3 (some .int) 1 := ⟨Or.inl gw891, gw893, gw692, gw892, rfl, by decide +kernel, by decide⟩
theorem kN_4_9 : inb 4 9 = true := by decide
theorem kU_4 : (4 : Int32).toNatClampNeg = 4 := by decide
theorem kN_5_9 : inb 5 9 = true := by decide
theorem kU_5 : (5 : Int32).toNatClampNeg = 5 := by decide
theorem kN_6_9 : inb 6 9 = true := by decide
theorem kU_6 : (6 : Int32).toNatClampNeg = 6 := by decide
theorem kB_19 : (Int8.ofInt (19)).toInt32 = (19 : Int32) := by decide
theorem kN_19_21 : inb 19 21 = true := by decide
theorem kU_19 : (19 : Int32).toNatClampNeg = 19 := by decide
theorem kN_7_9 : inb 7 9 = true := by decide
theorem kU_7 : (7 : Int32).toNatClampNeg = 7 := by decide
theorem kN_8_9 : inb 8 9 = true := by decide
theorem kU_8 : (8 : Int32).toNatClampNeg = 8 := by decide
theorem kN_2_9 : inb 2 9 = true := by decide
theorem kU_2 : (2 : Int32).toNatClampNeg = 2 := by decide
theorem gw894 : Cond.methodLink RX12 317 yX12_size ∈ Gw := inGw (in_t7 (List.mem_of_getElem? (i := 37) (by decide +kernel))) (by decide +kernel)
theorem gw895 : Cond.code yX12_size cX12_size 1 (some .int) ∈ Gw := inGw (in_t7 (List.mem_of_getElem? (i := 39) (by rfl))) (by decide +kernel)
theorem gw896 : Cond.static yX12_size ∈ Gw := inGw (in_t7 (List.mem_of_getElem? (i := 38) (by decide +kernel))) (by decide +kernel)
theorem cs_RX12_317 : CS RX12 RX12 317 yX12_size cX12_size 1 (some .int) 1 := ⟨Or.inl gw894, gw896, gw692, gw895, rfl, by decide +kernel, by decide⟩
theorem kN_0_9 : inb 0 9 = true := by decide
theorem gw897 : Cond.fieldLink RX12 336 RX12 (TX12 50).2.1 (TX12 50).2.2.1 ∈ Gw := inGw (in_t5 (List.mem_of_getElem? (i := 191) (by decide +kernel))) (by decide +kernel)
theorem lf_RX12_336 : LF RX12 336 RX12 TX12 61 50 false := ⟨by decide, rfl, rfl, Or.inl gw897⟩
theorem fI_55_50 : FI 55 40 55 12 50 := by decide
theorem gw898 : Cond.methodLink RX12 323 yX12_feels ∈ Gw := inGw (in_t7 (List.mem_of_getElem? (i := 33) (by decide +kernel))) (by decide +kernel)
theorem gw899 : Cond.code yX12_feels cX12_feels 4 none ∈ Gw := inGw (in_t7 (List.mem_of_getElem? (i := 36) (by rfl))) (by decide +kernel)
theorem gw900 : Cond.instanceMethod yX12_feels ∈ Gw := inGw (in_t7 (List.mem_of_getElem? (i := 35) (by decide +kernel))) (by decide +kernel)
theorem gw901 : Cond.selects RX12 yX12_feels yX12_feels ∈ Gw := inGw (in_sel (q := (yX12_feels, 61)) (by decide +kernel)) (by decide +kernel)
theorem cv_RX12_323 : CV RX12 RX12 323 yX12_feels cX12_feels 4 none 3 := ⟨Or.inl gw898, gw900, gw901, gw692, gw899, rfl, by decide +kernel, by decide⟩
theorem gw902 : Cond.methodLink RX12 327 yX12_holdsAny ∈ Gw := inGw (in_t7 (List.mem_of_getElem? (i := 43) (by decide +kernel))) (by decide +kernel)
theorem gw903 : Cond.code yX12_holdsAny cX12_holdsAny 3 (some .boolean) ∈ Gw := inGw (in_t7 (List.mem_of_getElem? (i := 46) (by rfl))) (by decide +kernel)
theorem gw904 : Cond.instanceMethod yX12_holdsAny ∈ Gw := inGw (in_t7 (List.mem_of_getElem? (i := 45) (by decide +kernel))) (by decide +kernel)
theorem gw905 : Cond.selects RX12 yX12_holdsAny yX12_holdsAny ∈ Gw := inGw (in_sel (q := (yX12_holdsAny, 61)) (by decide +kernel)) (by decide +kernel)
theorem cv_RX12_327 : CV RX12 RX12 327 yX12_holdsAny cX12_holdsAny 3 (some .boolean) 1 := ⟨Or.inl gw902, gw904, gw905, gw692, gw903, rfl, by decide +kernel, by decide⟩
theorem gw906 : Cond.methodLink RX12 330 yX12_byLaw ∈ Gw := inGw (in_t7 (List.mem_of_getElem? (i := 54) (by decide +kernel))) (by decide +kernel)
theorem gw907 : Cond.code yX12_byLaw cX12_byLaw 6 (some .int) ∈ Gw := inGw (in_t7 (List.mem_of_getElem? (i := 57) (by rfl))) (by decide +kernel)
theorem gw908 : Cond.instanceMethod yX12_byLaw ∈ Gw := inGw (in_t7 (List.mem_of_getElem? (i := 56) (by decide +kernel))) (by decide +kernel)
theorem gw909 : Cond.selects RX12 yX12_byLaw yX12_byLaw ∈ Gw := inGw (in_sel (q := (yX12_byLaw, 61)) (by decide +kernel)) (by decide +kernel)
theorem cv_RX12_330 : CV RX12 RX12 330 yX12_byLaw cX12_byLaw 6 (some .int) 3 := ⟨Or.inl gw906, gw908, gw909, gw692, gw907, rfl, by decide +kernel, by decide⟩
theorem gw910 : Cond.methodLink RX12 333 yX12_min ∈ Gw := inGw (in_t7 (List.mem_of_getElem? (i := 58) (by decide +kernel))) (by decide +kernel)
theorem gw911 : Cond.code yX12_min cX12_min 2 (some .int) ∈ Gw := inGw (in_t7 (List.mem_of_getElem? (i := 60) (by rfl))) (by decide +kernel)
theorem gw912 : Cond.static yX12_min ∈ Gw := inGw (in_t7 (List.mem_of_getElem? (i := 59) (by decide +kernel))) (by decide +kernel)
theorem cs_RX12_333 : CS RX12 RX12 333 yX12_min cX12_min 2 (some .int) 2 := ⟨Or.inl gw910, gw912, gw692, gw911, rfl, by decide +kernel, by decide⟩
theorem kN_20_21 : inb 20 21 = true := by decide
theorem kU_20 : (20 : Int32).toNatClampNeg = 20 := by decide
theorem gw913 : Cond.constant RX12 113 (65536 : Int32) ∈ Gw := inGw (in_t5 (List.mem_of_getElem? (i := 140) (by decide +kernel))) (by decide +kernel)
theorem gw914 : Cond.methodLink RX12 339 yX12_isCarried ∈ Gw := inGw (in_t7 (List.mem_of_getElem? (i := 29) (by decide +kernel))) (by decide +kernel)
theorem gw915 : Cond.code yX12_isCarried cX12_isCarried 5 none ∈ Gw := inGw (in_t7 (List.mem_of_getElem? (i := 32) (by rfl))) (by decide +kernel)
theorem gw916 : Cond.instanceMethod yX12_isCarried ∈ Gw := inGw (in_t7 (List.mem_of_getElem? (i := 31) (by decide +kernel))) (by decide +kernel)
theorem gw917 : Cond.selects RX12 yX12_isCarried yX12_isCarried ∈ Gw := inGw (in_sel (q := (yX12_isCarried, 61)) (by decide +kernel)) (by decide +kernel)
theorem cv_RX12_339 : CV RX12 RX12 339 yX12_isCarried cX12_isCarried 5 none 3 := ⟨Or.inl gw914, gw916, gw917, gw692, gw915, rfl, by decide +kernel, by decide⟩
theorem gw918 : Cond.constant RX12 342 (99999 : Int32) ∈ Gw := inGw (in_t7 (List.mem_of_getElem? (i := 61) (by decide +kernel))) (by decide +kernel)
theorem gw919 : Cond.methodLink RX12 343 yX12_turnGoes ∈ Gw := inGw (in_t7 (List.mem_of_getElem? (i := 25) (by decide +kernel))) (by decide +kernel)
theorem gw920 : Cond.code yX12_turnGoes cX12_turnGoes 5 none ∈ Gw := inGw (in_t7 (List.mem_of_getElem? (i := 28) (by rfl))) (by decide +kernel)
theorem gw921 : Cond.instanceMethod yX12_turnGoes ∈ Gw := inGw (in_t7 (List.mem_of_getElem? (i := 27) (by decide +kernel))) (by decide +kernel)
theorem gw922 : Cond.selects RX12 yX12_turnGoes yX12_turnGoes ∈ Gw := inGw (in_sel (q := (yX12_turnGoes, 61)) (by decide +kernel)) (by decide +kernel)
theorem cv_RX12_343 : CV RX12 RX12 343 yX12_turnGoes cX12_turnGoes 5 none 1 := ⟨Or.inl gw919, gw921, gw922, gw692, gw920, rfl, by decide +kernel, by decide⟩
theorem gw923 : Cond.methodLink RX12 346 yX12_dayGoes ∈ Gw := inGw (in_t7 (List.mem_of_getElem? (i := 21) (by decide +kernel))) (by decide +kernel)
theorem gw924 : Cond.code yX12_dayGoes cX12_dayGoes 2 none ∈ Gw := inGw (in_t7 (List.mem_of_getElem? (i := 24) (by rfl))) (by decide +kernel)
theorem gw925 : Cond.instanceMethod yX12_dayGoes ∈ Gw := inGw (in_t7 (List.mem_of_getElem? (i := 23) (by decide +kernel))) (by decide +kernel)
theorem gw926 : Cond.selects RX12 yX12_dayGoes yX12_dayGoes ∈ Gw := inGw (in_sel (q := (yX12_dayGoes, 61)) (by decide +kernel)) (by decide +kernel)
theorem cv_RX12_346 : CV RX12 RX12 346 yX12_dayGoes cX12_dayGoes 2 none 0 := ⟨Or.inl gw923, gw925, gw926, gw692, gw924, rfl, by decide +kernel, by decide⟩
theorem gw927 : Cond.methodLink RX12 349 yX12_daysGo ∈ Gw := inGw (in_t7 (List.mem_of_getElem? (i := 17) (by decide +kernel))) (by decide +kernel)
theorem gw928 : Cond.code yX12_daysGo cX12_daysGo 3 none ∈ Gw := inGw (in_t7 (List.mem_of_getElem? (i := 20) (by rfl))) (by decide +kernel)
theorem gw929 : Cond.instanceMethod yX12_daysGo ∈ Gw := inGw (in_t7 (List.mem_of_getElem? (i := 19) (by decide +kernel))) (by decide +kernel)
theorem gw930 : Cond.selects RX12 yX12_daysGo yX12_daysGo ∈ Gw := inGw (in_sel (q := (yX12_daysGo, 61)) (by decide +kernel)) (by decide +kernel)
theorem cv_RX12_349 : CV RX12 RX12 349 yX12_daysGo cX12_daysGo 3 none 1 := ⟨Or.inl gw927, gw929, gw930, gw692, gw928, rfl, by decide +kernel, by decide⟩
theorem gw931 : Cond.fieldLink RX12 13 RX12 (TX12 1).2.1 (TX12 1).2.2.1 ∈ Gw := inGw (in_t5 (List.mem_of_getElem? (i := 142) (by decide +kernel))) (by decide +kernel)
theorem lf_RX12_13 : LF RX12 13 RX12 TX12 61 1 true := ⟨by decide, rfl, rfl, Or.inl gw931⟩
theorem fR_55_1 : FR 55 40 55 12 1 57 := by decide
theorem aF_57 : AI 55 40 57 21 := by decide
theorem gw932 : Cond.methodLink RX12 352 yX12_copies ∈ Gw := inGw (in_t7 (List.mem_of_getElem? (i := 66) (by decide +kernel))) (by decide +kernel)
theorem gw933 : Cond.code yX12_copies cX12_copies 3 none ∈ Gw := inGw (in_t7 (List.mem_of_getElem? (i := 68) (by rfl))) (by decide +kernel)
theorem gw934 : Cond.static yX12_copies ∈ Gw := inGw (in_t7 (List.mem_of_getElem? (i := 67) (by decide +kernel))) (by decide +kernel)
theorem cs_RX12_352 : CS RX12 RX12 352 yX12_copies cX12_copies 3 none 2 := ⟨Or.inl gw932, gw934, gw692, gw933, rfl, by decide +kernel, by decide⟩
theorem gw935 : Cond.methodLink RX12 356 yX12_orNone ∈ Gw := inGw (in_t7 (List.mem_of_getElem? (i := 69) (by decide +kernel))) (by decide +kernel)
theorem gw936 : Cond.code yX12_orNone cX12_orNone 1 (some .int) ∈ Gw := inGw (in_t7 (List.mem_of_getElem? (i := 71) (by rfl))) (by decide +kernel)
theorem gw937 : Cond.static yX12_orNone ∈ Gw := inGw (in_t7 (List.mem_of_getElem? (i := 70) (by decide +kernel))) (by decide +kernel)
theorem cs_RX12_356 : CS RX12 RX12 356 yX12_orNone cX12_orNone 1 (some .int) 1 := ⟨Or.inl gw935, gw937, gw692, gw936, rfl, by decide +kernel, by decide⟩
theorem gw938 : Cond.methodLink RX12 359 yX12_joyOfAll ∈ Gw := inGw (in_t7 (List.mem_of_getElem? (i := 72) (by decide +kernel))) (by decide +kernel)
theorem gw939 : Cond.code yX12_joyOfAll cX12_joyOfAll 3 (some .int) ∈ Gw := inGw (in_t7 (List.mem_of_getElem? (i := 75) (by rfl))) (by decide +kernel)
theorem gw940 : Cond.instanceMethod yX12_joyOfAll ∈ Gw := inGw (in_t7 (List.mem_of_getElem? (i := 74) (by decide +kernel))) (by decide +kernel)
theorem gw941 : Cond.selects RX12 yX12_joyOfAll yX12_joyOfAll ∈ Gw := inGw (in_sel (q := (yX12_joyOfAll, 61)) (by decide +kernel)) (by decide +kernel)
theorem cv_RX12_359 : CV RX12 RX12 359 yX12_joyOfAll cX12_joyOfAll 3 (some .int) 0 := ⟨Or.inl gw938, gw940, gw941, gw692, gw939, rfl, by decide +kernel, by decide⟩
theorem gw942 : Cond.methodLink RX12 362 yX12_max ∈ Gw := inGw (in_t7 (List.mem_of_getElem? (i := 91) (by decide +kernel))) (by decide +kernel)
theorem gw943 : Cond.code yX12_max cX12_max 2 (some .int) ∈ Gw := inGw (in_t7 (List.mem_of_getElem? (i := 93) (by rfl))) (by decide +kernel)
theorem gw944 : Cond.static yX12_max ∈ Gw := inGw (in_t7 (List.mem_of_getElem? (i := 92) (by decide +kernel))) (by decide +kernel)
theorem cs_RX12_362 : CS RX12 RX12 362 yX12_max cX12_max 2 (some .int) 2 := ⟨Or.inl gw942, gw944, gw692, gw943, rfl, by decide +kernel, by decide⟩
theorem gw945 : Cond.methodLink RX12 365 yX12_longestRow ∈ Gw := inGw (in_t7 (List.mem_of_getElem? (i := 88) (by decide +kernel))) (by decide +kernel)
theorem gw946 : Cond.code yX12_longestRow cX12_longestRow 4 (some .int) ∈ Gw := inGw (in_t7 (List.mem_of_getElem? (i := 90) (by rfl))) (by decide +kernel)
theorem gw947 : Cond.static yX12_longestRow ∈ Gw := inGw (in_t7 (List.mem_of_getElem? (i := 89) (by decide +kernel))) (by decide +kernel)
theorem cs_RX12_365 : CS RX12 RX12 365 yX12_longestRow cX12_longestRow 4 (some .int) 1 := ⟨Or.inl gw945, gw947, gw692, gw946, rfl, by decide +kernel, by decide⟩
theorem gw948 : Cond.methodLink RX12 368 yX12_turnsOf ∈ Gw := inGw (in_t7 (List.mem_of_getElem? (i := 80) (by decide +kernel))) (by decide +kernel)
theorem gw949 : Cond.code yX12_turnsOf cX12_turnsOf 4 (some .int) ∈ Gw := inGw (in_t7 (List.mem_of_getElem? (i := 83) (by rfl))) (by decide +kernel)
theorem gw950 : Cond.instanceMethod yX12_turnsOf ∈ Gw := inGw (in_t7 (List.mem_of_getElem? (i := 82) (by decide +kernel))) (by decide +kernel)
theorem gw951 : Cond.selects RX12 yX12_turnsOf yX12_turnsOf ∈ Gw := inGw (in_sel (q := (yX12_turnsOf, 61)) (by decide +kernel)) (by decide +kernel)
theorem cv_RX12_368 : CV RX12 RX12 368 yX12_turnsOf cX12_turnsOf 4 (some .int) 1 := ⟨Or.inl gw948, gw950, gw951, gw692, gw949, rfl, by decide +kernel, by decide⟩
theorem gw952 : Cond.methodLink RX12 371 yX12_darkOf ∈ Gw := inGw (in_t7 (List.mem_of_getElem? (i := 84) (by decide +kernel))) (by decide +kernel)
theorem gw953 : Cond.code yX12_darkOf cX12_darkOf 4 (some .int) ∈ Gw := inGw (in_t7 (List.mem_of_getElem? (i := 87) (by rfl))) (by decide +kernel)
theorem gw954 : Cond.instanceMethod yX12_darkOf ∈ Gw := inGw (in_t7 (List.mem_of_getElem? (i := 86) (by decide +kernel))) (by decide +kernel)
theorem gw955 : Cond.selects RX12 yX12_darkOf yX12_darkOf ∈ Gw := inGw (in_sel (q := (yX12_darkOf, 61)) (by decide +kernel)) (by decide +kernel)
theorem cv_RX12_371 : CV RX12 RX12 371 yX12_darkOf cX12_darkOf 4 (some .int) 1 := ⟨Or.inl gw952, gw954, gw955, gw692, gw953, rfl, by decide +kernel, by decide⟩
theorem gw956 : Cond.methodLink RX12 374 yX12_everSeenBy ∈ Gw := inGw (in_t7 (List.mem_of_getElem? (i := 94) (by decide +kernel))) (by decide +kernel)
theorem gw957 : Cond.code yX12_everSeenBy cX12_everSeenBy 4 (some .int) ∈ Gw := inGw (in_t7 (List.mem_of_getElem? (i := 97) (by rfl))) (by decide +kernel)
theorem gw958 : Cond.instanceMethod yX12_everSeenBy ∈ Gw := inGw (in_t7 (List.mem_of_getElem? (i := 96) (by decide +kernel))) (by decide +kernel)
theorem gw959 : Cond.selects RX12 yX12_everSeenBy yX12_everSeenBy ∈ Gw := inGw (in_sel (q := (yX12_everSeenBy, 61)) (by decide +kernel)) (by decide +kernel)
theorem cv_RX12_374 : CV RX12 RX12 374 yX12_everSeenBy cX12_everSeenBy 4 (some .int) 1 := ⟨Or.inl gw956, gw958, gw959, gw692, gw957, rfl, by decide +kernel, by decide⟩
theorem gw960 : Cond.methodLink RX12 377 yX12_wayOf ∈ Gw := inGw (in_t7 (List.mem_of_getElem? (i := 102) (by decide +kernel))) (by decide +kernel)
theorem gw961 : Cond.code yX12_wayOf cX12_wayOf 6 (some .int) ∈ Gw := inGw (in_t7 (List.mem_of_getElem? (i := 105) (by rfl))) (by decide +kernel)
theorem gw962 : Cond.instanceMethod yX12_wayOf ∈ Gw := inGw (in_t7 (List.mem_of_getElem? (i := 104) (by decide +kernel))) (by decide +kernel)
theorem gw963 : Cond.selects RX12 yX12_wayOf yX12_wayOf ∈ Gw := inGw (in_sel (q := (yX12_wayOf, 61)) (by decide +kernel)) (by decide +kernel)
theorem cv_RX12_377 : CV RX12 RX12 377 yX12_wayOf cX12_wayOf 6 (some .int) 1 := ⟨Or.inl gw960, gw962, gw963, gw692, gw961, rfl, by decide +kernel, by decide⟩
theorem gw964 : Cond.methodLink RX12 381 yX12_seenByRota ∈ Gw := inGw (in_t7 (List.mem_of_getElem? (i := 106) (by decide +kernel))) (by decide +kernel)
theorem gw965 : Cond.code yX12_seenByRota cX12_seenByRota 3 (some .int) ∈ Gw := inGw (in_t7 (List.mem_of_getElem? (i := 109) (by rfl))) (by decide +kernel)
theorem gw966 : Cond.instanceMethod yX12_seenByRota ∈ Gw := inGw (in_t7 (List.mem_of_getElem? (i := 108) (by decide +kernel))) (by decide +kernel)
theorem gw967 : Cond.selects RX12 yX12_seenByRota yX12_seenByRota ∈ Gw := inGw (in_sel (q := (yX12_seenByRota, 61)) (by decide +kernel)) (by decide +kernel)
theorem cv_RX12_381 : CV RX12 RX12 381 yX12_seenByRota cX12_seenByRota 3 (some .int) 0 := ⟨Or.inl gw964, gw966, gw967, gw692, gw965, rfl, by decide +kernel, by decide⟩
theorem gw968 : Cond.methodLink RX12 384 yX12_lightOf ∈ Gw := inGw (in_t7 (List.mem_of_getElem? (i := 118) (by decide +kernel))) (by decide +kernel)
theorem gw969 : Cond.code yX12_lightOf cX12_lightOf 4 (some .int) ∈ Gw := inGw (in_t7 (List.mem_of_getElem? (i := 121) (by rfl))) (by decide +kernel)
theorem gw970 : Cond.instanceMethod yX12_lightOf ∈ Gw := inGw (in_t7 (List.mem_of_getElem? (i := 120) (by decide +kernel))) (by decide +kernel)
theorem gw971 : Cond.selects RX12 yX12_lightOf yX12_lightOf ∈ Gw := inGw (in_sel (q := (yX12_lightOf, 61)) (by decide +kernel)) (by decide +kernel)
theorem cv_RX12_384 : CV RX12 RX12 384 yX12_lightOf cX12_lightOf 4 (some .int) 1 := ⟨Or.inl gw968, gw970, gw971, gw692, gw969, rfl, by decide +kernel, by decide⟩
theorem gw972 : Cond.methodLink RX12 387 yX12_changesTurns ∈ Gw := inGw (in_t7 (List.mem_of_getElem? (i := 130) (by decide +kernel))) (by decide +kernel)
theorem gw973 : Cond.code yX12_changesTurns cX12_changesTurns 4 none ∈ Gw := inGw (in_t7 (List.mem_of_getElem? (i := 133) (by rfl))) (by decide +kernel)
theorem gw974 : Cond.instanceMethod yX12_changesTurns ∈ Gw := inGw (in_t7 (List.mem_of_getElem? (i := 132) (by decide +kernel))) (by decide +kernel)
theorem gw975 : Cond.selects RX12 yX12_changesTurns yX12_changesTurns ∈ Gw := inGw (in_sel (q := (yX12_changesTurns, 61)) (by decide +kernel)) (by decide +kernel)
theorem cv_RX12_387 : CV RX12 RX12 387 yX12_changesTurns cX12_changesTurns 4 none 2 := ⟨Or.inl gw972, gw974, gw975, gw692, gw973, rfl, by decide +kernel, by decide⟩
theorem gw976 : Cond.methodLink RX12 390 yX12_readersOf ∈ Gw := inGw (in_t7 (List.mem_of_getElem? (i := 142) (by decide +kernel))) (by decide +kernel)
theorem gw977 : Cond.code yX12_readersOf cX12_readersOf 6 (some .int) ∈ Gw := inGw (in_t7 (List.mem_of_getElem? (i := 145) (by rfl))) (by decide +kernel)
theorem gw978 : Cond.instanceMethod yX12_readersOf ∈ Gw := inGw (in_t7 (List.mem_of_getElem? (i := 144) (by decide +kernel))) (by decide +kernel)
theorem gw979 : Cond.selects RX12 yX12_readersOf yX12_readersOf ∈ Gw := inGw (in_sel (q := (yX12_readersOf, 61)) (by decide +kernel)) (by decide +kernel)
theorem cv_RX12_390 : CV RX12 RX12 390 yX12_readersOf cX12_readersOf 6 (some .int) 2 := ⟨Or.inl gw976, gw978, gw979, gw692, gw977, rfl, by decide +kernel, by decide⟩
theorem gw980 : Cond.methodLink RX12 393 yX12_othersWhoRead ∈ Gw := inGw (in_t7 (List.mem_of_getElem? (i := 150) (by decide +kernel))) (by decide +kernel)
theorem gw981 : Cond.code yX12_othersWhoRead cX12_othersWhoRead 3 (some .int) ∈ Gw := inGw (in_t7 (List.mem_of_getElem? (i := 153) (by rfl))) (by decide +kernel)
theorem gw982 : Cond.instanceMethod yX12_othersWhoRead ∈ Gw := inGw (in_t7 (List.mem_of_getElem? (i := 152) (by decide +kernel))) (by decide +kernel)
theorem gw983 : Cond.selects RX12 yX12_othersWhoRead yX12_othersWhoRead ∈ Gw := inGw (in_sel (q := (yX12_othersWhoRead, 61)) (by decide +kernel)) (by decide +kernel)
theorem cv_RX12_393 : CV RX12 RX12 393 yX12_othersWhoRead cX12_othersWhoRead 3 (some .int) 2 := ⟨Or.inl gw980, gw982, gw983, gw692, gw981, rfl, by decide +kernel, by decide⟩
theorem gw984 : Cond.methodLink RX12 396 yX12_twosAt ∈ Gw := inGw (in_t7 (List.mem_of_getElem? (i := 158) (by decide +kernel))) (by decide +kernel)
theorem gw985 : Cond.code yX12_twosAt cX12_twosAt 4 (some .int) ∈ Gw := inGw (in_t7 (List.mem_of_getElem? (i := 161) (by rfl))) (by decide +kernel)
theorem gw986 : Cond.instanceMethod yX12_twosAt ∈ Gw := inGw (in_t7 (List.mem_of_getElem? (i := 160) (by decide +kernel))) (by decide +kernel)
theorem gw987 : Cond.selects RX12 yX12_twosAt yX12_twosAt ∈ Gw := inGw (in_sel (q := (yX12_twosAt, 61)) (by decide +kernel)) (by decide +kernel)
theorem cv_RX12_396 : CV RX12 RX12 396 yX12_twosAt cX12_twosAt 4 (some .int) 1 := ⟨Or.inl gw984, gw986, gw987, gw692, gw985, rfl, by decide +kernel, by decide⟩
theorem gw988 : Cond.constant RX12 399 (65535 : Int32) ∈ Gw := inGw (in_t7 (List.mem_of_getElem? (i := 166) (by decide +kernel))) (by decide +kernel)
theorem gw989 : Cond.methodLink RX12 400 yX12_octet ∈ Gw := inGw (in_t7 (List.mem_of_getElem? (i := 171) (by decide +kernel))) (by decide +kernel)
theorem gw990 : Cond.code yX12_octet cX12_octet 2 (some .int) ∈ Gw := inGw (in_t7 (List.mem_of_getElem? (i := 174) (by rfl))) (by decide +kernel)
theorem gw991 : Cond.instanceMethod yX12_octet ∈ Gw := inGw (in_t7 (List.mem_of_getElem? (i := 173) (by decide +kernel))) (by decide +kernel)
theorem gw992 : Cond.selects RX12 yX12_octet yX12_octet ∈ Gw := inGw (in_sel (q := (yX12_octet, 61)) (by decide +kernel)) (by decide +kernel)
theorem cv_RX12_400 : CV RX12 RX12 400 yX12_octet cX12_octet 2 (some .int) 1 := ⟨Or.inl gw989, gw991, gw992, gw692, gw990, rfl, by decide +kernel, by decide⟩
theorem gw993 : Cond.fieldLink RX12 104 RX12 (TX12 51).2.1 (TX12 51).2.2.1 ∈ Gw := inGw (in_t5 (List.mem_of_getElem? (i := 192) (by decide +kernel))) (by decide +kernel)
theorem lf_RX12_104 : LF RX12 104 RX12 TX12 61 51 true := ⟨by decide, rfl, rfl, Or.inl gw993⟩
theorem fR_55_51 : FR 55 40 55 12 51 87 := by decide
theorem gw994 : Cond.fieldLink RX12 107 RX12 (TX12 52).2.1 (TX12 52).2.2.1 ∈ Gw := inGw (in_t5 (List.mem_of_getElem? (i := 193) (by decide +kernel))) (by decide +kernel)
theorem lf_RX12_107 : LF RX12 107 RX12 TX12 61 52 true := ⟨by decide, rfl, rfl, Or.inl gw994⟩
theorem fR_55_52 : FR 55 40 55 12 52 88 := by decide
theorem gw995 : Cond.methodLink RX12 406 yX12_stateOf ∈ Gw := inGw (in_t7 (List.mem_of_getElem? (i := 180) (by decide +kernel))) (by decide +kernel)
theorem gw996 : Cond.code yX12_stateOf cX12_stateOf 2 (some .int) ∈ Gw := inGw (in_t7 (List.mem_of_getElem? (i := 182) (by rfl))) (by decide +kernel)
theorem gw997 : Cond.static yX12_stateOf ∈ Gw := inGw (in_t7 (List.mem_of_getElem? (i := 181) (by decide +kernel))) (by decide +kernel)
theorem cs_RX12_406 : CS RX12 RX12 406 yX12_stateOf cX12_stateOf 2 (some .int) 2 := ⟨Or.inl gw995, gw997, gw692, gw996, rfl, by decide +kernel, by decide⟩
theorem aF_88 : AI 55 40 88 1088 := by decide
theorem aF_87 : AI 55 40 87 1088 := by decide
theorem gw998 : Cond.constant RX12 409 (100000000 : Int32) ∈ Gw := inGw (in_t7 (List.mem_of_getElem? (i := 179) (by decide +kernel))) (by decide +kernel)
theorem gw999 : Cond.methodLink RX12 403 yX12_metBy ∈ Gw := inGw (in_t7 (List.mem_of_getElem? (i := 187) (by decide +kernel))) (by decide +kernel)
theorem gw1000 : Cond.code yX12_metBy cX12_metBy 6 (some .int) ∈ Gw := inGw (in_t7 (List.mem_of_getElem? (i := 190) (by rfl))) (by decide +kernel)
theorem gw1001 : Cond.instanceMethod yX12_metBy ∈ Gw := inGw (in_t7 (List.mem_of_getElem? (i := 189) (by decide +kernel))) (by decide +kernel)
theorem gw1002 : Cond.selects RX12 yX12_metBy yX12_metBy ∈ Gw := inGw (in_sel (q := (yX12_metBy, 61)) (by decide +kernel)) (by decide +kernel)
theorem cv_RX12_403 : CV RX12 RX12 403 yX12_metBy cX12_metBy 6 (some .int) 3 := ⟨Or.inl gw999, gw1001, gw1002, gw692, gw1000, rfl, by decide +kernel, by decide⟩
theorem kS_1088 : (Int16.ofInt (1088)).toInt32 = (1088 : Int32) := by decide
theorem gw1003 : Cond.methodLink RX12 410 yX12_choosesHouse ∈ Gw := inGw (in_t7 (List.mem_of_getElem? (i := 183) (by decide +kernel))) (by decide +kernel)
theorem gw1004 : Cond.code yX12_choosesHouse cX12_choosesHouse 10 none ∈ Gw := inGw (in_t7 (List.mem_of_getElem? (i := 186) (by rfl))) (by decide +kernel)
theorem gw1005 : Cond.instanceMethod yX12_choosesHouse ∈ Gw := inGw (in_t7 (List.mem_of_getElem? (i := 185) (by decide +kernel))) (by decide +kernel)
theorem gw1006 : Cond.selects RX12 yX12_choosesHouse yX12_choosesHouse ∈ Gw := inGw (in_sel (q := (yX12_choosesHouse, 61)) (by decide +kernel)) (by decide +kernel)
theorem cv_RX12_410 : CV RX12 RX12 410 yX12_choosesHouse cX12_choosesHouse 10 none 3 := ⟨Or.inl gw1003, gw1005, gw1006, gw692, gw1004, rfl, by decide +kernel, by decide⟩
theorem gw1007 : Cond.methodLink RX12 413 yX12_leastOfAll ∈ Gw := inGw (in_t7 (List.mem_of_getElem? (i := 175) (by decide +kernel))) (by decide +kernel)
theorem gw1008 : Cond.code yX12_leastOfAll cX12_leastOfAll 4 (some .int) ∈ Gw := inGw (in_t7 (List.mem_of_getElem? (i := 178) (by rfl))) (by decide +kernel)
theorem gw1009 : Cond.instanceMethod yX12_leastOfAll ∈ Gw := inGw (in_t7 (List.mem_of_getElem? (i := 177) (by decide +kernel))) (by decide +kernel)
theorem gw1010 : Cond.selects RX12 yX12_leastOfAll yX12_leastOfAll ∈ Gw := inGw (in_sel (q := (yX12_leastOfAll, 61)) (by decide +kernel)) (by decide +kernel)
theorem cv_RX12_413 : CV RX12 RX12 413 yX12_leastOfAll cX12_leastOfAll 4 (some .int) 1 := ⟨Or.inl gw1007, gw1009, gw1010, gw692, gw1008, rfl, by decide +kernel, by decide⟩
theorem gw1011 : Cond.fieldLink RX12 114 RX12 (TX12 54).2.1 (TX12 54).2.2.1 ∈ Gw := inGw (in_t5 (List.mem_of_getElem? (i := 195) (by decide +kernel))) (by decide +kernel)
theorem lf_RX12_114 : LF RX12 114 RX12 TX12 61 54 true := ⟨by decide, rfl, rfl, Or.inl gw1011⟩
theorem fR_55_54 : FR 55 40 55 12 54 90 := by decide
theorem gw1012 : Cond.fieldLink RX12 110 RX12 (TX12 53).2.1 (TX12 53).2.2.1 ∈ Gw := inGw (in_t5 (List.mem_of_getElem? (i := 194) (by decide +kernel))) (by decide +kernel)
theorem lf_RX12_110 : LF RX12 110 RX12 TX12 61 53 true := ⟨by decide, rfl, rfl, Or.inl gw1012⟩
theorem fR_55_53 : FR 55 40 55 12 53 89 := by decide
theorem aF_89 : AI 55 40 89 16 := by decide
theorem aF_90 : AI 55 40 90 65536 := by decide
theorem gw1013 : Cond.methodLink RX12 416 yX12_lowest ∈ Gw := inGw (in_t7 (List.mem_of_getElem? (i := 199) (by decide +kernel))) (by decide +kernel)
theorem gw1014 : Cond.code yX12_lowest cX12_lowest 2 (some .int) ∈ Gw := inGw (in_t7 (List.mem_of_getElem? (i := 201) (by rfl))) (by decide +kernel)
theorem gw1015 : Cond.static yX12_lowest ∈ Gw := inGw (in_t7 (List.mem_of_getElem? (i := 200) (by decide +kernel))) (by decide +kernel)
theorem cs_RX12_416 : CS RX12 RX12 416 yX12_lowest cX12_lowest 2 (some .int) 1 := ⟨Or.inl gw1013, gw1015, gw692, gw1014, rfl, by decide +kernel, by decide⟩
theorem kN_0_65536 : inb 0 65536 = true := by decide
theorem gw1016 : Cond.methodLink RX12 419 yX12_bestSet ∈ Gw := inGw (in_t7 (List.mem_of_getElem? (i := 195) (by decide +kernel))) (by decide +kernel)
theorem gw1017 : Cond.code yX12_bestSet cX12_bestSet 4 (some .int) ∈ Gw := inGw (in_t7 (List.mem_of_getElem? (i := 198) (by rfl))) (by decide +kernel)
theorem gw1018 : Cond.instanceMethod yX12_bestSet ∈ Gw := inGw (in_t7 (List.mem_of_getElem? (i := 197) (by decide +kernel))) (by decide +kernel)
theorem gw1019 : Cond.selects RX12 yX12_bestSet yX12_bestSet ∈ Gw := inGw (in_sel (q := (yX12_bestSet, 61)) (by decide +kernel)) (by decide +kernel)
theorem cv_RX12_419 : CV RX12 RX12 419 yX12_bestSet cX12_bestSet 4 (some .int) 0 := ⟨Or.inl gw1016, gw1018, gw1019, gw692, gw1017, rfl, by decide +kernel, by decide⟩
theorem gw1020 : Cond.methodLink RX12 422 yX12_fits ∈ Gw := inGw (in_t7 (List.mem_of_getElem? (i := 206) (by decide +kernel))) (by decide +kernel)
theorem gw1021 : Cond.code yX12_fits cX12_fits 4 (some .boolean) ∈ Gw := inGw (in_t7 (List.mem_of_getElem? (i := 209) (by rfl))) (by decide +kernel)
theorem gw1022 : Cond.instanceMethod yX12_fits ∈ Gw := inGw (in_t7 (List.mem_of_getElem? (i := 208) (by decide +kernel))) (by decide +kernel)
theorem gw1023 : Cond.selects RX12 yX12_fits yX12_fits ∈ Gw := inGw (in_sel (q := (yX12_fits, 61)) (by decide +kernel)) (by decide +kernel)
theorem cv_RX12_422 : CV RX12 RX12 422 yX12_fits cX12_fits 4 (some .boolean) 2 := ⟨Or.inl gw1020, gw1022, gw1023, gw692, gw1021, rfl, by decide +kernel, by decide⟩
theorem gw1024 : Cond.fieldLink RX12 117 RX12 (TX12 55).2.1 (TX12 55).2.2.1 ∈ Gw := inGw (in_t5 (List.mem_of_getElem? (i := 196) (by decide +kernel))) (by decide +kernel)
theorem lf_RX12_117 : LF RX12 117 RX12 TX12 61 55 true := ⟨by decide, rfl, rfl, Or.inl gw1024⟩
theorem fR_55_55 : FR 55 40 55 12 55 91 := by decide
theorem gw1025 : Cond.methodLink RX12 425 yX12_sumFrom ∈ Gw := inGw (in_t7 (List.mem_of_getElem? (i := 214) (by decide +kernel))) (by decide +kernel)
theorem gw1026 : Cond.code yX12_sumFrom cX12_sumFrom 5 (some .int) ∈ Gw := inGw (in_t7 (List.mem_of_getElem? (i := 217) (by rfl))) (by decide +kernel)
theorem gw1027 : Cond.instanceMethod yX12_sumFrom ∈ Gw := inGw (in_t7 (List.mem_of_getElem? (i := 216) (by decide +kernel))) (by decide +kernel)
theorem gw1028 : Cond.selects RX12 yX12_sumFrom yX12_sumFrom ∈ Gw := inGw (in_sel (q := (yX12_sumFrom, 61)) (by decide +kernel)) (by decide +kernel)
theorem cv_RX12_425 : CV RX12 RX12 425 yX12_sumFrom cX12_sumFrom 5 (some .int) 2 := ⟨Or.inl gw1025, gw1027, gw1028, gw692, gw1026, rfl, by decide +kernel, by decide⟩
theorem aF_91 : AI 55 40 91 144 := by decide
theorem gw1029 : Cond.methodLink RX12 428 yX12_worth ∈ Gw := inGw (in_t7 (List.mem_of_getElem? (i := 230) (by decide +kernel))) (by decide +kernel)
theorem gw1030 : Cond.code yX12_worth cX12_worth 4 (some .int) ∈ Gw := inGw (in_t7 (List.mem_of_getElem? (i := 233) (by rfl))) (by decide +kernel)
theorem gw1031 : Cond.instanceMethod yX12_worth ∈ Gw := inGw (in_t7 (List.mem_of_getElem? (i := 232) (by decide +kernel))) (by decide +kernel)
theorem gw1032 : Cond.selects RX12 yX12_worth yX12_worth ∈ Gw := inGw (in_sel (q := (yX12_worth, 61)) (by decide +kernel)) (by decide +kernel)
theorem cv_RX12_428 : CV RX12 RX12 428 yX12_worth cX12_worth 4 (some .int) 3 := ⟨Or.inl gw1029, gw1031, gw1032, gw692, gw1030, rfl, by decide +kernel, by decide⟩
theorem gw1033 : Cond.fieldLink RX12 120 RX12 (TX12 56).2.1 (TX12 56).2.2.1 ∈ Gw := inGw (in_t5 (List.mem_of_getElem? (i := 197) (by decide +kernel))) (by decide +kernel)
theorem lf_RX12_120 : LF RX12 120 RX12 TX12 61 56 true := ⟨by decide, rfl, rfl, Or.inl gw1033⟩
theorem fR_55_56 : FR 55 40 55 12 56 92 := by decide
theorem gw1034 : Cond.methodLink RX12 431 yX12_bothWould ∈ Gw := inGw (in_t7 (List.mem_of_getElem? (i := 226) (by decide +kernel))) (by decide +kernel)
theorem gw1035 : Cond.code yX12_bothWould cX12_bothWould 4 (some .boolean) ∈ Gw := inGw (in_t7 (List.mem_of_getElem? (i := 229) (by rfl))) (by decide +kernel)
theorem gw1036 : Cond.instanceMethod yX12_bothWould ∈ Gw := inGw (in_t7 (List.mem_of_getElem? (i := 228) (by decide +kernel))) (by decide +kernel)
theorem gw1037 : Cond.selects RX12 yX12_bothWould yX12_bothWould ∈ Gw := inGw (in_sel (q := (yX12_bothWould, 61)) (by decide +kernel)) (by decide +kernel)
theorem cv_RX12_431 : CV RX12 RX12 431 yX12_bothWould cX12_bothWould 4 (some .boolean) 3 := ⟨Or.inl gw1034, gw1036, gw1037, gw692, gw1035, rfl, by decide +kernel, by decide⟩
theorem aF_92 : AI 55 40 92 256 := by decide
theorem gw1038 : Cond.methodLink RX12 434 yX12_mostAtOnce ∈ Gw := inGw (in_t7 (List.mem_of_getElem? (i := 222) (by decide +kernel))) (by decide +kernel)
theorem gw1039 : Cond.code yX12_mostAtOnce cX12_mostAtOnce 6 (some .int) ∈ Gw := inGw (in_t7 (List.mem_of_getElem? (i := 225) (by rfl))) (by decide +kernel)
theorem gw1040 : Cond.instanceMethod yX12_mostAtOnce ∈ Gw := inGw (in_t7 (List.mem_of_getElem? (i := 224) (by decide +kernel))) (by decide +kernel)
theorem gw1041 : Cond.selects RX12 yX12_mostAtOnce yX12_mostAtOnce ∈ Gw := inGw (in_sel (q := (yX12_mostAtOnce, 61)) (by decide +kernel)) (by decide +kernel)
theorem cv_RX12_434 : CV RX12 RX12 434 yX12_mostAtOnce cX12_mostAtOnce 6 (some .int) 1 := ⟨Or.inl gw1038, gw1040, gw1041, gw692, gw1039, rfl, by decide +kernel, by decide⟩
theorem gw1042 : Cond.methodLink RX12 437 yX12_laysSale ∈ Gw := inGw (in_t7 (List.mem_of_getElem? (i := 238) (by decide +kernel))) (by decide +kernel)
theorem gw1043 : Cond.code yX12_laysSale cX12_laysSale 5 none ∈ Gw := inGw (in_t8 (List.mem_of_getElem? (i := 1) (by rfl))) (by decide +kernel)
theorem gw1044 : Cond.instanceMethod yX12_laysSale ∈ Gw := inGw (in_t8 (List.mem_of_getElem? (i := 0) (by decide +kernel))) (by decide +kernel)
theorem gw1045 : Cond.selects RX12 yX12_laysSale yX12_laysSale ∈ Gw := inGw (in_sel (q := (yX12_laysSale, 61)) (by decide +kernel)) (by decide +kernel)
theorem cv_RX12_437 : CV RX12 RX12 437 yX12_laysSale cX12_laysSale 5 none 1 := ⟨Or.inl gw1042, gw1044, gw1045, gw692, gw1043, rfl, by decide +kernel, by decide⟩
theorem gw1046 : Cond.fieldLink RX12 123 RX12 (TX12 57).2.1 (TX12 57).2.2.1 ∈ Gw := inGw (in_t5 (List.mem_of_getElem? (i := 198) (by decide +kernel))) (by decide +kernel)
theorem lf_RX12_123 : LF RX12 123 RX12 TX12 61 57 true := ⟨by decide, rfl, rfl, Or.inl gw1046⟩
theorem fR_55_57 : FR 55 40 55 12 57 93 := by decide
theorem gw1047 : Cond.fieldLink RX12 127 RX12 (TX12 58).2.1 (TX12 58).2.2.1 ∈ Gw := inGw (in_t5 (List.mem_of_getElem? (i := 199) (by decide +kernel))) (by decide +kernel)
theorem lf_RX12_127 : LF RX12 127 RX12 TX12 61 58 true := ⟨by decide, rfl, rfl, Or.inl gw1047⟩
theorem fR_55_58 : FR 55 40 55 12 58 94 := by decide
theorem aF_94 : AJ 55 40 94 13 := by decide
theorem aF_93 : AJ 55 40 93 13 := by decide
theorem gw1048 : Cond.constantLong RX12 440 (-1) ∈ Gw := inGw (in_t8 (List.mem_of_getElem? (i := 6) (by decide +kernel))) (by decide +kernel)
theorem gw1049 : Cond.methodLink RX12 442 yX12_areClear ∈ Gw := inGw (in_t8 (List.mem_of_getElem? (i := 15) (by decide +kernel))) (by decide +kernel)
theorem gw1050 : Cond.code yX12_areClear cX12_areClear 4 (some .boolean) ∈ Gw := inGw (in_t8 (List.mem_of_getElem? (i := 17) (by rfl))) (by decide +kernel)
theorem gw1051 : Cond.static yX12_areClear ∈ Gw := inGw (in_t8 (List.mem_of_getElem? (i := 16) (by decide +kernel))) (by decide +kernel)
theorem cs_RX12_442 : CS RX12 RX12 442 yX12_areClear cX12_areClear 4 (some .boolean) 3 := ⟨Or.inl gw1049, gw1051, gw692, gw1050, rfl, by decide +kernel, by decide⟩
theorem gw1052 : Cond.methodLink RX12 445 yX12_tallFrom ∈ Gw := inGw (in_t8 (List.mem_of_getElem? (i := 11) (by decide +kernel))) (by decide +kernel)
theorem gw1053 : Cond.code yX12_tallFrom cX12_tallFrom 6 (some .int) ∈ Gw := inGw (in_t8 (List.mem_of_getElem? (i := 14) (by rfl))) (by decide +kernel)
theorem gw1054 : Cond.instanceMethod yX12_tallFrom ∈ Gw := inGw (in_t8 (List.mem_of_getElem? (i := 13) (by decide +kernel))) (by decide +kernel)
theorem gw1055 : Cond.selects RX12 yX12_tallFrom yX12_tallFrom ∈ Gw := inGw (in_sel (q := (yX12_tallFrom, 61)) (by decide +kernel)) (by decide +kernel)
theorem cv_RX12_445 : CV RX12 RX12 445 yX12_tallFrom cX12_tallFrom 6 (some .int) 4 := ⟨Or.inl gw1052, gw1054, gw1055, gw692, gw1053, rfl, by decide +kernel, by decide⟩
theorem gw1056 : Cond.methodLink RX12 449 yX12_hasBy ∈ Gw := inGw (in_t8 (List.mem_of_getElem? (i := 22) (by decide +kernel))) (by decide +kernel)
theorem gw1057 : Cond.code yX12_hasBy cX12_hasBy 5 (some .int) ∈ Gw := inGw (in_t8 (List.mem_of_getElem? (i := 25) (by rfl))) (by decide +kernel)
theorem gw1058 : Cond.instanceMethod yX12_hasBy ∈ Gw := inGw (in_t8 (List.mem_of_getElem? (i := 24) (by decide +kernel))) (by decide +kernel)
theorem gw1059 : Cond.selects RX12 yX12_hasBy yX12_hasBy ∈ Gw := inGw (in_sel (q := (yX12_hasBy, 61)) (by decide +kernel)) (by decide +kernel)
theorem cv_RX12_449 : CV RX12 RX12 449 yX12_hasBy cX12_hasBy 5 (some .int) 2 := ⟨Or.inl gw1056, gw1058, gw1059, gw692, gw1057, rfl, by decide +kernel, by decide⟩
theorem gw1060 : Cond.fieldLink RX12 16 RX12 (TX12 2).2.1 (TX12 2).2.2.1 ∈ Gw := inGw (in_t5 (List.mem_of_getElem? (i := 143) (by decide +kernel))) (by decide +kernel)
theorem lf_RX12_16 : LF RX12 16 RX12 TX12 61 2 true := ⟨by decide, rfl, rfl, Or.inl gw1060⟩
theorem fR_55_2 : FR 55 40 55 12 2 58 := by decide
theorem gw1061 : Cond.fieldLink RX12 452 RX12 (TX12 59).2.1 (TX12 59).2.2.1 ∈ Gw := inGw (in_t5 (List.mem_of_getElem? (i := 200) (by decide +kernel))) (by decide +kernel)
theorem lf_RX12_452 : LF RX12 452 RX12 TX12 61 59 false := ⟨by decide, rfl, rfl, Or.inl gw1061⟩
theorem fI_55_59 : FI 55 40 55 12 59 := by decide
theorem gw1062 : Cond.fieldLink RX12 456 RX12 (TX12 60).2.1 (TX12 60).2.2.1 ∈ Gw := inGw (in_t5 (List.mem_of_getElem? (i := 201) (by decide +kernel))) (by decide +kernel)
theorem lf_RX12_456 : LF RX12 456 RX12 TX12 61 60 false := ⟨by decide, rfl, rfl, Or.inl gw1062⟩
theorem fI_55_60 : FI 55 40 55 12 60 := by decide
theorem aF_58 : AI 55 40 58 21 := by decide
