theorem zcl0 : zCl 0 RX0 TX0 12 tyX0 := ⟨rfl, rfl, by decide +kernel, tyX0_ok, nmX0, by decide⟩
theorem zdf0 : ∀ k, k < 12 → defaultValue (tyX0 k) = (if zrk 0 k = true then .null else .int 0) := by
  intro k hk
  rcases (show k = 0 ∨ k = 1 ∨ k = 2 ∨ k = 3 ∨ k = 4 ∨ k = 5 ∨ k = 6 ∨ k = 7 ∨ k = 8 ∨ k = 9 ∨ k = 10 ∨ k = 11 by omega) with rfl | rfl | rfl | rfl | rfl | rfl | rfl | rfl | rfl | rfl | rfl | rfl <;> rfl
theorem zcl1 : zCl 1 RX1 TX1 9 tyX1 := ⟨rfl, rfl, by decide +kernel, tyX1_ok, nmX1, by decide⟩
theorem zdf1 : ∀ k, k < 9 → defaultValue (tyX1 k) = (if zrk 1 k = true then .null else .int 0) := by
  intro k hk
  rcases (show k = 0 ∨ k = 1 ∨ k = 2 ∨ k = 3 ∨ k = 4 ∨ k = 5 ∨ k = 6 ∨ k = 7 ∨ k = 8 by omega) with rfl | rfl | rfl | rfl | rfl | rfl | rfl | rfl | rfl <;> rfl
theorem zcl2 : zCl 2 RX2 TX2 4 tyX2 := ⟨rfl, rfl, by decide +kernel, tyX2_ok, nmX2, by decide⟩
theorem zdf2 : ∀ k, k < 4 → defaultValue (tyX2 k) = (if zrk 2 k = true then .null else .int 0) := by
  intro k hk
  rcases (show k = 0 ∨ k = 1 ∨ k = 2 ∨ k = 3 by omega) with rfl | rfl | rfl | rfl <;> rfl
theorem zcl3 : zCl 3 RX3 TX3 6 tyX3 := ⟨rfl, rfl, by decide +kernel, tyX3_ok, nmX3, by decide⟩
theorem zdf3 : ∀ k, k < 6 → defaultValue (tyX3 k) = (if zrk 3 k = true then .null else .int 0) := by
  intro k hk
  rcases (show k = 0 ∨ k = 1 ∨ k = 2 ∨ k = 3 ∨ k = 4 ∨ k = 5 by omega) with rfl | rfl | rfl | rfl | rfl | rfl <;> rfl
theorem zcl4 : zCl 4 RX4 TX4 3 tyX4 := ⟨rfl, rfl, by decide +kernel, tyX4_ok, nmX4, by decide⟩
theorem zdf4 : ∀ k, k < 3 → defaultValue (tyX4 k) = (if zrk 4 k = true then .null else .int 0) := by
  intro k hk
  rcases (show k = 0 ∨ k = 1 ∨ k = 2 by omega) with rfl | rfl | rfl <;> rfl
theorem zcl5 : zCl 5 RX5 TX5 5 tyX5 := ⟨rfl, rfl, by decide +kernel, tyX5_ok, nmX5, by decide⟩
theorem zdf5 : ∀ k, k < 5 → defaultValue (tyX5 k) = (if zrk 5 k = true then .null else .int 0) := by
  intro k hk
  rcases (show k = 0 ∨ k = 1 ∨ k = 2 ∨ k = 3 ∨ k = 4 by omega) with rfl | rfl | rfl | rfl | rfl <;> rfl
theorem zcl6 : zCl 6 RX6 TX6 12 tyX6 := ⟨rfl, rfl, by decide +kernel, tyX6_ok, nmX6, by decide⟩
theorem zdf6 : ∀ k, k < 12 → defaultValue (tyX6 k) = (if zrk 6 k = true then .null else .int 0) := by
  intro k hk
  rcases (show k = 0 ∨ k = 1 ∨ k = 2 ∨ k = 3 ∨ k = 4 ∨ k = 5 ∨ k = 6 ∨ k = 7 ∨ k = 8 ∨ k = 9 ∨ k = 10 ∨ k = 11 by omega) with rfl | rfl | rfl | rfl | rfl | rfl | rfl | rfl | rfl | rfl | rfl | rfl <;> rfl
theorem zcl7 : zCl 7 RX7 TX7 39 tyX7 := ⟨rfl, rfl, by decide +kernel, tyX7_ok, nmX7, by decide⟩
theorem zdf7 : ∀ k, k < 39 → defaultValue (tyX7 k) = (if zrk 7 k = true then .null else .int 0) := by
  intro k hk
  rcases (show k = 0 ∨ k = 1 ∨ k = 2 ∨ k = 3 ∨ k = 4 ∨ k = 5 ∨ k = 6 ∨ k = 7 ∨ k = 8 ∨ k = 9 ∨ k = 10 ∨ k = 11 ∨ k = 12 ∨ k = 13 ∨ k = 14 ∨ k = 15 ∨ k = 16 ∨ k = 17 ∨ k = 18 ∨ k = 19 ∨ k = 20 ∨ k = 21 ∨ k = 22 ∨ k = 23 ∨ k = 24 ∨ k = 25 ∨ k = 26 ∨ k = 27 ∨ k = 28 ∨ k = 29 ∨ k = 30 ∨ k = 31 ∨ k = 32 ∨ k = 33 ∨ k = 34 ∨ k = 35 ∨ k = 36 ∨ k = 37 ∨ k = 38 by omega) with rfl | rfl | rfl | rfl | rfl | rfl | rfl | rfl | rfl | rfl | rfl | rfl | rfl | rfl | rfl | rfl | rfl | rfl | rfl | rfl | rfl | rfl | rfl | rfl | rfl | rfl | rfl | rfl | rfl | rfl | rfl | rfl | rfl | rfl | rfl | rfl | rfl | rfl | rfl <;> rfl
theorem kw_ai : Cond.arrayClass .int ∈ zTb := zmem 105 (by decide +kernel) rfl
theorem kw_az : Cond.arrayClass .boolean ∈ zTb := zmem 314 (by decide +kernel) rfl
theorem kw_aj : Cond.arrayClass .long ∈ zTb := zmem 1544 (by decide +kernel) rfl
theorem kw_o1 : Cond.instanceMethod Lib.objectInit ∈ zTb := zmem 86 (by decide +kernel) rfl
theorem kw_o2 : Cond.code Lib.objectInit ⟨#[0xb1]⟩ 1 none ∈ zTb := zmem 87 (by decide +kernel) rfl
theorem kw_m : Cond.initialized "java/lang/Math" ∈ zTb := zmem 71 (by decide +kernel) rfl
theorem kw_max1 : Cond.static Lib.Math.max.name ∈ zTb := zmem 255 (by decide +kernel) rfl
theorem kw_max2 : Cond.code Lib.Math.max.name Lib.Math.max.code 2 (some .int) ∈ zTb := zmem 256 (by decide +kernel) rfl
theorem kw_min1 : Cond.static Lib.Math.min.name ∈ zTb := zmem 252 (by decide +kernel) rfl
theorem kw_min2 : Cond.code Lib.Math.min.name Lib.Math.min.code 2 (some .int) ∈ zTb := zmem 253 (by decide +kernel) rfl
theorem kw_c1 : Cond.native arraycopyName ∈ zTb := zmem 325 (by decide +kernel) rfl
theorem kw_c2 : Cond.static arraycopyName ∈ zTb := zmem 324 (by decide +kernel) rfl
theorem kw_c3 : Cond.initialized "java/lang/System" ∈ zTb := zmem 72 (by decide +kernel) rfl
theorem fl_RX4_23 : zFL RX4 23 4 2 .int false := ⟨_, _, _, _, zcl4, by decide, (zmem 97 (by decide +kernel) rfl), rfl, rfl, fun h => nomatch h⟩
theorem fl_RX4_15 : zFL RX4 15 4 1 .int false := ⟨_, _, _, _, zcl4, by decide, (zmem 95 (by decide +kernel) rfl), rfl, rfl, fun h => nomatch h⟩
theorem fl_RX4_9 : zFL RX4 9 4 0 (.array .int) true := ⟨_, _, _, _, zcl4, by decide, (zmem 94 (by decide +kernel) rfl), rfl, rfl, fun _ => rfl⟩
theorem cw_X4_shownSign : Cond.code yX4_shownSign cX4_shownSign 1 (some .int) ∈ zTb := zmem 416 (by decide +kernel) rfl
theorem mv_RX4_30 : zMeV RX4 30 RX4 yX4_shownSign 0 := ⟨(zmem 413 (by decide +kernel) rfl), (zmem 415 (by decide +kernel) rfl), (zmem 8 (by decide +kernel) rfl), (zmem 65 (by decide +kernel) rfl), rfl, by decide, by decide, by decide +kernel⟩
theorem cw_X4_shownDigit : Cond.code yX4_shownDigit cX4_shownDigit 2 (some .int) ∈ zTb := zmem 424 (by decide +kernel) rfl
theorem mv_RX4_61 : zMeV RX4 61 RX4 yX4_shownDigit 0 := ⟨(zmem 421 (by decide +kernel) rfl), (zmem 423 (by decide +kernel) rfl), (zmem 10 (by decide +kernel) rfl), (zmem 65 (by decide +kernel) rfl), rfl, by decide, by decide, by decide +kernel⟩
theorem cw_X4_readDigit : Cond.code yX4_readDigit cX4_readDigit 4 (some .int) ∈ zTb := zmem 420 (by decide +kernel) rfl
theorem mv_RX4_44 : zMeV RX4 44 RX4 yX4_readDigit 2 := ⟨(zmem 417 (by decide +kernel) rfl), (zmem 419 (by decide +kernel) rfl), (zmem 9 (by decide +kernel) rfl), (zmem 65 (by decide +kernel) rfl), rfl, by decide, by decide, by decide +kernel⟩
theorem fl_RX0_50 : zFL RX0 50 0 8 .int false := ⟨_, _, _, _, zcl0, by decide, (zmem 278 (by decide +kernel) rfl), rfl, rfl, fun h => nomatch h⟩
theorem fl_RX3_22 : zFL RX3 22 3 2 .int false := ⟨_, _, _, _, zcl3, by decide, (zmem 219 (by decide +kernel) rfl), rfl, rfl, fun h => nomatch h⟩
theorem fl_RX3_11 : zFL RX3 11 3 0 (.array (.object "ClipboardHistory$Entry")) true := ⟨_, _, _, _, zcl3, by decide, (zmem 215 (by decide +kernel) rfl), rfl, rfl, fun _ => rfl⟩
theorem fl_RX3_51 : zFL RX3 51 1 4 .int false := ⟨_, _, _, _, zcl1, by decide, (zmem 183 (by decide +kernel) rfl), rfl, rfl, fun h => nomatch h⟩
theorem fl_RX6_57 : zFL RX6 57 6 9 (.object "ClipboardHistory$Board") false := ⟨_, _, _, _, zcl6, by decide, (zmem 365 (by decide +kernel) rfl), rfl, rfl, fun h => nomatch h⟩
theorem fl_RX6_100 : zFL RX6 100 0 8 .int false := ⟨_, _, _, _, zcl0, by decide, (zmem 279 (by decide +kernel) rfl), rfl, rfl, fun h => nomatch h⟩
theorem fl_RX6_97 : zFL RX6 97 0 9 .int false := ⟨_, _, _, _, zcl0, by decide, (zmem 284 (by decide +kernel) rfl), rfl, rfl, fun h => nomatch h⟩
theorem fl_RX6_103 : zFL RX6 103 0 10 .int false := ⟨_, _, _, _, zcl0, by decide, (zmem 286 (by decide +kernel) rfl), rfl, rfl, fun h => nomatch h⟩
theorem fl_RX6_36 : zFL RX6 36 6 4 (.object "ClipboardHistory$State") true := ⟨_, _, _, _, zcl6, by decide, (zmem 360 (by decide +kernel) rfl), rfl, rfl, fun _ => rfl⟩
theorem fl_RX6_106 : zFL RX6 106 3 2 .int false := ⟨_, _, _, _, zcl3, by decide, (zmem 220 (by decide +kernel) rfl), rfl, rfl, fun h => nomatch h⟩
theorem fl_RX6_109 : zFL RX6 109 3 5 .int false := ⟨_, _, _, _, zcl3, by decide, (zmem 226 (by decide +kernel) rfl), rfl, rfl, fun h => nomatch h⟩
theorem cw_X3_usedSize : Cond.code yX3_usedSize cX3_usedSize 3 (some .int) ∈ zTb := zmem 619 (by decide +kernel) rfl
theorem mv_RX6_112 : zMeV RX6 112 RX3 yX3_usedSize 0 := ⟨(zmem 616 (by decide +kernel) rfl), (zmem 617 (by decide +kernel) rfl), (zmem 618 (by decide +kernel) rfl), (zmem 68 (by decide +kernel) rfl), rfl, by decide, by decide, by decide +kernel⟩
theorem fl_RX6_116 : zFL RX6 116 3 3 .int false := ⟨_, _, _, _, zcl3, by decide, (zmem 222 (by decide +kernel) rfl), rfl, rfl, fun h => nomatch h⟩
theorem fl_RX6_119 : zFL RX6 119 3 4 .int false := ⟨_, _, _, _, zcl3, by decide, (zmem 224 (by decide +kernel) rfl), rfl, rfl, fun h => nomatch h⟩
theorem th_RX6_67_71 : zTh RX6 67 71 "java/lang/IllegalArgumentException" := ⟨(zmem 508 (by decide +kernel) rfl), (zmem 77 (by decide +kernel) rfl), by decide +kernel, by decide, by decide⟩
theorem sl_122 : (122, "what is not 0 to 7") ∈ zStr := by decide +kernel
theorem cw_X0_hasFormat : Cond.code yX0_hasFormat cX0_hasFormat 2 (some .boolean) ∈ zTb := zmem 449 (by decide +kernel) rfl
theorem th_RX6_337_341 : zTh RX6 337 341 "java/lang/IndexOutOfBoundsException" := ⟨(zmem 633 (by decide +kernel) rfl), (zmem 79 (by decide +kernel) rfl), by decide +kernel, by decide, by decide⟩
theorem sl_387 : (387, "there is no such format") ∈ zStr := by decide +kernel
theorem mv_RX6_384 : zMeV RX6 384 RX0 yX0_hasFormat 1 := ⟨(zmem 702 (by decide +kernel) rfl), (zmem 447 (by decide +kernel) rfl), (zmem 448 (by decide +kernel) rfl), (zmem 70 (by decide +kernel) rfl), rfl, by decide, by decide, by decide +kernel⟩
theorem fl_RX1_18 : zFL RX1 18 1 2 .int false := ⟨_, _, _, _, zcl1, by decide, (zmem 178 (by decide +kernel) rfl), rfl, rfl, fun h => nomatch h⟩
theorem fl_RX1_9 : zFL RX1 9 1 0 (.array .int) true := ⟨_, _, _, _, zcl1, by decide, (zmem 171 (by decide +kernel) rfl), rfl, rfl, fun _ => rfl⟩
theorem ac_RX1_45 : Cond.methodLink RX1 45 arraycopyName ∈ zTb := zmem 749 (by decide +kernel) rfl
theorem fl_RX1_15 : zFL RX1 15 1 1 (.array .int) true := ⟨_, _, _, _, zcl1, by decide, (zmem 175 (by decide +kernel) rfl), rfl, rfl, fun _ => rfl⟩
theorem fl_RX1_22 : zFL RX1 22 1 3 .int false := ⟨_, _, _, _, zcl1, by decide, (zmem 180 (by decide +kernel) rfl), rfl, rfl, fun h => nomatch h⟩
theorem fl_RX1_25 : zFL RX1 25 1 4 .int false := ⟨_, _, _, _, zcl1, by decide, (zmem 182 (by decide +kernel) rfl), rfl, rfl, fun h => nomatch h⟩
theorem fl_RX1_28 : zFL RX1 28 1 5 .boolean false := ⟨_, _, _, _, zcl1, by decide, (zmem 185 (by decide +kernel) rfl), rfl, rfl, fun h => nomatch h⟩
theorem fl_RX1_32 : zFL RX1 32 1 6 .int false := ⟨_, _, _, _, zcl1, by decide, (zmem 188 (by decide +kernel) rfl), rfl, rfl, fun h => nomatch h⟩
theorem fl_RX1_35 : zFL RX1 35 1 7 .int false := ⟨_, _, _, _, zcl1, by decide, (zmem 191 (by decide +kernel) rfl), rfl, rfl, fun h => nomatch h⟩
theorem fl_RX3_26 : zFL RX3 26 3 3 .int false := ⟨_, _, _, _, zcl3, by decide, (zmem 221 (by decide +kernel) rfl), rfl, rfl, fun h => nomatch h⟩
theorem fl_RX3_29 : zFL RX3 29 3 4 .int false := ⟨_, _, _, _, zcl3, by decide, (zmem 223 (by decide +kernel) rfl), rfl, rfl, fun h => nomatch h⟩
theorem fl_RX3_37 : zFL RX3 37 3 5 .int false := ⟨_, _, _, _, zcl3, by decide, (zmem 225 (by decide +kernel) rfl), rfl, rfl, fun h => nomatch h⟩
theorem fl_RX3_17 : zFL RX3 17 3 1 (.array .int) true := ⟨_, _, _, _, zcl3, by decide, (zmem 217 (by decide +kernel) rfl), rfl, rfl, fun _ => rfl⟩
theorem ac_RX3_41 : Cond.methodLink RX3 41 arraycopyName ∈ zTb := zmem 323 (by decide +kernel) rfl
theorem cw_X1_takeOver : Cond.code yX1_takeOver cX1_takeOver 2 none ∈ zTb := zmem 748 (by decide +kernel) rfl
theorem mv_RX3_47 : zMeV RX3 47 RX1 yX1_takeOver 1 := ⟨(zmem 745 (by decide +kernel) rfl), (zmem 746 (by decide +kernel) rfl), (zmem 747 (by decide +kernel) rfl), (zmem 69 (by decide +kernel) rfl), rfl, by decide, by decide, by decide +kernel⟩
