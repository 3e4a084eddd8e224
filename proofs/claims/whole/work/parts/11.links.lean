theorem zcl0 : zCl 0 RX0 TX0 12 tyX0 := ⟨rfl, rfl, by decide +kernel, tyX0_ok, nmX0, by decide⟩
theorem zdf0 : ∀ k, k < 12 → defaultValue (tyX0 k) = (if zrk 0 k = true then .null else .int 0) := by
  intro k hk
  rcases (show k = 0 ∨ k = 1 ∨ k = 2 ∨ k = 3 ∨ k = 4 ∨ k = 5 ∨ k = 6 ∨ k = 7 ∨ k = 8 ∨ k = 9 ∨ k = 10 ∨ k = 11 by omega) with rfl | rfl | rfl | rfl | rfl | rfl | rfl | rfl | rfl | rfl | rfl | rfl <;> rfl
theorem zcl1 : zCl 1 RX1 TX1 9 tyX1 := ⟨rfl, rfl, by decide +kernel, tyX1_ok, nmX1, by decide⟩
theorem zdf1 : ∀ k, k < 9 → defaultValue (tyX1 k) = (if zrk 1 k = true then .null else .int 0) := by
  intro k hk
  rcases (show k = 0 ∨ k = 1 ∨ k = 2 ∨ k = 3 ∨ k = 4 ∨ k = 5 ∨ k = 6 ∨ k = 7 ∨ k = 8 by omega) with rfl | rfl | rfl | rfl | rfl | rfl | rfl | rfl | rfl <;> rfl
theorem zcl2 : zCl 2 RX2 TX2 4 tyX2 := ⟨rfl, rfl, by decide +kernel, tyX2_ok, nmX2, by decide⟩
theorem zdf2 : ∀ k, k < 4 → defaultValue (tyX2 k) = (if zrk 2 k = true then .null else .int 0) := by
  intro k hk
  rcases (show k = 0 ∨ k = 1 ∨ k = 2 ∨ k = 3 by omega) with rfl | rfl | rfl | rfl <;> rfl
theorem zcl3 : zCl 3 RX3 TX3 6 tyX3 := ⟨rfl, rfl, by decide +kernel, tyX3_ok, nmX3, by decide⟩
theorem zdf3 : ∀ k, k < 6 → defaultValue (tyX3 k) = (if zrk 3 k = true then .null else .int 0) := by
  intro k hk
  rcases (show k = 0 ∨ k = 1 ∨ k = 2 ∨ k = 3 ∨ k = 4 ∨ k = 5 by omega) with rfl | rfl | rfl | rfl | rfl | rfl <;> rfl
theorem zcl4 : zCl 4 RX4 TX4 3 tyX4 := ⟨rfl, rfl, by decide +kernel, tyX4_ok, nmX4, by decide⟩
theorem zdf4 : ∀ k, k < 3 → defaultValue (tyX4 k) = (if zrk 4 k = true then .null else .int 0) := by
  intro k hk
  rcases (show k = 0 ∨ k = 1 ∨ k = 2 by omega) with rfl | rfl | rfl <;> rfl
theorem zcl5 : zCl 5 RX5 TX5 5 tyX5 := ⟨rfl, rfl, by decide +kernel, tyX5_ok, nmX5, by decide⟩
theorem zdf5 : ∀ k, k < 5 → defaultValue (tyX5 k) = (if zrk 5 k = true then .null else .int 0) := by
  intro k hk
  rcases (show k = 0 ∨ k = 1 ∨ k = 2 ∨ k = 3 ∨ k = 4 by omega) with rfl | rfl | rfl | rfl | rfl <;> rfl
theorem zcl6 : zCl 6 RX6 TX6 12 tyX6 := ⟨rfl, rfl, by decide +kernel, tyX6_ok, nmX6, by decide⟩
theorem zdf6 : ∀ k, k < 12 → defaultValue (tyX6 k) = (if zrk 6 k = true then .null else .int 0) := by
  intro k hk
  rcases (show k = 0 ∨ k = 1 ∨ k = 2 ∨ k = 3 ∨ k = 4 ∨ k = 5 ∨ k = 6 ∨ k = 7 ∨ k = 8 ∨ k = 9 ∨ k = 10 ∨ k = 11 by omega) with rfl | rfl | rfl | rfl | rfl | rfl | rfl | rfl | rfl | rfl | rfl | rfl <;> rfl
theorem zcl7 : zCl 7 RX7 TX7 39 tyX7 := ⟨rfl, rfl, by decide +kernel, tyX7_ok, nmX7, by decide⟩
theorem zdf7 : ∀ k, k < 39 → defaultValue (tyX7 k) = (if zrk 7 k = true then .null else .int 0) := by
  intro k hk
  rcases (show k = 0 ∨ k = 1 ∨ k = 2 ∨ k = 3 ∨ k = 4 ∨ k = 5 ∨ k = 6 ∨ k = 7 ∨ k = 8 ∨ k = 9 ∨ k = 10 ∨ k = 11 ∨ k = 12 ∨ k = 13 ∨ k = 14 ∨ k = 15 ∨ k = 16 ∨ k = 17 ∨ k = 18 ∨ k = 19 ∨ k = 20 ∨ k = 21 ∨ k = 22 ∨ k = 23 ∨ k = 24 ∨ k = 25 ∨ k = 26 ∨ k = 27 ∨ k = 28 ∨ k = 29 ∨ k = 30 ∨ k = 31 ∨ k = 32 ∨ k = 33 ∨ k = 34 ∨ k = 35 ∨ k = 36 ∨ k = 37 ∨ k = 38 by omega) with rfl | rfl | rfl | rfl | rfl | rfl | rfl | rfl | rfl | rfl | rfl | rfl | rfl | rfl | rfl | rfl | rfl | rfl | rfl | rfl | rfl | rfl | rfl | rfl | rfl | rfl | rfl | rfl | rfl | rfl | rfl | rfl | rfl | rfl | rfl | rfl | rfl | rfl | rfl <;> rfl
theorem kw_ai : Cond.arrayClass .int ∈ zTb := zmem 105 (by decide +kernel) rfl
theorem kw_az : Cond.arrayClass .boolean ∈ zTb := zmem 314 (by decide +kernel) rfl
theorem kw_aj : Cond.arrayClass .long ∈ zTb := zmem 1544 (by decide +kernel) rfl
theorem kw_o1 : Cond.instanceMethod Lib.objectInit ∈ zTb := zmem 86 (by decide +kernel) rfl
theorem kw_o2 : Cond.code Lib.objectInit ⟨#[0xb1]⟩ 1 none ∈ zTb := zmem 87 (by decide +kernel) rfl
theorem kw_m : Cond.initialized "java/lang/Math" ∈ zTb := zmem 71 (by decide +kernel) rfl
theorem kw_max1 : Cond.static Lib.Math.max.name ∈ zTb := zmem 255 (by decide +kernel) rfl
theorem kw_max2 : Cond.code Lib.Math.max.name Lib.Math.max.code 2 (some .int) ∈ zTb := zmem 256 (by decide +kernel) rfl
theorem kw_min1 : Cond.static Lib.Math.min.name ∈ zTb := zmem 252 (by decide +kernel) rfl
theorem kw_min2 : Cond.code Lib.Math.min.name Lib.Math.min.code 2 (some .int) ∈ zTb := zmem 253 (by decide +kernel) rfl
theorem kw_c1 : Cond.native arraycopyName ∈ zTb := zmem 325 (by decide +kernel) rfl
theorem kw_c2 : Cond.static arraycopyName ∈ zTb := zmem 324 (by decide +kernel) rfl
theorem kw_c3 : Cond.initialized "java/lang/System" ∈ zTb := zmem 72 (by decide +kernel) rfl
theorem oi_RX4_3 : Cond.methodLink RX4 3 Lib.objectInit ∈ zTb := zmem 93 (by decide +kernel) rfl
theorem fl_RX4_9 : zFL RX4 9 4 0 (.array .int) true := ⟨_, _, _, _, zcl4, by decide, (zmem 94 (by decide +kernel) rfl), rfl, rfl, fun _ => rfl⟩
theorem oi_RX2_3 : Cond.methodLink RX2 3 Lib.objectInit ∈ zTb := zmem 111 (by decide +kernel) rfl
theorem km_RX2_9 : Cond.classLink RX2 9 "[[I" ∈ zTb := zmem 112 (by decide +kernel) rfl
theorem fl_RX2_11 : zFL RX2 11 2 0 (.array (.array .int)) true := ⟨_, _, _, _, zcl2, by decide, (zmem 114 (by decide +kernel) rfl), rfl, rfl, fun _ => rfl⟩
theorem fl_RX2_16 : zFL RX2 16 2 1 (.array (.array .int)) true := ⟨_, _, _, _, zcl2, by decide, (zmem 115 (by decide +kernel) rfl), rfl, rfl, fun _ => rfl⟩
theorem fl_RX2_19 : zFL RX2 19 2 2 (.array (.array .int)) true := ⟨_, _, _, _, zcl2, by decide, (zmem 116 (by decide +kernel) rfl), rfl, rfl, fun _ => rfl⟩
theorem fl_RX2_22 : zFL RX2 22 2 3 (.array (.array .int)) true := ⟨_, _, _, _, zcl2, by decide, (zmem 117 (by decide +kernel) rfl), rfl, rfl, fun _ => rfl⟩
theorem oi_RX5_1 : Cond.methodLink RX5 1 Lib.objectInit ∈ zTb := zmem 132 (by decide +kernel) rfl
theorem oi_RX1_3 : Cond.methodLink RX1 3 Lib.objectInit ∈ zTb := zmem 170 (by decide +kernel) rfl
theorem fl_RX1_9 : zFL RX1 9 1 0 (.array .int) true := ⟨_, _, _, _, zcl1, by decide, (zmem 171 (by decide +kernel) rfl), rfl, rfl, fun _ => rfl⟩
theorem fl_RX1_15 : zFL RX1 15 1 1 (.array .int) true := ⟨_, _, _, _, zcl1, by decide, (zmem 175 (by decide +kernel) rfl), rfl, rfl, fun _ => rfl⟩
theorem oi_RX3_3 : Cond.methodLink RX3 3 Lib.objectInit ∈ zTb := zmem 163 (by decide +kernel) rfl
theorem kq_RX3_9 : Cond.classLink RX3 9 RX1 ∈ zTb := zmem 164 (by decide +kernel) rfl
theorem fl_RX3_11 : zFL RX3 11 3 0 (.array (.object "ClipboardHistory$Entry")) true := ⟨_, _, _, _, zcl3, by decide, (zmem 215 (by decide +kernel) rfl), rfl, rfl, fun _ => rfl⟩
theorem fl_RX3_17 : zFL RX3 17 3 1 (.array .int) true := ⟨_, _, _, _, zcl3, by decide, (zmem 217 (by decide +kernel) rfl), rfl, rfl, fun _ => rfl⟩
theorem nw_RX3_9 : zNew RX3 9 1 := ⟨_, _, _, _, zcl1, (zmem 164 (by decide +kernel) rfl), (zmem 166 (by decide +kernel) rfl), (zmem 69 (by decide +kernel) rfl), zdf1⟩
theorem cw_X1_init : Cond.code yX1_init cX1_init 1 none ∈ zTb := zmem 169 (by decide +kernel) rfl
theorem mn_RX3_21 : zMeN RX3 21 yX1_init RX6 0 := ⟨by decide +kernel, (zmem 168 (by decide +kernel) rfl), (zmem 69 (by decide +kernel) rfl), rfl, by decide, by decide, by decide +kernel⟩
theorem mm_RX0_41 : Cond.methodLink RX0 41 Lib.Math.min.name ∈ zTb := zmem 251 (by decide +kernel) rfl
theorem mm_RX0_47 : Cond.methodLink RX0 47 Lib.Math.max.name ∈ zTb := zmem 254 (by decide +kernel) rfl
theorem fl_RX0_50 : zFL RX0 50 0 8 .int false := ⟨_, _, _, _, zcl0, by decide, (zmem 278 (by decide +kernel) rfl), rfl, rfl, fun h => nomatch h⟩
theorem fl_RX0_54 : zFL RX0 54 0 11 .int false := ⟨_, _, _, _, zcl0, by decide, (zmem 287 (by decide +kernel) rfl), rfl, rfl, fun h => nomatch h⟩
theorem fl_RX0_57 : zFL RX0 57 0 9 .int false := ⟨_, _, _, _, zcl0, by decide, (zmem 283 (by decide +kernel) rfl), rfl, rfl, fun h => nomatch h⟩
theorem fl_RX0_60 : zFL RX0 60 0 10 .int false := ⟨_, _, _, _, zcl0, by decide, (zmem 285 (by decide +kernel) rfl), rfl, rfl, fun h => nomatch h⟩
theorem fl_RX0_33 : zFL RX0 33 0 7 (.array .boolean) true := ⟨_, _, _, _, zcl0, by decide, (zmem 276 (by decide +kernel) rfl), rfl, rfl, fun _ => rfl⟩
theorem oi_RX0_3 : Cond.methodLink RX0 3 Lib.objectInit ∈ zTb := zmem 246 (by decide +kernel) rfl
theorem fl_RX0_9 : zFL RX0 9 0 0 (.array .int) true := ⟨_, _, _, _, zcl0, by decide, (zmem 257 (by decide +kernel) rfl), rfl, rfl, fun _ => rfl⟩
theorem fl_RX0_15 : zFL RX0 15 0 1 (.array .int) true := ⟨_, _, _, _, zcl0, by decide, (zmem 260 (by decide +kernel) rfl), rfl, rfl, fun _ => rfl⟩
theorem fl_RX0_18 : zFL RX0 18 0 2 (.array .int) true := ⟨_, _, _, _, zcl0, by decide, (zmem 263 (by decide +kernel) rfl), rfl, rfl, fun _ => rfl⟩
theorem fl_RX0_21 : zFL RX0 21 0 3 (.array .int) true := ⟨_, _, _, _, zcl0, by decide, (zmem 265 (by decide +kernel) rfl), rfl, rfl, fun _ => rfl⟩
theorem fl_RX0_24 : zFL RX0 24 0 4 (.array .int) true := ⟨_, _, _, _, zcl0, by decide, (zmem 267 (by decide +kernel) rfl), rfl, rfl, fun _ => rfl⟩
theorem fl_RX0_27 : zFL RX0 27 0 5 (.array .int) true := ⟨_, _, _, _, zcl0, by decide, (zmem 270 (by decide +kernel) rfl), rfl, rfl, fun _ => rfl⟩
theorem fl_RX0_30 : zFL RX0 30 0 6 (.array .int) true := ⟨_, _, _, _, zcl0, by decide, (zmem 273 (by decide +kernel) rfl), rfl, rfl, fun _ => rfl⟩
theorem cw_X0_begin : Cond.code yX0_begin cX0_begin 4 none ∈ zTb := zmem 250 (by decide +kernel) rfl
theorem mv_RX0_37 : zMeV RX0 37 RX0 yX0_begin 2 := ⟨(zmem 247 (by decide +kernel) rfl), (zmem 248 (by decide +kernel) rfl), (zmem 249 (by decide +kernel) rfl), (zmem 70 (by decide +kernel) rfl), rfl, by decide, by decide, by decide +kernel⟩
theorem fl_RX3_22 : zFL RX3 22 3 2 .int false := ⟨_, _, _, _, zcl3, by decide, (zmem 219 (by decide +kernel) rfl), rfl, rfl, fun h => nomatch h⟩
theorem fl_RX3_26 : zFL RX3 26 3 3 .int false := ⟨_, _, _, _, zcl3, by decide, (zmem 221 (by decide +kernel) rfl), rfl, rfl, fun h => nomatch h⟩
theorem fl_RX3_29 : zFL RX3 29 3 4 .int false := ⟨_, _, _, _, zcl3, by decide, (zmem 223 (by decide +kernel) rfl), rfl, rfl, fun h => nomatch h⟩
theorem fl_RX3_32 : zFL RX3 32 0 11 .int false := ⟨_, _, _, _, zcl0, by decide, (zmem 288 (by decide +kernel) rfl), rfl, rfl, fun h => nomatch h⟩
theorem fl_RX3_37 : zFL RX3 37 3 5 .int false := ⟨_, _, _, _, zcl3, by decide, (zmem 225 (by decide +kernel) rfl), rfl, rfl, fun h => nomatch h⟩
theorem fr_RX3_38 : zFR RX3 38 0 2 := ⟨_, _, _, _, zcl0, by decide, (zmem 264 (by decide +kernel) rfl)⟩
theorem ac_RX3_41 : Cond.methodLink RX3 41 arraycopyName ∈ zTb := zmem 323 (by decide +kernel) rfl
theorem kc_RX2_48 : Cond.constant RX2 48 (1000000) ∈ zTb := zmem 338 (by decide +kernel) rfl
theorem mm_RX2_49 : Cond.methodLink RX2 49 Lib.Math.min.name ∈ zTb := zmem 343 (by decide +kernel) rfl
theorem cw_X2_connects : Cond.code yX2_connects cX2_connects 3 (some .boolean) ∈ zTb := zmem 351 (by decide +kernel) rfl
theorem cw_X2_lowestFirstStep : Cond.code yX2_lowestFirstStep cX2_lowestFirstStep 4 (some .int) ∈ zTb := zmem 355 (by decide +kernel) rfl
theorem mv_RX2_59 : zMeV RX2 59 RX2 yX2_lowestFirstStep 2 := ⟨(zmem 352 (by decide +kernel) rfl), (zmem 354 (by decide +kernel) rfl), (zmem 5 (by decide +kernel) rfl), (zmem 66 (by decide +kernel) rfl), rfl, by decide, by decide, by decide +kernel⟩
theorem mv_RX2_55 : zMeV RX2 55 RX2 yX2_connects 2 := ⟨(zmem 348 (by decide +kernel) rfl), (zmem 349 (by decide +kernel) rfl), (zmem 350 (by decide +kernel) rfl), (zmem 66 (by decide +kernel) rfl), rfl, by decide, by decide, by decide +kernel⟩
theorem cw_X2_clearSteps : Cond.code yX2_clearSteps cX2_clearSteps 3 none ∈ zTb := zmem 337 (by decide +kernel) rfl
theorem fl_RX2_28 : zFL RX2 28 0 9 .int false := ⟨_, _, _, _, zcl0, by decide, (zmem 282 (by decide +kernel) rfl), rfl, rfl, fun h => nomatch h⟩
theorem fr_RX2_34 : zFR RX2 34 0 0 := ⟨_, _, _, _, zcl0, by decide, (zmem 258 (by decide +kernel) rfl)⟩
theorem fr_RX2_38 : zFR RX2 38 0 1 := ⟨_, _, _, _, zcl0, by decide, (zmem 261 (by decide +kernel) rfl)⟩
theorem cw_X2_shortenBy : Cond.code yX2_shortenBy cX2_shortenBy 4 none ∈ zTb := zmem 342 (by decide +kernel) rfl
theorem mv_RX2_41 : zMeV RX2 41 RX2 yX2_shortenBy 1 := ⟨(zmem 339 (by decide +kernel) rfl), (zmem 341 (by decide +kernel) rfl), (zmem 3 (by decide +kernel) rfl), (zmem 66 (by decide +kernel) rfl), rfl, by decide, by decide, by decide +kernel⟩
theorem cw_X2_chooseFirstSteps : Cond.code yX2_chooseFirstSteps cX2_chooseFirstSteps 3 none ∈ zTb := zmem 347 (by decide +kernel) rfl
theorem mv_RX2_45 : zMeV RX2 45 RX2 yX2_chooseFirstSteps 0 := ⟨(zmem 344 (by decide +kernel) rfl), (zmem 346 (by decide +kernel) rfl), (zmem 4 (by decide +kernel) rfl), (zmem 66 (by decide +kernel) rfl), rfl, by decide, by decide, by decide +kernel⟩
theorem mv_RX2_25 : zMeV RX2 25 RX2 yX2_clearSteps 0 := ⟨(zmem 334 (by decide +kernel) rfl), (zmem 336 (by decide +kernel) rfl), (zmem 2 (by decide +kernel) rfl), (zmem 66 (by decide +kernel) rfl), rfl, by decide, by decide, by decide +kernel⟩
theorem fl_RX6_19 : zFL RX6 19 6 1 (.object "ClipboardHistory$Paths") true := ⟨_, _, _, _, zcl6, by decide, (zmem 357 (by decide +kernel) rfl), rfl, rfl, fun _ => rfl⟩
theorem fl_RX6_57 : zFL RX6 57 6 9 (.object "ClipboardHistory$Board") false := ⟨_, _, _, _, zcl6, by decide, (zmem 365 (by decide +kernel) rfl), rfl, rfl, fun h => nomatch h⟩
theorem fl_RX6_36 : zFL RX6 36 6 4 (.object "ClipboardHistory$State") true := ⟨_, _, _, _, zcl6, by decide, (zmem 360 (by decide +kernel) rfl), rfl, rfl, fun _ => rfl⟩
theorem fr_RX6_134 : zFR RX6 134 3 1 := ⟨_, _, _, _, zcl3, by decide, (zmem 218 (by decide +kernel) rfl)⟩
theorem cw_X2_find : Cond.code yX2_find cX2_find 7 none ∈ zTb := zmem 333 (by decide +kernel) rfl
theorem mv_RX6_302 : zMeV RX6 302 RX2 yX2_find 3 := ⟨(zmem 330 (by decide +kernel) rfl), (zmem 331 (by decide +kernel) rfl), (zmem 332 (by decide +kernel) rfl), (zmem 66 (by decide +kernel) rfl), rfl, by decide, by decide, by decide +kernel⟩
theorem cw_X3_begin : Cond.code yX3_begin cX3_begin 2 none ∈ zTb := zmem 322 (by decide +kernel) rfl
theorem fl_RX6_266 : zFL RX6 266 6 11 .int false := ⟨_, _, _, _, zcl6, by decide, (zmem 367 (by decide +kernel) rfl), rfl, rfl, fun h => nomatch h⟩
theorem fl_RX6_50 : zFL RX6 50 6 8 (.array .boolean) true := ⟨_, _, _, _, zcl6, by decide, (zmem 364 (by decide +kernel) rfl), rfl, rfl, fun _ => rfl⟩
theorem cw_X6_findPaths : Cond.code yX6_findPaths cX6_findPaths 1 none ∈ zTb := zmem 329 (by decide +kernel) rfl
theorem mv_RX6_263 : zMeV RX6 263 RX6 yX6_findPaths 0 := ⟨(zmem 326 (by decide +kernel) rfl), (zmem 328 (by decide +kernel) rfl), (zmem 1 (by decide +kernel) rfl), (zmem 64 (by decide +kernel) rfl), rfl, by decide, by decide, by decide +kernel⟩
theorem mv_RX6_374 : zMeV RX6 374 RX3 yX3_begin 1 := ⟨(zmem 319 (by decide +kernel) rfl), (zmem 320 (by decide +kernel) rfl), (zmem 321 (by decide +kernel) rfl), (zmem 68 (by decide +kernel) rfl), rfl, by decide, by decide, by decide +kernel⟩
theorem oi_RX6_1 : Cond.methodLink RX6 1 Lib.objectInit ∈ zTb := zmem 85 (by decide +kernel) rfl
theorem nw_RX6_7 : zNew RX6 7 4 := ⟨_, _, _, _, zcl4, (zmem 88 (by decide +kernel) rfl), (zmem 89 (by decide +kernel) rfl), (zmem 65 (by decide +kernel) rfl), zdf4⟩
theorem cw_X4_init : Cond.code yX4_init cX4_init 1 none ∈ zTb := zmem 92 (by decide +kernel) rfl
theorem fl_RX6_10 : zFL RX6 10 6 0 (.object "ClipboardHistory$TextBuffer") true := ⟨_, _, _, _, zcl6, by decide, (zmem 356 (by decide +kernel) rfl), rfl, rfl, fun _ => rfl⟩
theorem nw_RX6_16 : zNew RX6 16 2 := ⟨_, _, _, _, zcl2, (zmem 106 (by decide +kernel) rfl), (zmem 107 (by decide +kernel) rfl), (zmem 66 (by decide +kernel) rfl), zdf2⟩
theorem cw_X2_init : Cond.code yX2_init cX2_init 1 none ∈ zTb := zmem 110 (by decide +kernel) rfl
theorem fl_RX6_23 : zFL RX6 23 6 2 (.object "ClipboardHistory$Paths") true := ⟨_, _, _, _, zcl6, by decide, (zmem 358 (by decide +kernel) rfl), rfl, rfl, fun _ => rfl⟩
theorem nw_RX6_26 : zNew RX6 26 5 := ⟨_, _, _, _, zcl5, (zmem 127 (by decide +kernel) rfl), (zmem 128 (by decide +kernel) rfl), (zmem 67 (by decide +kernel) rfl), zdf5⟩
theorem cw_X5_init : Cond.code yX5_init cX5_init 1 none ∈ zTb := zmem 131 (by decide +kernel) rfl
theorem fl_RX6_29 : zFL RX6 29 6 3 (.object "ClipboardHistory$Way") true := ⟨_, _, _, _, zcl6, by decide, (zmem 359 (by decide +kernel) rfl), rfl, rfl, fun _ => rfl⟩
theorem nw_RX6_33 : zNew RX6 33 3 := ⟨_, _, _, _, zcl3, (zmem 158 (by decide +kernel) rfl), (zmem 159 (by decide +kernel) rfl), (zmem 68 (by decide +kernel) rfl), zdf3⟩
theorem cw_X3_init : Cond.code yX3_init cX3_init 2 none ∈ zTb := zmem 162 (by decide +kernel) rfl
theorem fl_RX6_40 : zFL RX6 40 6 5 (.object "ClipboardHistory$State") true := ⟨_, _, _, _, zcl6, by decide, (zmem 361 (by decide +kernel) rfl), rfl, rfl, fun _ => rfl⟩
theorem kq_RX6_33 : Cond.classLink RX6 33 RX3 ∈ zTb := zmem 158 (by decide +kernel) rfl
theorem fl_RX6_43 : zFL RX6 43 6 6 (.array (.object "ClipboardHistory$State")) true := ⟨_, _, _, _, zcl6, by decide, (zmem 362 (by decide +kernel) rfl), rfl, rfl, fun _ => rfl⟩
theorem fl_RX6_47 : zFL RX6 47 6 7 (.array (.object "ClipboardHistory$State")) true := ⟨_, _, _, _, zcl6, by decide, (zmem 363 (by decide +kernel) rfl), rfl, rfl, fun _ => rfl⟩
theorem nw_RX6_54 : zNew RX6 54 0 := ⟨_, _, _, _, zcl0, (zmem 241 (by decide +kernel) rfl), (zmem 242 (by decide +kernel) rfl), (zmem 70 (by decide +kernel) rfl), zdf0⟩
theorem cw_X0_init : Cond.code yX0_init cX0_init 1 none ∈ zTb := zmem 245 (by decide +kernel) rfl
theorem fl_RX6_61 : zFL RX6 61 6 10 (.object "ClipboardHistory$Board") false := ⟨_, _, _, _, zcl6, by decide, (zmem 366 (by decide +kernel) rfl), rfl, rfl, fun h => nomatch h⟩
theorem mi_RX6_35 : zMeI RX6 35 yX3_init 0 := ⟨(zmem 160 (by decide +kernel) rfl), (zmem 161 (by decide +kernel) rfl), (zmem 68 (by decide +kernel) rfl), rfl, by decide, by decide, by decide +kernel⟩
theorem cw_X6_startOver : Cond.code yX6_startOver cX6_startOver 2 none ∈ zTb := zmem 318 (by decide +kernel) rfl
theorem mv_RX6_64 : zMeV RX6 64 RX6 yX6_startOver 0 := ⟨(zmem 315 (by decide +kernel) rfl), (zmem 317 (by decide +kernel) rfl), (zmem 0 (by decide +kernel) rfl), (zmem 64 (by decide +kernel) rfl), rfl, by decide, by decide, by decide +kernel⟩
theorem mi_RX6_56 : zMeI RX6 56 yX0_init 0 := ⟨(zmem 243 (by decide +kernel) rfl), (zmem 244 (by decide +kernel) rfl), (zmem 70 (by decide +kernel) rfl), rfl, by decide, by decide, by decide +kernel⟩
theorem mn_RX6_28 : zMeN RX6 28 yX5_init RX6 0 := ⟨by decide +kernel, (zmem 130 (by decide +kernel) rfl), (zmem 67 (by decide +kernel) rfl), rfl, by decide, by decide, by decide +kernel⟩
theorem mn_RX6_18 : zMeN RX6 18 yX2_init RX6 0 := ⟨by decide +kernel, (zmem 109 (by decide +kernel) rfl), (zmem 66 (by decide +kernel) rfl), rfl, by decide, by decide, by decide +kernel⟩
theorem mn_RX6_9 : zMeN RX6 9 yX4_init RX6 0 := ⟨by decide +kernel, (zmem 91 (by decide +kernel) rfl), (zmem 65 (by decide +kernel) rfl), rfl, by decide, by decide, by decide +kernel⟩
theorem fl_RX4_15 : zFL RX4 15 4 1 .int false := ⟨_, _, _, _, zcl4, by decide, (zmem 95 (by decide +kernel) rfl), rfl, rfl, fun h => nomatch h⟩
theorem cw_X4_isFull : Cond.code yX4_isFull cX4_isFull 1 (some .boolean) ∈ zTb := zmem 579 (by decide +kernel) rfl
theorem mv_RX4_19 : zMeV RX4 19 RX4 yX4_isFull 0 := ⟨(zmem 600 (by decide +kernel) rfl), (zmem 577 (by decide +kernel) rfl), (zmem 578 (by decide +kernel) rfl), (zmem 65 (by decide +kernel) rfl), rfl, by decide, by decide, by decide +kernel⟩
theorem th_RX6_67_71 : zTh RX6 67 71 "java/lang/IllegalArgumentException" := ⟨(zmem 508 (by decide +kernel) rfl), (zmem 77 (by decide +kernel) rfl), by decide +kernel, by decide, by decide⟩
theorem sl_69 : (69, "the character code is not 0 to 255") ∈ zStr := by decide +kernel
theorem cw_X4_addSign : Cond.code yX4_addSign cX4_addSign 2 none ∈ zTb := zmem 599 (by decide +kernel) rfl
theorem fl_RX6_87 : zFL RX6 87 4 1 .int false := ⟨_, _, _, _, zcl4, by decide, (zmem 96 (by decide +kernel) rfl), rfl, rfl, fun h => nomatch h⟩
theorem mv_RX6_83 : zMeV RX6 83 RX4 yX4_addSign 1 := ⟨(zmem 596 (by decide +kernel) rfl), (zmem 597 (by decide +kernel) rfl), (zmem 598 (by decide +kernel) rfl), (zmem 65 (by decide +kernel) rfl), rfl, by decide, by decide, by decide +kernel⟩
theorem th_RX6_78_82 : zTh RX6 78 82 "java/lang/IllegalStateException" := ⟨(zmem 580 (by decide +kernel) rfl), (zmem 78 (by decide +kernel) rfl), by decide +kernel, by decide, by decide⟩
theorem sl_80 : (80, "the text is full") ∈ zStr := by decide +kernel
theorem mv_RX6_74 : zMeV RX6 74 RX4 yX4_isFull 0 := ⟨(zmem 576 (by decide +kernel) rfl), (zmem 577 (by decide +kernel) rfl), (zmem 578 (by decide +kernel) rfl), (zmem 65 (by decide +kernel) rfl), rfl, by decide, by decide, by decide +kernel⟩
theorem fl_RX4_23 : zFL RX4 23 4 2 .int false := ⟨_, _, _, _, zcl4, by decide, (zmem 97 (by decide +kernel) rfl), rfl, rfl, fun h => nomatch h⟩
theorem cw_X4_shownSign : Cond.code yX4_shownSign cX4_shownSign 1 (some .int) ∈ zTb := zmem 416 (by decide +kernel) rfl
theorem mv_RX4_30 : zMeV RX4 30 RX4 yX4_shownSign 0 := ⟨(zmem 413 (by decide +kernel) rfl), (zmem 415 (by decide +kernel) rfl), (zmem 8 (by decide +kernel) rfl), (zmem 65 (by decide +kernel) rfl), rfl, by decide, by decide, by decide +kernel⟩
theorem cw_X4_shownDigit : Cond.code yX4_shownDigit cX4_shownDigit 2 (some .int) ∈ zTb := zmem 424 (by decide +kernel) rfl
theorem mv_RX4_61 : zMeV RX4 61 RX4 yX4_shownDigit 0 := ⟨(zmem 421 (by decide +kernel) rfl), (zmem 423 (by decide +kernel) rfl), (zmem 10 (by decide +kernel) rfl), (zmem 65 (by decide +kernel) rfl), rfl, by decide, by decide, by decide +kernel⟩
theorem cw_X4_readDigit : Cond.code yX4_readDigit cX4_readDigit 4 (some .int) ∈ zTb := zmem 420 (by decide +kernel) rfl
theorem mv_RX4_44 : zMeV RX4 44 RX4 yX4_readDigit 2 := ⟨(zmem 417 (by decide +kernel) rfl), (zmem 419 (by decide +kernel) rfl), (zmem 9 (by decide +kernel) rfl), (zmem 65 (by decide +kernel) rfl), rfl, by decide, by decide, by decide +kernel⟩
theorem cw_X4_readSign : Cond.code yX4_readSign cX4_readSign 2 (some .boolean) ∈ zTb := zmem 412 (by decide +kernel) rfl
theorem cw_X4_readNumber : Cond.code yX4_readNumber cX4_readNumber 6 (some .int) ∈ zTb := zmem 428 (by decide +kernel) rfl
theorem mv_RX4_52 : zMeV RX4 52 RX0 yX0_begin 2 := ⟨(zmem 429 (by decide +kernel) rfl), (zmem 248 (by decide +kernel) rfl), (zmem 249 (by decide +kernel) rfl), (zmem 70 (by decide +kernel) rfl), rfl, by decide, by decide, by decide +kernel⟩
theorem mv_RX4_48 : zMeV RX4 48 RX4 yX4_readNumber 1 := ⟨(zmem 425 (by decide +kernel) rfl), (zmem 427 (by decide +kernel) rfl), (zmem 11 (by decide +kernel) rfl), (zmem 65 (by decide +kernel) rfl), rfl, by decide, by decide, by decide +kernel⟩
theorem mv_RX4_40 : zMeV RX4 40 RX4 yX4_readSign 1 := ⟨(zmem 409 (by decide +kernel) rfl), (zmem 411 (by decide +kernel) rfl), (zmem 7 (by decide +kernel) rfl), (zmem 65 (by decide +kernel) rfl), rfl, by decide, by decide, by decide +kernel⟩
theorem cw_X0_hasFormat : Cond.code yX0_hasFormat cX0_hasFormat 2 (some .boolean) ∈ zTb := zmem 449 (by decide +kernel) rfl
theorem mv_RX0_67 : zMeV RX0 67 RX0 yX0_hasFormat 1 := ⟨(zmem 446 (by decide +kernel) rfl), (zmem 447 (by decide +kernel) rfl), (zmem 448 (by decide +kernel) rfl), (zmem 70 (by decide +kernel) rfl), rfl, by decide, by decide, by decide +kernel⟩
theorem cw_X0_canLink : Cond.code yX0_canLink cX0_canLink 3 (some .boolean) ∈ zTb := zmem 445 (by decide +kernel) rfl
theorem mv_RX0_63 : zMeV RX0 63 RX0 yX0_canLink 2 := ⟨(zmem 442 (by decide +kernel) rfl), (zmem 443 (by decide +kernel) rfl), (zmem 444 (by decide +kernel) rfl), (zmem 70 (by decide +kernel) rfl), rfl, by decide, by decide, by decide +kernel⟩
theorem cw_X0_canAddConversion : Cond.code yX0_canAddConversion cX0_canAddConversion 1 (some .boolean) ∈ zTb := zmem 437 (by decide +kernel) rfl
theorem mv_RX0_71 : zMeV RX0 71 RX0 yX0_canAddConversion 0 := ⟨(zmem 455 (by decide +kernel) rfl), (zmem 435 (by decide +kernel) rfl), (zmem 436 (by decide +kernel) rfl), (zmem 70 (by decide +kernel) rfl), rfl, by decide, by decide, by decide +kernel⟩
theorem cw_X0_canAddConversionFrom : Cond.code yX0_canAddConversionFrom cX0_canAddConversionFrom 3 (some .boolean) ∈ zTb := zmem 441 (by decide +kernel) rfl
theorem cw_X0_addConversion : Cond.code yX0_addConversion cX0_addConversion 6 none ∈ zTb := zmem 454 (by decide +kernel) rfl
theorem mv_RX4_71 : zMeV RX4 71 RX0 yX0_addConversion 5 := ⟨(zmem 451 (by decide +kernel) rfl), (zmem 452 (by decide +kernel) rfl), (zmem 453 (by decide +kernel) rfl), (zmem 70 (by decide +kernel) rfl), rfl, by decide, by decide, by decide +kernel⟩
theorem mv_RX4_67 : zMeV RX4 67 RX0 yX0_canLink 2 := ⟨(zmem 450 (by decide +kernel) rfl), (zmem 443 (by decide +kernel) rfl), (zmem 444 (by decide +kernel) rfl), (zmem 70 (by decide +kernel) rfl), rfl, by decide, by decide, by decide +kernel⟩
theorem mv_RX4_64 : zMeV RX4 64 RX0 yX0_canAddConversionFrom 1 := ⟨(zmem 438 (by decide +kernel) rfl), (zmem 439 (by decide +kernel) rfl), (zmem 440 (by decide +kernel) rfl), (zmem 70 (by decide +kernel) rfl), rfl, by decide, by decide, by decide +kernel⟩
theorem mv_RX4_58 : zMeV RX4 58 RX0 yX0_canAddConversion 0 := ⟨(zmem 434 (by decide +kernel) rfl), (zmem 435 (by decide +kernel) rfl), (zmem 436 (by decide +kernel) rfl), (zmem 70 (by decide +kernel) rfl), rfl, by decide, by decide, by decide +kernel⟩
theorem cw_X0_canAddPlace : Cond.code yX0_canAddPlace cX0_canAddPlace 1 (some .boolean) ∈ zTb := zmem 463 (by decide +kernel) rfl
theorem mv_RX0_75 : zMeV RX0 75 RX0 yX0_canAddPlace 0 := ⟨(zmem 468 (by decide +kernel) rfl), (zmem 461 (by decide +kernel) rfl), (zmem 462 (by decide +kernel) rfl), (zmem 70 (by decide +kernel) rfl), rfl, by decide, by decide, by decide +kernel⟩
theorem fl_RX4_78 : zFL RX4 78 0 8 .int false := ⟨_, _, _, _, zcl0, by decide, (zmem 280 (by decide +kernel) rfl), rfl, rfl, fun h => nomatch h⟩
theorem cw_X0_addPlace : Cond.code yX0_addPlace cX0_addPlace 3 none ∈ zTb := zmem 467 (by decide +kernel) rfl
theorem mv_RX4_81 : zMeV RX4 81 RX0 yX0_addPlace 2 := ⟨(zmem 464 (by decide +kernel) rfl), (zmem 465 (by decide +kernel) rfl), (zmem 466 (by decide +kernel) rfl), (zmem 70 (by decide +kernel) rfl), rfl, by decide, by decide, by decide +kernel⟩
theorem mv_RX4_75 : zMeV RX4 75 RX0 yX0_canAddPlace 0 := ⟨(zmem 460 (by decide +kernel) rfl), (zmem 461 (by decide +kernel) rfl), (zmem 462 (by decide +kernel) rfl), (zmem 70 (by decide +kernel) rfl), rfl, by decide, by decide, by decide +kernel⟩
theorem cw_X4_readHead : Cond.code yX4_readHead cX4_readHead 4 (some .boolean) ∈ zTb := zmem 408 (by decide +kernel) rfl
theorem cw_X4_readConversion : Cond.code yX4_readConversion cX4_readConversion 7 (some .boolean) ∈ zTb := zmem 433 (by decide +kernel) rfl
theorem mv_RX4_34 : zMeV RX4 34 RX4 yX4_readConversion 1 := ⟨(zmem 430 (by decide +kernel) rfl), (zmem 432 (by decide +kernel) rfl), (zmem 12 (by decide +kernel) rfl), (zmem 65 (by decide +kernel) rfl), rfl, by decide, by decide, by decide +kernel⟩
theorem cw_X4_readPlace : Cond.code yX4_readPlace cX4_readPlace 6 (some .boolean) ∈ zTb := zmem 459 (by decide +kernel) rfl
theorem mv_RX4_37 : zMeV RX4 37 RX4 yX4_readPlace 1 := ⟨(zmem 456 (by decide +kernel) rfl), (zmem 458 (by decide +kernel) rfl), (zmem 13 (by decide +kernel) rfl), (zmem 65 (by decide +kernel) rfl), rfl, by decide, by decide, by decide +kernel⟩
theorem mv_RX4_26 : zMeV RX4 26 RX4 yX4_readHead 1 := ⟨(zmem 405 (by decide +kernel) rfl), (zmem 407 (by decide +kernel) rfl), (zmem 6 (by decide +kernel) rfl), (zmem 65 (by decide +kernel) rfl), rfl, by decide, by decide, by decide +kernel⟩
theorem cw_X4_readInto : Cond.code yX4_readInto cX4_readInto 4 (some .int) ∈ zTb := zmem 404 (by decide +kernel) rfl
theorem mv_RX6_91 : zMeV RX6 91 RX4 yX4_readInto 1 := ⟨(zmem 401 (by decide +kernel) rfl), (zmem 402 (by decide +kernel) rfl), (zmem 403 (by decide +kernel) rfl), (zmem 65 (by decide +kernel) rfl), rfl, by decide, by decide, by decide +kernel⟩
theorem fl_RX6_97 : zFL RX6 97 0 9 .int false := ⟨_, _, _, _, zcl0, by decide, (zmem 284 (by decide +kernel) rfl), rfl, rfl, fun h => nomatch h⟩
theorem sl_95 : (95, "the text is not a clipboard text") ∈ zStr := by decide +kernel
theorem fl_RX3_51 : zFL RX3 51 1 4 .int false := ⟨_, _, _, _, zcl1, by decide, (zmem 183 (by decide +kernel) rfl), rfl, rfl, fun h => nomatch h⟩
theorem fl_RX6_100 : zFL RX6 100 0 8 .int false := ⟨_, _, _, _, zcl0, by decide, (zmem 279 (by decide +kernel) rfl), rfl, rfl, fun h => nomatch h⟩
theorem fl_RX6_103 : zFL RX6 103 0 10 .int false := ⟨_, _, _, _, zcl0, by decide, (zmem 286 (by decide +kernel) rfl), rfl, rfl, fun h => nomatch h⟩
theorem fl_RX6_106 : zFL RX6 106 3 2 .int false := ⟨_, _, _, _, zcl3, by decide, (zmem 220 (by decide +kernel) rfl), rfl, rfl, fun h => nomatch h⟩
theorem fl_RX6_109 : zFL RX6 109 3 5 .int false := ⟨_, _, _, _, zcl3, by decide, (zmem 226 (by decide +kernel) rfl), rfl, rfl, fun h => nomatch h⟩
theorem cw_X3_usedSize : Cond.code yX3_usedSize cX3_usedSize 3 (some .int) ∈ zTb := zmem 619 (by decide +kernel) rfl
theorem mv_RX6_112 : zMeV RX6 112 RX3 yX3_usedSize 0 := ⟨(zmem 616 (by decide +kernel) rfl), (zmem 617 (by decide +kernel) rfl), (zmem 618 (by decide +kernel) rfl), (zmem 68 (by decide +kernel) rfl), rfl, by decide, by decide, by decide +kernel⟩
theorem fl_RX6_116 : zFL RX6 116 3 3 .int false := ⟨_, _, _, _, zcl3, by decide, (zmem 222 (by decide +kernel) rfl), rfl, rfl, fun h => nomatch h⟩
theorem fl_RX6_119 : zFL RX6 119 3 4 .int false := ⟨_, _, _, _, zcl3, by decide, (zmem 224 (by decide +kernel) rfl), rfl, rfl, fun h => nomatch h⟩
theorem sl_122 : (122, "what is not 0 to 7") ∈ zStr := by decide +kernel
theorem th_RX6_337_341 : zTh RX6 337 341 "java/lang/IndexOutOfBoundsException" := ⟨(zmem 633 (by decide +kernel) rfl), (zmem 79 (by decide +kernel) rfl), by decide +kernel, by decide, by decide⟩
theorem sl_389 : (389, "there is no such conversion") ∈ zStr := by decide +kernel
theorem cw_X6_requireConversion : Cond.code yX6_requireConversion cX6_requireConversion 2 none ∈ zTb := zmem 632 (by decide +kernel) rfl
theorem fr_RX6_127 : zFR RX6 127 0 0 := ⟨_, _, _, _, zcl0, by decide, (zmem 259 (by decide +kernel) rfl)⟩
theorem fr_RX6_131 : zFR RX6 131 0 1 := ⟨_, _, _, _, zcl0, by decide, (zmem 262 (by decide +kernel) rfl)⟩
theorem fr_RX6_137 : zFR RX6 137 0 3 := ⟨_, _, _, _, zcl0, by decide, (zmem 266 (by decide +kernel) rfl)⟩
theorem fr_RX6_140 : zFR RX6 140 0 4 := ⟨_, _, _, _, zcl0, by decide, (zmem 268 (by decide +kernel) rfl)⟩
theorem sl_143 : (143, "what is not 0 to 4") ∈ zStr := by decide +kernel
theorem mv_RX6_124 : zMeV RX6 124 RX6 yX6_requireConversion 1 := ⟨(zmem 629 (by decide +kernel) rfl), (zmem 631 (by decide +kernel) rfl), (zmem 15 (by decide +kernel) rfl), (zmem 64 (by decide +kernel) rfl), rfl, by decide, by decide, by decide +kernel⟩
theorem cw_X0_hasPlace : Cond.code yX0_hasPlace cX0_hasPlace 2 (some .boolean) ∈ zTb := zmem 664 (by decide +kernel) rfl
theorem sl_394 : (394, "there is no such place") ∈ zStr := by decide +kernel
theorem mv_RX6_391 : zMeV RX6 391 RX0 yX0_hasPlace 1 := ⟨(zmem 661 (by decide +kernel) rfl), (zmem 662 (by decide +kernel) rfl), (zmem 663 (by decide +kernel) rfl), (zmem 70 (by decide +kernel) rfl), rfl, by decide, by decide, by decide +kernel⟩
theorem cw_X6_requirePlace : Cond.code yX6_requirePlace cX6_requirePlace 2 none ∈ zTb := zmem 660 (by decide +kernel) rfl
theorem fr_RX6_148 : zFR RX6 148 0 5 := ⟨_, _, _, _, zcl0, by decide, (zmem 272 (by decide +kernel) rfl)⟩
theorem fr_RX6_151 : zFR RX6 151 0 6 := ⟨_, _, _, _, zcl0, by decide, (zmem 275 (by decide +kernel) rfl)⟩
theorem sl_154 : (154, "what is not 0 or 1") ∈ zStr := by decide +kernel
theorem mv_RX6_145 : zMeV RX6 145 RX6 yX6_requirePlace 1 := ⟨(zmem 657 (by decide +kernel) rfl), (zmem 659 (by decide +kernel) rfl), (zmem 16 (by decide +kernel) rfl), (zmem 64 (by decide +kernel) rfl), rfl, by decide, by decide, by decide +kernel⟩
theorem cw_X3_hasEntry : Cond.code yX3_hasEntry cX3_hasEntry 2 (some .boolean) ∈ zTb := zmem 681 (by decide +kernel) rfl
theorem sl_399 : (399, "there is no such entry") ∈ zStr := by decide +kernel
theorem mv_RX6_396 : zMeV RX6 396 RX3 yX3_hasEntry 1 := ⟨(zmem 678 (by decide +kernel) rfl), (zmem 679 (by decide +kernel) rfl), (zmem 680 (by decide +kernel) rfl), (zmem 68 (by decide +kernel) rfl), rfl, by decide, by decide, by decide +kernel⟩
theorem fl_RX1_35 : zFL RX1 35 1 7 .int false := ⟨_, _, _, _, zcl1, by decide, (zmem 191 (by decide +kernel) rfl), rfl, rfl, fun h => nomatch h⟩
theorem fl_RX1_25 : zFL RX1 25 1 4 .int false := ⟨_, _, _, _, zcl1, by decide, (zmem 182 (by decide +kernel) rfl), rfl, rfl, fun h => nomatch h⟩
theorem fl_RX1_32 : zFL RX1 32 1 6 .int false := ⟨_, _, _, _, zcl1, by decide, (zmem 188 (by decide +kernel) rfl), rfl, rfl, fun h => nomatch h⟩
theorem mm_RX1_58 : Cond.methodLink RX1 58 Lib.Math.max.name ∈ zTb := zmem 687 (by decide +kernel) rfl
theorem kl_RX1_64 : Cond.constantLong RX1 64 (999999999) ∈ zTb := zmem 688 (by decide +kernel) rfl
theorem kc_RX1_66 : Cond.constant RX1 66 (999999999) ∈ zTb := zmem 689 (by decide +kernel) rfl
theorem cw_X6_requireEntry : Cond.code yX6_requireEntry cX6_requireEntry 2 none ∈ zTb := zmem 677 (by decide +kernel) rfl
theorem fr_RX6_159 : zFR RX6 159 3 0 := ⟨_, _, _, _, zcl3, by decide, (zmem 216 (by decide +kernel) rfl)⟩
theorem fl_RX6_163 : zFL RX6 163 1 4 .int false := ⟨_, _, _, _, zcl1, by decide, (zmem 184 (by decide +kernel) rfl), rfl, rfl, fun h => nomatch h⟩
theorem fl_RX6_168 : zFL RX6 168 1 2 .int false := ⟨_, _, _, _, zcl1, by decide, (zmem 179 (by decide +kernel) rfl), rfl, rfl, fun h => nomatch h⟩
theorem fl_RX6_171 : zFL RX6 171 1 3 .int false := ⟨_, _, _, _, zcl1, by decide, (zmem 181 (by decide +kernel) rfl), rfl, rfl, fun h => nomatch h⟩
theorem fl_RX6_174 : zFL RX6 174 1 5 .boolean false := ⟨_, _, _, _, zcl1, by decide, (zmem 187 (by decide +kernel) rfl), rfl, rfl, fun h => nomatch h⟩
theorem fl_RX6_178 : zFL RX6 178 1 6 .int false := ⟨_, _, _, _, zcl1, by decide, (zmem 189 (by decide +kernel) rfl), rfl, rfl, fun h => nomatch h⟩
theorem fl_RX6_181 : zFL RX6 181 1 7 .int false := ⟨_, _, _, _, zcl1, by decide, (zmem 192 (by decide +kernel) rfl), rfl, rfl, fun h => nomatch h⟩
theorem cw_X1_weight : Cond.code yX1_weight cX1_weight 6 (some .int) ∈ zTb := zmem 686 (by decide +kernel) rfl
theorem mv_RX6_184 : zMeV RX6 184 RX1 yX1_weight 1 := ⟨(zmem 683 (by decide +kernel) rfl), (zmem 684 (by decide +kernel) rfl), (zmem 685 (by decide +kernel) rfl), (zmem 69 (by decide +kernel) rfl), rfl, by decide, by decide, by decide +kernel⟩
theorem sl_188 : (188, "what is not 0 to 6") ∈ zStr := by decide +kernel
theorem mv_RX6_156 : zMeV RX6 156 RX6 yX6_requireEntry 1 := ⟨(zmem 674 (by decide +kernel) rfl), (zmem 676 (by decide +kernel) rfl), (zmem 17 (by decide +kernel) rfl), (zmem 64 (by decide +kernel) rfl), rfl, by decide, by decide, by decide +kernel⟩
theorem sl_387 : (387, "there is no such format") ∈ zStr := by decide +kernel
theorem mv_RX6_384 : zMeV RX6 384 RX0 yX0_hasFormat 1 := ⟨(zmem 702 (by decide +kernel) rfl), (zmem 447 (by decide +kernel) rfl), (zmem 448 (by decide +kernel) rfl), (zmem 70 (by decide +kernel) rfl), rfl, by decide, by decide, by decide +kernel⟩
theorem fl_RX1_18 : zFL RX1 18 1 2 .int false := ⟨_, _, _, _, zcl1, by decide, (zmem 178 (by decide +kernel) rfl), rfl, rfl, fun h => nomatch h⟩
theorem cw_X6_requireFormat : Cond.code yX6_requireFormat cX6_requireFormat 2 none ∈ zTb := zmem 701 (by decide +kernel) rfl
theorem cw_X1_holds : Cond.code yX1_holds cX1_holds 2 (some .boolean) ∈ zTb := zmem 707 (by decide +kernel) rfl
theorem fr_RX6_200 : zFR RX6 200 1 0 := ⟨_, _, _, _, zcl1, by decide, (zmem 173 (by decide +kernel) rfl)⟩
theorem fr_RX6_197 : zFR RX6 197 1 1 := ⟨_, _, _, _, zcl1, by decide, (zmem 177 (by decide +kernel) rfl)⟩
theorem mv_RX6_193 : zMeV RX6 193 RX1 yX1_holds 1 := ⟨(zmem 704 (by decide +kernel) rfl), (zmem 705 (by decide +kernel) rfl), (zmem 706 (by decide +kernel) rfl), (zmem 69 (by decide +kernel) rfl), rfl, by decide, by decide, by decide +kernel⟩
theorem mv_RX6_190 : zMeV RX6 190 RX6 yX6_requireFormat 1 := ⟨(zmem 698 (by decide +kernel) rfl), (zmem 700 (by decide +kernel) rfl), (zmem 18 (by decide +kernel) rfl), (zmem 64 (by decide +kernel) rfl), rfl, by decide, by decide, by decide +kernel⟩
theorem cw_X6_isNewSize : Cond.code yX6_isNewSize cX6_isNewSize 1 (some .boolean) ∈ zTb := zmem 720 (by decide +kernel) rfl
theorem sl_406 : (406, "the size is not 1 to 9999") ∈ zStr := by decide +kernel
theorem mt_RX6_403 : zMeS RX6 403 yX6_isNewSize 1 := ⟨(zmem 718 (by decide +kernel) rfl), (zmem 719 (by decide +kernel) rfl), (zmem 64 (by decide +kernel) rfl), by decide, by decide, by decide +kernel⟩
theorem fl_RX3_54 : zFL RX3 54 1 5 .boolean false := ⟨_, _, _, _, zcl1, by decide, (zmem 186 (by decide +kernel) rfl), rfl, rfl, fun h => nomatch h⟩
theorem fl_RX1_22 : zFL RX1 22 1 3 .int false := ⟨_, _, _, _, zcl1, by decide, (zmem 180 (by decide +kernel) rfl), rfl, rfl, fun h => nomatch h⟩
theorem cw_X1_holdsDerived : Cond.code yX1_holdsDerived cX1_holdsDerived 2 (some .boolean) ∈ zTb := zmem 496 (by decide +kernel) rfl
theorem mv_RX1_55 : zMeV RX1 55 RX1 yX1_holdsDerived 1 := ⟨(zmem 493 (by decide +kernel) rfl), (zmem 494 (by decide +kernel) rfl), (zmem 495 (by decide +kernel) rfl), (zmem 69 (by decide +kernel) rfl), rfl, by decide, by decide, by decide +kernel⟩
theorem cw_X1_originalSize : Cond.code yX1_originalSize cX1_originalSize 3 (some .int) ∈ zTb := zmem 492 (by decide +kernel) rfl
theorem mv_RX3_62 : zMeV RX3 62 RX1 yX1_originalSize 0 := ⟨(zmem 489 (by decide +kernel) rfl), (zmem 490 (by decide +kernel) rfl), (zmem 491 (by decide +kernel) rfl), (zmem 69 (by decide +kernel) rfl), rfl, by decide, by decide, by decide +kernel⟩
theorem cw_X3_isFull : Cond.code yX3_isFull cX3_isFull 1 (some .boolean) ∈ zTb := zmem 484 (by decide +kernel) rfl
theorem cw_X3_leastSize : Cond.code yX3_leastSize cX3_leastSize 5 (some .int) ∈ zTb := zmem 488 (by decide +kernel) rfl
theorem mv_RX3_73 : zMeV RX3 73 RX3 yX3_leastSize 2 := ⟨(zmem 731 (by decide +kernel) rfl), (zmem 486 (by decide +kernel) rfl), (zmem 487 (by decide +kernel) rfl), (zmem 68 (by decide +kernel) rfl), rfl, by decide, by decide, by decide +kernel⟩
theorem cw_X3_pinnedCount : Cond.code yX3_pinnedCount cX3_pinnedCount 3 (some .int) ∈ zTb := zmem 730 (by decide +kernel) rfl
theorem mv_RX3_70 : zMeV RX3 70 RX3 yX3_pinnedCount 0 := ⟨(zmem 727 (by decide +kernel) rfl), (zmem 728 (by decide +kernel) rfl), (zmem 729 (by decide +kernel) rfl), (zmem 68 (by decide +kernel) rfl), rfl, by decide, by decide, by decide +kernel⟩
theorem mv_RX3_66 : zMeV RX3 66 RX3 yX3_isFull 0 := ⟨(zmem 726 (by decide +kernel) rfl), (zmem 482 (by decide +kernel) rfl), (zmem 483 (by decide +kernel) rfl), (zmem 68 (by decide +kernel) rfl), rfl, by decide, by decide, by decide +kernel⟩
theorem ac_RX1_45 : Cond.methodLink RX1 45 arraycopyName ∈ zTb := zmem 749 (by decide +kernel) rfl
theorem fl_RX1_28 : zFL RX1 28 1 5 .boolean false := ⟨_, _, _, _, zcl1, by decide, (zmem 185 (by decide +kernel) rfl), rfl, rfl, fun h => nomatch h⟩
theorem cw_X1_takeOver : Cond.code yX1_takeOver cX1_takeOver 2 none ∈ zTb := zmem 748 (by decide +kernel) rfl
theorem mv_RX3_47 : zMeV RX3 47 RX1 yX1_takeOver 1 := ⟨(zmem 745 (by decide +kernel) rfl), (zmem 746 (by decide +kernel) rfl), (zmem 747 (by decide +kernel) rfl), (zmem 69 (by decide +kernel) rfl), rfl, by decide, by decide, by decide +kernel⟩
theorem cw_X3_takeOver : Cond.code yX3_takeOver cX3_takeOver 3 none ∈ zTb := zmem 744 (by decide +kernel) rfl
theorem mv_RX6_271 : zMeV RX6 271 RX3 yX3_takeOver 1 := ⟨(zmem 741 (by decide +kernel) rfl), (zmem 742 (by decide +kernel) rfl), (zmem 743 (by decide +kernel) rfl), (zmem 68 (by decide +kernel) rfl), rfl, by decide, by decide, by decide +kernel⟩
theorem cw_X6_forgetOldest : Cond.code yX6_forgetOldest cX6_forgetOldest 3 none ∈ zTb := zmem 740 (by decide +kernel) rfl
theorem mv_RX6_377 : zMeV RX6 377 RX6 yX6_forgetOldest 0 := ⟨(zmem 737 (by decide +kernel) rfl), (zmem 739 (by decide +kernel) rfl), (zmem 20 (by decide +kernel) rfl), (zmem 64 (by decide +kernel) rfl), rfl, by decide, by decide, by decide +kernel⟩
theorem mv_RX3_138 : zMeV RX3 138 RX1 yX1_weight 1 := ⟨(zmem 758 (by decide +kernel) rfl), (zmem 684 (by decide +kernel) rfl), (zmem 685 (by decide +kernel) rfl), (zmem 69 (by decide +kernel) rfl), rfl, by decide, by decide, by decide +kernel⟩
theorem mv_RX3_58 : zMeV RX3 58 RX3 yX3_hasEntry 1 := ⟨(zmem 763 (by decide +kernel) rfl), (zmem 679 (by decide +kernel) rfl), (zmem 680 (by decide +kernel) rfl), (zmem 68 (by decide +kernel) rfl), rfl, by decide, by decide, by decide +kernel⟩
theorem mv_RX1_51 : zMeV RX1 51 RX1 yX1_holds 1 := ⟨(zmem 781 (by decide +kernel) rfl), (zmem 705 (by decide +kernel) rfl), (zmem 706 (by decide +kernel) rfl), (zmem 69 (by decide +kernel) rfl), rfl, by decide, by decide, by decide +kernel⟩
theorem cw_X1_largestDerived : Cond.code yX1_largestDerived cX1_largestDerived 3 (some .int) ∈ zTb := zmem 776 (by decide +kernel) rfl
theorem fr_RX3_102 : zFR RX3 102 1 0 := ⟨_, _, _, _, zcl1, by decide, (zmem 174 (by decide +kernel) rfl)⟩
theorem mv_RX3_135 : zMeV RX3 135 RX1 yX1_largestDerived 0 := ⟨(zmem 773 (by decide +kernel) rfl), (zmem 774 (by decide +kernel) rfl), (zmem 775 (by decide +kernel) rfl), (zmem 69 (by decide +kernel) rfl), rfl, by decide, by decide, by decide +kernel⟩
theorem cw_X1_dropForm : Cond.code yX1_dropForm cX1_dropForm 2 none ∈ zTb := zmem 780 (by decide +kernel) rfl
theorem mv_RX3_105 : zMeV RX3 105 RX1 yX1_dropForm 1 := ⟨(zmem 777 (by decide +kernel) rfl), (zmem 778 (by decide +kernel) rfl), (zmem 779 (by decide +kernel) rfl), (zmem 69 (by decide +kernel) rfl), rfl, by decide, by decide, by decide +kernel⟩
theorem cw_X3_dropLargestDerived : Cond.code yX3_dropLargestDerived cX3_dropLargestDerived 6 (some .boolean) ∈ zTb := zmem 772 (by decide +kernel) rfl
theorem cw_X3_heaviest : Cond.code yX3_heaviest cX3_heaviest 6 (some .int) ∈ zTb := zmem 757 (by decide +kernel) rfl
theorem cw_X3_dropEntry : Cond.code yX3_dropEntry cX3_dropEntry 4 none ∈ zTb := zmem 762 (by decide +kernel) rfl
theorem mv_RX3_81 : zMeV RX3 81 RX3 yX3_dropEntry 1 := ⟨(zmem 759 (by decide +kernel) rfl), (zmem 760 (by decide +kernel) rfl), (zmem 761 (by decide +kernel) rfl), (zmem 68 (by decide +kernel) rfl), rfl, by decide, by decide, by decide +kernel⟩
theorem mv_RX3_77 : zMeV RX3 77 RX3 yX3_heaviest 1 := ⟨(zmem 754 (by decide +kernel) rfl), (zmem 756 (by decide +kernel) rfl), (zmem 21 (by decide +kernel) rfl), (zmem 68 (by decide +kernel) rfl), rfl, by decide, by decide, by decide +kernel⟩
theorem mv_RX3_132 : zMeV RX3 132 RX3 yX3_dropLargestDerived 1 := ⟨(zmem 769 (by decide +kernel) rfl), (zmem 771 (by decide +kernel) rfl), (zmem 22 (by decide +kernel) rfl), (zmem 68 (by decide +kernel) rfl), rfl, by decide, by decide, by decide +kernel⟩
theorem mv_RX3_129 : zMeV RX3 129 RX3 yX3_usedSize 0 := ⟨(zmem 768 (by decide +kernel) rfl), (zmem 617 (by decide +kernel) rfl), (zmem 618 (by decide +kernel) rfl), (zmem 68 (by decide +kernel) rfl), rfl, by decide, by decide, by decide +kernel⟩
theorem fl_RX1_38 : zFL RX1 38 1 8 .int false := ⟨_, _, _, _, zcl1, by decide, (zmem 194 (by decide +kernel) rfl), rfl, rfl, fun h => nomatch h⟩
theorem cw_X1_putForm : Cond.code yX1_putForm cX1_putForm 5 none ∈ zTb := zmem 789 (by decide +kernel) rfl
theorem mv_RX1_41 : zMeV RX1 41 RX1 yX1_putForm 4 := ⟨(zmem 786 (by decide +kernel) rfl), (zmem 787 (by decide +kernel) rfl), (zmem 788 (by decide +kernel) rfl), (zmem 69 (by decide +kernel) rfl), rfl, by decide, by decide, by decide +kernel⟩
theorem cw_X3_makeRoom : Cond.code yX3_makeRoom cX3_makeRoom 4 none ∈ zTb := zmem 767 (by decide +kernel) rfl
theorem cw_X1_begin : Cond.code yX1_begin cX1_begin 4 none ∈ zTb := zmem 785 (by decide +kernel) rfl
theorem cw_X3_moveToFront : Cond.code yX3_moveToFront cX3_moveToFront 4 none ∈ zTb := zmem 793 (by decide +kernel) rfl
theorem mv_RX3_93 : zMeV RX3 93 RX3 yX3_moveToFront 1 := ⟨(zmem 790 (by decide +kernel) rfl), (zmem 792 (by decide +kernel) rfl), (zmem 23 (by decide +kernel) rfl), (zmem 68 (by decide +kernel) rfl), rfl, by decide, by decide, by decide +kernel⟩
theorem mv_RX3_89 : zMeV RX3 89 RX1 yX1_begin 3 := ⟨(zmem 782 (by decide +kernel) rfl), (zmem 783 (by decide +kernel) rfl), (zmem 784 (by decide +kernel) rfl), (zmem 69 (by decide +kernel) rfl), rfl, by decide, by decide, by decide +kernel⟩
theorem mv_RX3_85 : zMeV RX3 85 RX3 yX3_makeRoom 2 := ⟨(zmem 764 (by decide +kernel) rfl), (zmem 765 (by decide +kernel) rfl), (zmem 766 (by decide +kernel) rfl), (zmem 68 (by decide +kernel) rfl), rfl, by decide, by decide, by decide +kernel⟩
theorem cw_X6_requireNewSize : Cond.code yX6_requireNewSize cX6_requireNewSize 1 none ∈ zTb := zmem 717 (by decide +kernel) rfl
theorem cw_X3_canAddEntry : Cond.code yX3_canAddEntry cX3_canAddEntry 3 (some .boolean) ∈ zTb := zmem 725 (by decide +kernel) rfl
theorem sl_209 : (209, "no room for the entry") ∈ zStr := by decide +kernel
theorem cw_X6_rememberNow : Cond.code yX6_rememberNow cX6_rememberNow 1 none ∈ zTb := zmem 736 (by decide +kernel) rfl
theorem cw_X3_addEntry : Cond.code yX3_addEntry cX3_addEntry 3 none ∈ zTb := zmem 753 (by decide +kernel) rfl
theorem mv_RX6_214 : zMeV RX6 214 RX3 yX3_addEntry 2 := ⟨(zmem 750 (by decide +kernel) rfl), (zmem 751 (by decide +kernel) rfl), (zmem 752 (by decide +kernel) rfl), (zmem 68 (by decide +kernel) rfl), rfl, by decide, by decide, by decide +kernel⟩
theorem mv_RX6_211 : zMeV RX6 211 RX6 yX6_rememberNow 0 := ⟨(zmem 733 (by decide +kernel) rfl), (zmem 735 (by decide +kernel) rfl), (zmem 19 (by decide +kernel) rfl), (zmem 64 (by decide +kernel) rfl), rfl, by decide, by decide, by decide +kernel⟩
theorem mv_RX6_206 : zMeV RX6 206 RX3 yX3_canAddEntry 1 := ⟨(zmem 722 (by decide +kernel) rfl), (zmem 723 (by decide +kernel) rfl), (zmem 724 (by decide +kernel) rfl), (zmem 68 (by decide +kernel) rfl), rfl, by decide, by decide, by decide +kernel⟩
theorem mt_RX6_203 : zMeS RX6 203 yX6_requireNewSize 1 := ⟨(zmem 715 (by decide +kernel) rfl), (zmem 716 (by decide +kernel) rfl), (zmem 64 (by decide +kernel) rfl), by decide, by decide, by decide +kernel⟩
theorem mv_RX3_99 : zMeV RX3 99 RX1 yX1_holdsDerived 1 := ⟨(zmem 806 (by decide +kernel) rfl), (zmem 494 (by decide +kernel) rfl), (zmem 495 (by decide +kernel) rfl), (zmem 69 (by decide +kernel) rfl), rfl, by decide, by decide, by decide +kernel⟩
theorem mv_RX3_96 : zMeV RX3 96 RX1 yX1_holds 1 := ⟨(zmem 805 (by decide +kernel) rfl), (zmem 705 (by decide +kernel) rfl), (zmem 706 (by decide +kernel) rfl), (zmem 69 (by decide +kernel) rfl), rfl, by decide, by decide, by decide +kernel⟩
theorem mv_RX3_108 : zMeV RX3 108 RX1 yX1_putForm 4 := ⟨(zmem 812 (by decide +kernel) rfl), (zmem 787 (by decide +kernel) rfl), (zmem 788 (by decide +kernel) rfl), (zmem 69 (by decide +kernel) rfl), rfl, by decide, by decide, by decide +kernel⟩
theorem cw_X3_canAddForm : Cond.code yX3_canAddForm cX3_canAddForm 5 (some .boolean) ∈ zTb := zmem 804 (by decide +kernel) rfl
theorem sl_222 : (222, "no entry, an original form already, or no room for the form") ∈ zStr := by decide +kernel
theorem cw_X3_addForm : Cond.code yX3_addForm cX3_addForm 3 none ∈ zTb := zmem 811 (by decide +kernel) rfl
theorem mv_RX6_224 : zMeV RX6 224 RX3 yX3_addForm 2 := ⟨(zmem 808 (by decide +kernel) rfl), (zmem 809 (by decide +kernel) rfl), (zmem 810 (by decide +kernel) rfl), (zmem 68 (by decide +kernel) rfl), rfl, by decide, by decide, by decide +kernel⟩
theorem mv_RX6_218 : zMeV RX6 218 RX3 yX3_canAddForm 2 := ⟨(zmem 801 (by decide +kernel) rfl), (zmem 802 (by decide +kernel) rfl), (zmem 803 (by decide +kernel) rfl), (zmem 68 (by decide +kernel) rfl), rfl, by decide, by decide, by decide +kernel⟩
theorem kc_RX0_78 : Cond.constant RX0 78 (99999) ∈ zTb := zmem 842 (by decide +kernel) rfl
theorem cw_X0_sizeAfterStep : Cond.code yX0_sizeAfterStep cX0_sizeAfterStep 4 (some .int) ∈ zTb := zmem 841 (by decide +kernel) rfl
theorem mv_RX2_65 : zMeV RX2 65 RX0 yX0_sizeAfterStep 2 := ⟨(zmem 838 (by decide +kernel) rfl), (zmem 839 (by decide +kernel) rfl), (zmem 840 (by decide +kernel) rfl), (zmem 70 (by decide +kernel) rfl), rfl, by decide, by decide, by decide +kernel⟩
theorem fr_RX2_62 : zFR RX2 62 0 4 := ⟨_, _, _, _, zcl0, by decide, (zmem 269 (by decide +kernel) rfl)⟩
theorem kc_RX5_9 : Cond.constant RX5 9 (1000000) ∈ zTb := zmem 828 (by decide +kernel) rfl
theorem fl_RX5_10 : zFL RX5 10 0 8 .int false := ⟨_, _, _, _, zcl0, by decide, (zmem 277 (by decide +kernel) rfl), rfl, rfl, fun h => nomatch h⟩
theorem fr_RX5_16 : zFR RX5 16 0 5 := ⟨_, _, _, _, zcl0, by decide, (zmem 271 (by decide +kernel) rfl)⟩
theorem cw_X2_rankOf : Cond.code yX2_rankOf cX2_rankOf 3 (some .int) ∈ zTb := zmem 833 (by decide +kernel) rfl
theorem fr_RX5_30 : zFR RX5 30 1 0 := ⟨_, _, _, _, zcl1, by decide, (zmem 172 (by decide +kernel) rfl)⟩
theorem cw_X2_sizeAtEnd : Cond.code yX2_sizeAtEnd cX2_sizeAtEnd 9 (some .int) ∈ zTb := zmem 837 (by decide +kernel) rfl
theorem fr_RX5_37 : zFR RX5 37 0 6 := ⟨_, _, _, _, zcl0, by decide, (zmem 274 (by decide +kernel) rfl)⟩
theorem fl_RX5_40 : zFL RX5 40 5 1 .int false := ⟨_, _, _, _, zcl5, by decide, (zmem 136 (by decide +kernel) rfl), rfl, rfl, fun h => nomatch h⟩
theorem fl_RX5_45 : zFL RX5 45 5 2 .int false := ⟨_, _, _, _, zcl5, by decide, (zmem 138 (by decide +kernel) rfl), rfl, rfl, fun h => nomatch h⟩
theorem mv_RX5_26 : zMeV RX5 26 RX2 yX2_rankOf 2 := ⟨(zmem 830 (by decide +kernel) rfl), (zmem 831 (by decide +kernel) rfl), (zmem 832 (by decide +kernel) rfl), (zmem 66 (by decide +kernel) rfl), rfl, by decide, by decide, by decide +kernel⟩
theorem mv_RX5_33 : zMeV RX5 33 RX2 yX2_sizeAtEnd 4 := ⟨(zmem 834 (by decide +kernel) rfl), (zmem 835 (by decide +kernel) rfl), (zmem 836 (by decide +kernel) rfl), (zmem 66 (by decide +kernel) rfl), rfl, by decide, by decide, by decide +kernel⟩
theorem mv_RX5_20 : zMeV RX5 20 RX1 yX1_holds 1 := ⟨(zmem 829 (by decide +kernel) rfl), (zmem 705 (by decide +kernel) rfl), (zmem 706 (by decide +kernel) rfl), (zmem 69 (by decide +kernel) rfl), rfl, by decide, by decide, by decide +kernel⟩
theorem cw_X2_costOf : Cond.code yX2_costOf cX2_costOf 3 (some .int) ∈ zTb := zmem 846 (by decide +kernel) rfl
theorem fl_RX5_51 : zFL RX5 51 5 0 .int false := ⟨_, _, _, _, zcl5, by decide, (zmem 133 (by decide +kernel) rfl), rfl, rfl, fun h => nomatch h⟩
theorem fl_RX5_54 : zFL RX5 54 5 3 .int false := ⟨_, _, _, _, zcl5, by decide, (zmem 141 (by decide +kernel) rfl), rfl, rfl, fun h => nomatch h⟩
theorem fr_RX5_57 : zFR RX5 57 1 1 := ⟨_, _, _, _, zcl1, by decide, (zmem 176 (by decide +kernel) rfl)⟩
theorem cw_X2_lossOf : Cond.code yX2_lossOf cX2_lossOf 8 (some .int) ∈ zTb := zmem 850 (by decide +kernel) rfl
theorem fl_RX5_64 : zFL RX5 64 5 4 .int false := ⟨_, _, _, _, zcl5, by decide, (zmem 144 (by decide +kernel) rfl), rfl, rfl, fun h => nomatch h⟩
theorem mv_RX5_60 : zMeV RX5 60 RX2 yX2_lossOf 3 := ⟨(zmem 847 (by decide +kernel) rfl), (zmem 848 (by decide +kernel) rfl), (zmem 849 (by decide +kernel) rfl), (zmem 66 (by decide +kernel) rfl), rfl, by decide, by decide, by decide +kernel⟩
theorem mv_RX5_48 : zMeV RX5 48 RX2 yX2_costOf 2 := ⟨(zmem 843 (by decide +kernel) rfl), (zmem 844 (by decide +kernel) rfl), (zmem 845 (by decide +kernel) rfl), (zmem 66 (by decide +kernel) rfl), rfl, by decide, by decide, by decide +kernel⟩
theorem cw_X5_search : Cond.code yX5_search cX5_search 8 (some .boolean) ∈ zTb := zmem 827 (by decide +kernel) rfl
theorem mv_RX6_380 : zMeV RX6 380 RX5 yX5_search 4 := ⟨(zmem 824 (by decide +kernel) rfl), (zmem 825 (by decide +kernel) rfl), (zmem 826 (by decide +kernel) rfl), (zmem 67 (by decide +kernel) rfl), rfl, by decide, by decide, by decide +kernel⟩
theorem fl_RX3_112 : zFL RX3 112 5 0 .int false := ⟨_, _, _, _, zcl5, by decide, (zmem 134 (by decide +kernel) rfl), rfl, rfl, fun h => nomatch h⟩
theorem fl_RX3_116 : zFL RX3 116 1 6 .int false := ⟨_, _, _, _, zcl1, by decide, (zmem 190 (by decide +kernel) rfl), rfl, rfl, fun h => nomatch h⟩
theorem fl_RX3_119 : zFL RX3 119 1 7 .int false := ⟨_, _, _, _, zcl1, by decide, (zmem 193 (by decide +kernel) rfl), rfl, rfl, fun h => nomatch h⟩
theorem fl_RX3_122 : zFL RX3 122 5 2 .int false := ⟨_, _, _, _, zcl5, by decide, (zmem 140 (by decide +kernel) rfl), rfl, rfl, fun h => nomatch h⟩
theorem fl_RX3_125 : zFL RX3 125 5 3 .int false := ⟨_, _, _, _, zcl5, by decide, (zmem 142 (by decide +kernel) rfl), rfl, rfl, fun h => nomatch h⟩
theorem fl_RX3_126 : zFL RX3 126 5 4 .int false := ⟨_, _, _, _, zcl5, by decide, (zmem 145 (by decide +kernel) rfl), rfl, rfl, fun h => nomatch h⟩
theorem cw_X6_findWay : Cond.code yX6_findWay cX6_findWay 4 (some .boolean) ∈ zTb := zmem 823 (by decide +kernel) rfl
theorem sl_231 : (231, "the entry cannot be pasted into the place") ∈ zStr := by decide +kernel
theorem cw_X3_useEntry : Cond.code yX3_useEntry cX3_useEntry 4 none ∈ zTb := zmem 855 (by decide +kernel) rfl
theorem fl_RX6_237 : zFL RX6 237 5 2 .int false := ⟨_, _, _, _, zcl5, by decide, (zmem 139 (by decide +kernel) rfl), rfl, rfl, fun h => nomatch h⟩
theorem mv_RX6_233 : zMeV RX6 233 RX3 yX3_useEntry 2 := ⟨(zmem 852 (by decide +kernel) rfl), (zmem 853 (by decide +kernel) rfl), (zmem 854 (by decide +kernel) rfl), (zmem 68 (by decide +kernel) rfl), rfl, by decide, by decide, by decide +kernel⟩
theorem mv_RX6_227 : zMeV RX6 227 RX6 yX6_findWay 3 := ⟨(zmem 820 (by decide +kernel) rfl), (zmem 822 (by decide +kernel) rfl), (zmem 24 (by decide +kernel) rfl), (zmem 64 (by decide +kernel) rfl), rfl, by decide, by decide, by decide +kernel⟩
theorem cw_X3_switchPin : Cond.code yX3_switchPin cX3_switchPin 2 none ∈ zTb := zmem 866 (by decide +kernel) rfl
theorem mv_RX6_243 : zMeV RX6 243 RX3 yX3_pinnedCount 0 := ⟨(zmem 867 (by decide +kernel) rfl), (zmem 728 (by decide +kernel) rfl), (zmem 729 (by decide +kernel) rfl), (zmem 68 (by decide +kernel) rfl), rfl, by decide, by decide, by decide +kernel⟩
theorem mv_RX6_240 : zMeV RX6 240 RX3 yX3_switchPin 1 := ⟨(zmem 863 (by decide +kernel) rfl), (zmem 864 (by decide +kernel) rfl), (zmem 865 (by decide +kernel) rfl), (zmem 68 (by decide +kernel) rfl), rfl, by decide, by decide, by decide +kernel⟩
theorem mv_RX6_246 : zMeV RX6 246 RX3 yX3_dropEntry 1 := ⟨(zmem 875 (by decide +kernel) rfl), (zmem 760 (by decide +kernel) rfl), (zmem 761 (by decide +kernel) rfl), (zmem 68 (by decide +kernel) rfl), rfl, by decide, by decide, by decide +kernel⟩
theorem sl_250 : (250, "the budget is not 1 to 99999") ∈ zStr := by decide +kernel
theorem kc_RX6_249 : Cond.constant RX6 249 (99999) ∈ zTb := zmem 883 (by decide +kernel) rfl
theorem mv_RX6_258 : zMeV RX6 258 RX3 yX3_makeRoom 2 := ⟨(zmem 886 (by decide +kernel) rfl), (zmem 765 (by decide +kernel) rfl), (zmem 766 (by decide +kernel) rfl), (zmem 68 (by decide +kernel) rfl), rfl, by decide, by decide, by decide +kernel⟩
theorem sl_256 : (256, "what cannot be removed is larger than the budget") ∈ zStr := by decide +kernel
theorem mv_RX6_252 : zMeV RX6 252 RX3 yX3_leastSize 2 := ⟨(zmem 485 (by decide +kernel) rfl), (zmem 486 (by decide +kernel) rfl), (zmem 487 (by decide +kernel) rfl), (zmem 68 (by decide +kernel) rfl), rfl, by decide, by decide, by decide +kernel⟩
theorem sl_261 : (261, "the cost is not 1 to 99") ∈ zStr := by decide +kernel
theorem sl_269 : (269, "no state is remembered") ∈ zStr := by decide +kernel
theorem mv_RX6_275 : zMeV RX6 275 RX2 yX2_costOf 2 := ⟨(zmem 910 (by decide +kernel) rfl), (zmem 844 (by decide +kernel) rfl), (zmem 845 (by decide +kernel) rfl), (zmem 66 (by decide +kernel) rfl), rfl, by decide, by decide, by decide +kernel⟩
theorem cw_X2_stepsOf : Cond.code yX2_stepsOf cX2_stepsOf 3 (some .int) ∈ zTb := zmem 914 (by decide +kernel) rfl
theorem mv_RX6_279 : zMeV RX6 279 RX2 yX2_stepsOf 2 := ⟨(zmem 911 (by decide +kernel) rfl), (zmem 912 (by decide +kernel) rfl), (zmem 913 (by decide +kernel) rfl), (zmem 66 (by decide +kernel) rfl), rfl, by decide, by decide, by decide +kernel⟩
theorem mv_RX6_282 : zMeV RX6 282 RX2 yX2_lossOf 3 := ⟨(zmem 915 (by decide +kernel) rfl), (zmem 848 (by decide +kernel) rfl), (zmem 849 (by decide +kernel) rfl), (zmem 66 (by decide +kernel) rfl), rfl, by decide, by decide, by decide +kernel⟩
theorem sl_286 : (286, "what is not 0 to 2") ∈ zStr := by decide +kernel
theorem sl_288 : (288, "the index is not 0 to 7") ∈ zStr := by decide +kernel
theorem cw_X2_formatAt : Cond.code yX2_formatAt cX2_formatAt 8 (some .int) ∈ zTb := zmem 928 (by decide +kernel) rfl
theorem mv_RX6_290 : zMeV RX6 290 RX2 yX2_formatAt 4 := ⟨(zmem 925 (by decide +kernel) rfl), (zmem 926 (by decide +kernel) rfl), (zmem 927 (by decide +kernel) rfl), (zmem 66 (by decide +kernel) rfl), rfl, by decide, by decide, by decide +kernel⟩
theorem sl_294 : (294, "the size is not 1 to 99999") ∈ zStr := by decide +kernel
theorem mv_RX6_296 : zMeV RX6 296 RX2 yX2_sizeAtEnd 4 := ⟨(zmem 937 (by decide +kernel) rfl), (zmem 835 (by decide +kernel) rfl), (zmem 836 (by decide +kernel) rfl), (zmem 66 (by decide +kernel) rfl), rfl, by decide, by decide, by decide +kernel⟩
theorem mv_RX6_299 : zMeV RX6 299 RX2 yX2_connects 2 := ⟨(zmem 945 (by decide +kernel) rfl), (zmem 349 (by decide +kernel) rfl), (zmem 350 (by decide +kernel) rfl), (zmem 66 (by decide +kernel) rfl), rfl, by decide, by decide, by decide +kernel⟩
theorem mm_RX6_306 : Cond.methodLink RX6 306 Lib.Math.min.name ∈ zTb := zmem 497 (by decide +kernel) rfl
theorem fl_RX2_72 : zFL RX2 72 0 8 .int false := ⟨_, _, _, _, zcl0, by decide, (zmem 281 (by decide +kernel) rfl), rfl, rfl, fun h => nomatch h⟩
theorem cw_X2_usedConversions : Cond.code yX2_usedConversions cX2_usedConversions 5 (some .int) ∈ zTb := zmem 476 (by decide +kernel) rfl
theorem mv_RX6_311 : zMeV RX6 311 RX2 yX2_usedConversions 1 := ⟨(zmem 473 (by decide +kernel) rfl), (zmem 474 (by decide +kernel) rfl), (zmem 475 (by decide +kernel) rfl), (zmem 66 (by decide +kernel) rfl), rfl, by decide, by decide, by decide +kernel⟩
theorem mv_RX2_68 : zMeV RX2 68 RX2 yX2_formatAt 4 := ⟨(zmem 971 (by decide +kernel) rfl), (zmem 926 (by decide +kernel) rfl), (zmem 927 (by decide +kernel) rfl), (zmem 66 (by decide +kernel) rfl), rfl, by decide, by decide, by decide +kernel⟩
theorem cw_X2_passes : Cond.code yX2_passes cX2_passes 6 (some .boolean) ∈ zTb := zmem 970 (by decide +kernel) rfl
theorem mv_RX6_314 : zMeV RX6 314 RX2 yX2_passes 4 := ⟨(zmem 967 (by decide +kernel) rfl), (zmem 968 (by decide +kernel) rfl), (zmem 969 (by decide +kernel) rfl), (zmem 66 (by decide +kernel) rfl), rfl, by decide, by decide, by decide +kernel⟩
theorem fl_RX6_318 : zFL RX6 318 5 0 .int false := ⟨_, _, _, _, zcl5, by decide, (zmem 135 (by decide +kernel) rfl), rfl, rfl, fun h => nomatch h⟩
theorem fl_RX6_321 : zFL RX6 321 5 1 .int false := ⟨_, _, _, _, zcl5, by decide, (zmem 137 (by decide +kernel) rfl), rfl, rfl, fun h => nomatch h⟩
theorem fl_RX6_324 : zFL RX6 324 5 3 .int false := ⟨_, _, _, _, zcl5, by decide, (zmem 143 (by decide +kernel) rfl), rfl, rfl, fun h => nomatch h⟩
theorem fl_RX6_325 : zFL RX6 325 5 4 .int false := ⟨_, _, _, _, zcl5, by decide, (zmem 146 (by decide +kernel) rfl), rfl, rfl, fun h => nomatch h⟩
theorem fl_RX3_141 : zFL RX3 141 1 8 .int false := ⟨_, _, _, _, zcl1, by decide, (zmem 195 (by decide +kernel) rfl), rfl, rfl, fun h => nomatch h⟩
theorem cw_X3_tagEntries : Cond.code yX3_tagEntries cX3_tagEntries 2 none ∈ zTb := zmem 996 (by decide +kernel) rfl
theorem cw_X3_tagSet : Cond.code yX3_tagSet cX3_tagSet 3 (some .int) ∈ zTb := zmem 1000 (by decide +kernel) rfl
theorem mv_RX6_330 : zMeV RX6 330 RX3 yX3_tagSet 0 := ⟨(zmem 997 (by decide +kernel) rfl), (zmem 998 (by decide +kernel) rfl), (zmem 999 (by decide +kernel) rfl), (zmem 68 (by decide +kernel) rfl), rfl, by decide, by decide, by decide +kernel⟩
theorem mv_RX6_327 : zMeV RX6 327 RX3 yX3_tagEntries 0 := ⟨(zmem 993 (by decide +kernel) rfl), (zmem 994 (by decide +kernel) rfl), (zmem 995 (by decide +kernel) rfl), (zmem 68 (by decide +kernel) rfl), rfl, by decide, by decide, by decide +kernel⟩
theorem mm_RX6_334 : Cond.methodLink RX6 334 Lib.Math.max.name ∈ zTb := zmem 498 (by decide +kernel) rfl
theorem mv_RX6_333 : zMeV RX6 333 RX3 yX3_isFull 0 := ⟨(zmem 481 (by decide +kernel) rfl), (zmem 482 (by decide +kernel) rfl), (zmem 483 (by decide +kernel) rfl), (zmem 68 (by decide +kernel) rfl), rfl, by decide, by decide, by decide +kernel⟩
theorem sl_339 : (339, "there is no such rank") ∈ zStr := by decide +kernel
theorem cw_X3_rankOf : Cond.code yX3_rankOf cX3_rankOf 5 (some .int) ∈ zTb := zmem 1012 (by decide +kernel) rfl
theorem mv_RX6_342 : zMeV RX6 342 RX3 yX3_rankOf 1 := ⟨(zmem 1009 (by decide +kernel) rfl), (zmem 1010 (by decide +kernel) rfl), (zmem 1011 (by decide +kernel) rfl), (zmem 68 (by decide +kernel) rfl), rfl, by decide, by decide, by decide +kernel⟩
theorem kl_RX6_408 : Cond.constantLong RX6 408 (1000000) ∈ zTb := zmem 1024 (by decide +kernel) rfl
theorem kc_RX6_410 : Cond.constant RX6 410 (100000) ∈ zTb := zmem 1033 (by decide +kernel) rfl
theorem cw_X6_tryCopy : Cond.code yX6_tryCopy cX6_tryCopy 3 (some .boolean) ∈ zTb := zmem 1037 (by decide +kernel) rfl
theorem mv_RX6_411 : zMeV RX6 411 RX6 yX6_tryCopy 2 := ⟨(zmem 1034 (by decide +kernel) rfl), (zmem 1036 (by decide +kernel) rfl), (zmem 26 (by decide +kernel) rfl), (zmem 64 (by decide +kernel) rfl), rfl, by decide, by decide, by decide +kernel⟩
theorem cw_X6_tryOffer : Cond.code yX6_tryOffer cX6_tryOffer 3 (some .boolean) ∈ zTb := zmem 1041 (by decide +kernel) rfl
theorem mv_RX6_414 : zMeV RX6 414 RX6 yX6_tryOffer 2 := ⟨(zmem 1038 (by decide +kernel) rfl), (zmem 1040 (by decide +kernel) rfl), (zmem 27 (by decide +kernel) rfl), (zmem 64 (by decide +kernel) rfl), rfl, by decide, by decide, by decide +kernel⟩
theorem cw_X6_tryPaste : Cond.code yX6_tryPaste cX6_tryPaste 3 (some .boolean) ∈ zTb := zmem 1045 (by decide +kernel) rfl
theorem mv_RX6_417 : zMeV RX6 417 RX6 yX6_tryPaste 2 := ⟨(zmem 1042 (by decide +kernel) rfl), (zmem 1044 (by decide +kernel) rfl), (zmem 28 (by decide +kernel) rfl), (zmem 64 (by decide +kernel) rfl), rfl, by decide, by decide, by decide +kernel⟩
theorem cw_X6_tryTogglePin : Cond.code yX6_tryTogglePin cX6_tryTogglePin 2 (some .boolean) ∈ zTb := zmem 1049 (by decide +kernel) rfl
theorem mv_RX6_420 : zMeV RX6 420 RX6 yX6_tryTogglePin 1 := ⟨(zmem 1046 (by decide +kernel) rfl), (zmem 1048 (by decide +kernel) rfl), (zmem 29 (by decide +kernel) rfl), (zmem 64 (by decide +kernel) rfl), rfl, by decide, by decide, by decide +kernel⟩
theorem cw_X6_tryRemove : Cond.code yX6_tryRemove cX6_tryRemove 2 (some .boolean) ∈ zTb := zmem 1053 (by decide +kernel) rfl
theorem mv_RX6_423 : zMeV RX6 423 RX6 yX6_tryRemove 1 := ⟨(zmem 1050 (by decide +kernel) rfl), (zmem 1052 (by decide +kernel) rfl), (zmem 30 (by decide +kernel) rfl), (zmem 64 (by decide +kernel) rfl), rfl, by decide, by decide, by decide +kernel⟩
theorem sl_345 : (345, "the number of commands is not 1 to 3") ∈ zStr := by decide +kernel
theorem sl_351 : (351, "the script is negative or has too many digits") ∈ zStr := by decide +kernel
theorem cw_X6_scriptRange : Cond.code yX6_scriptRange cX6_scriptRange 4 (some .long) ∈ zTb := zmem 1023 (by decide +kernel) rfl
theorem cw_X6_commandAt : Cond.code yX6_commandAt cX6_commandAt 6 (some .int) ∈ zTb := zmem 1028 (by decide +kernel) rfl
theorem cw_X6_runCommand : Cond.code yX6_runCommand cX6_runCommand 5 (some .boolean) ∈ zTb := zmem 1032 (by decide +kernel) rfl
theorem mv_RX6_357 : zMeV RX6 357 RX6 yX6_runCommand 1 := ⟨(zmem 1029 (by decide +kernel) rfl), (zmem 1031 (by decide +kernel) rfl), (zmem 25 (by decide +kernel) rfl), (zmem 64 (by decide +kernel) rfl), rfl, by decide, by decide, by decide +kernel⟩
theorem mt_RX6_353 : zMeS RX6 353 yX6_commandAt 2 := ⟨(zmem 1026 (by decide +kernel) rfl), (zmem 1027 (by decide +kernel) rfl), (zmem 64 (by decide +kernel) rfl), by decide, by decide, by decide +kernel⟩
theorem mt_RX6_347 : zMeS RX6 347 yX6_scriptRange 1 := ⟨(zmem 1021 (by decide +kernel) rfl), (zmem 1022 (by decide +kernel) rfl), (zmem 64 (by decide +kernel) rfl), by decide, by decide, by decide +kernel⟩
theorem sl_360 : (360, "the number of rounds is not 1 to 50") ∈ zStr := by decide +kernel
theorem kl_RX6_362 : Cond.constantLong RX6 362 (6364136223846793005) ∈ zTb := zmem 1062 (by decide +kernel) rfl
theorem kl_RX6_364 : Cond.constantLong RX6 364 (1442695040888963407) ∈ zTb := zmem 1063 (by decide +kernel) rfl
theorem cw_X6_runRound : Cond.code yX6_runRound cX6_runRound 2 none ∈ zTb := zmem 1067 (by decide +kernel) rfl
theorem mv_RX6_366 : zMeV RX6 366 RX6 yX6_runRound 1 := ⟨(zmem 1064 (by decide +kernel) rfl), (zmem 1066 (by decide +kernel) rfl), (zmem 31 (by decide +kernel) rfl), (zmem 64 (by decide +kernel) rfl), rfl, by decide, by decide, by decide +kernel⟩
theorem sl_401 : (401, "there is no such slot") ∈ zStr := by decide +kernel
theorem cw_X6_requireSlot : Cond.code yX6_requireSlot cX6_requireSlot 1 none ∈ zTb := zmem 1077 (by decide +kernel) rfl
theorem mt_RX6_369 : zMeS RX6 369 yX6_requireSlot 1 := ⟨(zmem 1075 (by decide +kernel) rfl), (zmem 1076 (by decide +kernel) rfl), (zmem 64 (by decide +kernel) rfl), by decide, by decide, by decide +kernel⟩
theorem sl_372 : (372, "the slot is empty") ∈ zStr := by decide +kernel
theorem oi_RX7_1 : Cond.methodLink RX7 1 Lib.objectInit ∈ zTb := zmem 1092 (by decide +kernel) rfl
theorem fl_RX7_7 : zFL RX7 7 7 1 (.array .int) true := ⟨_, _, _, _, zcl7, by decide, (zmem 1094 (by decide +kernel) rfl), rfl, rfl, fun _ => rfl⟩
theorem fl_RX7_13 : zFL RX7 13 7 4 .int false := ⟨_, _, _, _, zcl7, by decide, (zmem 1097 (by decide +kernel) rfl), rfl, rfl, fun h => nomatch h⟩
theorem fl_RX7_17 : zFL RX7 17 7 7 (.array .int) true := ⟨_, _, _, _, zcl7, by decide, (zmem 1100 (by decide +kernel) rfl), rfl, rfl, fun _ => rfl⟩
theorem fl_RX7_20 : zFL RX7 20 7 8 (.array .int) true := ⟨_, _, _, _, zcl7, by decide, (zmem 1101 (by decide +kernel) rfl), rfl, rfl, fun _ => rfl⟩
theorem fl_RX7_23 : zFL RX7 23 7 9 (.array .int) true := ⟨_, _, _, _, zcl7, by decide, (zmem 1102 (by decide +kernel) rfl), rfl, rfl, fun _ => rfl⟩
theorem fl_RX7_26 : zFL RX7 26 7 10 (.array .int) true := ⟨_, _, _, _, zcl7, by decide, (zmem 1103 (by decide +kernel) rfl), rfl, rfl, fun _ => rfl⟩
theorem fl_RX7_29 : zFL RX7 29 7 11 (.array .int) true := ⟨_, _, _, _, zcl7, by decide, (zmem 1104 (by decide +kernel) rfl), rfl, rfl, fun _ => rfl⟩
theorem fl_RX7_32 : zFL RX7 32 7 12 (.array .int) true := ⟨_, _, _, _, zcl7, by decide, (zmem 1105 (by decide +kernel) rfl), rfl, rfl, fun _ => rfl⟩
theorem fl_RX7_35 : zFL RX7 35 7 17 (.array .int) true := ⟨_, _, _, _, zcl7, by decide, (zmem 1110 (by decide +kernel) rfl), rfl, rfl, fun _ => rfl⟩
theorem fl_RX7_38 : zFL RX7 38 7 18 (.array .int) true := ⟨_, _, _, _, zcl7, by decide, (zmem 1111 (by decide +kernel) rfl), rfl, rfl, fun _ => rfl⟩
theorem fl_RX7_41 : zFL RX7 41 7 19 (.array .int) true := ⟨_, _, _, _, zcl7, by decide, (zmem 1112 (by decide +kernel) rfl), rfl, rfl, fun _ => rfl⟩
theorem fl_RX7_44 : zFL RX7 44 7 20 (.array .int) true := ⟨_, _, _, _, zcl7, by decide, (zmem 1113 (by decide +kernel) rfl), rfl, rfl, fun _ => rfl⟩
theorem fl_RX7_47 : zFL RX7 47 7 21 (.array .int) true := ⟨_, _, _, _, zcl7, by decide, (zmem 1114 (by decide +kernel) rfl), rfl, rfl, fun _ => rfl⟩
theorem fl_RX7_50 : zFL RX7 50 7 22 (.array .int) true := ⟨_, _, _, _, zcl7, by decide, (zmem 1115 (by decide +kernel) rfl), rfl, rfl, fun _ => rfl⟩
theorem fl_RX7_53 : zFL RX7 53 7 23 (.array .int) true := ⟨_, _, _, _, zcl7, by decide, (zmem 1116 (by decide +kernel) rfl), rfl, rfl, fun _ => rfl⟩
theorem fl_RX7_56 : zFL RX7 56 7 24 (.array .int) true := ⟨_, _, _, _, zcl7, by decide, (zmem 1117 (by decide +kernel) rfl), rfl, rfl, fun _ => rfl⟩
theorem fl_RX7_59 : zFL RX7 59 7 25 (.array .int) true := ⟨_, _, _, _, zcl7, by decide, (zmem 1118 (by decide +kernel) rfl), rfl, rfl, fun _ => rfl⟩
theorem fl_RX7_62 : zFL RX7 62 7 26 (.array .int) true := ⟨_, _, _, _, zcl7, by decide, (zmem 1119 (by decide +kernel) rfl), rfl, rfl, fun _ => rfl⟩
theorem fl_RX7_65 : zFL RX7 65 7 27 (.array .int) true := ⟨_, _, _, _, zcl7, by decide, (zmem 1120 (by decide +kernel) rfl), rfl, rfl, fun _ => rfl⟩
theorem fl_RX7_68 : zFL RX7 68 7 29 (.array .int) true := ⟨_, _, _, _, zcl7, by decide, (zmem 1122 (by decide +kernel) rfl), rfl, rfl, fun _ => rfl⟩
theorem fl_RX7_71 : zFL RX7 71 7 30 (.array .boolean) true := ⟨_, _, _, _, zcl7, by decide, (zmem 1123 (by decide +kernel) rfl), rfl, rfl, fun _ => rfl⟩
theorem fl_RX7_75 : zFL RX7 75 7 31 (.array .int) true := ⟨_, _, _, _, zcl7, by decide, (zmem 1124 (by decide +kernel) rfl), rfl, rfl, fun _ => rfl⟩
theorem fl_RX7_78 : zFL RX7 78 7 32 (.array .int) true := ⟨_, _, _, _, zcl7, by decide, (zmem 1125 (by decide +kernel) rfl), rfl, rfl, fun _ => rfl⟩
theorem fl_RX7_81 : zFL RX7 81 7 38 (.array .int) true := ⟨_, _, _, _, zcl7, by decide, (zmem 1131 (by decide +kernel) rfl), rfl, rfl, fun _ => rfl⟩
theorem fl_RX7_84 : zFL RX7 84 7 0 .int false := ⟨_, _, _, _, zcl7, by decide, (zmem 1093 (by decide +kernel) rfl), rfl, rfl, fun h => nomatch h⟩
theorem fl_RX7_87 : zFL RX7 87 7 28 .int false := ⟨_, _, _, _, zcl7, by decide, (zmem 1121 (by decide +kernel) rfl), rfl, rfl, fun h => nomatch h⟩
theorem cw_X7_copyRow : Cond.code yX7_copyRow cX7_copyRow 6 none ∈ zTb := zmem 1275 (by decide +kernel) rfl
theorem mt_RX7_90 : zMeS RX7 90 yX7_copyRow 5 := ⟨(zmem 1273 (by decide +kernel) rfl), (zmem 1274 (by decide +kernel) rfl), (zmem 73 (by decide +kernel) rfl), by decide, by decide, by decide +kernel⟩
theorem cw_X7_note : Cond.code yX7_note cX7_note 1 none ∈ zTb := zmem 1372 (by decide +kernel) rfl
theorem mv_RX7_94 : zMeV RX7 94 RX7 yX7_note 0 := ⟨(zmem 1369 (by decide +kernel) rfl), (zmem 1371 (by decide +kernel) rfl), (zmem 47 (by decide +kernel) rfl), (zmem 73 (by decide +kernel) rfl), rfl, by decide, by decide, by decide +kernel⟩
theorem cw_X7_in : Cond.code yX7_in cX7_in 6 (some .boolean) ∈ zTb := zmem 1222 (by decide +kernel) rfl
theorem mt_RX7_97 : zMeS RX7 97 yX7_in 3 := ⟨(zmem 1220 (by decide +kernel) rfl), (zmem 1221 (by decide +kernel) rfl), (zmem 73 (by decide +kernel) rfl), by decide, by decide, by decide +kernel⟩
theorem fl_RX7_101 : zFL RX7 101 7 5 .int false := ⟨_, _, _, _, zcl7, by decide, (zmem 1098 (by decide +kernel) rfl), rfl, rfl, fun h => nomatch h⟩
theorem fl_RX7_104 : zFL RX7 104 7 6 .int false := ⟨_, _, _, _, zcl7, by decide, (zmem 1099 (by decide +kernel) rfl), rfl, rfl, fun h => nomatch h⟩
theorem kl_RX7_107 : Cond.constantLong RX7 107 (255) ∈ zTb := zmem 1219 (by decide +kernel) rfl
theorem cw_X7_refused : Cond.code yX7_refused cX7_refused 2 (some .boolean) ∈ zTb := zmem 1226 (by decide +kernel) rfl
theorem fl_RX7_109 : zFL RX7 109 7 2 .int false := ⟨_, _, _, _, zcl7, by decide, (zmem 1095 (by decide +kernel) rfl), rfl, rfl, fun h => nomatch h⟩
theorem mv_RX7_112 : zMeV RX7 112 RX7 yX7_refused 1 := ⟨(zmem 1223 (by decide +kernel) rfl), (zmem 1225 (by decide +kernel) rfl), (zmem 32 (by decide +kernel) rfl), (zmem 73 (by decide +kernel) rfl), rfl, by decide, by decide, by decide +kernel⟩
theorem fl_RX7_116 : zFL RX7 116 7 3 .int false := ⟨_, _, _, _, zcl7, by decide, (zmem 1096 (by decide +kernel) rfl), rfl, rfl, fun h => nomatch h⟩
theorem kl_RX7_119 : Cond.constantLong RX7 119 (9) ∈ zTb := zmem 1247 (by decide +kernel) rfl
theorem cw_X7_digit : Cond.code yX7_digit cX7_digit 2 (some .int) ∈ zTb := zmem 1246 (by decide +kernel) rfl
theorem mv_RX7_121 : zMeV RX7 121 RX7 yX7_digit 0 := ⟨(zmem 1243 (by decide +kernel) rfl), (zmem 1245 (by decide +kernel) rfl), (zmem 35 (by decide +kernel) rfl), (zmem 73 (by decide +kernel) rfl), rfl, by decide, by decide, by decide +kernel⟩
theorem fl_RX7_125 : zFL RX7 125 7 14 .int false := ⟨_, _, _, _, zcl7, by decide, (zmem 1107 (by decide +kernel) rfl), rfl, rfl, fun h => nomatch h⟩
theorem fl_RX7_128 : zFL RX7 128 7 13 .int false := ⟨_, _, _, _, zcl7, by decide, (zmem 1106 (by decide +kernel) rfl), rfl, rfl, fun h => nomatch h⟩
theorem cw_X7_readAway : Cond.code yX7_readAway cX7_readAway 4 (some .int) ∈ zTb := zmem 1260 (by decide +kernel) rfl
theorem mv_RX7_131 : zMeV RX7 131 RX7 yX7_readAway 1 := ⟨(zmem 1257 (by decide +kernel) rfl), (zmem 1259 (by decide +kernel) rfl), (zmem 38 (by decide +kernel) rfl), (zmem 73 (by decide +kernel) rfl), rfl, by decide, by decide, by decide +kernel⟩
theorem cw_X7_number : Cond.code yX7_number cX7_number 6 (some .int) ∈ zTb := zmem 1252 (by decide +kernel) rfl
theorem mv_RX7_135 : zMeV RX7 135 RX7 yX7_number 2 := ⟨(zmem 1249 (by decide +kernel) rfl), (zmem 1251 (by decide +kernel) rfl), (zmem 36 (by decide +kernel) rfl), (zmem 73 (by decide +kernel) rfl), rfl, by decide, by decide, by decide +kernel⟩
theorem cw_X7_passes : Cond.code yX7_passes cX7_passes 3 (some .boolean) ∈ zTb := zmem 1242 (by decide +kernel) rfl
theorem fl_RX7_142 : zFL RX7 142 7 15 .int false := ⟨_, _, _, _, zcl7, by decide, (zmem 1108 (by decide +kernel) rfl), rfl, rfl, fun h => nomatch h⟩
theorem mv_RX7_139 : zMeV RX7 139 RX7 yX7_passes 1 := ⟨(zmem 1239 (by decide +kernel) rfl), (zmem 1241 (by decide +kernel) rfl), (zmem 34 (by decide +kernel) rfl), (zmem 73 (by decide +kernel) rfl), rfl, by decide, by decide, by decide +kernel⟩
theorem kl_RX7_145 : Cond.constantLong RX7 145 (8) ∈ zTb := zmem 1248 (by decide +kernel) rfl
theorem fl_RX7_147 : zFL RX7 147 7 16 .int false := ⟨_, _, _, _, zcl7, by decide, (zmem 1109 (by decide +kernel) rfl), rfl, rfl, fun h => nomatch h⟩
theorem cw_X7_mayConvert : Cond.code yX7_mayConvert cX7_mayConvert 3 (some .boolean) ∈ zTb := zmem 1256 (by decide +kernel) rfl
theorem cw_X7_readPlace : Cond.code yX7_readPlace cX7_readPlace 4 (some .boolean) ∈ zTb := zmem 1268 (by decide +kernel) rfl
theorem mv_RX7_157 : zMeV RX7 157 RX7 yX7_readPlace 0 := ⟨(zmem 1265 (by decide +kernel) rfl), (zmem 1267 (by decide +kernel) rfl), (zmem 40 (by decide +kernel) rfl), (zmem 73 (by decide +kernel) rfl), rfl, by decide, by decide, by decide +kernel⟩
theorem cw_X7_readConversion : Cond.code yX7_readConversion cX7_readConversion 4 (some .boolean) ∈ zTb := zmem 1264 (by decide +kernel) rfl
theorem mv_RX7_154 : zMeV RX7 154 RX7 yX7_readConversion 0 := ⟨(zmem 1261 (by decide +kernel) rfl), (zmem 1263 (by decide +kernel) rfl), (zmem 39 (by decide +kernel) rfl), (zmem 73 (by decide +kernel) rfl), rfl, by decide, by decide, by decide +kernel⟩
theorem mv_RX7_150 : zMeV RX7 150 RX7 yX7_mayConvert 0 := ⟨(zmem 1253 (by decide +kernel) rfl), (zmem 1255 (by decide +kernel) rfl), (zmem 37 (by decide +kernel) rfl), (zmem 73 (by decide +kernel) rfl), rfl, by decide, by decide, by decide +kernel⟩
theorem cw_X7_readText : Cond.code yX7_readText cX7_readText 2 (some .int) ∈ zTb := zmem 1238 (by decide +kernel) rfl
theorem mv_RX7_160 : zMeV RX7 160 RX7 yX7_readText 0 := ⟨(zmem 1235 (by decide +kernel) rfl), (zmem 1237 (by decide +kernel) rfl), (zmem 33 (by decide +kernel) rfl), (zmem 73 (by decide +kernel) rfl), rfl, by decide, by decide, by decide +kernel⟩
theorem cw_X7_at : Cond.code yX7_at cX7_at 1 (some .int) ∈ zTb := zmem 1289 (by decide +kernel) rfl
theorem mt_RX7_163 : zMeS RX7 163 yX7_at 1 := ⟨(zmem 1287 (by decide +kernel) rfl), (zmem 1288 (by decide +kernel) rfl), (zmem 73 (by decide +kernel) rfl), by decide, by decide, by decide +kernel⟩
theorem cw_X7_sizeOf : Cond.code yX7_sizeOf cX7_sizeOf 4 (some .int) ∈ zTb := zmem 1286 (by decide +kernel) rfl
theorem mt_RX7_166 : zMeS RX7 166 yX7_sizeOf 2 := ⟨(zmem 1284 (by decide +kernel) rfl), (zmem 1285 (by decide +kernel) rfl), (zmem 73 (by decide +kernel) rfl), by decide, by decide, by decide +kernel⟩
theorem kl_RX7_170 : Cond.constantLong RX7 170 (999999999) ∈ zTb := zmem 1321 (by decide +kernel) rfl
theorem kc_RX7_172 : Cond.constant RX7 172 (999999999) ∈ zTb := zmem 1322 (by decide +kernel) rfl
theorem cw_X7_weight : Cond.code yX7_weight cX7_weight 4 (some .int) ∈ zTb := zmem 1320 (by decide +kernel) rfl
theorem mt_RX7_173 : zMeS RX7 173 yX7_weight 2 := ⟨(zmem 1318 (by decide +kernel) rfl), (zmem 1319 (by decide +kernel) rfl), (zmem 73 (by decide +kernel) rfl), by decide, by decide, by decide +kernel⟩
theorem cw_X7_used : Cond.code yX7_used cX7_used 3 (some .int) ∈ zTb := zmem 1283 (by decide +kernel) rfl
theorem cw_X7_largest : Cond.code yX7_largest cX7_largest 6 (some .int) ∈ zTb := zmem 1355 (by decide +kernel) rfl
theorem cw_X7_drop : Cond.code yX7_drop cX7_drop 3 none ∈ zTb := zmem 1349 (by decide +kernel) rfl
theorem mt_RX7_190 : zMeS RX7 190 yX7_drop 2 := ⟨(zmem 1347 (by decide +kernel) rfl), (zmem 1348 (by decide +kernel) rfl), (zmem 73 (by decide +kernel) rfl), by decide, by decide, by decide +kernel⟩
theorem cw_X7_dropForm : Cond.code yX7_dropForm cX7_dropForm 3 none ∈ zTb := zmem 1358 (by decide +kernel) rfl
theorem mt_RX7_186 : zMeS RX7 186 yX7_dropForm 3 := ⟨(zmem 1356 (by decide +kernel) rfl), (zmem 1357 (by decide +kernel) rfl), (zmem 73 (by decide +kernel) rfl), by decide, by decide, by decide +kernel⟩
theorem cw_X7_heaviest : Cond.code yX7_heaviest cX7_heaviest 5 (some .int) ∈ zTb := zmem 1346 (by decide +kernel) rfl
theorem mt_RX7_183 : zMeS RX7 183 yX7_heaviest 2 := ⟨(zmem 1344 (by decide +kernel) rfl), (zmem 1345 (by decide +kernel) rfl), (zmem 73 (by decide +kernel) rfl), by decide, by decide, by decide +kernel⟩
theorem mt_RX7_180 : zMeS RX7 180 yX7_largest 2 := ⟨(zmem 1353 (by decide +kernel) rfl), (zmem 1354 (by decide +kernel) rfl), (zmem 73 (by decide +kernel) rfl), by decide, by decide, by decide +kernel⟩
theorem mt_RX7_176 : zMeS RX7 176 yX7_used 1 := ⟨(zmem 1281 (by decide +kernel) rfl), (zmem 1282 (by decide +kernel) rfl), (zmem 73 (by decide +kernel) rfl), by decide, by decide, by decide +kernel⟩
theorem kl_RX7_194 : Cond.constantLong RX7 194 (7) ∈ zTb := zmem 1280 (by decide +kernel) rfl
theorem cw_X7_isConversion : Cond.code yX7_isConversion cX7_isConversion 2 (some .boolean) ∈ zTb := zmem 1297 (by decide +kernel) rfl
theorem kl_RX7_199 : Cond.constantLong RX7 199 (4) ∈ zTb := zmem 1298 (by decide +kernel) rfl
theorem mv_RX7_196 : zMeV RX7 196 RX7 yX7_isConversion 1 := ⟨(zmem 1294 (by decide +kernel) rfl), (zmem 1296 (by decide +kernel) rfl), (zmem 41 (by decide +kernel) rfl), (zmem 73 (by decide +kernel) rfl), rfl, by decide, by decide, by decide +kernel⟩
theorem cw_X7_isPlace : Cond.code yX7_isPlace cX7_isPlace 2 (some .boolean) ∈ zTb := zmem 1306 (by decide +kernel) rfl
theorem mv_RX7_201 : zMeV RX7 201 RX7 yX7_isPlace 1 := ⟨(zmem 1303 (by decide +kernel) rfl), (zmem 1305 (by decide +kernel) rfl), (zmem 42 (by decide +kernel) rfl), (zmem 73 (by decide +kernel) rfl), rfl, by decide, by decide, by decide +kernel⟩
theorem cw_X7_isEntry : Cond.code yX7_isEntry cX7_isEntry 2 (some .boolean) ∈ zTb := zmem 1313 (by decide +kernel) rfl
theorem cw_X7_formsOf : Cond.code yX7_formsOf cX7_formsOf 5 (some .int) ∈ zTb := zmem 1317 (by decide +kernel) rfl
theorem mt_RX7_210 : zMeS RX7 210 yX7_formsOf 3 := ⟨(zmem 1315 (by decide +kernel) rfl), (zmem 1316 (by decide +kernel) rfl), (zmem 73 (by decide +kernel) rfl), by decide, by decide, by decide +kernel⟩
theorem kl_RX7_208 : Cond.constantLong RX7 208 (6) ∈ zTb := zmem 1314 (by decide +kernel) rfl
theorem mt_RX7_204 : zMeS RX7 204 yX7_isEntry 2 := ⟨(zmem 1311 (by decide +kernel) rfl), (zmem 1312 (by decide +kernel) rfl), (zmem 73 (by decide +kernel) rfl), by decide, by decide, by decide +kernel⟩
theorem cw_X7_isFormat : Cond.code yX7_isFormat cX7_isFormat 2 (some .boolean) ∈ zTb := zmem 1330 (by decide +kernel) rfl
theorem mv_RX7_214 : zMeV RX7 214 RX7 yX7_isFormat 1 := ⟨(zmem 1327 (by decide +kernel) rfl), (zmem 1329 (by decide +kernel) rfl), (zmem 43 (by decide +kernel) rfl), (zmem 73 (by decide +kernel) rfl), rfl, by decide, by decide, by decide +kernel⟩
theorem kl_RX7_217 : Cond.constantLong RX7 217 (9999) ∈ zTb := zmem 1343 (by decide +kernel) rfl
theorem cw_X7_makeRoom : Cond.code yX7_makeRoom cX7_makeRoom 6 (some .boolean) ∈ zTb := zmem 1352 (by decide +kernel) rfl
theorem cw_X7_insert : Cond.code yX7_insert cX7_insert 2 none ∈ zTb := zmem 1361 (by decide +kernel) rfl
theorem cw_X7_putForm : Cond.code yX7_putForm cX7_putForm 6 none ∈ zTb := zmem 1364 (by decide +kernel) rfl
theorem mt_RX7_227 : zMeS RX7 227 yX7_putForm 6 := ⟨(zmem 1362 (by decide +kernel) rfl), (zmem 1363 (by decide +kernel) rfl), (zmem 73 (by decide +kernel) rfl), by decide, by decide, by decide +kernel⟩
theorem mt_RX7_223 : zMeS RX7 223 yX7_insert 1 := ⟨(zmem 1359 (by decide +kernel) rfl), (zmem 1360 (by decide +kernel) rfl), (zmem 73 (by decide +kernel) rfl), by decide, by decide, by decide +kernel⟩
theorem mt_RX7_219 : zMeS RX7 219 yX7_makeRoom 4 := ⟨(zmem 1350 (by decide +kernel) rfl), (zmem 1351 (by decide +kernel) rfl), (zmem 73 (by decide +kernel) rfl), by decide, by decide, by decide +kernel⟩
theorem kc_RX7_269 : Cond.constant RX7 269 (1000000) ∈ zTb := zmem 1397 (by decide +kernel) rfl
theorem cw_X7_costOf : Cond.code yX7_costOf cX7_costOf 3 (some .int) ∈ zTb := zmem 1409 (by decide +kernel) rfl
theorem mv_RX7_270 : zMeV RX7 270 RX7 yX7_costOf 2 := ⟨(zmem 1406 (by decide +kernel) rfl), (zmem 1408 (by decide +kernel) rfl), (zmem 54 (by decide +kernel) rfl), (zmem 73 (by decide +kernel) rfl), rfl, by decide, by decide, by decide +kernel⟩
theorem cw_X7_nextOn : Cond.code yX7_nextOn cX7_nextOn 4 (some .int) ∈ zTb := zmem 1405 (by decide +kernel) rfl
theorem cw_X7_conversionOf : Cond.code yX7_conversionOf cX7_conversionOf 5 (some .int) ∈ zTb := zmem 1413 (by decide +kernel) rfl
theorem kc_RX7_280 : Cond.constant RX7 280 (99999) ∈ zTb := zmem 1414 (by decide +kernel) rfl
theorem mv_RX7_277 : zMeV RX7 277 RX7 yX7_conversionOf 2 := ⟨(zmem 1410 (by decide +kernel) rfl), (zmem 1412 (by decide +kernel) rfl), (zmem 55 (by decide +kernel) rfl), (zmem 73 (by decide +kernel) rfl), rfl, by decide, by decide, by decide +kernel⟩
theorem mv_RX7_274 : zMeV RX7 274 RX7 yX7_nextOn 2 := ⟨(zmem 1402 (by decide +kernel) rfl), (zmem 1404 (by decide +kernel) rfl), (zmem 53 (by decide +kernel) rfl), (zmem 73 (by decide +kernel) rfl), rfl, by decide, by decide, by decide +kernel⟩
theorem cw_X7_layTable : Cond.code yX7_layTable cX7_layTable 7 none ∈ zTb := zmem 1396 (by decide +kernel) rfl
theorem cw_X7_sizeOn : Cond.code yX7_sizeOn cX7_sizeOn 7 (some .int) ∈ zTb := zmem 1401 (by decide +kernel) rfl
theorem fl_RX7_300 : zFL RX7 300 7 33 .int false := ⟨_, _, _, _, zcl7, by decide, (zmem 1126 (by decide +kernel) rfl), rfl, rfl, fun h => nomatch h⟩
theorem fl_RX7_238 : zFL RX7 238 7 34 .int false := ⟨_, _, _, _, zcl7, by decide, (zmem 1127 (by decide +kernel) rfl), rfl, rfl, fun h => nomatch h⟩
theorem mv_RX7_289 : zMeV RX7 289 RX7 yX7_sizeOn 3 := ⟨(zmem 1398 (by decide +kernel) rfl), (zmem 1400 (by decide +kernel) rfl), (zmem 52 (by decide +kernel) rfl), (zmem 73 (by decide +kernel) rfl), rfl, by decide, by decide, by decide +kernel⟩
theorem fl_RX7_235 : zFL RX7 235 7 35 .int false := ⟨_, _, _, _, zcl7, by decide, (zmem 1128 (by decide +kernel) rfl), rfl, rfl, fun h => nomatch h⟩
theorem fl_RX7_241 : zFL RX7 241 7 36 .int false := ⟨_, _, _, _, zcl7, by decide, (zmem 1129 (by decide +kernel) rfl), rfl, rfl, fun h => nomatch h⟩
theorem cw_X7_lossOn : Cond.code yX7_lossOn cX7_lossOn 6 (some .int) ∈ zTb := zmem 1418 (by decide +kernel) rfl
theorem fl_RX7_244 : zFL RX7 244 7 37 .int false := ⟨_, _, _, _, zcl7, by decide, (zmem 1130 (by decide +kernel) rfl), rfl, rfl, fun h => nomatch h⟩
theorem mv_RX7_286 : zMeV RX7 286 RX7 yX7_lossOn 2 := ⟨(zmem 1415 (by decide +kernel) rfl), (zmem 1417 (by decide +kernel) rfl), (zmem 56 (by decide +kernel) rfl), (zmem 73 (by decide +kernel) rfl), rfl, by decide, by decide, by decide +kernel⟩
theorem mv_RX7_283 : zMeV RX7 283 RX7 yX7_layTable 2 := ⟨(zmem 1393 (by decide +kernel) rfl), (zmem 1395 (by decide +kernel) rfl), (zmem 51 (by decide +kernel) rfl), (zmem 73 (by decide +kernel) rfl), rfl, by decide, by decide, by decide +kernel⟩
theorem cw_X7_findWay : Cond.code yX7_findWay cX7_findWay 8 (some .boolean) ∈ zTb := zmem 1392 (by decide +kernel) rfl
theorem mv_RX7_231 : zMeV RX7 231 RX7 yX7_findWay 3 := ⟨(zmem 1389 (by decide +kernel) rfl), (zmem 1391 (by decide +kernel) rfl), (zmem 50 (by decide +kernel) rfl), (zmem 73 (by decide +kernel) rfl), rfl, by decide, by decide, by decide +kernel⟩
theorem cw_X7_tryNow : Cond.code yX7_tryNow cX7_tryNow 2 none ∈ zTb := zmem 1338 (by decide +kernel) rfl
theorem cw_X7_copyOn : Cond.code yX7_copyOn cX7_copyOn 5 (some .int) ∈ zTb := zmem 1342 (by decide +kernel) rfl
theorem cw_X7_accept : Cond.code yX7_accept cX7_accept 1 none ∈ zTb := zmem 1368 (by decide +kernel) rfl
theorem mv_RX7_253 : zMeV RX7 253 RX7 yX7_accept 0 := ⟨(zmem 1365 (by decide +kernel) rfl), (zmem 1367 (by decide +kernel) rfl), (zmem 46 (by decide +kernel) rfl), (zmem 73 (by decide +kernel) rfl), rfl, by decide, by decide, by decide +kernel⟩
theorem mv_RX7_250 : zMeV RX7 250 RX7 yX7_copyOn 3 := ⟨(zmem 1339 (by decide +kernel) rfl), (zmem 1341 (by decide +kernel) rfl), (zmem 45 (by decide +kernel) rfl), (zmem 73 (by decide +kernel) rfl), rfl, by decide, by decide, by decide +kernel⟩
theorem mv_RX7_247 : zMeV RX7 247 RX7 yX7_tryNow 0 := ⟨(zmem 1335 (by decide +kernel) rfl), (zmem 1337 (by decide +kernel) rfl), (zmem 44 (by decide +kernel) rfl), (zmem 73 (by decide +kernel) rfl), rfl, by decide, by decide, by decide +kernel⟩
theorem cw_X7_offerOn : Cond.code yX7_offerOn cX7_offerOn 4 (some .int) ∈ zTb := zmem 1380 (by decide +kernel) rfl
theorem mv_RX7_256 : zMeV RX7 256 RX7 yX7_offerOn 3 := ⟨(zmem 1377 (by decide +kernel) rfl), (zmem 1379 (by decide +kernel) rfl), (zmem 48 (by decide +kernel) rfl), (zmem 73 (by decide +kernel) rfl), rfl, by decide, by decide, by decide +kernel⟩
theorem cw_X7_pasteOn : Cond.code yX7_pasteOn cX7_pasteOn 6 (some .int) ∈ zTb := zmem 1388 (by decide +kernel) rfl
theorem mv_RX7_259 : zMeV RX7 259 RX7 yX7_pasteOn 3 := ⟨(zmem 1385 (by decide +kernel) rfl), (zmem 1387 (by decide +kernel) rfl), (zmem 49 (by decide +kernel) rfl), (zmem 73 (by decide +kernel) rfl), rfl, by decide, by decide, by decide +kernel⟩
theorem cw_X7_pinnedIn : Cond.code yX7_pinnedIn cX7_pinnedIn 4 (some .int) ∈ zTb := zmem 1426 (by decide +kernel) rfl
theorem mv_RX7_262 : zMeV RX7 262 RX7 yX7_pinnedIn 1 := ⟨(zmem 1423 (by decide +kernel) rfl), (zmem 1425 (by decide +kernel) rfl), (zmem 57 (by decide +kernel) rfl), (zmem 73 (by decide +kernel) rfl), rfl, by decide, by decide, by decide +kernel⟩
theorem kl_RX7_265 : Cond.constantLong RX7 265 (99999) ∈ zTb := zmem 1435 (by decide +kernel) rfl
theorem kl_RX7_267 : Cond.constantLong RX7 267 (99) ∈ zTb := zmem 1440 (by decide +kernel) rfl
theorem kl_RX7_281 : Cond.constantLong RX7 281 (2) ∈ zTb := zmem 1449 (by decide +kernel) rfl
theorem cw_X7_worthOf : Cond.code yX7_worthOf cX7_worthOf 3 (some .int) ∈ zTb := zmem 1473 (by decide +kernel) rfl
theorem mv_RX7_293 : zMeV RX7 293 RX7 yX7_worthOf 1 := ⟨(zmem 1470 (by decide +kernel) rfl), (zmem 1472 (by decide +kernel) rfl), (zmem 58 (by decide +kernel) rfl), (zmem 73 (by decide +kernel) rfl), rfl, by decide, by decide, by decide +kernel⟩
theorem cw_X7_passesBy : Cond.code yX7_passesBy cX7_passesBy 6 (some .boolean) ∈ zTb := zmem 1485 (by decide +kernel) rfl
theorem mv_RX7_296 : zMeV RX7 296 RX7 yX7_passesBy 3 := ⟨(zmem 1482 (by decide +kernel) rfl), (zmem 1484 (by decide +kernel) rfl), (zmem 59 (by decide +kernel) rfl), (zmem 73 (by decide +kernel) rfl), rfl, by decide, by decide, by decide +kernel⟩
theorem cw_X7_victimsOf : Cond.code yX7_victimsOf cX7_victimsOf 5 (some .int) ∈ zTb := zmem 1501 (by decide +kernel) rfl
theorem mv_RX7_303 : zMeV RX7 303 RX7 yX7_victimsOf 1 := ⟨(zmem 1498 (by decide +kernel) rfl), (zmem 1500 (by decide +kernel) rfl), (zmem 60 (by decide +kernel) rfl), (zmem 73 (by decide +kernel) rfl), rfl, by decide, by decide, by decide +kernel⟩
theorem kc_RX7_306 : Cond.constant RX7 306 (100000) ∈ zTb := zmem 1523 (by decide +kernel) rfl
theorem cw_X7_tries : Cond.code yX7_tries cX7_tries 5 (some .boolean) ∈ zTb := zmem 1527 (by decide +kernel) rfl
theorem mv_RX7_307 : zMeV RX7 307 RX7 yX7_tries 3 := ⟨(zmem 1524 (by decide +kernel) rfl), (zmem 1526 (by decide +kernel) rfl), (zmem 62 (by decide +kernel) rfl), (zmem 73 (by decide +kernel) rfl), rfl, by decide, by decide, by decide +kernel⟩
theorem kl_RX7_310 : Cond.constantLong RX7 310 (1000000) ∈ zTb := zmem 1518 (by decide +kernel) rfl
theorem kl_RX7_312 : Cond.constantLong RX7 312 (3) ∈ zTb := zmem 1514 (by decide +kernel) rfl
theorem cw_X7_million : Cond.code yX7_million cX7_million 4 (some .long) ∈ zTb := zmem 1517 (by decide +kernel) rfl
theorem cw_X7_command : Cond.code yX7_command cX7_command 5 (some .boolean) ∈ zTb := zmem 1522 (by decide +kernel) rfl
theorem mv_RX7_318 : zMeV RX7 318 RX7 yX7_command 1 := ⟨(zmem 1519 (by decide +kernel) rfl), (zmem 1521 (by decide +kernel) rfl), (zmem 61 (by decide +kernel) rfl), (zmem 73 (by decide +kernel) rfl), rfl, by decide, by decide, by decide +kernel⟩
theorem mt_RX7_314 : zMeS RX7 314 yX7_million 1 := ⟨(zmem 1515 (by decide +kernel) rfl), (zmem 1516 (by decide +kernel) rfl), (zmem 73 (by decide +kernel) rfl), by decide, by decide, by decide +kernel⟩
theorem kl_RX7_321 : Cond.constantLong RX7 321 (50) ∈ zTb := zmem 1532 (by decide +kernel) rfl
theorem kl_RX7_323 : Cond.constantLong RX7 323 (6364136223846793005) ∈ zTb := zmem 1533 (by decide +kernel) rfl
theorem kl_RX7_325 : Cond.constantLong RX7 325 (1442695040888963407) ∈ zTb := zmem 1534 (by decide +kernel) rfl
