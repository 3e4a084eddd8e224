theorem dX7_clearText_0 : zD cX7_clearText 0 (.aload_n 0) 1 1 := ⟨by decide +kernel, rfl⟩
theorem dX7_clearText_1 : zD cX7_clearText 1 (.iconst 0) 1 2 := ⟨by decide +kernel, rfl⟩
theorem dX7_clearText_2 : zD cX7_clearText 2 (.putfield 84) 3 5 := ⟨by decide +kernel, rfl⟩
theorem dX7_clearText_5 : zD cX7_clearText 5 (.aload_n 0) 1 6 := ⟨by decide +kernel, rfl⟩
theorem dX7_clearText_6 : zD cX7_clearText 6 (.getfield 109) 3 9 := ⟨by decide +kernel, rfl⟩
theorem dX7_clearText_9 : zD cX7_clearText 9 (.istore_n 1) 1 10 := ⟨by decide +kernel, rfl⟩
theorem dX7_clearText_10 : zD cX7_clearText 10 (.aload_n 0) 1 11 := ⟨by decide +kernel, rfl⟩
theorem dX7_clearText_11 : zD cX7_clearText 11 (.iconst 0) 1 12 := ⟨by decide +kernel, rfl⟩
theorem dX7_clearText_12 : zD cX7_clearText 12 (.putfield 109) 3 15 := ⟨by decide +kernel, rfl⟩
theorem dX7_clearText_15 : zD cX7_clearText 15 (.iload_n 1) 1 16 := ⟨by decide +kernel, rfl⟩
theorem dX7_clearText_16 : zD cX7_clearText 16 (.ireturn) 1 17 := ⟨by decide +kernel, rfl⟩
theorem dX7_digit_0 : zD cX7_digit 0 (.aload_n 0) 1 1 := ⟨by decide +kernel, rfl⟩
theorem dX7_digit_1 : zD cX7_digit 1 (.getfield 116) 3 4 := ⟨by decide +kernel, rfl⟩
theorem dX7_digit_4 : zD cX7_digit 4 (.aload_n 0) 1 5 := ⟨by decide +kernel, rfl⟩
theorem dX7_digit_5 : zD cX7_digit 5 (.getfield 109) 3 8 := ⟨by decide +kernel, rfl⟩
theorem dX7_digit_8 : zD cX7_digit 8 (.if_icmp .ge 18) 3 11 := ⟨by decide +kernel, rfl⟩
theorem dX7_digit_11 : zD cX7_digit 11 (.aload_n 0) 1 12 := ⟨by decide +kernel, rfl⟩
theorem dX7_digit_12 : zD cX7_digit 12 (.getfield 7) 3 15 := ⟨by decide +kernel, rfl⟩
theorem dX7_digit_15 : zD cX7_digit 15 (.aload_n 0) 1 16 := ⟨by decide +kernel, rfl⟩
theorem dX7_digit_16 : zD cX7_digit 16 (.getfield 116) 3 19 := ⟨by decide +kernel, rfl⟩
theorem dX7_digit_19 : zD cX7_digit 19 (.iaload) 1 20 := ⟨by decide +kernel, rfl⟩
theorem dX7_digit_20 : zD cX7_digit 20 (.bipush 48) 2 22 := ⟨by decide +kernel, rfl⟩
theorem dX7_digit_22 : zD cX7_digit 22 (.isub) 1 23 := ⟨by decide +kernel, rfl⟩
theorem dX7_digit_23 : zD cX7_digit 23 (.goto 5) 3 26 := ⟨by decide +kernel, rfl⟩
theorem dX7_digit_26 : zD cX7_digit 26 (.bipush (-9)) 2 28 := ⟨by decide +kernel, rfl⟩
theorem dX7_digit_28 : zD cX7_digit 28 (.istore_n 1) 1 29 := ⟨by decide +kernel, rfl⟩
theorem dX7_digit_29 : zD cX7_digit 29 (.iload_n 1) 1 30 := ⟨by decide +kernel, rfl⟩
theorem dX7_digit_30 : zD cX7_digit 30 (.i2l) 1 31 := ⟨by decide +kernel, rfl⟩
theorem dX7_digit_31 : zD cX7_digit 31 (.lconst 0) 1 32 := ⟨by decide +kernel, rfl⟩
theorem dX7_digit_32 : zD cX7_digit 32 (.ldc2_w 119) 3 35 := ⟨by decide +kernel, rfl⟩
theorem dX7_digit_35 : zD cX7_digit 35 (.invokestatic 97) 3 38 := ⟨by decide +kernel, rfl⟩
theorem dX7_digit_38 : zD cX7_digit 38 (.ifCond .eq 7) 3 41 := ⟨by decide +kernel, rfl⟩
theorem dX7_digit_41 : zD cX7_digit 41 (.iload_n 1) 1 42 := ⟨by decide +kernel, rfl⟩
theorem dX7_digit_42 : zD cX7_digit 42 (.goto 5) 3 45 := ⟨by decide +kernel, rfl⟩
theorem dX7_digit_45 : zD cX7_digit 45 (.bipush (-9)) 2 47 := ⟨by decide +kernel, rfl⟩
theorem dX7_digit_47 : zD cX7_digit 47 (.ireturn) 1 48 := ⟨by decide +kernel, rfl⟩
theorem dX7_passes_0 : zD cX7_passes 0 (.aload_n 0) 1 1 := ⟨by decide +kernel, rfl⟩
theorem dX7_passes_1 : zD cX7_passes 1 (.getfield 116) 3 4 := ⟨by decide +kernel, rfl⟩
theorem dX7_passes_4 : zD cX7_passes 4 (.aload_n 0) 1 5 := ⟨by decide +kernel, rfl⟩
theorem dX7_passes_5 : zD cX7_passes 5 (.getfield 109) 3 8 := ⟨by decide +kernel, rfl⟩
theorem dX7_passes_8 : zD cX7_passes 8 (.if_icmp .ge 20) 3 11 := ⟨by decide +kernel, rfl⟩
theorem dX7_passes_11 : zD cX7_passes 11 (.aload_n 0) 1 12 := ⟨by decide +kernel, rfl⟩
theorem dX7_passes_12 : zD cX7_passes 12 (.getfield 7) 3 15 := ⟨by decide +kernel, rfl⟩
theorem dX7_passes_15 : zD cX7_passes 15 (.aload_n 0) 1 16 := ⟨by decide +kernel, rfl⟩
theorem dX7_passes_16 : zD cX7_passes 16 (.getfield 116) 3 19 := ⟨by decide +kernel, rfl⟩
theorem dX7_passes_19 : zD cX7_passes 19 (.iaload) 1 20 := ⟨by decide +kernel, rfl⟩
theorem dX7_passes_20 : zD cX7_passes 20 (.iload_n 1) 1 21 := ⟨by decide +kernel, rfl⟩
theorem dX7_passes_21 : zD cX7_passes 21 (.if_icmp .ne 7) 3 24 := ⟨by decide +kernel, rfl⟩
theorem dX7_passes_24 : zD cX7_passes 24 (.iconst 1) 1 25 := ⟨by decide +kernel, rfl⟩
theorem dX7_passes_25 : zD cX7_passes 25 (.goto 4) 3 28 := ⟨by decide +kernel, rfl⟩
theorem dX7_passes_28 : zD cX7_passes 28 (.iconst 0) 1 29 := ⟨by decide +kernel, rfl⟩
theorem dX7_passes_29 : zD cX7_passes 29 (.istore_n 2) 1 30 := ⟨by decide +kernel, rfl⟩
theorem dX7_passes_30 : zD cX7_passes 30 (.aload_n 0) 1 31 := ⟨by decide +kernel, rfl⟩
theorem dX7_passes_31 : zD cX7_passes 31 (.dup) 1 32 := ⟨by decide +kernel, rfl⟩
theorem dX7_passes_32 : zD cX7_passes 32 (.getfield 116) 3 35 := ⟨by decide +kernel, rfl⟩
theorem dX7_passes_35 : zD cX7_passes 35 (.iload_n 2) 1 36 := ⟨by decide +kernel, rfl⟩
theorem dX7_passes_36 : zD cX7_passes 36 (.ifCond .eq 7) 3 39 := ⟨by decide +kernel, rfl⟩
theorem dX7_passes_39 : zD cX7_passes 39 (.iconst 1) 1 40 := ⟨by decide +kernel, rfl⟩
theorem dX7_passes_40 : zD cX7_passes 40 (.goto 4) 3 43 := ⟨by decide +kernel, rfl⟩
theorem dX7_passes_43 : zD cX7_passes 43 (.iconst 0) 1 44 := ⟨by decide +kernel, rfl⟩
theorem dX7_passes_44 : zD cX7_passes 44 (.iadd) 1 45 := ⟨by decide +kernel, rfl⟩
theorem dX7_passes_45 : zD cX7_passes 45 (.putfield 116) 3 48 := ⟨by decide +kernel, rfl⟩
theorem dX7_passes_48 : zD cX7_passes 48 (.iload_n 2) 1 49 := ⟨by decide +kernel, rfl⟩
theorem dX7_passes_49 : zD cX7_passes 49 (.ireturn) 1 50 := ⟨by decide +kernel, rfl⟩
theorem dX7_number_0 : zD cX7_number 0 (.iconst 0) 1 1 := ⟨by decide +kernel, rfl⟩
theorem dX7_number_1 : zD cX7_number 1 (.istore_n 3) 1 2 := ⟨by decide +kernel, rfl⟩
theorem dX7_number_2 : zD cX7_number 2 (.iconst 0) 1 3 := ⟨by decide +kernel, rfl⟩
theorem dX7_number_3 : zD cX7_number 3 (.istore 4) 2 5 := ⟨by decide +kernel, rfl⟩
theorem dX7_number_5 : zD cX7_number 5 (.iload 4) 2 7 := ⟨by decide +kernel, rfl⟩
theorem dX7_number_7 : zD cX7_number 7 (.iload_n 1) 1 8 := ⟨by decide +kernel, rfl⟩
theorem dX7_number_8 : zD cX7_number 8 (.if_icmp .ge 64) 3 11 := ⟨by decide +kernel, rfl⟩
theorem dX7_number_11 : zD cX7_number 11 (.aload_n 0) 1 12 := ⟨by decide +kernel, rfl⟩
theorem dX7_number_12 : zD cX7_number 12 (.invokevirtual 121) 3 15 := ⟨by decide +kernel, rfl⟩
theorem dX7_number_15 : zD cX7_number 15 (.istore 5) 2 17 := ⟨by decide +kernel, rfl⟩
theorem dX7_number_17 : zD cX7_number 17 (.iload 5) 2 19 := ⟨by decide +kernel, rfl⟩
theorem dX7_number_19 : zD cX7_number 19 (.bipush (-9)) 2 21 := ⟨by decide +kernel, rfl⟩
theorem dX7_number_21 : zD cX7_number 21 (.if_icmp .eq 24) 3 24 := ⟨by decide +kernel, rfl⟩
theorem dX7_number_24 : zD cX7_number 24 (.iload_n 2) 1 25 := ⟨by decide +kernel, rfl⟩
theorem dX7_number_25 : zD cX7_number 25 (.ifCond .eq 23) 3 28 := ⟨by decide +kernel, rfl⟩
theorem dX7_number_28 : zD cX7_number 28 (.iload 4) 2 30 := ⟨by decide +kernel, rfl⟩
theorem dX7_number_30 : zD cX7_number 30 (.iload_n 1) 1 31 := ⟨by decide +kernel, rfl⟩
theorem dX7_number_31 : zD cX7_number 31 (.iconst 1) 1 32 := ⟨by decide +kernel, rfl⟩
theorem dX7_number_32 : zD cX7_number 32 (.isub) 1 33 := ⟨by decide +kernel, rfl⟩
theorem dX7_number_33 : zD cX7_number 33 (.if_icmp .ne 15) 3 36 := ⟨by decide +kernel, rfl⟩
theorem dX7_number_36 : zD cX7_number 36 (.iload_n 3) 1 37 := ⟨by decide +kernel, rfl⟩
theorem dX7_number_37 : zD cX7_number 37 (.ifCond .ne 11) 3 40 := ⟨by decide +kernel, rfl⟩
theorem dX7_number_40 : zD cX7_number 40 (.iload 5) 2 42 := ⟨by decide +kernel, rfl⟩
theorem dX7_number_42 : zD cX7_number 42 (.ifCond .ne 6) 3 45 := ⟨by decide +kernel, rfl⟩
theorem dX7_number_45 : zD cX7_number 45 (.bipush (-9)) 2 47 := ⟨by decide +kernel, rfl⟩
theorem dX7_number_47 : zD cX7_number 47 (.ireturn) 1 48 := ⟨by decide +kernel, rfl⟩
theorem dX7_number_48 : zD cX7_number 48 (.bipush 10) 2 50 := ⟨by decide +kernel, rfl⟩
theorem dX7_number_50 : zD cX7_number 50 (.iload_n 3) 1 51 := ⟨by decide +kernel, rfl⟩
theorem dX7_number_51 : zD cX7_number 51 (.imul) 1 52 := ⟨by decide +kernel, rfl⟩
theorem dX7_number_52 : zD cX7_number 52 (.iload 5) 2 54 := ⟨by decide +kernel, rfl⟩
theorem dX7_number_54 : zD cX7_number 54 (.iadd) 1 55 := ⟨by decide +kernel, rfl⟩
theorem dX7_number_55 : zD cX7_number 55 (.istore_n 3) 1 56 := ⟨by decide +kernel, rfl⟩
theorem dX7_number_56 : zD cX7_number 56 (.aload_n 0) 1 57 := ⟨by decide +kernel, rfl⟩
theorem dX7_number_57 : zD cX7_number 57 (.dup) 1 58 := ⟨by decide +kernel, rfl⟩
theorem dX7_number_58 : zD cX7_number 58 (.getfield 116) 3 61 := ⟨by decide +kernel, rfl⟩
theorem dX7_number_61 : zD cX7_number 61 (.iconst 1) 1 62 := ⟨by decide +kernel, rfl⟩
theorem dX7_number_62 : zD cX7_number 62 (.iadd) 1 63 := ⟨by decide +kernel, rfl⟩
theorem dX7_number_63 : zD cX7_number 63 (.putfield 116) 3 66 := ⟨by decide +kernel, rfl⟩
theorem dX7_number_66 : zD cX7_number 66 (.iinc 4 1) 3 69 := ⟨by decide +kernel, rfl⟩
theorem dX7_number_69 : zD cX7_number 69 (.goto (-64)) 3 72 := ⟨by decide +kernel, rfl⟩
theorem dX7_number_72 : zD cX7_number 72 (.iload_n 3) 1 73 := ⟨by decide +kernel, rfl⟩
theorem dX7_number_73 : zD cX7_number 73 (.ireturn) 1 74 := ⟨by decide +kernel, rfl⟩
theorem dX7_readAway_0 : zD cX7_readAway 0 (.iconst 1) 1 1 := ⟨by decide +kernel, rfl⟩
theorem dX7_readAway_1 : zD cX7_readAway 1 (.iload_n 1) 1 2 := ⟨by decide +kernel, rfl⟩
theorem dX7_readAway_2 : zD cX7_readAway 2 (.ishl) 1 3 := ⟨by decide +kernel, rfl⟩
theorem dX7_readAway_3 : zD cX7_readAway 3 (.istore_n 2) 1 4 := ⟨by decide +kernel, rfl⟩
theorem dX7_readAway_4 : zD cX7_readAway 4 (.iconst 0) 1 5 := ⟨by decide +kernel, rfl⟩
theorem dX7_readAway_5 : zD cX7_readAway 5 (.istore_n 3) 1 6 := ⟨by decide +kernel, rfl⟩
theorem dX7_readAway_6 : zD cX7_readAway 6 (.iload_n 3) 1 7 := ⟨by decide +kernel, rfl⟩
theorem dX7_readAway_7 : zD cX7_readAway 7 (.aload_n 0) 1 8 := ⟨by decide +kernel, rfl⟩
theorem dX7_readAway_8 : zD cX7_readAway 8 (.getfield 125) 3 11 := ⟨by decide +kernel, rfl⟩
theorem dX7_readAway_11 : zD cX7_readAway 11 (.if_icmp .ge 34) 3 14 := ⟨by decide +kernel, rfl⟩
theorem dX7_readAway_14 : zD cX7_readAway 14 (.iload_n 2) 1 15 := ⟨by decide +kernel, rfl⟩
theorem dX7_readAway_15 : zD cX7_readAway 15 (.aload_n 0) 1 16 := ⟨by decide +kernel, rfl⟩
theorem dX7_readAway_16 : zD cX7_readAway 16 (.getfield 35) 3 19 := ⟨by decide +kernel, rfl⟩
theorem dX7_readAway_19 : zD cX7_readAway 19 (.iload_n 3) 1 20 := ⟨by decide +kernel, rfl⟩
theorem dX7_readAway_20 : zD cX7_readAway 20 (.iaload) 1 21 := ⟨by decide +kernel, rfl⟩
theorem dX7_readAway_21 : zD cX7_readAway 21 (.iload_n 1) 1 22 := ⟨by decide +kernel, rfl⟩
theorem dX7_readAway_22 : zD cX7_readAway 22 (.if_icmp .ne 14) 3 25 := ⟨by decide +kernel, rfl⟩
theorem dX7_readAway_25 : zD cX7_readAway 25 (.iconst 1) 1 26 := ⟨by decide +kernel, rfl⟩
theorem dX7_readAway_26 : zD cX7_readAway 26 (.aload_n 0) 1 27 := ⟨by decide +kernel, rfl⟩
theorem dX7_readAway_27 : zD cX7_readAway 27 (.getfield 38) 3 30 := ⟨by decide +kernel, rfl⟩
theorem dX7_readAway_30 : zD cX7_readAway 30 (.iload_n 3) 1 31 := ⟨by decide +kernel, rfl⟩
theorem dX7_readAway_31 : zD cX7_readAway 31 (.iaload) 1 32 := ⟨by decide +kernel, rfl⟩
theorem dX7_readAway_32 : zD cX7_readAway 32 (.ishl) 1 33 := ⟨by decide +kernel, rfl⟩
theorem dX7_readAway_33 : zD cX7_readAway 33 (.goto 4) 3 36 := ⟨by decide +kernel, rfl⟩
theorem dX7_readAway_36 : zD cX7_readAway 36 (.iconst 0) 1 37 := ⟨by decide +kernel, rfl⟩
theorem dX7_readAway_37 : zD cX7_readAway 37 (.ior) 1 38 := ⟨by decide +kernel, rfl⟩
theorem dX7_readAway_38 : zD cX7_readAway 38 (.istore_n 2) 1 39 := ⟨by decide +kernel, rfl⟩
theorem dX7_readAway_39 : zD cX7_readAway 39 (.iinc 3 1) 3 42 := ⟨by decide +kernel, rfl⟩
theorem dX7_readAway_42 : zD cX7_readAway 42 (.goto (-36)) 3 45 := ⟨by decide +kernel, rfl⟩
theorem dX7_readAway_45 : zD cX7_readAway 45 (.iload_n 2) 1 46 := ⟨by decide +kernel, rfl⟩
theorem dX7_readAway_46 : zD cX7_readAway 46 (.ireturn) 1 47 := ⟨by decide +kernel, rfl⟩
theorem dX7_mayConvert_0 : zD cX7_mayConvert 0 (.iconst 0) 1 1 := ⟨by decide +kernel, rfl⟩
theorem dX7_mayConvert_1 : zD cX7_mayConvert 1 (.istore_n 1) 1 2 := ⟨by decide +kernel, rfl⟩
theorem dX7_mayConvert_2 : zD cX7_mayConvert 2 (.iconst 0) 1 3 := ⟨by decide +kernel, rfl⟩
theorem dX7_mayConvert_3 : zD cX7_mayConvert 3 (.istore_n 2) 1 4 := ⟨by decide +kernel, rfl⟩
theorem dX7_mayConvert_4 : zD cX7_mayConvert 4 (.iload_n 2) 1 5 := ⟨by decide +kernel, rfl⟩
theorem dX7_mayConvert_5 : zD cX7_mayConvert 5 (.aload_n 0) 1 6 := ⟨by decide +kernel, rfl⟩
theorem dX7_mayConvert_6 : zD cX7_mayConvert 6 (.getfield 128) 3 9 := ⟨by decide +kernel, rfl⟩
theorem dX7_mayConvert_9 : zD cX7_mayConvert 9 (.if_icmp .ge 35) 3 12 := ⟨by decide +kernel, rfl⟩
theorem dX7_mayConvert_12 : zD cX7_mayConvert 12 (.iload_n 1) 1 13 := ⟨by decide +kernel, rfl⟩
theorem dX7_mayConvert_13 : zD cX7_mayConvert 13 (.ifCond .ne 19) 3 16 := ⟨by decide +kernel, rfl⟩
theorem dX7_mayConvert_16 : zD cX7_mayConvert 16 (.aload_n 0) 1 17 := ⟨by decide +kernel, rfl⟩
theorem dX7_mayConvert_17 : zD cX7_mayConvert 17 (.iload_n 2) 1 18 := ⟨by decide +kernel, rfl⟩
theorem dX7_mayConvert_18 : zD cX7_mayConvert 18 (.invokevirtual 131) 3 21 := ⟨by decide +kernel, rfl⟩
theorem dX7_mayConvert_21 : zD cX7_mayConvert 21 (.iconst 1) 1 22 := ⟨by decide +kernel, rfl⟩
theorem dX7_mayConvert_22 : zD cX7_mayConvert 22 (.aload_n 0) 1 23 := ⟨by decide +kernel, rfl⟩
theorem dX7_mayConvert_23 : zD cX7_mayConvert 23 (.getfield 128) 3 26 := ⟨by decide +kernel, rfl⟩
theorem dX7_mayConvert_26 : zD cX7_mayConvert 26 (.ishl) 1 27 := ⟨by decide +kernel, rfl⟩
theorem dX7_mayConvert_27 : zD cX7_mayConvert 27 (.iconst 1) 1 28 := ⟨by decide +kernel, rfl⟩
theorem dX7_mayConvert_28 : zD cX7_mayConvert 28 (.isub) 1 29 := ⟨by decide +kernel, rfl⟩
theorem dX7_mayConvert_29 : zD cX7_mayConvert 29 (.if_icmp .eq 7) 3 32 := ⟨by decide +kernel, rfl⟩
theorem dX7_mayConvert_32 : zD cX7_mayConvert 32 (.iconst 1) 1 33 := ⟨by decide +kernel, rfl⟩
theorem dX7_mayConvert_33 : zD cX7_mayConvert 33 (.goto 4) 3 36 := ⟨by decide +kernel, rfl⟩
theorem dX7_mayConvert_36 : zD cX7_mayConvert 36 (.iconst 0) 1 37 := ⟨by decide +kernel, rfl⟩
theorem dX7_mayConvert_37 : zD cX7_mayConvert 37 (.istore_n 1) 1 38 := ⟨by decide +kernel, rfl⟩
theorem dX7_mayConvert_38 : zD cX7_mayConvert 38 (.iinc 2 1) 3 41 := ⟨by decide +kernel, rfl⟩
theorem dX7_mayConvert_41 : zD cX7_mayConvert 41 (.goto (-37)) 3 44 := ⟨by decide +kernel, rfl⟩
theorem dX7_mayConvert_44 : zD cX7_mayConvert 44 (.iload_n 1) 1 45 := ⟨by decide +kernel, rfl⟩
theorem dX7_mayConvert_45 : zD cX7_mayConvert 45 (.ifCond .eq 16) 3 48 := ⟨by decide +kernel, rfl⟩
theorem dX7_mayConvert_48 : zD cX7_mayConvert 48 (.aload_n 0) 1 49 := ⟨by decide +kernel, rfl⟩
theorem dX7_mayConvert_49 : zD cX7_mayConvert 49 (.getfield 125) 3 52 := ⟨by decide +kernel, rfl⟩
theorem dX7_mayConvert_52 : zD cX7_mayConvert 52 (.bipush 20) 2 54 := ⟨by decide +kernel, rfl⟩
theorem dX7_mayConvert_54 : zD cX7_mayConvert 54 (.if_icmp .ge 7) 3 57 := ⟨by decide +kernel, rfl⟩
theorem dX7_mayConvert_57 : zD cX7_mayConvert 57 (.iconst 1) 1 58 := ⟨by decide +kernel, rfl⟩
theorem dX7_mayConvert_58 : zD cX7_mayConvert 58 (.goto 4) 3 61 := ⟨by decide +kernel, rfl⟩
theorem dX7_mayConvert_61 : zD cX7_mayConvert 61 (.iconst 0) 1 62 := ⟨by decide +kernel, rfl⟩
theorem dX7_mayConvert_62 : zD cX7_mayConvert 62 (.ireturn) 1 63 := ⟨by decide +kernel, rfl⟩
theorem dX7_readConversion_0 : zD cX7_readConversion 0 (.aload_n 0) 1 1 := ⟨by decide +kernel, rfl⟩
theorem dX7_readConversion_1 : zD cX7_readConversion 1 (.invokevirtual 121) 3 4 := ⟨by decide +kernel, rfl⟩
theorem dX7_readConversion_4 : zD cX7_readConversion 4 (.istore_n 1) 1 5 := ⟨by decide +kernel, rfl⟩
theorem dX7_readConversion_5 : zD cX7_readConversion 5 (.iload_n 1) 1 6 := ⟨by decide +kernel, rfl⟩
theorem dX7_readConversion_6 : zD cX7_readConversion 6 (.i2l) 1 7 := ⟨by decide +kernel, rfl⟩
theorem dX7_readConversion_7 : zD cX7_readConversion 7 (.lconst 0) 1 8 := ⟨by decide +kernel, rfl⟩
theorem dX7_readConversion_8 : zD cX7_readConversion 8 (.aload_n 0) 1 9 := ⟨by decide +kernel, rfl⟩
theorem dX7_readConversion_9 : zD cX7_readConversion 9 (.getfield 128) 3 12 := ⟨by decide +kernel, rfl⟩
theorem dX7_readConversion_12 : zD cX7_readConversion 12 (.iconst 1) 1 13 := ⟨by decide +kernel, rfl⟩
theorem dX7_readConversion_13 : zD cX7_readConversion 13 (.isub) 1 14 := ⟨by decide +kernel, rfl⟩
theorem dX7_readConversion_14 : zD cX7_readConversion 14 (.i2l) 1 15 := ⟨by decide +kernel, rfl⟩
theorem dX7_readConversion_15 : zD cX7_readConversion 15 (.invokestatic 97) 3 18 := ⟨by decide +kernel, rfl⟩
theorem dX7_readConversion_18 : zD cX7_readConversion 18 (.ifCond .eq 19) 3 21 := ⟨by decide +kernel, rfl⟩
theorem dX7_readConversion_21 : zD cX7_readConversion 21 (.aload_n 0) 1 22 := ⟨by decide +kernel, rfl⟩
theorem dX7_readConversion_22 : zD cX7_readConversion 22 (.iload_n 1) 1 23 := ⟨by decide +kernel, rfl⟩
theorem dX7_readConversion_23 : zD cX7_readConversion 23 (.invokevirtual 131) 3 26 := ⟨by decide +kernel, rfl⟩
theorem dX7_readConversion_26 : zD cX7_readConversion 26 (.iconst 1) 1 27 := ⟨by decide +kernel, rfl⟩
theorem dX7_readConversion_27 : zD cX7_readConversion 27 (.aload_n 0) 1 28 := ⟨by decide +kernel, rfl⟩
theorem dX7_readConversion_28 : zD cX7_readConversion 28 (.getfield 128) 3 31 := ⟨by decide +kernel, rfl⟩
theorem dX7_readConversion_31 : zD cX7_readConversion 31 (.ishl) 1 32 := ⟨by decide +kernel, rfl⟩
theorem dX7_readConversion_32 : zD cX7_readConversion 32 (.iconst 1) 1 33 := ⟨by decide +kernel, rfl⟩
theorem dX7_readConversion_33 : zD cX7_readConversion 33 (.isub) 1 34 := ⟨by decide +kernel, rfl⟩
theorem dX7_readConversion_34 : zD cX7_readConversion 34 (.if_icmp .ne 5) 3 37 := ⟨by decide +kernel, rfl⟩
theorem dX7_readConversion_37 : zD cX7_readConversion 37 (.iconst 0) 1 38 := ⟨by decide +kernel, rfl⟩
theorem dX7_readConversion_38 : zD cX7_readConversion 38 (.ireturn) 1 39 := ⟨by decide +kernel, rfl⟩
theorem dX7_readConversion_39 : zD cX7_readConversion 39 (.aload_n 0) 1 40 := ⟨by decide +kernel, rfl⟩
theorem dX7_readConversion_40 : zD cX7_readConversion 40 (.dup) 1 41 := ⟨by decide +kernel, rfl⟩
theorem dX7_readConversion_41 : zD cX7_readConversion 41 (.getfield 116) 3 44 := ⟨by decide +kernel, rfl⟩
theorem dX7_readConversion_44 : zD cX7_readConversion 44 (.iconst 1) 1 45 := ⟨by decide +kernel, rfl⟩
theorem dX7_readConversion_45 : zD cX7_readConversion 45 (.iadd) 1 46 := ⟨by decide +kernel, rfl⟩
theorem dX7_readConversion_46 : zD cX7_readConversion 46 (.putfield 116) 3 49 := ⟨by decide +kernel, rfl⟩
theorem dX7_readConversion_49 : zD cX7_readConversion 49 (.aload_n 0) 1 50 := ⟨by decide +kernel, rfl⟩
theorem dX7_readConversion_50 : zD cX7_readConversion 50 (.invokevirtual 121) 3 53 := ⟨by decide +kernel, rfl⟩
theorem dX7_readConversion_53 : zD cX7_readConversion 53 (.istore_n 2) 1 54 := ⟨by decide +kernel, rfl⟩
theorem dX7_readConversion_54 : zD cX7_readConversion 54 (.iload_n 2) 1 55 := ⟨by decide +kernel, rfl⟩
theorem dX7_readConversion_55 : zD cX7_readConversion 55 (.i2l) 1 56 := ⟨by decide +kernel, rfl⟩
theorem dX7_readConversion_56 : zD cX7_readConversion 56 (.lconst 0) 1 57 := ⟨by decide +kernel, rfl⟩
theorem dX7_readConversion_57 : zD cX7_readConversion 57 (.aload_n 0) 1 58 := ⟨by decide +kernel, rfl⟩
theorem dX7_readConversion_58 : zD cX7_readConversion 58 (.getfield 128) 3 61 := ⟨by decide +kernel, rfl⟩
theorem dX7_readConversion_61 : zD cX7_readConversion 61 (.iconst 1) 1 62 := ⟨by decide +kernel, rfl⟩
theorem dX7_readConversion_62 : zD cX7_readConversion 62 (.isub) 1 63 := ⟨by decide +kernel, rfl⟩
theorem dX7_readConversion_63 : zD cX7_readConversion 63 (.i2l) 1 64 := ⟨by decide +kernel, rfl⟩
theorem dX7_readConversion_64 : zD cX7_readConversion 64 (.invokestatic 97) 3 67 := ⟨by decide +kernel, rfl⟩
theorem dX7_readConversion_67 : zD cX7_readConversion 67 (.ifCond .eq 16) 3 70 := ⟨by decide +kernel, rfl⟩
theorem dX7_readConversion_70 : zD cX7_readConversion 70 (.aload_n 0) 1 71 := ⟨by decide +kernel, rfl⟩
theorem dX7_readConversion_71 : zD cX7_readConversion 71 (.iload_n 1) 1 72 := ⟨by decide +kernel, rfl⟩
theorem dX7_readConversion_72 : zD cX7_readConversion 72 (.invokevirtual 131) 3 75 := ⟨by decide +kernel, rfl⟩
theorem dX7_readConversion_75 : zD cX7_readConversion 75 (.iload_n 2) 1 76 := ⟨by decide +kernel, rfl⟩
theorem dX7_readConversion_76 : zD cX7_readConversion 76 (.ishr) 1 77 := ⟨by decide +kernel, rfl⟩
theorem dX7_readConversion_77 : zD cX7_readConversion 77 (.iconst 1) 1 78 := ⟨by decide +kernel, rfl⟩
theorem dX7_readConversion_78 : zD cX7_readConversion 78 (.iand) 1 79 := ⟨by decide +kernel, rfl⟩
theorem dX7_readConversion_79 : zD cX7_readConversion 79 (.iconst 1) 1 80 := ⟨by decide +kernel, rfl⟩
theorem dX7_readConversion_80 : zD cX7_readConversion 80 (.if_icmp .ne 5) 3 83 := ⟨by decide +kernel, rfl⟩
theorem dX7_readConversion_83 : zD cX7_readConversion 83 (.iconst 0) 1 84 := ⟨by decide +kernel, rfl⟩
theorem dX7_readConversion_84 : zD cX7_readConversion 84 (.ireturn) 1 85 := ⟨by decide +kernel, rfl⟩
theorem dX7_readConversion_85 : zD cX7_readConversion 85 (.aload_n 0) 1 86 := ⟨by decide +kernel, rfl⟩
theorem dX7_readConversion_86 : zD cX7_readConversion 86 (.dup) 1 87 := ⟨by decide +kernel, rfl⟩
theorem dX7_readConversion_87 : zD cX7_readConversion 87 (.getfield 116) 3 90 := ⟨by decide +kernel, rfl⟩
theorem dX7_readConversion_90 : zD cX7_readConversion 90 (.iconst 1) 1 91 := ⟨by decide +kernel, rfl⟩
theorem dX7_readConversion_91 : zD cX7_readConversion 91 (.iadd) 1 92 := ⟨by decide +kernel, rfl⟩
theorem dX7_readConversion_92 : zD cX7_readConversion 92 (.putfield 116) 3 95 := ⟨by decide +kernel, rfl⟩
theorem dX7_readConversion_95 : zD cX7_readConversion 95 (.aload_n 0) 1 96 := ⟨by decide +kernel, rfl⟩
theorem dX7_readConversion_96 : zD cX7_readConversion 96 (.getfield 125) 3 99 := ⟨by decide +kernel, rfl⟩
theorem dX7_readConversion_99 : zD cX7_readConversion 99 (.istore_n 3) 1 100 := ⟨by decide +kernel, rfl⟩
theorem dX7_readConversion_100 : zD cX7_readConversion 100 (.aload_n 0) 1 101 := ⟨by decide +kernel, rfl⟩
theorem dX7_readConversion_101 : zD cX7_readConversion 101 (.getfield 35) 3 104 := ⟨by decide +kernel, rfl⟩
theorem dX7_readConversion_104 : zD cX7_readConversion 104 (.iload_n 3) 1 105 := ⟨by decide +kernel, rfl⟩
theorem dX7_readConversion_105 : zD cX7_readConversion 105 (.iload_n 1) 1 106 := ⟨by decide +kernel, rfl⟩
theorem dX7_readConversion_106 : zD cX7_readConversion 106 (.iastore) 1 107 := ⟨by decide +kernel, rfl⟩
theorem dX7_readConversion_107 : zD cX7_readConversion 107 (.aload_n 0) 1 108 := ⟨by decide +kernel, rfl⟩
theorem dX7_readConversion_108 : zD cX7_readConversion 108 (.getfield 38) 3 111 := ⟨by decide +kernel, rfl⟩
theorem dX7_readConversion_111 : zD cX7_readConversion 111 (.iload_n 3) 1 112 := ⟨by decide +kernel, rfl⟩
theorem dX7_readConversion_112 : zD cX7_readConversion 112 (.iload_n 2) 1 113 := ⟨by decide +kernel, rfl⟩
theorem dX7_readConversion_113 : zD cX7_readConversion 113 (.iastore) 1 114 := ⟨by decide +kernel, rfl⟩
theorem dX7_readConversion_114 : zD cX7_readConversion 114 (.aload_n 0) 1 115 := ⟨by decide +kernel, rfl⟩
theorem dX7_readConversion_115 : zD cX7_readConversion 115 (.getfield 41) 3 118 := ⟨by decide +kernel, rfl⟩
theorem dX7_readConversion_118 : zD cX7_readConversion 118 (.iload_n 3) 1 119 := ⟨by decide +kernel, rfl⟩
theorem dX7_readConversion_119 : zD cX7_readConversion 119 (.aload_n 0) 1 120 := ⟨by decide +kernel, rfl⟩
theorem dX7_readConversion_120 : zD cX7_readConversion 120 (.iconst 2) 1 121 := ⟨by decide +kernel, rfl⟩
theorem dX7_readConversion_121 : zD cX7_readConversion 121 (.iconst 1) 1 122 := ⟨by decide +kernel, rfl⟩
theorem dX7_readConversion_122 : zD cX7_readConversion 122 (.invokevirtual 135) 3 125 := ⟨by decide +kernel, rfl⟩
theorem dX7_readConversion_125 : zD cX7_readConversion 125 (.iastore) 1 126 := ⟨by decide +kernel, rfl⟩
theorem dX7_readConversion_126 : zD cX7_readConversion 126 (.aload_n 0) 1 127 := ⟨by decide +kernel, rfl⟩
theorem dX7_readConversion_127 : zD cX7_readConversion 127 (.getfield 44) 3 130 := ⟨by decide +kernel, rfl⟩
theorem dX7_readConversion_130 : zD cX7_readConversion 130 (.iload_n 3) 1 131 := ⟨by decide +kernel, rfl⟩
theorem dX7_readConversion_131 : zD cX7_readConversion 131 (.aload_n 0) 1 132 := ⟨by decide +kernel, rfl⟩
theorem dX7_readConversion_132 : zD cX7_readConversion 132 (.getfield 41) 3 135 := ⟨by decide +kernel, rfl⟩
theorem dX7_readConversion_135 : zD cX7_readConversion 135 (.iload_n 3) 1 136 := ⟨by decide +kernel, rfl⟩
theorem dX7_readConversion_136 : zD cX7_readConversion 136 (.iaload) 1 137 := ⟨by decide +kernel, rfl⟩
theorem dX7_readConversion_137 : zD cX7_readConversion 137 (.bipush (-9)) 2 139 := ⟨by decide +kernel, rfl⟩
theorem dX7_readConversion_139 : zD cX7_readConversion 139 (.if_icmp .ne 8) 3 142 := ⟨by decide +kernel, rfl⟩
theorem dX7_readConversion_142 : zD cX7_readConversion 142 (.bipush (-9)) 2 144 := ⟨by decide +kernel, rfl⟩
theorem dX7_readConversion_144 : zD cX7_readConversion 144 (.goto 9) 3 147 := ⟨by decide +kernel, rfl⟩
theorem dX7_readConversion_147 : zD cX7_readConversion 147 (.aload_n 0) 1 148 := ⟨by decide +kernel, rfl⟩
theorem dX7_readConversion_148 : zD cX7_readConversion 148 (.iconst 2) 1 149 := ⟨by decide +kernel, rfl⟩
theorem dX7_readConversion_149 : zD cX7_readConversion 149 (.iconst 1) 1 150 := ⟨by decide +kernel, rfl⟩
theorem dX7_readConversion_150 : zD cX7_readConversion 150 (.invokevirtual 135) 3 153 := ⟨by decide +kernel, rfl⟩
theorem dX7_readConversion_153 : zD cX7_readConversion 153 (.iastore) 1 154 := ⟨by decide +kernel, rfl⟩
theorem dX7_readConversion_154 : zD cX7_readConversion 154 (.aload_n 0) 1 155 := ⟨by decide +kernel, rfl⟩
theorem dX7_readConversion_155 : zD cX7_readConversion 155 (.getfield 47) 3 158 := ⟨by decide +kernel, rfl⟩
theorem dX7_readConversion_158 : zD cX7_readConversion 158 (.iload_n 3) 1 159 := ⟨by decide +kernel, rfl⟩
theorem dX7_readConversion_159 : zD cX7_readConversion 159 (.aload_n 0) 1 160 := ⟨by decide +kernel, rfl⟩
theorem dX7_readConversion_160 : zD cX7_readConversion 160 (.getfield 44) 3 163 := ⟨by decide +kernel, rfl⟩
theorem dX7_readConversion_163 : zD cX7_readConversion 163 (.iload_n 3) 1 164 := ⟨by decide +kernel, rfl⟩
theorem dX7_readConversion_164 : zD cX7_readConversion 164 (.iaload) 1 165 := ⟨by decide +kernel, rfl⟩
theorem dX7_readConversion_165 : zD cX7_readConversion 165 (.bipush (-9)) 2 167 := ⟨by decide +kernel, rfl⟩
theorem dX7_readConversion_167 : zD cX7_readConversion 167 (.if_icmp .ne 8) 3 170 := ⟨by decide +kernel, rfl⟩
theorem dX7_readConversion_170 : zD cX7_readConversion 170 (.bipush (-9)) 2 172 := ⟨by decide +kernel, rfl⟩
theorem dX7_readConversion_172 : zD cX7_readConversion 172 (.goto 9) 3 175 := ⟨by decide +kernel, rfl⟩
theorem dX7_readConversion_175 : zD cX7_readConversion 175 (.aload_n 0) 1 176 := ⟨by decide +kernel, rfl⟩
theorem dX7_readConversion_176 : zD cX7_readConversion 176 (.iconst 1) 1 177 := ⟨by decide +kernel, rfl⟩
theorem dX7_readConversion_177 : zD cX7_readConversion 177 (.iconst 0) 1 178 := ⟨by decide +kernel, rfl⟩
theorem dX7_readConversion_178 : zD cX7_readConversion 178 (.invokevirtual 135) 3 181 := ⟨by decide +kernel, rfl⟩
theorem dX7_readConversion_181 : zD cX7_readConversion 181 (.iastore) 1 182 := ⟨by decide +kernel, rfl⟩
theorem dX7_readConversion_182 : zD cX7_readConversion 182 (.aload_n 0) 1 183 := ⟨by decide +kernel, rfl⟩
theorem dX7_readConversion_183 : zD cX7_readConversion 183 (.getfield 47) 3 186 := ⟨by decide +kernel, rfl⟩
theorem dX7_readConversion_186 : zD cX7_readConversion 186 (.iload_n 3) 1 187 := ⟨by decide +kernel, rfl⟩
theorem dX7_readConversion_187 : zD cX7_readConversion 187 (.iaload) 1 188 := ⟨by decide +kernel, rfl⟩
theorem dX7_readConversion_188 : zD cX7_readConversion 188 (.bipush (-9)) 2 190 := ⟨by decide +kernel, rfl⟩
theorem dX7_readConversion_190 : zD cX7_readConversion 190 (.if_icmp .ne 5) 3 193 := ⟨by decide +kernel, rfl⟩
theorem dX7_readConversion_193 : zD cX7_readConversion 193 (.iconst 0) 1 194 := ⟨by decide +kernel, rfl⟩
theorem dX7_readConversion_194 : zD cX7_readConversion 194 (.ireturn) 1 195 := ⟨by decide +kernel, rfl⟩
theorem dX7_readConversion_195 : zD cX7_readConversion 195 (.aload_n 0) 1 196 := ⟨by decide +kernel, rfl⟩
theorem dX7_readConversion_196 : zD cX7_readConversion 196 (.dup) 1 197 := ⟨by decide +kernel, rfl⟩
theorem dX7_readConversion_197 : zD cX7_readConversion 197 (.getfield 125) 3 200 := ⟨by decide +kernel, rfl⟩
theorem dX7_readConversion_200 : zD cX7_readConversion 200 (.iconst 1) 1 201 := ⟨by decide +kernel, rfl⟩
theorem dX7_readConversion_201 : zD cX7_readConversion 201 (.iadd) 1 202 := ⟨by decide +kernel, rfl⟩
theorem dX7_readConversion_202 : zD cX7_readConversion 202 (.putfield 125) 3 205 := ⟨by decide +kernel, rfl⟩
theorem dX7_readConversion_205 : zD cX7_readConversion 205 (.iconst 1) 1 206 := ⟨by decide +kernel, rfl⟩
theorem dX7_readConversion_206 : zD cX7_readConversion 206 (.ireturn) 1 207 := ⟨by decide +kernel, rfl⟩
theorem dX7_readPlace_0 : zD cX7_readPlace 0 (.iconst 0) 1 1 := ⟨by decide +kernel, rfl⟩
theorem dX7_readPlace_1 : zD cX7_readPlace 1 (.istore_n 1) 1 2 := ⟨by decide +kernel, rfl⟩
theorem dX7_readPlace_2 : zD cX7_readPlace 2 (.iconst 0) 1 3 := ⟨by decide +kernel, rfl⟩
theorem dX7_readPlace_3 : zD cX7_readPlace 3 (.istore_n 2) 1 4 := ⟨by decide +kernel, rfl⟩
theorem dX7_readPlace_4 : zD cX7_readPlace 4 (.aload_n 0) 1 5 := ⟨by decide +kernel, rfl⟩
theorem dX7_readPlace_5 : zD cX7_readPlace 5 (.invokevirtual 121) 3 8 := ⟨by decide +kernel, rfl⟩
theorem dX7_readPlace_8 : zD cX7_readPlace 8 (.i2l) 1 9 := ⟨by decide +kernel, rfl⟩
theorem dX7_readPlace_9 : zD cX7_readPlace 9 (.iload_n 2) 1 10 := ⟨by decide +kernel, rfl⟩
theorem dX7_readPlace_10 : zD cX7_readPlace 10 (.i2l) 1 11 := ⟨by decide +kernel, rfl⟩
theorem dX7_readPlace_11 : zD cX7_readPlace 11 (.aload_n 0) 1 12 := ⟨by decide +kernel, rfl⟩
theorem dX7_readPlace_12 : zD cX7_readPlace 12 (.getfield 128) 3 15 := ⟨by decide +kernel, rfl⟩
theorem dX7_readPlace_15 : zD cX7_readPlace 15 (.iconst 1) 1 16 := ⟨by decide +kernel, rfl⟩
theorem dX7_readPlace_16 : zD cX7_readPlace 16 (.isub) 1 17 := ⟨by decide +kernel, rfl⟩
theorem dX7_readPlace_17 : zD cX7_readPlace 17 (.i2l) 1 18 := ⟨by decide +kernel, rfl⟩
theorem dX7_readPlace_18 : zD cX7_readPlace 18 (.invokestatic 97) 3 21 := ⟨by decide +kernel, rfl⟩
theorem dX7_readPlace_21 : zD cX7_readPlace 21 (.ifCond .eq 32) 3 24 := ⟨by decide +kernel, rfl⟩
theorem dX7_readPlace_24 : zD cX7_readPlace 24 (.iload_n 1) 1 25 := ⟨by decide +kernel, rfl⟩
theorem dX7_readPlace_25 : zD cX7_readPlace 25 (.iconst 1) 1 26 := ⟨by decide +kernel, rfl⟩
theorem dX7_readPlace_26 : zD cX7_readPlace 26 (.aload_n 0) 1 27 := ⟨by decide +kernel, rfl⟩
theorem dX7_readPlace_27 : zD cX7_readPlace 27 (.invokevirtual 121) 3 30 := ⟨by decide +kernel, rfl⟩
theorem dX7_readPlace_30 : zD cX7_readPlace 30 (.ishl) 1 31 := ⟨by decide +kernel, rfl⟩
theorem dX7_readPlace_31 : zD cX7_readPlace 31 (.ior) 1 32 := ⟨by decide +kernel, rfl⟩
theorem dX7_readPlace_32 : zD cX7_readPlace 32 (.istore_n 1) 1 33 := ⟨by decide +kernel, rfl⟩
theorem dX7_readPlace_33 : zD cX7_readPlace 33 (.aload_n 0) 1 34 := ⟨by decide +kernel, rfl⟩
theorem dX7_readPlace_34 : zD cX7_readPlace 34 (.invokevirtual 121) 3 37 := ⟨by decide +kernel, rfl⟩
theorem dX7_readPlace_37 : zD cX7_readPlace 37 (.iconst 1) 1 38 := ⟨by decide +kernel, rfl⟩
theorem dX7_readPlace_38 : zD cX7_readPlace 38 (.iadd) 1 39 := ⟨by decide +kernel, rfl⟩
theorem dX7_readPlace_39 : zD cX7_readPlace 39 (.istore_n 2) 1 40 := ⟨by decide +kernel, rfl⟩
theorem dX7_readPlace_40 : zD cX7_readPlace 40 (.aload_n 0) 1 41 := ⟨by decide +kernel, rfl⟩
theorem dX7_readPlace_41 : zD cX7_readPlace 41 (.dup) 1 42 := ⟨by decide +kernel, rfl⟩
theorem dX7_readPlace_42 : zD cX7_readPlace 42 (.getfield 116) 3 45 := ⟨by decide +kernel, rfl⟩
theorem dX7_readPlace_45 : zD cX7_readPlace 45 (.iconst 1) 1 46 := ⟨by decide +kernel, rfl⟩
theorem dX7_readPlace_46 : zD cX7_readPlace 46 (.iadd) 1 47 := ⟨by decide +kernel, rfl⟩
theorem dX7_readPlace_47 : zD cX7_readPlace 47 (.putfield 116) 3 50 := ⟨by decide +kernel, rfl⟩
theorem dX7_readPlace_50 : zD cX7_readPlace 50 (.goto (-46)) 3 53 := ⟨by decide +kernel, rfl⟩
theorem dX7_readPlace_53 : zD cX7_readPlace 53 (.iload_n 1) 1 54 := ⟨by decide +kernel, rfl⟩
theorem dX7_readPlace_54 : zD cX7_readPlace 54 (.ifCond .eq 12) 3 57 := ⟨by decide +kernel, rfl⟩
theorem dX7_readPlace_57 : zD cX7_readPlace 57 (.aload_n 0) 1 58 := ⟨by decide +kernel, rfl⟩
theorem dX7_readPlace_58 : zD cX7_readPlace 58 (.bipush 58) 2 60 := ⟨by decide +kernel, rfl⟩
theorem dX7_readPlace_60 : zD cX7_readPlace 60 (.invokevirtual 139) 3 63 := ⟨by decide +kernel, rfl⟩
theorem dX7_readPlace_63 : zD cX7_readPlace 63 (.ifCond .ne 5) 3 66 := ⟨by decide +kernel, rfl⟩
theorem dX7_readPlace_66 : zD cX7_readPlace 66 (.iconst 0) 1 67 := ⟨by decide +kernel, rfl⟩
theorem dX7_readPlace_67 : zD cX7_readPlace 67 (.ireturn) 1 68 := ⟨by decide +kernel, rfl⟩
theorem dX7_readPlace_68 : zD cX7_readPlace 68 (.aload_n 0) 1 69 := ⟨by decide +kernel, rfl⟩
theorem dX7_readPlace_69 : zD cX7_readPlace 69 (.iconst 5) 1 70 := ⟨by decide +kernel, rfl⟩
theorem dX7_readPlace_70 : zD cX7_readPlace 70 (.iconst 1) 1 71 := ⟨by decide +kernel, rfl⟩
theorem dX7_readPlace_71 : zD cX7_readPlace 71 (.invokevirtual 135) 3 74 := ⟨by decide +kernel, rfl⟩
theorem dX7_readPlace_74 : zD cX7_readPlace 74 (.istore_n 3) 1 75 := ⟨by decide +kernel, rfl⟩
theorem dX7_readPlace_75 : zD cX7_readPlace 75 (.iload_n 3) 1 76 := ⟨by decide +kernel, rfl⟩
theorem dX7_readPlace_76 : zD cX7_readPlace 76 (.bipush (-9)) 2 78 := ⟨by decide +kernel, rfl⟩
theorem dX7_readPlace_78 : zD cX7_readPlace 78 (.if_icmp .ne 5) 3 81 := ⟨by decide +kernel, rfl⟩
theorem dX7_readPlace_81 : zD cX7_readPlace 81 (.iconst 0) 1 82 := ⟨by decide +kernel, rfl⟩
theorem dX7_readPlace_82 : zD cX7_readPlace 82 (.ireturn) 1 83 := ⟨by decide +kernel, rfl⟩
theorem dX7_readPlace_83 : zD cX7_readPlace 83 (.aload_n 0) 1 84 := ⟨by decide +kernel, rfl⟩
theorem dX7_readPlace_84 : zD cX7_readPlace 84 (.getfield 50) 3 87 := ⟨by decide +kernel, rfl⟩
theorem dX7_readPlace_87 : zD cX7_readPlace 87 (.aload_n 0) 1 88 := ⟨by decide +kernel, rfl⟩
theorem dX7_readPlace_88 : zD cX7_readPlace 88 (.getfield 142) 3 91 := ⟨by decide +kernel, rfl⟩
theorem dX7_readPlace_91 : zD cX7_readPlace 91 (.iload_n 1) 1 92 := ⟨by decide +kernel, rfl⟩
theorem dX7_readPlace_92 : zD cX7_readPlace 92 (.iastore) 1 93 := ⟨by decide +kernel, rfl⟩
theorem dX7_readPlace_93 : zD cX7_readPlace 93 (.aload_n 0) 1 94 := ⟨by decide +kernel, rfl⟩
theorem dX7_readPlace_94 : zD cX7_readPlace 94 (.getfield 53) 3 97 := ⟨by decide +kernel, rfl⟩
theorem dX7_readPlace_97 : zD cX7_readPlace 97 (.aload_n 0) 1 98 := ⟨by decide +kernel, rfl⟩
theorem dX7_readPlace_98 : zD cX7_readPlace 98 (.getfield 142) 3 101 := ⟨by decide +kernel, rfl⟩
theorem dX7_readPlace_101 : zD cX7_readPlace 101 (.iload_n 3) 1 102 := ⟨by decide +kernel, rfl⟩
theorem dX7_readPlace_102 : zD cX7_readPlace 102 (.iastore) 1 103 := ⟨by decide +kernel, rfl⟩
theorem dX7_readPlace_103 : zD cX7_readPlace 103 (.aload_n 0) 1 104 := ⟨by decide +kernel, rfl⟩
theorem dX7_readPlace_104 : zD cX7_readPlace 104 (.dup) 1 105 := ⟨by decide +kernel, rfl⟩
theorem dX7_readPlace_105 : zD cX7_readPlace 105 (.getfield 142) 3 108 := ⟨by decide +kernel, rfl⟩
theorem dX7_readPlace_108 : zD cX7_readPlace 108 (.iconst 1) 1 109 := ⟨by decide +kernel, rfl⟩
theorem dX7_readPlace_109 : zD cX7_readPlace 109 (.iadd) 1 110 := ⟨by decide +kernel, rfl⟩
theorem dX7_readPlace_110 : zD cX7_readPlace 110 (.putfield 142) 3 113 := ⟨by decide +kernel, rfl⟩
theorem dX7_readPlace_113 : zD cX7_readPlace 113 (.iconst 1) 1 114 := ⟨by decide +kernel, rfl⟩
theorem dX7_readPlace_114 : zD cX7_readPlace 114 (.ireturn) 1 115 := ⟨by decide +kernel, rfl⟩
theorem dX7_readText_0 : zD cX7_readText 0 (.aload_n 0) 1 1 := ⟨by decide +kernel, rfl⟩
theorem dX7_readText_1 : zD cX7_readText 1 (.iconst 0) 1 2 := ⟨by decide +kernel, rfl⟩
theorem dX7_readText_2 : zD cX7_readText 2 (.putfield 116) 3 5 := ⟨by decide +kernel, rfl⟩
theorem dX7_readText_5 : zD cX7_readText 5 (.aload_n 0) 1 6 := ⟨by decide +kernel, rfl⟩
theorem dX7_readText_6 : zD cX7_readText 6 (.iconst 0) 1 7 := ⟨by decide +kernel, rfl⟩
theorem dX7_readText_7 : zD cX7_readText 7 (.putfield 125) 3 10 := ⟨by decide +kernel, rfl⟩
theorem dX7_readText_10 : zD cX7_readText 10 (.aload_n 0) 1 11 := ⟨by decide +kernel, rfl⟩
theorem dX7_readText_11 : zD cX7_readText 11 (.iconst 0) 1 12 := ⟨by decide +kernel, rfl⟩
theorem dX7_readText_12 : zD cX7_readText 12 (.putfield 142) 3 15 := ⟨by decide +kernel, rfl⟩
theorem dX7_readText_15 : zD cX7_readText 15 (.aload_n 0) 1 16 := ⟨by decide +kernel, rfl⟩
theorem dX7_readText_16 : zD cX7_readText 16 (.bipush 75) 2 18 := ⟨by decide +kernel, rfl⟩
theorem dX7_readText_18 : zD cX7_readText 18 (.invokevirtual 139) 3 21 := ⟨by decide +kernel, rfl⟩
theorem dX7_readText_21 : zD cX7_readText 21 (.ifCond .ne 8) 3 24 := ⟨by decide +kernel, rfl⟩
theorem dX7_readText_24 : zD cX7_readText 24 (.aload_n 0) 1 25 := ⟨by decide +kernel, rfl⟩
theorem dX7_readText_25 : zD cX7_readText 25 (.getfield 116) 3 28 := ⟨by decide +kernel, rfl⟩
theorem dX7_readText_28 : zD cX7_readText 28 (.ireturn) 1 29 := ⟨by decide +kernel, rfl⟩
theorem dX7_readText_29 : zD cX7_readText 29 (.aload_n 0) 1 30 := ⟨by decide +kernel, rfl⟩
theorem dX7_readText_30 : zD cX7_readText 30 (.aload_n 0) 1 31 := ⟨by decide +kernel, rfl⟩
theorem dX7_readText_31 : zD cX7_readText 31 (.invokevirtual 121) 3 34 := ⟨by decide +kernel, rfl⟩
theorem dX7_readText_34 : zD cX7_readText 34 (.putfield 128) 3 37 := ⟨by decide +kernel, rfl⟩
theorem dX7_readText_37 : zD cX7_readText 37 (.aload_n 0) 1 38 := ⟨by decide +kernel, rfl⟩
theorem dX7_readText_38 : zD cX7_readText 38 (.getfield 128) 3 41 := ⟨by decide +kernel, rfl⟩
theorem dX7_readText_41 : zD cX7_readText 41 (.i2l) 1 42 := ⟨by decide +kernel, rfl⟩
theorem dX7_readText_42 : zD cX7_readText 42 (.lconst 1) 1 43 := ⟨by decide +kernel, rfl⟩
theorem dX7_readText_43 : zD cX7_readText 43 (.ldc2_w 145) 3 46 := ⟨by decide +kernel, rfl⟩
theorem dX7_readText_46 : zD cX7_readText 46 (.invokestatic 97) 3 49 := ⟨by decide +kernel, rfl⟩
theorem dX7_readText_49 : zD cX7_readText 49 (.ifCond .ne 8) 3 52 := ⟨by decide +kernel, rfl⟩
theorem dX7_readText_52 : zD cX7_readText 52 (.aload_n 0) 1 53 := ⟨by decide +kernel, rfl⟩
theorem dX7_readText_53 : zD cX7_readText 53 (.getfield 116) 3 56 := ⟨by decide +kernel, rfl⟩
theorem dX7_readText_56 : zD cX7_readText 56 (.ireturn) 1 57 := ⟨by decide +kernel, rfl⟩
theorem dX7_readText_57 : zD cX7_readText 57 (.aload_n 0) 1 58 := ⟨by decide +kernel, rfl⟩
theorem dX7_readText_58 : zD cX7_readText 58 (.dup) 1 59 := ⟨by decide +kernel, rfl⟩
theorem dX7_readText_59 : zD cX7_readText 59 (.getfield 116) 3 62 := ⟨by decide +kernel, rfl⟩
theorem dX7_readText_62 : zD cX7_readText 62 (.iconst 1) 1 63 := ⟨by decide +kernel, rfl⟩
theorem dX7_readText_63 : zD cX7_readText 63 (.iadd) 1 64 := ⟨by decide +kernel, rfl⟩
theorem dX7_readText_64 : zD cX7_readText 64 (.putfield 116) 3 67 := ⟨by decide +kernel, rfl⟩
theorem dX7_readText_67 : zD cX7_readText 67 (.aload_n 0) 1 68 := ⟨by decide +kernel, rfl⟩
theorem dX7_readText_68 : zD cX7_readText 68 (.aload_n 0) 1 69 := ⟨by decide +kernel, rfl⟩
theorem dX7_readText_69 : zD cX7_readText 69 (.iconst 5) 1 70 := ⟨by decide +kernel, rfl⟩
theorem dX7_readText_70 : zD cX7_readText 70 (.iconst 1) 1 71 := ⟨by decide +kernel, rfl⟩
theorem dX7_readText_71 : zD cX7_readText 71 (.invokevirtual 135) 3 74 := ⟨by decide +kernel, rfl⟩
theorem dX7_readText_74 : zD cX7_readText 74 (.putfield 147) 3 77 := ⟨by decide +kernel, rfl⟩
theorem dX7_readText_77 : zD cX7_readText 77 (.aload_n 0) 1 78 := ⟨by decide +kernel, rfl⟩
theorem dX7_readText_78 : zD cX7_readText 78 (.getfield 147) 3 81 := ⟨by decide +kernel, rfl⟩
theorem dX7_readText_81 : zD cX7_readText 81 (.bipush (-9)) 2 83 := ⟨by decide +kernel, rfl⟩
theorem dX7_readText_83 : zD cX7_readText 83 (.if_icmp .ne 8) 3 86 := ⟨by decide +kernel, rfl⟩
theorem dX7_readText_86 : zD cX7_readText 86 (.aload_n 0) 1 87 := ⟨by decide +kernel, rfl⟩
theorem dX7_readText_87 : zD cX7_readText 87 (.getfield 116) 3 90 := ⟨by decide +kernel, rfl⟩
theorem dX7_readText_90 : zD cX7_readText 90 (.ireturn) 1 91 := ⟨by decide +kernel, rfl⟩
theorem dX7_readText_91 : zD cX7_readText 91 (.aload_n 0) 1 92 := ⟨by decide +kernel, rfl⟩
theorem dX7_readText_92 : zD cX7_readText 92 (.getfield 116) 3 95 := ⟨by decide +kernel, rfl⟩
theorem dX7_readText_95 : zD cX7_readText 95 (.aload_n 0) 1 96 := ⟨by decide +kernel, rfl⟩
theorem dX7_readText_96 : zD cX7_readText 96 (.getfield 109) 3 99 := ⟨by decide +kernel, rfl⟩
theorem dX7_readText_99 : zD cX7_readText 99 (.if_icmp .ge 64) 3 102 := ⟨by decide +kernel, rfl⟩
theorem dX7_readText_102 : zD cX7_readText 102 (.iconst 0) 1 103 := ⟨by decide +kernel, rfl⟩
theorem dX7_readText_103 : zD cX7_readText 103 (.istore_n 1) 1 104 := ⟨by decide +kernel, rfl⟩
theorem dX7_readText_104 : zD cX7_readText 104 (.aload_n 0) 1 105 := ⟨by decide +kernel, rfl⟩
theorem dX7_readText_105 : zD cX7_readText 105 (.invokevirtual 150) 3 108 := ⟨by decide +kernel, rfl⟩
theorem dX7_readText_108 : zD cX7_readText 108 (.ifCond .eq 20) 3 111 := ⟨by decide +kernel, rfl⟩
theorem dX7_readText_111 : zD cX7_readText 111 (.aload_n 0) 1 112 := ⟨by decide +kernel, rfl⟩
theorem dX7_readText_112 : zD cX7_readText 112 (.bipush 99) 2 114 := ⟨by decide +kernel, rfl⟩
theorem dX7_readText_114 : zD cX7_readText 114 (.invokevirtual 139) 3 117 := ⟨by decide +kernel, rfl⟩
theorem dX7_readText_117 : zD cX7_readText 117 (.ifCond .eq 11) 3 120 := ⟨by decide +kernel, rfl⟩
theorem dX7_readText_120 : zD cX7_readText 120 (.aload_n 0) 1 121 := ⟨by decide +kernel, rfl⟩
theorem dX7_readText_121 : zD cX7_readText 121 (.invokevirtual 154) 3 124 := ⟨by decide +kernel, rfl⟩
theorem dX7_readText_124 : zD cX7_readText 124 (.istore_n 1) 1 125 := ⟨by decide +kernel, rfl⟩
theorem dX7_readText_125 : zD cX7_readText 125 (.goto 26) 3 128 := ⟨by decide +kernel, rfl⟩
theorem dX7_readText_128 : zD cX7_readText 128 (.aload_n 0) 1 129 := ⟨by decide +kernel, rfl⟩
theorem dX7_readText_129 : zD cX7_readText 129 (.getfield 142) 3 132 := ⟨by decide +kernel, rfl⟩
theorem dX7_readText_132 : zD cX7_readText 132 (.bipush 6) 2 134 := ⟨by decide +kernel, rfl⟩
theorem dX7_readText_134 : zD cX7_readText 134 (.if_icmp .ge 17) 3 137 := ⟨by decide +kernel, rfl⟩
theorem dX7_readText_137 : zD cX7_readText 137 (.aload_n 0) 1 138 := ⟨by decide +kernel, rfl⟩
theorem dX7_readText_138 : zD cX7_readText 138 (.bipush 112) 2 140 := ⟨by decide +kernel, rfl⟩
theorem dX7_readText_140 : zD cX7_readText 140 (.invokevirtual 139) 3 143 := ⟨by decide +kernel, rfl⟩
theorem dX7_readText_143 : zD cX7_readText 143 (.ifCond .eq 8) 3 146 := ⟨by decide +kernel, rfl⟩
theorem dX7_readText_146 : zD cX7_readText 146 (.aload_n 0) 1 147 := ⟨by decide +kernel, rfl⟩
theorem dX7_readText_147 : zD cX7_readText 147 (.invokevirtual 157) 3 150 := ⟨by decide +kernel, rfl⟩
theorem dX7_readText_150 : zD cX7_readText 150 (.istore_n 1) 1 151 := ⟨by decide +kernel, rfl⟩
theorem dX7_readText_151 : zD cX7_readText 151 (.iload_n 1) 1 152 := ⟨by decide +kernel, rfl⟩
theorem dX7_readText_152 : zD cX7_readText 152 (.ifCond .ne 8) 3 155 := ⟨by decide +kernel, rfl⟩
theorem dX7_readText_155 : zD cX7_readText 155 (.aload_n 0) 1 156 := ⟨by decide +kernel, rfl⟩
theorem dX7_readText_156 : zD cX7_readText 156 (.getfield 116) 3 159 := ⟨by decide +kernel, rfl⟩
theorem dX7_readText_159 : zD cX7_readText 159 (.ireturn) 1 160 := ⟨by decide +kernel, rfl⟩
theorem dX7_readText_160 : zD cX7_readText 160 (.goto (-69)) 3 163 := ⟨by decide +kernel, rfl⟩
theorem dX7_readText_163 : zD cX7_readText 163 (.bipush (-9)) 2 165 := ⟨by decide +kernel, rfl⟩
theorem dX7_readText_165 : zD cX7_readText 165 (.ireturn) 1 166 := ⟨by decide +kernel, rfl⟩
theorem dX7_errorPosition_0 : zD cX7_errorPosition 0 (.aload_n 0) 1 1 := ⟨by decide +kernel, rfl⟩
theorem dX7_errorPosition_1 : zD cX7_errorPosition 1 (.iconst 0) 1 2 := ⟨by decide +kernel, rfl⟩
theorem dX7_errorPosition_2 : zD cX7_errorPosition 2 (.putfield 84) 3 5 := ⟨by decide +kernel, rfl⟩
theorem dX7_errorPosition_5 : zD cX7_errorPosition 5 (.aload_n 0) 1 6 := ⟨by decide +kernel, rfl⟩
theorem dX7_errorPosition_6 : zD cX7_errorPosition 6 (.invokevirtual 160) 3 9 := ⟨by decide +kernel, rfl⟩
theorem dX7_errorPosition_9 : zD cX7_errorPosition 9 (.ireturn) 1 10 := ⟨by decide +kernel, rfl⟩
theorem dX7_load_0 : zD cX7_load 0 (.aload_n 0) 1 1 := ⟨by decide +kernel, rfl⟩
theorem dX7_load_1 : zD cX7_load 1 (.aload_n 0) 1 2 := ⟨by decide +kernel, rfl⟩
theorem dX7_load_2 : zD cX7_load 2 (.invokevirtual 160) 3 5 := ⟨by decide +kernel, rfl⟩
theorem dX7_load_5 : zD cX7_load 5 (.bipush (-9)) 2 7 := ⟨by decide +kernel, rfl⟩
theorem dX7_load_7 : zD cX7_load 7 (.if_icmp .ne 7) 3 10 := ⟨by decide +kernel, rfl⟩
theorem dX7_load_10 : zD cX7_load 10 (.iconst 0) 1 11 := ⟨by decide +kernel, rfl⟩
theorem dX7_load_11 : zD cX7_load 11 (.goto 4) 3 14 := ⟨by decide +kernel, rfl⟩
theorem dX7_load_14 : zD cX7_load 14 (.iconst 1) 1 15 := ⟨by decide +kernel, rfl⟩
theorem dX7_load_15 : zD cX7_load 15 (.invokevirtual 112) 3 18 := ⟨by decide +kernel, rfl⟩
theorem dX7_load_18 : zD cX7_load 18 (.ifCond .eq 5) 3 21 := ⟨by decide +kernel, rfl⟩
theorem dX7_load_21 : zD cX7_load 21 (.iconst 0) 1 22 := ⟨by decide +kernel, rfl⟩
theorem dX7_load_22 : zD cX7_load 22 (.ireturn) 1 23 := ⟨by decide +kernel, rfl⟩
theorem dX7_load_23 : zD cX7_load 23 (.iconst 0) 1 24 := ⟨by decide +kernel, rfl⟩
theorem dX7_load_24 : zD cX7_load 24 (.istore_n 1) 1 25 := ⟨by decide +kernel, rfl⟩
theorem dX7_load_25 : zD cX7_load 25 (.iload_n 1) 1 26 := ⟨by decide +kernel, rfl⟩
theorem dX7_load_26 : zD cX7_load 26 (.sipush 360) 3 29 := ⟨by decide +kernel, rfl⟩
theorem dX7_load_29 : zD cX7_load 29 (.if_icmp .ge 16) 3 32 := ⟨by decide +kernel, rfl⟩
theorem dX7_load_32 : zD cX7_load 32 (.aload_n 0) 1 33 := ⟨by decide +kernel, rfl⟩
theorem dX7_load_33 : zD cX7_load 33 (.getfield 56) 3 36 := ⟨by decide +kernel, rfl⟩
theorem dX7_load_36 : zD cX7_load 36 (.iload_n 1) 1 37 := ⟨by decide +kernel, rfl⟩
theorem dX7_load_37 : zD cX7_load 37 (.iconst 0) 1 38 := ⟨by decide +kernel, rfl⟩
theorem dX7_load_38 : zD cX7_load 38 (.iastore) 1 39 := ⟨by decide +kernel, rfl⟩
theorem dX7_load_39 : zD cX7_load 39 (.iinc 1 1) 3 42 := ⟨by decide +kernel, rfl⟩
theorem dX7_load_42 : zD cX7_load 42 (.goto (-17)) 3 45 := ⟨by decide +kernel, rfl⟩
theorem dX7_load_45 : zD cX7_load 45 (.aload_n 0) 1 46 := ⟨by decide +kernel, rfl⟩
theorem dX7_load_46 : zD cX7_load 46 (.aload_n 0) 1 47 := ⟨by decide +kernel, rfl⟩
theorem dX7_load_47 : zD cX7_load 47 (.getfield 128) 3 50 := ⟨by decide +kernel, rfl⟩
theorem dX7_load_50 : zD cX7_load 50 (.putfield 13) 3 53 := ⟨by decide +kernel, rfl⟩
theorem dX7_load_53 : zD cX7_load 53 (.aload_n 0) 1 54 := ⟨by decide +kernel, rfl⟩
theorem dX7_load_54 : zD cX7_load 54 (.aload_n 0) 1 55 := ⟨by decide +kernel, rfl⟩
theorem dX7_load_55 : zD cX7_load 55 (.getfield 125) 3 58 := ⟨by decide +kernel, rfl⟩
theorem dX7_load_58 : zD cX7_load 58 (.putfield 101) 3 61 := ⟨by decide +kernel, rfl⟩
theorem dX7_load_61 : zD cX7_load 61 (.aload_n 0) 1 62 := ⟨by decide +kernel, rfl⟩
theorem dX7_load_62 : zD cX7_load 62 (.aload_n 0) 1 63 := ⟨by decide +kernel, rfl⟩
theorem dX7_load_63 : zD cX7_load 63 (.getfield 142) 3 66 := ⟨by decide +kernel, rfl⟩
theorem dX7_load_66 : zD cX7_load 66 (.putfield 104) 3 69 := ⟨by decide +kernel, rfl⟩
theorem dX7_load_69 : zD cX7_load 69 (.aload_n 0) 1 70 := ⟨by decide +kernel, rfl⟩
theorem dX7_load_70 : zD cX7_load 70 (.getfield 56) 3 73 := ⟨by decide +kernel, rfl⟩
theorem dX7_load_73 : zD cX7_load 73 (.iconst 3) 1 74 := ⟨by decide +kernel, rfl⟩
theorem dX7_load_74 : zD cX7_load 74 (.aload_n 0) 1 75 := ⟨by decide +kernel, rfl⟩
theorem dX7_load_75 : zD cX7_load 75 (.getfield 147) 3 78 := ⟨by decide +kernel, rfl⟩
theorem dX7_load_78 : zD cX7_load 78 (.iastore) 1 79 := ⟨by decide +kernel, rfl⟩
theorem dX7_load_79 : zD cX7_load 79 (.iconst 0) 1 80 := ⟨by decide +kernel, rfl⟩
theorem dX7_load_80 : zD cX7_load 80 (.istore_n 1) 1 81 := ⟨by decide +kernel, rfl⟩
theorem dX7_load_81 : zD cX7_load 81 (.iload_n 1) 1 82 := ⟨by decide +kernel, rfl⟩
theorem dX7_load_82 : zD cX7_load 82 (.aload_n 0) 1 83 := ⟨by decide +kernel, rfl⟩
theorem dX7_load_83 : zD cX7_load 83 (.getfield 101) 3 86 := ⟨by decide +kernel, rfl⟩
theorem dX7_load_86 : zD cX7_load 86 (.if_icmp .ge 71) 3 89 := ⟨by decide +kernel, rfl⟩
theorem dX7_load_89 : zD cX7_load 89 (.aload_n 0) 1 90 := ⟨by decide +kernel, rfl⟩
theorem dX7_load_90 : zD cX7_load 90 (.getfield 17) 3 93 := ⟨by decide +kernel, rfl⟩
theorem dX7_load_93 : zD cX7_load 93 (.iload_n 1) 1 94 := ⟨by decide +kernel, rfl⟩
theorem dX7_load_94 : zD cX7_load 94 (.aload_n 0) 1 95 := ⟨by decide +kernel, rfl⟩
theorem dX7_load_95 : zD cX7_load 95 (.getfield 35) 3 98 := ⟨by decide +kernel, rfl⟩
theorem dX7_load_98 : zD cX7_load 98 (.iload_n 1) 1 99 := ⟨by decide +kernel, rfl⟩
theorem dX7_load_99 : zD cX7_load 99 (.iaload) 1 100 := ⟨by decide +kernel, rfl⟩
theorem dX7_load_100 : zD cX7_load 100 (.iastore) 1 101 := ⟨by decide +kernel, rfl⟩
theorem dX7_load_101 : zD cX7_load 101 (.aload_n 0) 1 102 := ⟨by decide +kernel, rfl⟩
theorem dX7_load_102 : zD cX7_load 102 (.getfield 20) 3 105 := ⟨by decide +kernel, rfl⟩
theorem dX7_load_105 : zD cX7_load 105 (.iload_n 1) 1 106 := ⟨by decide +kernel, rfl⟩
theorem dX7_load_106 : zD cX7_load 106 (.aload_n 0) 1 107 := ⟨by decide +kernel, rfl⟩
theorem dX7_load_107 : zD cX7_load 107 (.getfield 38) 3 110 := ⟨by decide +kernel, rfl⟩
theorem dX7_load_110 : zD cX7_load 110 (.iload_n 1) 1 111 := ⟨by decide +kernel, rfl⟩
theorem dX7_load_111 : zD cX7_load 111 (.iaload) 1 112 := ⟨by decide +kernel, rfl⟩
theorem dX7_load_112 : zD cX7_load 112 (.iastore) 1 113 := ⟨by decide +kernel, rfl⟩
theorem dX7_load_113 : zD cX7_load 113 (.aload_n 0) 1 114 := ⟨by decide +kernel, rfl⟩
theorem dX7_load_114 : zD cX7_load 114 (.getfield 56) 3 117 := ⟨by decide +kernel, rfl⟩
theorem dX7_load_117 : zD cX7_load 117 (.iconst 4) 1 118 := ⟨by decide +kernel, rfl⟩
theorem dX7_load_118 : zD cX7_load 118 (.iload_n 1) 1 119 := ⟨by decide +kernel, rfl⟩
theorem dX7_load_119 : zD cX7_load 119 (.iadd) 1 120 := ⟨by decide +kernel, rfl⟩
theorem dX7_load_120 : zD cX7_load 120 (.aload_n 0) 1 121 := ⟨by decide +kernel, rfl⟩
theorem dX7_load_121 : zD cX7_load 121 (.getfield 41) 3 124 := ⟨by decide +kernel, rfl⟩
theorem dX7_load_124 : zD cX7_load 124 (.iload_n 1) 1 125 := ⟨by decide +kernel, rfl⟩
theorem dX7_load_125 : zD cX7_load 125 (.iaload) 1 126 := ⟨by decide +kernel, rfl⟩
theorem dX7_load_126 : zD cX7_load 126 (.iastore) 1 127 := ⟨by decide +kernel, rfl⟩
theorem dX7_load_127 : zD cX7_load 127 (.aload_n 0) 1 128 := ⟨by decide +kernel, rfl⟩
theorem dX7_load_128 : zD cX7_load 128 (.getfield 23) 3 131 := ⟨by decide +kernel, rfl⟩
theorem dX7_load_131 : zD cX7_load 131 (.iload_n 1) 1 132 := ⟨by decide +kernel, rfl⟩
theorem dX7_load_132 : zD cX7_load 132 (.aload_n 0) 1 133 := ⟨by decide +kernel, rfl⟩
theorem dX7_load_133 : zD cX7_load 133 (.getfield 44) 3 136 := ⟨by decide +kernel, rfl⟩
theorem dX7_load_136 : zD cX7_load 136 (.iload_n 1) 1 137 := ⟨by decide +kernel, rfl⟩
theorem dX7_load_137 : zD cX7_load 137 (.iaload) 1 138 := ⟨by decide +kernel, rfl⟩
theorem dX7_load_138 : zD cX7_load 138 (.iastore) 1 139 := ⟨by decide +kernel, rfl⟩
theorem dX7_load_139 : zD cX7_load 139 (.aload_n 0) 1 140 := ⟨by decide +kernel, rfl⟩
theorem dX7_load_140 : zD cX7_load 140 (.getfield 26) 3 143 := ⟨by decide +kernel, rfl⟩
theorem dX7_load_143 : zD cX7_load 143 (.iload_n 1) 1 144 := ⟨by decide +kernel, rfl⟩
theorem dX7_load_144 : zD cX7_load 144 (.aload_n 0) 1 145 := ⟨by decide +kernel, rfl⟩
theorem dX7_load_145 : zD cX7_load 145 (.getfield 47) 3 148 := ⟨by decide +kernel, rfl⟩
theorem dX7_load_148 : zD cX7_load 148 (.iload_n 1) 1 149 := ⟨by decide +kernel, rfl⟩
theorem dX7_load_149 : zD cX7_load 149 (.iaload) 1 150 := ⟨by decide +kernel, rfl⟩
theorem dX7_load_150 : zD cX7_load 150 (.iastore) 1 151 := ⟨by decide +kernel, rfl⟩
theorem dX7_load_151 : zD cX7_load 151 (.iinc 1 1) 3 154 := ⟨by decide +kernel, rfl⟩
theorem dX7_load_154 : zD cX7_load 154 (.goto (-73)) 3 157 := ⟨by decide +kernel, rfl⟩
theorem dX7_load_157 : zD cX7_load 157 (.aload_n 0) 1 158 := ⟨by decide +kernel, rfl⟩
theorem dX7_load_158 : zD cX7_load 158 (.getfield 50) 3 161 := ⟨by decide +kernel, rfl⟩
theorem dX7_load_161 : zD cX7_load 161 (.iconst 0) 1 162 := ⟨by decide +kernel, rfl⟩
theorem dX7_load_162 : zD cX7_load 162 (.aload_n 0) 1 163 := ⟨by decide +kernel, rfl⟩
theorem dX7_load_163 : zD cX7_load 163 (.getfield 29) 3 166 := ⟨by decide +kernel, rfl⟩
theorem dX7_load_166 : zD cX7_load 166 (.iconst 0) 1 167 := ⟨by decide +kernel, rfl⟩
theorem dX7_load_167 : zD cX7_load 167 (.bipush 6) 2 169 := ⟨by decide +kernel, rfl⟩
theorem dX7_load_169 : zD cX7_load 169 (.invokestatic 90) 3 172 := ⟨by decide +kernel, rfl⟩
theorem dX7_load_172 : zD cX7_load 172 (.aload_n 0) 1 173 := ⟨by decide +kernel, rfl⟩
theorem dX7_load_173 : zD cX7_load 173 (.getfield 53) 3 176 := ⟨by decide +kernel, rfl⟩
theorem dX7_load_176 : zD cX7_load 176 (.iconst 0) 1 177 := ⟨by decide +kernel, rfl⟩
theorem dX7_load_177 : zD cX7_load 177 (.aload_n 0) 1 178 := ⟨by decide +kernel, rfl⟩
theorem dX7_load_178 : zD cX7_load 178 (.getfield 32) 3 181 := ⟨by decide +kernel, rfl⟩
theorem dX7_load_181 : zD cX7_load 181 (.iconst 0) 1 182 := ⟨by decide +kernel, rfl⟩
theorem dX7_load_182 : zD cX7_load 182 (.bipush 6) 2 184 := ⟨by decide +kernel, rfl⟩
theorem dX7_load_184 : zD cX7_load 184 (.invokestatic 90) 3 187 := ⟨by decide +kernel, rfl⟩
theorem dX7_load_187 : zD cX7_load 187 (.aload_n 0) 1 188 := ⟨by decide +kernel, rfl⟩
theorem dX7_load_188 : zD cX7_load 188 (.iconst 0) 1 189 := ⟨by decide +kernel, rfl⟩
theorem dX7_load_189 : zD cX7_load 189 (.putfield 87) 3 192 := ⟨by decide +kernel, rfl⟩
theorem dX7_load_192 : zD cX7_load 192 (.aload_n 0) 1 193 := ⟨by decide +kernel, rfl⟩
theorem dX7_load_193 : zD cX7_load 193 (.getfield 71) 3 196 := ⟨by decide +kernel, rfl⟩
theorem dX7_load_196 : zD cX7_load 196 (.iconst 0) 1 197 := ⟨by decide +kernel, rfl⟩
theorem dX7_load_197 : zD cX7_load 197 (.iconst 0) 1 198 := ⟨by decide +kernel, rfl⟩
theorem dX7_load_198 : zD cX7_load 198 (.bastore) 1 199 := ⟨by decide +kernel, rfl⟩
theorem dX7_load_199 : zD cX7_load 199 (.aload_n 0) 1 200 := ⟨by decide +kernel, rfl⟩
theorem dX7_load_200 : zD cX7_load 200 (.getfield 71) 3 203 := ⟨by decide +kernel, rfl⟩
theorem dX7_load_203 : zD cX7_load 203 (.iconst 1) 1 204 := ⟨by decide +kernel, rfl⟩
theorem dX7_load_204 : zD cX7_load 204 (.iconst 0) 1 205 := ⟨by decide +kernel, rfl⟩
theorem dX7_load_205 : zD cX7_load 205 (.bastore) 1 206 := ⟨by decide +kernel, rfl⟩
theorem dX7_load_206 : zD cX7_load 206 (.aload_n 0) 1 207 := ⟨by decide +kernel, rfl⟩
theorem dX7_load_207 : zD cX7_load 207 (.getfield 101) 3 210 := ⟨by decide +kernel, rfl⟩
theorem dX7_load_210 : zD cX7_load 210 (.ireturn) 1 211 := ⟨by decide +kernel, rfl⟩
theorem dX7_sizeOf_0 : zD cX7_sizeOf 0 (.iconst 0) 1 1 := ⟨by decide +kernel, rfl⟩
theorem dX7_sizeOf_1 : zD cX7_sizeOf 1 (.istore_n 2) 1 2 := ⟨by decide +kernel, rfl⟩
theorem dX7_sizeOf_2 : zD cX7_sizeOf 2 (.iconst 0) 1 3 := ⟨by decide +kernel, rfl⟩
theorem dX7_sizeOf_3 : zD cX7_sizeOf 3 (.istore_n 3) 1 4 := ⟨by decide +kernel, rfl⟩
theorem dX7_sizeOf_4 : zD cX7_sizeOf 4 (.iload_n 3) 1 5 := ⟨by decide +kernel, rfl⟩
theorem dX7_sizeOf_5 : zD cX7_sizeOf 5 (.bipush 8) 2 7 := ⟨by decide +kernel, rfl⟩
theorem dX7_sizeOf_7 : zD cX7_sizeOf 7 (.if_icmp .ge 22) 3 10 := ⟨by decide +kernel, rfl⟩
theorem dX7_sizeOf_10 : zD cX7_sizeOf 10 (.iload_n 2) 1 11 := ⟨by decide +kernel, rfl⟩
theorem dX7_sizeOf_11 : zD cX7_sizeOf 11 (.aload_n 0) 1 12 := ⟨by decide +kernel, rfl⟩
theorem dX7_sizeOf_12 : zD cX7_sizeOf 12 (.iload_n 1) 1 13 := ⟨by decide +kernel, rfl⟩
theorem dX7_sizeOf_13 : zD cX7_sizeOf 13 (.invokestatic 163) 3 16 := ⟨by decide +kernel, rfl⟩
theorem dX7_sizeOf_16 : zD cX7_sizeOf 16 (.iconst 0) 1 17 := ⟨by decide +kernel, rfl⟩
theorem dX7_sizeOf_17 : zD cX7_sizeOf 17 (.iadd) 1 18 := ⟨by decide +kernel, rfl⟩
theorem dX7_sizeOf_18 : zD cX7_sizeOf 18 (.iload_n 3) 1 19 := ⟨by decide +kernel, rfl⟩
theorem dX7_sizeOf_19 : zD cX7_sizeOf 19 (.iadd) 1 20 := ⟨by decide +kernel, rfl⟩
theorem dX7_sizeOf_20 : zD cX7_sizeOf 20 (.iaload) 1 21 := ⟨by decide +kernel, rfl⟩
theorem dX7_sizeOf_21 : zD cX7_sizeOf 21 (.iadd) 1 22 := ⟨by decide +kernel, rfl⟩
theorem dX7_sizeOf_22 : zD cX7_sizeOf 22 (.istore_n 2) 1 23 := ⟨by decide +kernel, rfl⟩
theorem dX7_sizeOf_23 : zD cX7_sizeOf 23 (.iinc 3 1) 3 26 := ⟨by decide +kernel, rfl⟩
theorem dX7_sizeOf_26 : zD cX7_sizeOf 26 (.goto (-22)) 3 29 := ⟨by decide +kernel, rfl⟩
theorem dX7_sizeOf_29 : zD cX7_sizeOf 29 (.iload_n 2) 1 30 := ⟨by decide +kernel, rfl⟩
theorem dX7_sizeOf_30 : zD cX7_sizeOf 30 (.ireturn) 1 31 := ⟨by decide +kernel, rfl⟩
theorem dX7_used_0 : zD cX7_used 0 (.iconst 0) 1 1 := ⟨by decide +kernel, rfl⟩
theorem dX7_used_1 : zD cX7_used 1 (.istore_n 1) 1 2 := ⟨by decide +kernel, rfl⟩
theorem dX7_used_2 : zD cX7_used 2 (.iconst 0) 1 3 := ⟨by decide +kernel, rfl⟩
theorem dX7_used_3 : zD cX7_used 3 (.istore_n 2) 1 4 := ⟨by decide +kernel, rfl⟩
theorem dX7_used_4 : zD cX7_used 4 (.iload_n 2) 1 5 := ⟨by decide +kernel, rfl⟩
theorem dX7_used_5 : zD cX7_used 5 (.aload_n 0) 1 6 := ⟨by decide +kernel, rfl⟩
theorem dX7_used_6 : zD cX7_used 6 (.iconst 0) 1 7 := ⟨by decide +kernel, rfl⟩
theorem dX7_used_7 : zD cX7_used 7 (.iaload) 1 8 := ⟨by decide +kernel, rfl⟩
theorem dX7_used_8 : zD cX7_used 8 (.if_icmp .ge 17) 3 11 := ⟨by decide +kernel, rfl⟩
theorem dX7_used_11 : zD cX7_used 11 (.iload_n 1) 1 12 := ⟨by decide +kernel, rfl⟩
theorem dX7_used_12 : zD cX7_used 12 (.aload_n 0) 1 13 := ⟨by decide +kernel, rfl⟩
theorem dX7_used_13 : zD cX7_used 13 (.iload_n 2) 1 14 := ⟨by decide +kernel, rfl⟩
theorem dX7_used_14 : zD cX7_used 14 (.invokestatic 166) 3 17 := ⟨by decide +kernel, rfl⟩
theorem dX7_used_17 : zD cX7_used 17 (.iadd) 1 18 := ⟨by decide +kernel, rfl⟩
theorem dX7_used_18 : zD cX7_used 18 (.istore_n 1) 1 19 := ⟨by decide +kernel, rfl⟩
theorem dX7_used_19 : zD cX7_used 19 (.iinc 2 1) 3 22 := ⟨by decide +kernel, rfl⟩
theorem dX7_used_22 : zD cX7_used 22 (.goto (-18)) 3 25 := ⟨by decide +kernel, rfl⟩
theorem dX7_used_25 : zD cX7_used 25 (.iload_n 1) 1 26 := ⟨by decide +kernel, rfl⟩
theorem dX7_used_26 : zD cX7_used 26 (.ireturn) 1 27 := ⟨by decide +kernel, rfl⟩
theorem dX7_formsOf_0 : zD cX7_formsOf 0 (.iconst 0) 1 1 := ⟨by decide +kernel, rfl⟩
theorem dX7_formsOf_1 : zD cX7_formsOf 1 (.istore_n 3) 1 2 := ⟨by decide +kernel, rfl⟩
theorem dX7_formsOf_2 : zD cX7_formsOf 2 (.iconst 0) 1 3 := ⟨by decide +kernel, rfl⟩
theorem dX7_formsOf_3 : zD cX7_formsOf 3 (.istore 4) 2 5 := ⟨by decide +kernel, rfl⟩
theorem dX7_formsOf_5 : zD cX7_formsOf 5 (.iload 4) 2 7 := ⟨by decide +kernel, rfl⟩
theorem dX7_formsOf_7 : zD cX7_formsOf 7 (.bipush 8) 2 9 := ⟨by decide +kernel, rfl⟩
theorem dX7_formsOf_9 : zD cX7_formsOf 9 (.if_icmp .ge 36) 3 12 := ⟨by decide +kernel, rfl⟩
theorem dX7_formsOf_12 : zD cX7_formsOf 12 (.iload_n 3) 1 13 := ⟨by decide +kernel, rfl⟩
theorem dX7_formsOf_13 : zD cX7_formsOf 13 (.aload_n 0) 1 14 := ⟨by decide +kernel, rfl⟩
theorem dX7_formsOf_14 : zD cX7_formsOf 14 (.iload_n 1) 1 15 := ⟨by decide +kernel, rfl⟩
theorem dX7_formsOf_15 : zD cX7_formsOf 15 (.invokestatic 163) 3 18 := ⟨by decide +kernel, rfl⟩
theorem dX7_formsOf_18 : zD cX7_formsOf 18 (.bipush 16) 2 20 := ⟨by decide +kernel, rfl⟩
theorem dX7_formsOf_20 : zD cX7_formsOf 20 (.iadd) 1 21 := ⟨by decide +kernel, rfl⟩
theorem dX7_formsOf_21 : zD cX7_formsOf 21 (.iload 4) 2 23 := ⟨by decide +kernel, rfl⟩
theorem dX7_formsOf_23 : zD cX7_formsOf 23 (.iadd) 1 24 := ⟨by decide +kernel, rfl⟩
theorem dX7_formsOf_24 : zD cX7_formsOf 24 (.iaload) 1 25 := ⟨by decide +kernel, rfl⟩
theorem dX7_formsOf_25 : zD cX7_formsOf 25 (.iload_n 2) 1 26 := ⟨by decide +kernel, rfl⟩
theorem dX7_formsOf_26 : zD cX7_formsOf 26 (.if_icmp .lt 10) 3 29 := ⟨by decide +kernel, rfl⟩
theorem dX7_formsOf_29 : zD cX7_formsOf 29 (.iconst 1) 1 30 := ⟨by decide +kernel, rfl⟩
theorem dX7_formsOf_30 : zD cX7_formsOf 30 (.iload 4) 2 32 := ⟨by decide +kernel, rfl⟩
theorem dX7_formsOf_32 : zD cX7_formsOf 32 (.ishl) 1 33 := ⟨by decide +kernel, rfl⟩
theorem dX7_formsOf_33 : zD cX7_formsOf 33 (.goto 4) 3 36 := ⟨by decide +kernel, rfl⟩
theorem dX7_formsOf_36 : zD cX7_formsOf 36 (.iconst 0) 1 37 := ⟨by decide +kernel, rfl⟩
theorem dX7_formsOf_37 : zD cX7_formsOf 37 (.ior) 1 38 := ⟨by decide +kernel, rfl⟩
theorem dX7_formsOf_38 : zD cX7_formsOf 38 (.istore_n 3) 1 39 := ⟨by decide +kernel, rfl⟩
theorem dX7_formsOf_39 : zD cX7_formsOf 39 (.iinc 4 1) 3 42 := ⟨by decide +kernel, rfl⟩
theorem dX7_formsOf_42 : zD cX7_formsOf 42 (.goto (-37)) 3 45 := ⟨by decide +kernel, rfl⟩
theorem dX7_formsOf_45 : zD cX7_formsOf 45 (.iload_n 3) 1 46 := ⟨by decide +kernel, rfl⟩
theorem dX7_formsOf_46 : zD cX7_formsOf 46 (.ireturn) 1 47 := ⟨by decide +kernel, rfl⟩
theorem dX7_weight_0 : zD cX7_weight 0 (.aload_n 0) 1 1 := ⟨by decide +kernel, rfl⟩
theorem dX7_weight_1 : zD cX7_weight 1 (.iload_n 1) 1 2 := ⟨by decide +kernel, rfl⟩
theorem dX7_weight_2 : zD cX7_weight 2 (.invokestatic 166) 3 5 := ⟨by decide +kernel, rfl⟩
theorem dX7_weight_5 : zD cX7_weight 5 (.i2l) 1 6 := ⟨by decide +kernel, rfl⟩
theorem dX7_weight_6 : zD cX7_weight 6 (.aload_n 0) 1 7 := ⟨by decide +kernel, rfl⟩
theorem dX7_weight_7 : zD cX7_weight 7 (.iconst 1) 1 8 := ⟨by decide +kernel, rfl⟩
theorem dX7_weight_8 : zD cX7_weight 8 (.iaload) 1 9 := ⟨by decide +kernel, rfl⟩
theorem dX7_weight_9 : zD cX7_weight 9 (.aload_n 0) 1 10 := ⟨by decide +kernel, rfl⟩
theorem dX7_weight_10 : zD cX7_weight 10 (.iload_n 1) 1 11 := ⟨by decide +kernel, rfl⟩
theorem dX7_weight_11 : zD cX7_weight 11 (.invokestatic 163) 3 14 := ⟨by decide +kernel, rfl⟩
theorem dX7_weight_14 : zD cX7_weight 14 (.bipush 26) 2 16 := ⟨by decide +kernel, rfl⟩
theorem dX7_weight_16 : zD cX7_weight 16 (.iadd) 1 17 := ⟨by decide +kernel, rfl⟩
theorem dX7_weight_17 : zD cX7_weight 17 (.iaload) 1 18 := ⟨by decide +kernel, rfl⟩
theorem dX7_weight_18 : zD cX7_weight 18 (.isub) 1 19 := ⟨by decide +kernel, rfl⟩
theorem dX7_weight_19 : zD cX7_weight 19 (.iconst 1) 1 20 := ⟨by decide +kernel, rfl⟩
theorem dX7_weight_20 : zD cX7_weight 20 (.iadd) 1 21 := ⟨by decide +kernel, rfl⟩
theorem dX7_weight_21 : zD cX7_weight 21 (.i2l) 1 22 := ⟨by decide +kernel, rfl⟩
theorem dX7_weight_22 : zD cX7_weight 22 (.lmul) 1 23 := ⟨by decide +kernel, rfl⟩
theorem dX7_weight_23 : zD cX7_weight 23 (.aload_n 0) 1 24 := ⟨by decide +kernel, rfl⟩
theorem dX7_weight_24 : zD cX7_weight 24 (.iload_n 1) 1 25 := ⟨by decide +kernel, rfl⟩
theorem dX7_weight_25 : zD cX7_weight 25 (.invokestatic 163) 3 28 := ⟨by decide +kernel, rfl⟩
theorem dX7_weight_28 : zD cX7_weight 28 (.bipush 25) 2 30 := ⟨by decide +kernel, rfl⟩
theorem dX7_weight_30 : zD cX7_weight 30 (.iadd) 1 31 := ⟨by decide +kernel, rfl⟩
theorem dX7_weight_31 : zD cX7_weight 31 (.iaload) 1 32 := ⟨by decide +kernel, rfl⟩
theorem dX7_weight_32 : zD cX7_weight 32 (.iconst 1) 1 33 := ⟨by decide +kernel, rfl⟩
theorem dX7_weight_33 : zD cX7_weight 33 (.iadd) 1 34 := ⟨by decide +kernel, rfl⟩
theorem dX7_weight_34 : zD cX7_weight 34 (.i2l) 1 35 := ⟨by decide +kernel, rfl⟩
theorem dX7_weight_35 : zD cX7_weight 35 (.ldiv) 1 36 := ⟨by decide +kernel, rfl⟩
theorem dX7_weight_36 : zD cX7_weight 36 (.lstore_n 2) 1 37 := ⟨by decide +kernel, rfl⟩
theorem dX7_weight_37 : zD cX7_weight 37 (.lload_n 2) 1 38 := ⟨by decide +kernel, rfl⟩
theorem dX7_weight_38 : zD cX7_weight 38 (.ldc2_w 170) 3 41 := ⟨by decide +kernel, rfl⟩
theorem dX7_weight_41 : zD cX7_weight 41 (.lcmp) 1 42 := ⟨by decide +kernel, rfl⟩
theorem dX7_weight_42 : zD cX7_weight 42 (.ifCond .le 8) 3 45 := ⟨by decide +kernel, rfl⟩
theorem dX7_weight_45 : zD cX7_weight 45 (.ldc 172) 2 47 := ⟨by decide +kernel, rfl⟩
theorem dX7_weight_47 : zD cX7_weight 47 (.goto 5) 3 50 := ⟨by decide +kernel, rfl⟩
theorem dX7_weight_50 : zD cX7_weight 50 (.lload_n 2) 1 51 := ⟨by decide +kernel, rfl⟩
theorem dX7_weight_51 : zD cX7_weight 51 (.l2i) 1 52 := ⟨by decide +kernel, rfl⟩
theorem dX7_weight_52 : zD cX7_weight 52 (.ireturn) 1 53 := ⟨by decide +kernel, rfl⟩
theorem dX7_drop_0 : zD cX7_drop 0 (.aload_n 0) 1 1 := ⟨by decide +kernel, rfl⟩
theorem dX7_drop_1 : zD cX7_drop 1 (.iconst 0) 1 2 := ⟨by decide +kernel, rfl⟩
theorem dX7_drop_2 : zD cX7_drop 2 (.dup2) 1 3 := ⟨by decide +kernel, rfl⟩
theorem dX7_drop_3 : zD cX7_drop 3 (.iaload) 1 4 := ⟨by decide +kernel, rfl⟩
theorem dX7_drop_4 : zD cX7_drop 4 (.iconst 1) 1 5 := ⟨by decide +kernel, rfl⟩
theorem dX7_drop_5 : zD cX7_drop 5 (.isub) 1 6 := ⟨by decide +kernel, rfl⟩
theorem dX7_drop_6 : zD cX7_drop 6 (.iastore) 1 7 := ⟨by decide +kernel, rfl⟩
theorem dX7_drop_7 : zD cX7_drop 7 (.iload_n 1) 1 8 := ⟨by decide +kernel, rfl⟩
theorem dX7_drop_8 : zD cX7_drop 8 (.invokestatic 163) 3 11 := ⟨by decide +kernel, rfl⟩
theorem dX7_drop_11 : zD cX7_drop 11 (.istore_n 2) 1 12 := ⟨by decide +kernel, rfl⟩
theorem dX7_drop_12 : zD cX7_drop 12 (.iload_n 2) 1 13 := ⟨by decide +kernel, rfl⟩
theorem dX7_drop_13 : zD cX7_drop 13 (.aload_n 0) 1 14 := ⟨by decide +kernel, rfl⟩
theorem dX7_drop_14 : zD cX7_drop 14 (.iconst 0) 1 15 := ⟨by decide +kernel, rfl⟩
theorem dX7_drop_15 : zD cX7_drop 15 (.iaload) 1 16 := ⟨by decide +kernel, rfl⟩
theorem dX7_drop_16 : zD cX7_drop 16 (.invokestatic 163) 3 19 := ⟨by decide +kernel, rfl⟩
theorem dX7_drop_19 : zD cX7_drop 19 (.if_icmp .ge 18) 3 22 := ⟨by decide +kernel, rfl⟩
theorem dX7_drop_22 : zD cX7_drop 22 (.aload_n 0) 1 23 := ⟨by decide +kernel, rfl⟩
theorem dX7_drop_23 : zD cX7_drop 23 (.iload_n 2) 1 24 := ⟨by decide +kernel, rfl⟩
theorem dX7_drop_24 : zD cX7_drop 24 (.aload_n 0) 1 25 := ⟨by decide +kernel, rfl⟩
theorem dX7_drop_25 : zD cX7_drop 25 (.iload_n 2) 1 26 := ⟨by decide +kernel, rfl⟩
theorem dX7_drop_26 : zD cX7_drop 26 (.bipush 28) 2 28 := ⟨by decide +kernel, rfl⟩
theorem dX7_drop_28 : zD cX7_drop 28 (.iadd) 1 29 := ⟨by decide +kernel, rfl⟩
theorem dX7_drop_29 : zD cX7_drop 29 (.iaload) 1 30 := ⟨by decide +kernel, rfl⟩
theorem dX7_drop_30 : zD cX7_drop 30 (.iastore) 1 31 := ⟨by decide +kernel, rfl⟩
theorem dX7_drop_31 : zD cX7_drop 31 (.iinc 2 1) 3 34 := ⟨by decide +kernel, rfl⟩
theorem dX7_drop_34 : zD cX7_drop 34 (.goto (-22)) 3 37 := ⟨by decide +kernel, rfl⟩
theorem dX7_drop_37 : zD cX7_drop 37 (.iconst 0) 1 38 := ⟨by decide +kernel, rfl⟩
theorem dX7_drop_38 : zD cX7_drop 38 (.istore_n 2) 1 39 := ⟨by decide +kernel, rfl⟩
theorem dX7_drop_39 : zD cX7_drop 39 (.iload_n 2) 1 40 := ⟨by decide +kernel, rfl⟩
theorem dX7_drop_40 : zD cX7_drop 40 (.bipush 28) 2 42 := ⟨by decide +kernel, rfl⟩
theorem dX7_drop_42 : zD cX7_drop 42 (.if_icmp .ge 20) 3 45 := ⟨by decide +kernel, rfl⟩
theorem dX7_drop_45 : zD cX7_drop 45 (.aload_n 0) 1 46 := ⟨by decide +kernel, rfl⟩
theorem dX7_drop_46 : zD cX7_drop 46 (.aload_n 0) 1 47 := ⟨by decide +kernel, rfl⟩
theorem dX7_drop_47 : zD cX7_drop 47 (.iconst 0) 1 48 := ⟨by decide +kernel, rfl⟩
theorem dX7_drop_48 : zD cX7_drop 48 (.iaload) 1 49 := ⟨by decide +kernel, rfl⟩
theorem dX7_drop_49 : zD cX7_drop 49 (.invokestatic 163) 3 52 := ⟨by decide +kernel, rfl⟩
theorem dX7_drop_52 : zD cX7_drop 52 (.iload_n 2) 1 53 := ⟨by decide +kernel, rfl⟩
theorem dX7_drop_53 : zD cX7_drop 53 (.iadd) 1 54 := ⟨by decide +kernel, rfl⟩
theorem dX7_drop_54 : zD cX7_drop 54 (.iconst 0) 1 55 := ⟨by decide +kernel, rfl⟩
theorem dX7_drop_55 : zD cX7_drop 55 (.iastore) 1 56 := ⟨by decide +kernel, rfl⟩
theorem dX7_drop_56 : zD cX7_drop 56 (.iinc 2 1) 3 59 := ⟨by decide +kernel, rfl⟩
theorem dX7_drop_59 : zD cX7_drop 59 (.goto (-20)) 3 62 := ⟨by decide +kernel, rfl⟩
theorem dX7_drop_62 : zD cX7_drop 62 (.return_) 1 63 := ⟨by decide +kernel, rfl⟩
theorem dX7_dropForm_0 : zD cX7_dropForm 0 (.aload_n 0) 1 1 := ⟨by decide +kernel, rfl⟩
theorem dX7_dropForm_1 : zD cX7_dropForm 1 (.iload_n 1) 1 2 := ⟨by decide +kernel, rfl⟩
theorem dX7_dropForm_2 : zD cX7_dropForm 2 (.invokestatic 163) 3 5 := ⟨by decide +kernel, rfl⟩
theorem dX7_dropForm_5 : zD cX7_dropForm 5 (.iconst 0) 1 6 := ⟨by decide +kernel, rfl⟩
theorem dX7_dropForm_6 : zD cX7_dropForm 6 (.iadd) 1 7 := ⟨by decide +kernel, rfl⟩
theorem dX7_dropForm_7 : zD cX7_dropForm 7 (.iload_n 2) 1 8 := ⟨by decide +kernel, rfl⟩
theorem dX7_dropForm_8 : zD cX7_dropForm 8 (.iadd) 1 9 := ⟨by decide +kernel, rfl⟩
theorem dX7_dropForm_9 : zD cX7_dropForm 9 (.iconst 0) 1 10 := ⟨by decide +kernel, rfl⟩
theorem dX7_dropForm_10 : zD cX7_dropForm 10 (.iastore) 1 11 := ⟨by decide +kernel, rfl⟩
theorem dX7_dropForm_11 : zD cX7_dropForm 11 (.aload_n 0) 1 12 := ⟨by decide +kernel, rfl⟩
theorem dX7_dropForm_12 : zD cX7_dropForm 12 (.iload_n 1) 1 13 := ⟨by decide +kernel, rfl⟩
theorem dX7_dropForm_13 : zD cX7_dropForm 13 (.invokestatic 163) 3 16 := ⟨by decide +kernel, rfl⟩
theorem dX7_dropForm_16 : zD cX7_dropForm 16 (.bipush 8) 2 18 := ⟨by decide +kernel, rfl⟩
theorem dX7_dropForm_18 : zD cX7_dropForm 18 (.iadd) 1 19 := ⟨by decide +kernel, rfl⟩
theorem dX7_dropForm_19 : zD cX7_dropForm 19 (.iload_n 2) 1 20 := ⟨by decide +kernel, rfl⟩
theorem dX7_dropForm_20 : zD cX7_dropForm 20 (.iadd) 1 21 := ⟨by decide +kernel, rfl⟩
theorem dX7_dropForm_21 : zD cX7_dropForm 21 (.iconst 0) 1 22 := ⟨by decide +kernel, rfl⟩
theorem dX7_dropForm_22 : zD cX7_dropForm 22 (.iastore) 1 23 := ⟨by decide +kernel, rfl⟩
theorem dX7_dropForm_23 : zD cX7_dropForm 23 (.aload_n 0) 1 24 := ⟨by decide +kernel, rfl⟩
theorem dX7_dropForm_24 : zD cX7_dropForm 24 (.iload_n 1) 1 25 := ⟨by decide +kernel, rfl⟩
theorem dX7_dropForm_25 : zD cX7_dropForm 25 (.invokestatic 163) 3 28 := ⟨by decide +kernel, rfl⟩
theorem dX7_dropForm_28 : zD cX7_dropForm 28 (.bipush 16) 2 30 := ⟨by decide +kernel, rfl⟩
theorem dX7_dropForm_30 : zD cX7_dropForm 30 (.iadd) 1 31 := ⟨by decide +kernel, rfl⟩
theorem dX7_dropForm_31 : zD cX7_dropForm 31 (.iload_n 2) 1 32 := ⟨by decide +kernel, rfl⟩
theorem dX7_dropForm_32 : zD cX7_dropForm 32 (.iadd) 1 33 := ⟨by decide +kernel, rfl⟩
theorem dX7_dropForm_33 : zD cX7_dropForm 33 (.iconst 0) 1 34 := ⟨by decide +kernel, rfl⟩
theorem dX7_dropForm_34 : zD cX7_dropForm 34 (.iastore) 1 35 := ⟨by decide +kernel, rfl⟩
theorem dX7_dropForm_35 : zD cX7_dropForm 35 (.return_) 1 36 := ⟨by decide +kernel, rfl⟩
theorem dX7_putForm_0 : zD cX7_putForm 0 (.aload_n 0) 1 1 := ⟨by decide +kernel, rfl⟩
theorem dX7_putForm_1 : zD cX7_putForm 1 (.iload_n 1) 1 2 := ⟨by decide +kernel, rfl⟩
theorem dX7_putForm_2 : zD cX7_putForm 2 (.invokestatic 163) 3 5 := ⟨by decide +kernel, rfl⟩
theorem dX7_putForm_5 : zD cX7_putForm 5 (.iconst 0) 1 6 := ⟨by decide +kernel, rfl⟩
theorem dX7_putForm_6 : zD cX7_putForm 6 (.iadd) 1 7 := ⟨by decide +kernel, rfl⟩
theorem dX7_putForm_7 : zD cX7_putForm 7 (.iload_n 2) 1 8 := ⟨by decide +kernel, rfl⟩
theorem dX7_putForm_8 : zD cX7_putForm 8 (.iadd) 1 9 := ⟨by decide +kernel, rfl⟩
theorem dX7_putForm_9 : zD cX7_putForm 9 (.iload_n 3) 1 10 := ⟨by decide +kernel, rfl⟩
theorem dX7_putForm_10 : zD cX7_putForm 10 (.iastore) 1 11 := ⟨by decide +kernel, rfl⟩
theorem dX7_putForm_11 : zD cX7_putForm 11 (.aload_n 0) 1 12 := ⟨by decide +kernel, rfl⟩
theorem dX7_putForm_12 : zD cX7_putForm 12 (.iload_n 1) 1 13 := ⟨by decide +kernel, rfl⟩
theorem dX7_putForm_13 : zD cX7_putForm 13 (.invokestatic 163) 3 16 := ⟨by decide +kernel, rfl⟩
theorem dX7_putForm_16 : zD cX7_putForm 16 (.bipush 8) 2 18 := ⟨by decide +kernel, rfl⟩
theorem dX7_putForm_18 : zD cX7_putForm 18 (.iadd) 1 19 := ⟨by decide +kernel, rfl⟩
theorem dX7_putForm_19 : zD cX7_putForm 19 (.iload_n 2) 1 20 := ⟨by decide +kernel, rfl⟩
theorem dX7_putForm_20 : zD cX7_putForm 20 (.iadd) 1 21 := ⟨by decide +kernel, rfl⟩
theorem dX7_putForm_21 : zD cX7_putForm 21 (.iload 4) 2 23 := ⟨by decide +kernel, rfl⟩
theorem dX7_putForm_23 : zD cX7_putForm 23 (.iastore) 1 24 := ⟨by decide +kernel, rfl⟩
theorem dX7_putForm_24 : zD cX7_putForm 24 (.aload_n 0) 1 25 := ⟨by decide +kernel, rfl⟩
theorem dX7_putForm_25 : zD cX7_putForm 25 (.iload_n 1) 1 26 := ⟨by decide +kernel, rfl⟩
theorem dX7_putForm_26 : zD cX7_putForm 26 (.invokestatic 163) 3 29 := ⟨by decide +kernel, rfl⟩
theorem dX7_putForm_29 : zD cX7_putForm 29 (.bipush 16) 2 31 := ⟨by decide +kernel, rfl⟩
theorem dX7_putForm_31 : zD cX7_putForm 31 (.iadd) 1 32 := ⟨by decide +kernel, rfl⟩
theorem dX7_putForm_32 : zD cX7_putForm 32 (.iload_n 2) 1 33 := ⟨by decide +kernel, rfl⟩
theorem dX7_putForm_33 : zD cX7_putForm 33 (.iadd) 1 34 := ⟨by decide +kernel, rfl⟩
theorem dX7_putForm_34 : zD cX7_putForm 34 (.iload 5) 2 36 := ⟨by decide +kernel, rfl⟩
theorem dX7_putForm_36 : zD cX7_putForm 36 (.iastore) 1 37 := ⟨by decide +kernel, rfl⟩
theorem dX7_putForm_37 : zD cX7_putForm 37 (.return_) 1 38 := ⟨by decide +kernel, rfl⟩
theorem dX7_heaviest_0 : zD cX7_heaviest 0 (.bipush (-9)) 2 2 := ⟨by decide +kernel, rfl⟩
theorem dX7_heaviest_2 : zD cX7_heaviest 2 (.istore_n 2) 1 3 := ⟨by decide +kernel, rfl⟩
theorem dX7_heaviest_3 : zD cX7_heaviest 3 (.iconst 0) 1 4 := ⟨by decide +kernel, rfl⟩
theorem dX7_heaviest_4 : zD cX7_heaviest 4 (.istore_n 3) 1 5 := ⟨by decide +kernel, rfl⟩
theorem dX7_heaviest_5 : zD cX7_heaviest 5 (.iload_n 3) 1 6 := ⟨by decide +kernel, rfl⟩
theorem dX7_heaviest_6 : zD cX7_heaviest 6 (.aload_n 0) 1 7 := ⟨by decide +kernel, rfl⟩
theorem dX7_heaviest_7 : zD cX7_heaviest 7 (.iconst 0) 1 8 := ⟨by decide +kernel, rfl⟩
theorem dX7_heaviest_8 : zD cX7_heaviest 8 (.iaload) 1 9 := ⟨by decide +kernel, rfl⟩
theorem dX7_heaviest_9 : zD cX7_heaviest 9 (.if_icmp .ge 61) 3 12 := ⟨by decide +kernel, rfl⟩
theorem dX7_heaviest_12 : zD cX7_heaviest 12 (.iload_n 3) 1 13 := ⟨by decide +kernel, rfl⟩
theorem dX7_heaviest_13 : zD cX7_heaviest 13 (.iload_n 1) 1 14 := ⟨by decide +kernel, rfl⟩
theorem dX7_heaviest_14 : zD cX7_heaviest 14 (.if_icmp .eq 19) 3 17 := ⟨by decide +kernel, rfl⟩
theorem dX7_heaviest_17 : zD cX7_heaviest 17 (.aload_n 0) 1 18 := ⟨by decide +kernel, rfl⟩
theorem dX7_heaviest_18 : zD cX7_heaviest 18 (.iload_n 3) 1 19 := ⟨by decide +kernel, rfl⟩
theorem dX7_heaviest_19 : zD cX7_heaviest 19 (.invokestatic 163) 3 22 := ⟨by decide +kernel, rfl⟩
theorem dX7_heaviest_22 : zD cX7_heaviest 22 (.bipush 24) 2 24 := ⟨by decide +kernel, rfl⟩
theorem dX7_heaviest_24 : zD cX7_heaviest 24 (.iadd) 1 25 := ⟨by decide +kernel, rfl⟩
theorem dX7_heaviest_25 : zD cX7_heaviest 25 (.iaload) 1 26 := ⟨by decide +kernel, rfl⟩
theorem dX7_heaviest_26 : zD cX7_heaviest 26 (.ifCond .ne 7) 3 29 := ⟨by decide +kernel, rfl⟩
theorem dX7_heaviest_29 : zD cX7_heaviest 29 (.iconst 1) 1 30 := ⟨by decide +kernel, rfl⟩
theorem dX7_heaviest_30 : zD cX7_heaviest 30 (.goto 4) 3 33 := ⟨by decide +kernel, rfl⟩
theorem dX7_heaviest_33 : zD cX7_heaviest 33 (.iconst 0) 1 34 := ⟨by decide +kernel, rfl⟩
theorem dX7_heaviest_34 : zD cX7_heaviest 34 (.istore 4) 2 36 := ⟨by decide +kernel, rfl⟩
theorem dX7_heaviest_36 : zD cX7_heaviest 36 (.iload 4) 2 38 := ⟨by decide +kernel, rfl⟩
theorem dX7_heaviest_38 : zD cX7_heaviest 38 (.ifCond .eq 24) 3 41 := ⟨by decide +kernel, rfl⟩
theorem dX7_heaviest_41 : zD cX7_heaviest 41 (.iload_n 2) 1 42 := ⟨by decide +kernel, rfl⟩
theorem dX7_heaviest_42 : zD cX7_heaviest 42 (.ifCond .lt 16) 3 45 := ⟨by decide +kernel, rfl⟩
theorem dX7_heaviest_45 : zD cX7_heaviest 45 (.aload_n 0) 1 46 := ⟨by decide +kernel, rfl⟩
theorem dX7_heaviest_46 : zD cX7_heaviest 46 (.iload_n 3) 1 47 := ⟨by decide +kernel, rfl⟩
theorem dX7_heaviest_47 : zD cX7_heaviest 47 (.invokestatic 173) 3 50 := ⟨by decide +kernel, rfl⟩
theorem dX7_heaviest_50 : zD cX7_heaviest 50 (.aload_n 0) 1 51 := ⟨by decide +kernel, rfl⟩
theorem dX7_heaviest_51 : zD cX7_heaviest 51 (.iload_n 2) 1 52 := ⟨by decide +kernel, rfl⟩
theorem dX7_heaviest_52 : zD cX7_heaviest 52 (.invokestatic 173) 3 55 := ⟨by decide +kernel, rfl⟩
theorem dX7_heaviest_55 : zD cX7_heaviest 55 (.if_icmp .lt 7) 3 58 := ⟨by decide +kernel, rfl⟩
theorem dX7_heaviest_58 : zD cX7_heaviest 58 (.iload_n 3) 1 59 := ⟨by decide +kernel, rfl⟩
theorem dX7_heaviest_59 : zD cX7_heaviest 59 (.goto 4) 3 62 := ⟨by decide +kernel, rfl⟩
theorem dX7_heaviest_62 : zD cX7_heaviest 62 (.iload_n 2) 1 63 := ⟨by decide +kernel, rfl⟩
theorem dX7_heaviest_63 : zD cX7_heaviest 63 (.istore_n 2) 1 64 := ⟨by decide +kernel, rfl⟩
theorem dX7_heaviest_64 : zD cX7_heaviest 64 (.iinc 3 1) 3 67 := ⟨by decide +kernel, rfl⟩
theorem dX7_heaviest_67 : zD cX7_heaviest 67 (.goto (-62)) 3 70 := ⟨by decide +kernel, rfl⟩
theorem dX7_heaviest_70 : zD cX7_heaviest 70 (.iload_n 2) 1 71 := ⟨by decide +kernel, rfl⟩
theorem dX7_heaviest_71 : zD cX7_heaviest 71 (.ireturn) 1 72 := ⟨by decide +kernel, rfl⟩
theorem dX7_largest_0 : zD cX7_largest 0 (.bipush (-9)) 2 2 := ⟨by decide +kernel, rfl⟩
theorem dX7_largest_2 : zD cX7_largest 2 (.istore_n 2) 1 3 := ⟨by decide +kernel, rfl⟩
theorem dX7_largest_3 : zD cX7_largest 3 (.iconst 0) 1 4 := ⟨by decide +kernel, rfl⟩
theorem dX7_largest_4 : zD cX7_largest 4 (.istore_n 3) 1 5 := ⟨by decide +kernel, rfl⟩
theorem dX7_largest_5 : zD cX7_largest 5 (.aload_n 0) 1 6 := ⟨by decide +kernel, rfl⟩
theorem dX7_largest_6 : zD cX7_largest 6 (.iconst 0) 1 7 := ⟨by decide +kernel, rfl⟩
theorem dX7_largest_7 : zD cX7_largest 7 (.iaload) 1 8 := ⟨by decide +kernel, rfl⟩
theorem dX7_largest_8 : zD cX7_largest 8 (.iconst 1) 1 9 := ⟨by decide +kernel, rfl⟩
theorem dX7_largest_9 : zD cX7_largest 9 (.isub) 1 10 := ⟨by decide +kernel, rfl⟩
theorem dX7_largest_10 : zD cX7_largest 10 (.istore 4) 2 12 := ⟨by decide +kernel, rfl⟩
theorem dX7_largest_12 : zD cX7_largest 12 (.iload 4) 2 14 := ⟨by decide +kernel, rfl⟩
theorem dX7_largest_14 : zD cX7_largest 14 (.ifCond .lt 86) 3 17 := ⟨by decide +kernel, rfl⟩
theorem dX7_largest_17 : zD cX7_largest 17 (.iconst 0) 1 18 := ⟨by decide +kernel, rfl⟩
theorem dX7_largest_18 : zD cX7_largest 18 (.istore 5) 2 20 := ⟨by decide +kernel, rfl⟩
theorem dX7_largest_20 : zD cX7_largest 20 (.iload 5) 2 22 := ⟨by decide +kernel, rfl⟩
theorem dX7_largest_22 : zD cX7_largest 22 (.bipush 8) 2 24 := ⟨by decide +kernel, rfl⟩
theorem dX7_largest_24 : zD cX7_largest 24 (.if_icmp .ge 70) 3 27 := ⟨by decide +kernel, rfl⟩
theorem dX7_largest_27 : zD cX7_largest 27 (.iload 4) 2 29 := ⟨by decide +kernel, rfl⟩
theorem dX7_largest_29 : zD cX7_largest 29 (.iload_n 1) 1 30 := ⟨by decide +kernel, rfl⟩
theorem dX7_largest_30 : zD cX7_largest 30 (.if_icmp .eq 58) 3 33 := ⟨by decide +kernel, rfl⟩
theorem dX7_largest_33 : zD cX7_largest 33 (.aload_n 0) 1 34 := ⟨by decide +kernel, rfl⟩
theorem dX7_largest_34 : zD cX7_largest 34 (.iload 4) 2 36 := ⟨by decide +kernel, rfl⟩
theorem dX7_largest_36 : zD cX7_largest 36 (.invokestatic 163) 3 39 := ⟨by decide +kernel, rfl⟩
theorem dX7_largest_39 : zD cX7_largest 39 (.bipush 16) 2 41 := ⟨by decide +kernel, rfl⟩
theorem dX7_largest_41 : zD cX7_largest 41 (.iadd) 1 42 := ⟨by decide +kernel, rfl⟩
theorem dX7_largest_42 : zD cX7_largest 42 (.iload 5) 2 44 := ⟨by decide +kernel, rfl⟩
theorem dX7_largest_44 : zD cX7_largest 44 (.iadd) 1 45 := ⟨by decide +kernel, rfl⟩
theorem dX7_largest_45 : zD cX7_largest 45 (.iaload) 1 46 := ⟨by decide +kernel, rfl⟩
theorem dX7_largest_46 : zD cX7_largest 46 (.iconst 2) 1 47 := ⟨by decide +kernel, rfl⟩
theorem dX7_largest_47 : zD cX7_largest 47 (.if_icmp .ne 41) 3 50 := ⟨by decide +kernel, rfl⟩
theorem dX7_largest_50 : zD cX7_largest 50 (.aload_n 0) 1 51 := ⟨by decide +kernel, rfl⟩
theorem dX7_largest_51 : zD cX7_largest 51 (.iload 4) 2 53 := ⟨by decide +kernel, rfl⟩
theorem dX7_largest_53 : zD cX7_largest 53 (.invokestatic 163) 3 56 := ⟨by decide +kernel, rfl⟩
theorem dX7_largest_56 : zD cX7_largest 56 (.iconst 0) 1 57 := ⟨by decide +kernel, rfl⟩
theorem dX7_largest_57 : zD cX7_largest 57 (.iadd) 1 58 := ⟨by decide +kernel, rfl⟩
theorem dX7_largest_58 : zD cX7_largest 58 (.iload 5) 2 60 := ⟨by decide +kernel, rfl⟩
theorem dX7_largest_60 : zD cX7_largest 60 (.iadd) 1 61 := ⟨by decide +kernel, rfl⟩
theorem dX7_largest_61 : zD cX7_largest 61 (.iaload) 1 62 := ⟨by decide +kernel, rfl⟩
theorem dX7_largest_62 : zD cX7_largest 62 (.iload_n 3) 1 63 := ⟨by decide +kernel, rfl⟩
theorem dX7_largest_63 : zD cX7_largest 63 (.if_icmp .le 25) 3 66 := ⟨by decide +kernel, rfl⟩
theorem dX7_largest_66 : zD cX7_largest 66 (.aload_n 0) 1 67 := ⟨by decide +kernel, rfl⟩
theorem dX7_largest_67 : zD cX7_largest 67 (.iload 4) 2 69 := ⟨by decide +kernel, rfl⟩
theorem dX7_largest_69 : zD cX7_largest 69 (.invokestatic 163) 3 72 := ⟨by decide +kernel, rfl⟩
theorem dX7_largest_72 : zD cX7_largest 72 (.iconst 0) 1 73 := ⟨by decide +kernel, rfl⟩
theorem dX7_largest_73 : zD cX7_largest 73 (.iadd) 1 74 := ⟨by decide +kernel, rfl⟩
theorem dX7_largest_74 : zD cX7_largest 74 (.iload 5) 2 76 := ⟨by decide +kernel, rfl⟩
theorem dX7_largest_76 : zD cX7_largest 76 (.iadd) 1 77 := ⟨by decide +kernel, rfl⟩
theorem dX7_largest_77 : zD cX7_largest 77 (.iaload) 1 78 := ⟨by decide +kernel, rfl⟩
theorem dX7_largest_78 : zD cX7_largest 78 (.istore_n 3) 1 79 := ⟨by decide +kernel, rfl⟩
theorem dX7_largest_79 : zD cX7_largest 79 (.bipush 8) 2 81 := ⟨by decide +kernel, rfl⟩
theorem dX7_largest_81 : zD cX7_largest 81 (.iload 4) 2 83 := ⟨by decide +kernel, rfl⟩
theorem dX7_largest_83 : zD cX7_largest 83 (.imul) 1 84 := ⟨by decide +kernel, rfl⟩
theorem dX7_largest_84 : zD cX7_largest 84 (.iload 5) 2 86 := ⟨by decide +kernel, rfl⟩
theorem dX7_largest_86 : zD cX7_largest 86 (.iadd) 1 87 := ⟨by decide +kernel, rfl⟩
theorem dX7_largest_87 : zD cX7_largest 87 (.istore_n 2) 1 88 := ⟨by decide +kernel, rfl⟩
theorem dX7_largest_88 : zD cX7_largest 88 (.iinc 5 1) 3 91 := ⟨by decide +kernel, rfl⟩
theorem dX7_largest_91 : zD cX7_largest 91 (.goto (-71)) 3 94 := ⟨by decide +kernel, rfl⟩
theorem dX7_largest_94 : zD cX7_largest 94 (.iinc 4 (-1)) 3 97 := ⟨by decide +kernel, rfl⟩
theorem dX7_largest_97 : zD cX7_largest 97 (.goto (-85)) 3 100 := ⟨by decide +kernel, rfl⟩
theorem dX7_largest_100 : zD cX7_largest 100 (.iload_n 2) 1 101 := ⟨by decide +kernel, rfl⟩
theorem dX7_largest_101 : zD cX7_largest 101 (.ireturn) 1 102 := ⟨by decide +kernel, rfl⟩
theorem dX7_makeRoom_0 : zD cX7_makeRoom 0 (.aload_n 0) 1 1 := ⟨by decide +kernel, rfl⟩
theorem dX7_makeRoom_1 : zD cX7_makeRoom 1 (.invokestatic 176) 3 4 := ⟨by decide +kernel, rfl⟩
theorem dX7_makeRoom_4 : zD cX7_makeRoom 4 (.iload_n 1) 1 5 := ⟨by decide +kernel, rfl⟩
theorem dX7_makeRoom_5 : zD cX7_makeRoom 5 (.iadd) 1 6 := ⟨by decide +kernel, rfl⟩
theorem dX7_makeRoom_6 : zD cX7_makeRoom 6 (.aload_n 0) 1 7 := ⟨by decide +kernel, rfl⟩
theorem dX7_makeRoom_7 : zD cX7_makeRoom 7 (.iconst 3) 1 8 := ⟨by decide +kernel, rfl⟩
theorem dX7_makeRoom_8 : zD cX7_makeRoom 8 (.iaload) 1 9 := ⟨by decide +kernel, rfl⟩
theorem dX7_makeRoom_9 : zD cX7_makeRoom 9 (.if_icmp .le 82) 3 12 := ⟨by decide +kernel, rfl⟩
theorem dX7_makeRoom_12 : zD cX7_makeRoom 12 (.aload_n 0) 1 13 := ⟨by decide +kernel, rfl⟩
theorem dX7_makeRoom_13 : zD cX7_makeRoom 13 (.iload_n 2) 1 14 := ⟨by decide +kernel, rfl⟩
theorem dX7_makeRoom_14 : zD cX7_makeRoom 14 (.invokestatic 180) 3 17 := ⟨by decide +kernel, rfl⟩
theorem dX7_makeRoom_17 : zD cX7_makeRoom 17 (.istore 4) 2 19 := ⟨by decide +kernel, rfl⟩
theorem dX7_makeRoom_19 : zD cX7_makeRoom 19 (.iload 4) 2 21 := ⟨by decide +kernel, rfl⟩
theorem dX7_makeRoom_21 : zD cX7_makeRoom 21 (.bipush (-9)) 2 23 := ⟨by decide +kernel, rfl⟩
theorem dX7_makeRoom_23 : zD cX7_makeRoom 23 (.if_icmp .ne 15) 3 26 := ⟨by decide +kernel, rfl⟩
theorem dX7_makeRoom_26 : zD cX7_makeRoom 26 (.iload_n 3) 1 27 := ⟨by decide +kernel, rfl⟩
theorem dX7_makeRoom_27 : zD cX7_makeRoom 27 (.ifCond .eq 11) 3 30 := ⟨by decide +kernel, rfl⟩
theorem dX7_makeRoom_30 : zD cX7_makeRoom 30 (.aload_n 0) 1 31 := ⟨by decide +kernel, rfl⟩
theorem dX7_makeRoom_31 : zD cX7_makeRoom 31 (.iload_n 2) 1 32 := ⟨by decide +kernel, rfl⟩
theorem dX7_makeRoom_32 : zD cX7_makeRoom 32 (.invokestatic 183) 3 35 := ⟨by decide +kernel, rfl⟩
theorem dX7_makeRoom_35 : zD cX7_makeRoom 35 (.goto 5) 3 38 := ⟨by decide +kernel, rfl⟩
theorem dX7_makeRoom_38 : zD cX7_makeRoom 38 (.bipush (-9)) 2 40 := ⟨by decide +kernel, rfl⟩
theorem dX7_makeRoom_40 : zD cX7_makeRoom 40 (.istore 5) 2 42 := ⟨by decide +kernel, rfl⟩
theorem dX7_makeRoom_42 : zD cX7_makeRoom 42 (.iload 4) 2 44 := ⟨by decide +kernel, rfl⟩
theorem dX7_makeRoom_44 : zD cX7_makeRoom 44 (.bipush (-9)) 2 46 := ⟨by decide +kernel, rfl⟩
theorem dX7_makeRoom_46 : zD cX7_makeRoom 46 (.if_icmp .ne 12) 3 49 := ⟨by decide +kernel, rfl⟩
theorem dX7_makeRoom_49 : zD cX7_makeRoom 49 (.iload 5) 2 51 := ⟨by decide +kernel, rfl⟩
theorem dX7_makeRoom_51 : zD cX7_makeRoom 51 (.bipush (-9)) 2 53 := ⟨by decide +kernel, rfl⟩
theorem dX7_makeRoom_53 : zD cX7_makeRoom 53 (.if_icmp .ne 5) 3 56 := ⟨by decide +kernel, rfl⟩
theorem dX7_makeRoom_56 : zD cX7_makeRoom 56 (.iconst 0) 1 57 := ⟨by decide +kernel, rfl⟩
theorem dX7_makeRoom_57 : zD cX7_makeRoom 57 (.ireturn) 1 58 := ⟨by decide +kernel, rfl⟩
theorem dX7_makeRoom_58 : zD cX7_makeRoom 58 (.iload 4) 2 60 := ⟨by decide +kernel, rfl⟩
theorem dX7_makeRoom_60 : zD cX7_makeRoom 60 (.bipush (-9)) 2 62 := ⟨by decide +kernel, rfl⟩
theorem dX7_makeRoom_62 : zD cX7_makeRoom 62 (.if_icmp .eq 20) 3 65 := ⟨by decide +kernel, rfl⟩
theorem dX7_makeRoom_65 : zD cX7_makeRoom 65 (.aload_n 0) 1 66 := ⟨by decide +kernel, rfl⟩
theorem dX7_makeRoom_66 : zD cX7_makeRoom 66 (.iload 4) 2 68 := ⟨by decide +kernel, rfl⟩
theorem dX7_makeRoom_68 : zD cX7_makeRoom 68 (.bipush 8) 2 70 := ⟨by decide +kernel, rfl⟩
theorem dX7_makeRoom_70 : zD cX7_makeRoom 70 (.idiv) 1 71 := ⟨by decide +kernel, rfl⟩
theorem dX7_makeRoom_71 : zD cX7_makeRoom 71 (.iload 4) 2 73 := ⟨by decide +kernel, rfl⟩
theorem dX7_makeRoom_73 : zD cX7_makeRoom 73 (.bipush 8) 2 75 := ⟨by decide +kernel, rfl⟩
theorem dX7_makeRoom_75 : zD cX7_makeRoom 75 (.irem) 1 76 := ⟨by decide +kernel, rfl⟩
theorem dX7_makeRoom_76 : zD cX7_makeRoom 76 (.invokestatic 186) 3 79 := ⟨by decide +kernel, rfl⟩
theorem dX7_makeRoom_79 : zD cX7_makeRoom 79 (.goto 9) 3 82 := ⟨by decide +kernel, rfl⟩
theorem dX7_makeRoom_82 : zD cX7_makeRoom 82 (.aload_n 0) 1 83 := ⟨by decide +kernel, rfl⟩
theorem dX7_makeRoom_83 : zD cX7_makeRoom 83 (.iload 5) 2 85 := ⟨by decide +kernel, rfl⟩
theorem dX7_makeRoom_85 : zD cX7_makeRoom 85 (.invokestatic 190) 3 88 := ⟨by decide +kernel, rfl⟩
theorem dX7_makeRoom_88 : zD cX7_makeRoom 88 (.goto (-88)) 3 91 := ⟨by decide +kernel, rfl⟩
theorem dX7_makeRoom_91 : zD cX7_makeRoom 91 (.iconst 1) 1 92 := ⟨by decide +kernel, rfl⟩
theorem dX7_makeRoom_92 : zD cX7_makeRoom 92 (.ireturn) 1 93 := ⟨by decide +kernel, rfl⟩
theorem dX7_tryNow_0 : zD cX7_tryNow 0 (.aload_n 0) 1 1 := ⟨by decide +kernel, rfl⟩
theorem dX7_tryNow_1 : zD cX7_tryNow 1 (.getfield 56) 3 4 := ⟨by decide +kernel, rfl⟩
theorem dX7_tryNow_4 : zD cX7_tryNow 4 (.iconst 0) 1 5 := ⟨by decide +kernel, rfl⟩
theorem dX7_tryNow_5 : zD cX7_tryNow 5 (.aload_n 0) 1 6 := ⟨by decide +kernel, rfl⟩
theorem dX7_tryNow_6 : zD cX7_tryNow 6 (.getfield 59) 3 9 := ⟨by decide +kernel, rfl⟩
theorem dX7_tryNow_9 : zD cX7_tryNow 9 (.iconst 0) 1 10 := ⟨by decide +kernel, rfl⟩
theorem dX7_tryNow_10 : zD cX7_tryNow 10 (.sipush 360) 3 13 := ⟨by decide +kernel, rfl⟩
theorem dX7_tryNow_13 : zD cX7_tryNow 13 (.invokestatic 90) 3 16 := ⟨by decide +kernel, rfl⟩
theorem dX7_tryNow_16 : zD cX7_tryNow 16 (.iconst 0) 1 17 := ⟨by decide +kernel, rfl⟩
theorem dX7_tryNow_17 : zD cX7_tryNow 17 (.istore_n 1) 1 18 := ⟨by decide +kernel, rfl⟩
theorem dX7_tryNow_18 : zD cX7_tryNow 18 (.iload_n 1) 1 19 := ⟨by decide +kernel, rfl⟩
theorem dX7_tryNow_19 : zD cX7_tryNow 19 (.aload_n 0) 1 20 := ⟨by decide +kernel, rfl⟩
theorem dX7_tryNow_20 : zD cX7_tryNow 20 (.getfield 59) 3 23 := ⟨by decide +kernel, rfl⟩
theorem dX7_tryNow_23 : zD cX7_tryNow 23 (.iconst 0) 1 24 := ⟨by decide +kernel, rfl⟩
theorem dX7_tryNow_24 : zD cX7_tryNow 24 (.iaload) 1 25 := ⟨by decide +kernel, rfl⟩
theorem dX7_tryNow_25 : zD cX7_tryNow 25 (.if_icmp .ge 22) 3 28 := ⟨by decide +kernel, rfl⟩
theorem dX7_tryNow_28 : zD cX7_tryNow 28 (.aload_n 0) 1 29 := ⟨by decide +kernel, rfl⟩
theorem dX7_tryNow_29 : zD cX7_tryNow 29 (.getfield 59) 3 32 := ⟨by decide +kernel, rfl⟩
theorem dX7_tryNow_32 : zD cX7_tryNow 32 (.iload_n 1) 1 33 := ⟨by decide +kernel, rfl⟩
theorem dX7_tryNow_33 : zD cX7_tryNow 33 (.invokestatic 163) 3 36 := ⟨by decide +kernel, rfl⟩
theorem dX7_tryNow_36 : zD cX7_tryNow 36 (.bipush 27) 2 38 := ⟨by decide +kernel, rfl⟩
theorem dX7_tryNow_38 : zD cX7_tryNow 38 (.iadd) 1 39 := ⟨by decide +kernel, rfl⟩
theorem dX7_tryNow_39 : zD cX7_tryNow 39 (.iload_n 1) 1 40 := ⟨by decide +kernel, rfl⟩
theorem dX7_tryNow_40 : zD cX7_tryNow 40 (.iastore) 1 41 := ⟨by decide +kernel, rfl⟩
theorem dX7_tryNow_41 : zD cX7_tryNow 41 (.iinc 1 1) 3 44 := ⟨by decide +kernel, rfl⟩
theorem dX7_tryNow_44 : zD cX7_tryNow 44 (.goto (-26)) 3 47 := ⟨by decide +kernel, rfl⟩
theorem dX7_tryNow_47 : zD cX7_tryNow 47 (.return_) 1 48 := ⟨by decide +kernel, rfl⟩
theorem dX7_about_0 : zD cX7_about 0 (.aload_n 0) 1 1 := ⟨by decide +kernel, rfl⟩
theorem dX7_about_1 : zD cX7_about 1 (.iload_n 1) 1 2 := ⟨by decide +kernel, rfl⟩
theorem dX7_about_2 : zD cX7_about 2 (.i2l) 1 3 := ⟨by decide +kernel, rfl⟩
theorem dX7_about_3 : zD cX7_about 3 (.lconst 0) 1 4 := ⟨by decide +kernel, rfl⟩
theorem dX7_about_4 : zD cX7_about 4 (.ldc2_w 194) 3 7 := ⟨by decide +kernel, rfl⟩
theorem dX7_about_7 : zD cX7_about 7 (.invokestatic 97) 3 10 := ⟨by decide +kernel, rfl⟩
theorem dX7_about_10 : zD cX7_about 10 (.ifCond .eq 7) 3 13 := ⟨by decide +kernel, rfl⟩
theorem dX7_about_13 : zD cX7_about 13 (.iconst 0) 1 14 := ⟨by decide +kernel, rfl⟩
theorem dX7_about_14 : zD cX7_about 14 (.goto 4) 3 17 := ⟨by decide +kernel, rfl⟩
theorem dX7_about_17 : zD cX7_about 17 (.iconst 1) 1 18 := ⟨by decide +kernel, rfl⟩
theorem dX7_about_18 : zD cX7_about 18 (.invokevirtual 112) 3 21 := ⟨by decide +kernel, rfl⟩
theorem dX7_about_21 : zD cX7_about 21 (.ifCond .eq 5) 3 24 := ⟨by decide +kernel, rfl⟩
theorem dX7_about_24 : zD cX7_about 24 (.iconst 0) 1 25 := ⟨by decide +kernel, rfl⟩
theorem dX7_about_25 : zD cX7_about 25 (.ireturn) 1 26 := ⟨by decide +kernel, rfl⟩
theorem dX7_about_26 : zD cX7_about 26 (.iload_n 1) 1 27 := ⟨by decide +kernel, rfl⟩
theorem dX7_about_27 : zD cX7_about 27 (.tableswitch 85 0 6 #[41, 46, 51, 56, 63, 70, 78]) 41 68 := ⟨by decide +kernel, rfl⟩
theorem dX7_about_68 : zD cX7_about 68 (.aload_n 0) 1 69 := ⟨by decide +kernel, rfl⟩
theorem dX7_about_69 : zD cX7_about 69 (.getfield 13) 3 72 := ⟨by decide +kernel, rfl⟩
theorem dX7_about_72 : zD cX7_about 72 (.ireturn) 1 73 := ⟨by decide +kernel, rfl⟩
theorem dX7_about_73 : zD cX7_about 73 (.aload_n 0) 1 74 := ⟨by decide +kernel, rfl⟩
theorem dX7_about_74 : zD cX7_about 74 (.getfield 101) 3 77 := ⟨by decide +kernel, rfl⟩
theorem dX7_about_77 : zD cX7_about 77 (.ireturn) 1 78 := ⟨by decide +kernel, rfl⟩
theorem dX7_about_78 : zD cX7_about 78 (.aload_n 0) 1 79 := ⟨by decide +kernel, rfl⟩
theorem dX7_about_79 : zD cX7_about 79 (.getfield 104) 3 82 := ⟨by decide +kernel, rfl⟩
theorem dX7_about_82 : zD cX7_about 82 (.ireturn) 1 83 := ⟨by decide +kernel, rfl⟩
theorem dX7_about_83 : zD cX7_about 83 (.aload_n 0) 1 84 := ⟨by decide +kernel, rfl⟩
theorem dX7_about_84 : zD cX7_about 84 (.getfield 56) 3 87 := ⟨by decide +kernel, rfl⟩
theorem dX7_about_87 : zD cX7_about 87 (.iconst 0) 1 88 := ⟨by decide +kernel, rfl⟩
theorem dX7_about_88 : zD cX7_about 88 (.iaload) 1 89 := ⟨by decide +kernel, rfl⟩
theorem dX7_about_89 : zD cX7_about 89 (.ireturn) 1 90 := ⟨by decide +kernel, rfl⟩
theorem dX7_about_90 : zD cX7_about 90 (.aload_n 0) 1 91 := ⟨by decide +kernel, rfl⟩
theorem dX7_about_91 : zD cX7_about 91 (.getfield 56) 3 94 := ⟨by decide +kernel, rfl⟩
theorem dX7_about_94 : zD cX7_about 94 (.iconst 3) 1 95 := ⟨by decide +kernel, rfl⟩
theorem dX7_about_95 : zD cX7_about 95 (.iaload) 1 96 := ⟨by decide +kernel, rfl⟩
theorem dX7_about_96 : zD cX7_about 96 (.ireturn) 1 97 := ⟨by decide +kernel, rfl⟩
theorem dX7_about_97 : zD cX7_about 97 (.aload_n 0) 1 98 := ⟨by decide +kernel, rfl⟩
theorem dX7_about_98 : zD cX7_about 98 (.getfield 56) 3 101 := ⟨by decide +kernel, rfl⟩
theorem dX7_about_101 : zD cX7_about 101 (.invokestatic 176) 3 104 := ⟨by decide +kernel, rfl⟩
theorem dX7_about_104 : zD cX7_about 104 (.ireturn) 1 105 := ⟨by decide +kernel, rfl⟩
theorem dX7_about_105 : zD cX7_about 105 (.aload_n 0) 1 106 := ⟨by decide +kernel, rfl⟩
theorem dX7_about_106 : zD cX7_about 106 (.getfield 56) 3 109 := ⟨by decide +kernel, rfl⟩
theorem dX7_about_109 : zD cX7_about 109 (.iconst 1) 1 110 := ⟨by decide +kernel, rfl⟩
theorem dX7_about_110 : zD cX7_about 110 (.iaload) 1 111 := ⟨by decide +kernel, rfl⟩
theorem dX7_about_111 : zD cX7_about 111 (.ireturn) 1 112 := ⟨by decide +kernel, rfl⟩
theorem dX7_about_112 : zD cX7_about 112 (.aload_n 0) 1 113 := ⟨by decide +kernel, rfl⟩
theorem dX7_about_113 : zD cX7_about 113 (.getfield 56) 3 116 := ⟨by decide +kernel, rfl⟩
theorem dX7_about_116 : zD cX7_about 116 (.iconst 2) 1 117 := ⟨by decide +kernel, rfl⟩
theorem dX7_about_117 : zD cX7_about 117 (.iaload) 1 118 := ⟨by decide +kernel, rfl⟩
theorem dX7_about_118 : zD cX7_about 118 (.ireturn) 1 119 := ⟨by decide +kernel, rfl⟩
def fX7_clearText (h : zH) (a0 : Nat) : Option (Int32 × zH) :=
    if zkd h a0 = 8 then
    (zpI h 7 a0 0 0).bind fun h1 =>
    (zgI h1 7 a0 2).bind fun w2 =>
    (zpI h1 7 a0 2 0).bind fun h3 =>
    some (w2, h3)
    else none
theorem kfX7_clearText {h : zH} {a0 : Nat} {r : Int32 × zH} (hf : fX7_clearText h a0 = some r) : zkd h a0 = 8 := by
  unfold fX7_clearText at hf
  exact (zck hf).1
def fX7_digit (h : zH) (a0 : Nat) : Option (Int32 × zH) :=
    if zkd h a0 = 8 then
    (zgI h 7 a0 3).bind fun w1 =>
    (zgI h 7 a0 2).bind fun w2 =>
    if (w2 : Int32) ≤ w1 then
    zb2 (fX7_in h (((-9) : Int32).toInt64) (0) (9)) fun w4 h5 =>
    if (w4 : Int32) = 0 then
    some ((-9), h5)
    else
    some ((-9), h5)
    else
    (zgP h 7 a0 1).bind fun w7 =>
    (zgI h 7 a0 3).bind fun w8 =>
    (zaI h w7 (w8)).bind fun w9 =>
    zb2 (fX7_in h ((((w9 : Int32) - 48) : Int32).toInt64) (0) (9)) fun w10 h11 =>
    if (w10 : Int32) = 0 then
    some ((-9), h11)
    else
    some (((w9 : Int32) - 48), h11)
    else none
theorem kfX7_digit {h : zH} {a0 : Nat} {r : Int32 × zH} (hf : fX7_digit h a0 = some r) : zkd h a0 = 8 := by
  unfold fX7_digit at hf
  exact (zck hf).1
def fX7_passes (h : zH) (a0 : Nat) (a1 : Int32) : Option (Int32 × zH) :=
    if zkd h a0 = 8 then
    (zgI h 7 a0 3).bind fun w1 =>
    (zgI h 7 a0 2).bind fun w2 =>
    if (w2 : Int32) ≤ w1 then
    (zgI h 7 a0 3).bind fun w4 =>
    (zpI h 7 a0 3 ((w4 : Int32) + 0)).bind fun h5 =>
    some (0, h5)
    else
    (zgP h 7 a0 1).bind fun w6 =>
    (zgI h 7 a0 3).bind fun w7 =>
    (zaI h w6 (w7)).bind fun w8 =>
    if (w8 : Int32) = a1 then
    (zgI h 7 a0 3).bind fun w10 =>
    (zpI h 7 a0 3 ((w10 : Int32) + 1)).bind fun h11 =>
    some (1, h11)
    else
    (zgI h 7 a0 3).bind fun w12 =>
    (zpI h 7 a0 3 ((w12 : Int32) + 0)).bind fun h13 =>
    some (0, h13)
    else none
theorem kfX7_passes {h : zH} {a0 : Nat} {a1 : Int32} {r : Int32 × zH} (hf : fX7_passes h a0 a1 = some r) : zkd h a0 = 8 := by
  unfold fX7_passes at hf
  exact (zck hf).1
def fX7_number_L5 (k : zH → Int32 → Int32 → Option (Int32 × zH)) (u0 : Nat) (u1 : Int32) (u2 : Int32) : Nat → zH → Int32 → Int32 → Option (Int32 × zH)
  | 0, _, _, _ => none
  | n + 1, h, v3, v4 => if (u1 : Int32) ≤ v4 then
    k h (v3) (v4)
    else
    zb2 (fX7_digit h (u0)) fun w2 h3 =>
    if (w2 : Int32) = (-9) then
    some ((-9), h3)
    else
    if (u2 : Int32) = 0 then
    (zgI h3 7 u0 3).bind fun w6 =>
    (zpI h3 7 u0 3 ((w6 : Int32) + 1)).bind fun h7 =>
    fX7_number_L5 k u0 u1 u2 n h7 (((((10 : Int32) * v3) : Int32) + w2)) ((v4 + 1))
    else
    if (v4 : Int32) = ((u1 : Int32) - 1) then
    if (v3 : Int32) = 0 then
    if (w2 : Int32) = 0 then
    some ((-9), h3)
    else
    (zgI h3 7 u0 3).bind fun w11 =>
    (zpI h3 7 u0 3 ((w11 : Int32) + 1)).bind fun h12 =>
    fX7_number_L5 k u0 u1 u2 n h12 (((((10 : Int32) * v3) : Int32) + w2)) ((v4 + 1))
    else
    (zgI h3 7 u0 3).bind fun w13 =>
    (zpI h3 7 u0 3 ((w13 : Int32) + 1)).bind fun h14 =>
    fX7_number_L5 k u0 u1 u2 n h14 (((((10 : Int32) * v3) : Int32) + w2)) ((v4 + 1))
    else
    (zgI h3 7 u0 3).bind fun w15 =>
    (zpI h3 7 u0 3 ((w15 : Int32) + 1)).bind fun h16 =>
    fX7_number_L5 k u0 u1 u2 n h16 (((((10 : Int32) * v3) : Int32) + w2)) ((v4 + 1))
def fX7_number (h : zH) (a0 : Nat) (a1 : Int32) (a2 : Int32) : Option (Int32 × zH) :=
    if zkd h a0 = 8 then
    fX7_number_L5 (fun h1 y2 y3 =>
    some (y2, h1)) (a0) (a1) (a2) zF h (0) (0)
    else none
theorem kfX7_number {h : zH} {a0 : Nat} {a1 : Int32} {a2 : Int32} {r : Int32 × zH} (hf : fX7_number h a0 a1 a2 = some r) : zkd h a0 = 8 := by
  unfold fX7_number at hf
  exact (zck hf).1
def fX7_readAway_L6 (k : zH → Int32 → Int32 → Option (Int32 × zH)) (u0 : Nat) (u1 : Int32) : Nat → zH → Int32 → Int32 → Option (Int32 × zH)
  | 0, _, _, _ => none
  | n + 1, h, v2, v3 => (zgI h 7 u0 14).bind fun w1 =>
    if (w1 : Int32) ≤ v3 then
    k h (v2) (v3)
    else
    (zgP h 7 u0 17).bind fun w3 =>
    (zaI h w3 (v3)).bind fun w4 =>
    if (w4 : Int32) = u1 then
    (zgP h 7 u0 18).bind fun w6 =>
    (zaI h w6 (v3)).bind fun w7 =>
    fX7_readAway_L6 k u0 u1 n h (((v2 : Int32) ||| ((1 : Int32) <<< (w7 &&& 31)))) ((v3 + 1))
    else
    fX7_readAway_L6 k u0 u1 n h (((v2 : Int32) ||| 0)) ((v3 + 1))
def fX7_readAway (h : zH) (a0 : Nat) (a1 : Int32) : Option (Int32 × zH) :=
    if zkd h a0 = 8 then
    fX7_readAway_L6 (fun h1 y2 y3 =>
    some (y2, h1)) (a0) (a1) zF h (((1 : Int32) <<< (a1 &&& 31))) (0)
    else none
theorem kfX7_readAway {h : zH} {a0 : Nat} {a1 : Int32} {r : Int32 × zH} (hf : fX7_readAway h a0 a1 = some r) : zkd h a0 = 8 := by
  unfold fX7_readAway at hf
  exact (zck hf).1
def fX7_mayConvert_L4 (k : zH → Int32 → Int32 → Option (Int32 × zH)) (u0 : Nat) : Nat → zH → Int32 → Int32 → Option (Int32 × zH)
  | 0, _, _, _ => none
  | n + 1, h, v1, v2 => (zgI h 7 u0 13).bind fun w1 =>
    if (w1 : Int32) ≤ v2 then
    k h (v1) (v2)
    else
    if (v1 : Int32) = 0 then
    zb2 (fX7_readAway h (u0) (v2)) fun w4 h5 =>
    (zgI h5 7 u0 13).bind fun w6 =>
    if (w4 : Int32) = ((((1 : Int32) <<< (w6 &&& 31)) : Int32) - 1) then
    fX7_mayConvert_L4 k u0 n h5 (0) ((v2 + 1))
    else
    fX7_mayConvert_L4 k u0 n h5 (1) ((v2 + 1))
    else
    fX7_mayConvert_L4 k u0 n h (1) ((v2 + 1))
def fX7_mayConvert (h : zH) (a0 : Nat) : Option (Int32 × zH) :=
    if zkd h a0 = 8 then
    fX7_mayConvert_L4 (fun h1 y2 y3 =>
    if (y2 : Int32) = 0 then
    some (0, h1)
    else
    (zgI h1 7 a0 14).bind fun w5 =>
    if (20 : Int32) ≤ w5 then
    some (0, h1)
    else
    some (1, h1)) (a0) zF h (0) (0)
    else none
theorem kfX7_mayConvert {h : zH} {a0 : Nat} {r : Int32 × zH} (hf : fX7_mayConvert h a0 = some r) : zkd h a0 = 8 := by
  unfold fX7_mayConvert at hf
  exact (zck hf).1
def fX7_readConversion (h : zH) (a0 : Nat) : Option (Int32 × zH) :=
    if zkd h a0 = 8 then
    zb2 (fX7_digit h (a0)) fun w1 h2 =>
    (zgI h2 7 a0 13).bind fun w3 =>
    zb2 (fX7_in h2 ((w1 : Int32).toInt64) (0) ((((w3 : Int32) - 1) : Int32).toInt64)) fun w4 h5 =>
    if (w4 : Int32) = 0 then
    some (0, h5)
    else
    zb2 (fX7_readAway h5 (a0) (w1)) fun w7 h8 =>
    (zgI h8 7 a0 13).bind fun w9 =>
    if (w7 : Int32) = ((((1 : Int32) <<< (w9 &&& 31)) : Int32) - 1) then
    some (0, h8)
    else
    (zgI h8 7 a0 3).bind fun w11 =>
    (zpI h8 7 a0 3 ((w11 : Int32) + 1)).bind fun h12 =>
    zb2 (fX7_digit h12 (a0)) fun w13 h14 =>
    (zgI h14 7 a0 13).bind fun w15 =>
    zb2 (fX7_in h14 ((w13 : Int32).toInt64) (0) ((((w15 : Int32) - 1) : Int32).toInt64)) fun w16 h17 =>
    if (w16 : Int32) = 0 then
    some (0, h17)
    else
    zb2 (fX7_readAway h17 (a0) (w1)) fun w19 h20 =>
    if (((((w19 : Int32) >>> (w13 &&& 31)) : Int32) &&& 1) : Int32) = 1 then
    some (0, h20)
    else
    (zgI h20 7 a0 3).bind fun w22 =>
    (zpI h20 7 a0 3 ((w22 : Int32) + 1)).bind fun h23 =>
    (zgI h23 7 a0 14).bind fun w24 =>
    (zgP h23 7 a0 17).bind fun w25 =>
    (zbI h23 w25 (w24) (w1)).bind fun h26 =>
    (zgP h26 7 a0 18).bind fun w27 =>
    (zbI h26 w27 (w24) (w13)).bind fun h28 =>
    (zgP h28 7 a0 19).bind fun w29 =>
    zb2 (fX7_number h28 (a0) (2) (1)) fun w30 h31 =>
    (zbI h31 w29 (w24) (w30)).bind fun h32 =>
    (zgP h32 7 a0 20).bind fun w33 =>
    (zgP h32 7 a0 19).bind fun w34 =>
    (zaI h32 w34 (w24)).bind fun w35 =>
    if (w35 : Int32) = (-9) then
    (zbI h32 w33 (w24) ((-9))).bind fun h37 =>
    (zgP h37 7 a0 21).bind fun w38 =>
    (zgP h37 7 a0 20).bind fun w39 =>
    (zaI h37 w39 (w24)).bind fun w40 =>
    if (w40 : Int32) = (-9) then
    (zbI h37 w38 (w24) ((-9))).bind fun h42 =>
    (zgP h42 7 a0 21).bind fun w43 =>
    (zaI h42 w43 (w24)).bind fun w44 =>
    if (w44 : Int32) = (-9) then
    some (0, h42)
    else
    (zgI h42 7 a0 14).bind fun w46 =>
    (zpI h42 7 a0 14 ((w46 : Int32) + 1)).bind fun h47 =>
    some (1, h47)
    else
    zb2 (fX7_number h37 (a0) (1) (0)) fun w48 h49 =>
    (zbI h49 w38 (w24) (w48)).bind fun h50 =>
    (zgP h50 7 a0 21).bind fun w51 =>
    (zaI h50 w51 (w24)).bind fun w52 =>
    if (w52 : Int32) = (-9) then
    some (0, h50)
    else
    (zgI h50 7 a0 14).bind fun w54 =>
    (zpI h50 7 a0 14 ((w54 : Int32) + 1)).bind fun h55 =>
    some (1, h55)
    else
    zb2 (fX7_number h32 (a0) (2) (1)) fun w56 h57 =>
    (zbI h57 w33 (w24) (w56)).bind fun h58 =>
    (zgP h58 7 a0 21).bind fun w59 =>
    (zgP h58 7 a0 20).bind fun w60 =>
    (zaI h58 w60 (w24)).bind fun w61 =>
    if (w61 : Int32) = (-9) then
    (zbI h58 w59 (w24) ((-9))).bind fun h63 =>
    (zgP h63 7 a0 21).bind fun w64 =>
    (zaI h63 w64 (w24)).bind fun w65 =>
    if (w65 : Int32) = (-9) then
    some (0, h63)
    else
    (zgI h63 7 a0 14).bind fun w67 =>
    (zpI h63 7 a0 14 ((w67 : Int32) + 1)).bind fun h68 =>
    some (1, h68)
    else
    zb2 (fX7_number h58 (a0) (1) (0)) fun w69 h70 =>
    (zbI h70 w59 (w24) (w69)).bind fun h71 =>
    (zgP h71 7 a0 21).bind fun w72 =>
    (zaI h71 w72 (w24)).bind fun w73 =>
    if (w73 : Int32) = (-9) then
    some (0, h71)
    else
    (zgI h71 7 a0 14).bind fun w75 =>
    (zpI h71 7 a0 14 ((w75 : Int32) + 1)).bind fun h76 =>
    some (1, h76)
    else none
theorem kfX7_readConversion {h : zH} {a0 : Nat} {r : Int32 × zH} (hf : fX7_readConversion h a0 = some r) : zkd h a0 = 8 := by
  unfold fX7_readConversion at hf
  exact (zck hf).1
def fX7_readPlace_L4 (k : zH → Int32 → Int32 → Option (Int32 × zH)) (u0 : Nat) : Nat → zH → Int32 → Int32 → Option (Int32 × zH)
  | 0, _, _, _ => none
  | n + 1, h, v1, v2 => zb2 (fX7_digit h (u0)) fun w1 h2 =>
    (zgI h2 7 u0 13).bind fun w3 =>
    zb2 (fX7_in h2 ((w1 : Int32).toInt64) ((v2 : Int32).toInt64) ((((w3 : Int32) - 1) : Int32).toInt64)) fun w4 h5 =>
    if (w4 : Int32) = 0 then
    k h5 (v1) (v2)
    else
    zb2 (fX7_digit h5 (u0)) fun w7 h8 =>
    zb2 (fX7_digit h8 (u0)) fun w9 h10 =>
    (zgI h10 7 u0 3).bind fun w11 =>
    (zpI h10 7 u0 3 ((w11 : Int32) + 1)).bind fun h12 =>
    fX7_readPlace_L4 k u0 n h12 (((v1 : Int32) ||| ((1 : Int32) <<< (w7 &&& 31)))) (((w9 : Int32) + 1))
def fX7_readPlace (h : zH) (a0 : Nat) : Option (Int32 × zH) :=
    if zkd h a0 = 8 then
    fX7_readPlace_L4 (fun h1 y2 y3 =>
    if (y2 : Int32) = 0 then
    some (0, h1)
    else
    zb2 (fX7_passes h1 (a0) (58)) fun w5 h6 =>
    if (w5 : Int32) = 0 then
    some (0, h6)
    else
    zb2 (fX7_number h6 (a0) (5) (1)) fun w8 h9 =>
    if (w8 : Int32) = (-9) then
    some (0, h9)
    else
    (zgP h9 7 a0 22).bind fun w11 =>
    (zgI h9 7 a0 15).bind fun w12 =>
    (zbI h9 w11 (w12) (y2)).bind fun h13 =>
    (zgP h13 7 a0 23).bind fun w14 =>
    (zgI h13 7 a0 15).bind fun w15 =>
    (zbI h13 w14 (w15) (w8)).bind fun h16 =>
    (zgI h16 7 a0 15).bind fun w17 =>
    (zpI h16 7 a0 15 ((w17 : Int32) + 1)).bind fun h18 =>
    some (1, h18)) (a0) zF h (0) (0)
    else none
theorem kfX7_readPlace {h : zH} {a0 : Nat} {r : Int32 × zH} (hf : fX7_readPlace h a0 = some r) : zkd h a0 = 8 := by
  unfold fX7_readPlace at hf
  exact (zck hf).1
def fX7_readText_L91 (k : zH → Option (Int32 × zH)) (u0 : Nat) : Nat → zH → Option (Int32 × zH)
  | 0, _ => none
  | n + 1, h => (zgI h 7 u0 3).bind fun w1 =>
    (zgI h 7 u0 2).bind fun w2 =>
    if (w2 : Int32) ≤ w1 then
    k h 
    else
    zb2 (fX7_mayConvert h (u0)) fun w4 h5 =>
    if (w4 : Int32) = 0 then
    (zgI h5 7 u0 15).bind fun w7 =>
    if (6 : Int32) ≤ w7 then
    (zgI h5 7 u0 3).bind fun w9 =>
    some (w9, h5)
    else
    zb2 (fX7_passes h5 (u0) (112)) fun w10 h11 =>
    if (w10 : Int32) = 0 then
    (zgI h11 7 u0 3).bind fun w13 =>
    some (w13, h11)
    else
    zb2 (fX7_readPlace h11 (u0)) fun w14 h15 =>
    if (w14 : Int32) = 0 then
    (zgI h15 7 u0 3).bind fun w17 =>
    some (w17, h15)
    else
    fX7_readText_L91 k u0 n h15 
    else
    zb2 (fX7_passes h5 (u0) (99)) fun w18 h19 =>
    if (w18 : Int32) = 0 then
    (zgI h19 7 u0 15).bind fun w21 =>
    if (6 : Int32) ≤ w21 then
    (zgI h19 7 u0 3).bind fun w23 =>
    some (w23, h19)
    else
    zb2 (fX7_passes h19 (u0) (112)) fun w24 h25 =>
    if (w24 : Int32) = 0 then
    (zgI h25 7 u0 3).bind fun w27 =>
    some (w27, h25)
    else
    zb2 (fX7_readPlace h25 (u0)) fun w28 h29 =>
    if (w28 : Int32) = 0 then
    (zgI h29 7 u0 3).bind fun w31 =>
    some (w31, h29)
    else
    fX7_readText_L91 k u0 n h29 
    else
    zb2 (fX7_readConversion h19 (u0)) fun w32 h33 =>
    if (w32 : Int32) = 0 then
    (zgI h33 7 u0 3).bind fun w35 =>
    some (w35, h33)
    else
    fX7_readText_L91 k u0 n h33 
def fX7_readText (h : zH) (a0 : Nat) : Option (Int32 × zH) :=
    if zkd h a0 = 8 then
    (zpI h 7 a0 3 0).bind fun h1 =>
    (zpI h1 7 a0 14 0).bind fun h2 =>
    (zpI h2 7 a0 15 0).bind fun h3 =>
    zb2 (fX7_passes h3 (a0) (75)) fun w4 h5 =>
    if (w4 : Int32) = 0 then
    (zgI h5 7 a0 3).bind fun w7 =>
    some (w7, h5)
    else
    zb2 (fX7_digit h5 (a0)) fun w8 h9 =>
    (zpI h9 7 a0 13 w8).bind fun h10 =>
    (zgI h10 7 a0 13).bind fun w11 =>
    zb2 (fX7_in h10 ((w11 : Int32).toInt64) (1) (8)) fun w12 h13 =>
    if (w12 : Int32) = 0 then
    (zgI h13 7 a0 3).bind fun w15 =>
    some (w15, h13)
    else
    (zgI h13 7 a0 3).bind fun w16 =>
    (zpI h13 7 a0 3 ((w16 : Int32) + 1)).bind fun h17 =>
    zb2 (fX7_number h17 (a0) (5) (1)) fun w18 h19 =>
    (zpI h19 7 a0 16 w18).bind fun h20 =>
    (zgI h20 7 a0 16).bind fun w21 =>
    if (w21 : Int32) = (-9) then
    (zgI h20 7 a0 3).bind fun w23 =>
    some (w23, h20)
    else
    fX7_readText_L91 (fun h24 =>
    some ((-9), h24)) (a0) zF h20
    else none
theorem kfX7_readText {h : zH} {a0 : Nat} {r : Int32 × zH} (hf : fX7_readText h a0 = some r) : zkd h a0 = 8 := by
  unfold fX7_readText at hf
  exact (zck hf).1
def fX7_errorPosition (h : zH) (a0 : Nat) : Option (Int32 × zH) :=
    if zkd h a0 = 8 then
    (zpI h 7 a0 0 0).bind fun h1 =>
    zb2 (fX7_readText h1 (a0)) fun w2 h3 =>
    some (w2, h3)
    else none
theorem kfX7_errorPosition {h : zH} {a0 : Nat} {r : Int32 × zH} (hf : fX7_errorPosition h a0 = some r) : zkd h a0 = 8 := by
  unfold fX7_errorPosition at hf
  exact (zck hf).1
def fX7_load_L25 (k : zH → Int32 → Option (Int32 × zH)) (u0 : Nat) : Nat → zH → Int32 → Option (Int32 × zH)
  | 0, _, _ => none
  | n + 1, h, v1 => if (360 : Int32) ≤ v1 then
    k h (v1)
    else
    (zgP h 7 u0 24).bind fun w2 =>
    (zbI h w2 (v1) (0)).bind fun h3 =>
    fX7_load_L25 k u0 n h3 ((v1 + 1))
def fX7_load_L81 (k : zH → Int32 → Option (Int32 × zH)) (u0 : Nat) : Nat → zH → Int32 → Option (Int32 × zH)
  | 0, _, _ => none
  | n + 1, h, v1 => (zgI h 7 u0 5).bind fun w1 =>
    if (w1 : Int32) ≤ v1 then
    k h (v1)
    else
    (zgP h 7 u0 7).bind fun w3 =>
    (zgP h 7 u0 17).bind fun w4 =>
    (zaI h w4 (v1)).bind fun w5 =>
    (zbI h w3 (v1) (w5)).bind fun h6 =>
    (zgP h6 7 u0 8).bind fun w7 =>
    (zgP h6 7 u0 18).bind fun w8 =>
    (zaI h6 w8 (v1)).bind fun w9 =>
    (zbI h6 w7 (v1) (w9)).bind fun h10 =>
    (zgP h10 7 u0 24).bind fun w11 =>
    (zgP h10 7 u0 19).bind fun w12 =>
    (zaI h10 w12 (v1)).bind fun w13 =>
    (zbI h10 w11 (((4 : Int32) + v1)) (w13)).bind fun h14 =>
    (zgP h14 7 u0 9).bind fun w15 =>
    (zgP h14 7 u0 20).bind fun w16 =>
    (zaI h14 w16 (v1)).bind fun w17 =>
    (zbI h14 w15 (v1) (w17)).bind fun h18 =>
    (zgP h18 7 u0 10).bind fun w19 =>
    (zgP h18 7 u0 21).bind fun w20 =>
    (zaI h18 w20 (v1)).bind fun w21 =>
    (zbI h18 w19 (v1) (w21)).bind fun h22 =>
    fX7_load_L81 k u0 n h22 ((v1 + 1))
def fX7_load (h : zH) (a0 : Nat) : Option (Int32 × zH) :=
    if zkd h a0 = 8 then
    zb2 (fX7_readText h (a0)) fun w1 h2 =>
    if (w1 : Int32) = (-9) then
    zb2 (fX7_refused h2 (a0) (0)) fun w4 h5 =>
    if (w4 : Int32) = 0 then
    fX7_load_L25 (fun h7 y8 =>
    (zgI h7 7 a0 13).bind fun w9 =>
    (zpI h7 7 a0 4 w9).bind fun h10 =>
    (zgI h10 7 a0 14).bind fun w11 =>
    (zpI h10 7 a0 5 w11).bind fun h12 =>
    (zgI h12 7 a0 15).bind fun w13 =>
    (zpI h12 7 a0 6 w13).bind fun h14 =>
    (zgP h14 7 a0 24).bind fun w15 =>
    (zgI h14 7 a0 16).bind fun w16 =>
    (zbI h14 w15 (3) (w16)).bind fun h17 =>
    fX7_load_L81 (fun h18 y19 =>
    (zgP h18 7 a0 22).bind fun w20 =>
    (zgP h18 7 a0 11).bind fun w21 =>
    (fX7_copyRow h18 (w20) (0) (w21) (0) (6)).bind fun h22 =>
    (zgP h22 7 a0 23).bind fun w23 =>
    (zgP h22 7 a0 12).bind fun w24 =>
    (fX7_copyRow h22 (w23) (0) (w24) (0) (6)).bind fun h25 =>
    (zpI h25 7 a0 28 0).bind fun h26 =>
    (zgP h26 7 a0 30).bind fun w27 =>
    (zbZ h26 w27 (0) (0)).bind fun h28 =>
    (zgP h28 7 a0 30).bind fun w29 =>
    (zbZ h28 w29 (1) (0)).bind fun h30 =>
    (zgI h30 7 a0 5).bind fun w31 =>
    some (w31, h30)) (a0) zF h17 (0)) (a0) zF h5 (0)
    else
    some (0, h5)
    else
    zb2 (fX7_refused h2 (a0) (1)) fun w32 h33 =>
    if (w32 : Int32) = 0 then
    fX7_load_L25 (fun h35 y36 =>
    (zgI h35 7 a0 13).bind fun w37 =>
    (zpI h35 7 a0 4 w37).bind fun h38 =>
    (zgI h38 7 a0 14).bind fun w39 =>
    (zpI h38 7 a0 5 w39).bind fun h40 =>
    (zgI h40 7 a0 15).bind fun w41 =>
    (zpI h40 7 a0 6 w41).bind fun h42 =>
    (zgP h42 7 a0 24).bind fun w43 =>
    (zgI h42 7 a0 16).bind fun w44 =>
    (zbI h42 w43 (3) (w44)).bind fun h45 =>
    fX7_load_L81 (fun h46 y47 =>
    (zgP h46 7 a0 22).bind fun w48 =>
    (zgP h46 7 a0 11).bind fun w49 =>
    (fX7_copyRow h46 (w48) (0) (w49) (0) (6)).bind fun h50 =>
    (zgP h50 7 a0 23).bind fun w51 =>
    (zgP h50 7 a0 12).bind fun w52 =>
    (fX7_copyRow h50 (w51) (0) (w52) (0) (6)).bind fun h53 =>
    (zpI h53 7 a0 28 0).bind fun h54 =>
    (zgP h54 7 a0 30).bind fun w55 =>
    (zbZ h54 w55 (0) (0)).bind fun h56 =>
    (zgP h56 7 a0 30).bind fun w57 =>
    (zbZ h56 w57 (1) (0)).bind fun h58 =>
    (zgI h58 7 a0 5).bind fun w59 =>
    some (w59, h58)) (a0) zF h45 (0)) (a0) zF h33 (0)
    else
    some (0, h33)
    else none
theorem kfX7_load {h : zH} {a0 : Nat} {r : Int32 × zH} (hf : fX7_load h a0 = some r) : zkd h a0 = 8 := by
  unfold fX7_load at hf
  exact (zck hf).1
def fX7_sizeOf_L4 (k : zH → Int32 → Int32 → Option (Int32 × zH)) (u0 : Nat) (u1 : Int32) : Nat → zH → Int32 → Int32 → Option (Int32 × zH)
  | 0, _, _, _ => none
  | n + 1, h, v2, v3 => if (8 : Int32) ≤ v3 then
    k h (v2) (v3)
    else
    zb2 (fX7_at h (u1)) fun w2 h3 =>
    (zaI h3 u0 (((((w2 : Int32) + 0) : Int32) + v3))).bind fun w4 =>
    fX7_sizeOf_L4 k u0 u1 n h3 (((v2 : Int32) + w4)) ((v3 + 1))
def fX7_sizeOf (h : zH) (a0 : Nat) (a1 : Int32) : Option (Int32 × zH) :=
    fX7_sizeOf_L4 (fun h1 y2 y3 =>
    some (y2, h1)) (a0) (a1) zF h (0) (0)
def fX7_used_L4 (k : zH → Int32 → Int32 → Option (Int32 × zH)) (u0 : Nat) : Nat → zH → Int32 → Int32 → Option (Int32 × zH)
  | 0, _, _, _ => none
  | n + 1, h, v1, v2 => (zaI h u0 (0)).bind fun w1 =>
    if (w1 : Int32) ≤ v2 then
    k h (v1) (v2)
    else
    zb2 (fX7_sizeOf h (u0) (v2)) fun w3 h4 =>
    fX7_used_L4 k u0 n h4 (((v1 : Int32) + w3)) ((v2 + 1))
def fX7_used (h : zH) (a0 : Nat) : Option (Int32 × zH) :=
    fX7_used_L4 (fun h1 y2 y3 =>
    some (y2, h1)) (a0) zF h (0) (0)
def fX7_formsOf_L5 (k : zH → Int32 → Int32 → Option (Int32 × zH)) (u0 : Nat) (u1 : Int32) (u2 : Int32) : Nat → zH → Int32 → Int32 → Option (Int32 × zH)
  | 0, _, _, _ => none
  | n + 1, h, v3, v4 => if (8 : Int32) ≤ v4 then
    k h (v3) (v4)
    else
    zb2 (fX7_at h (u1)) fun w2 h3 =>
    (zaI h3 u0 (((((w2 : Int32) + 16) : Int32) + v4))).bind fun w4 =>
    if (w4 : Int32) < u2 then
    fX7_formsOf_L5 k u0 u1 u2 n h3 (((v3 : Int32) ||| 0)) ((v4 + 1))
    else
    fX7_formsOf_L5 k u0 u1 u2 n h3 (((v3 : Int32) ||| ((1 : Int32) <<< (v4 &&& 31)))) ((v4 + 1))
def fX7_formsOf (h : zH) (a0 : Nat) (a1 : Int32) (a2 : Int32) : Option (Int32 × zH) :=
    fX7_formsOf_L5 (fun h1 y2 y3 =>
    some (y2, h1)) (a0) (a1) (a2) zF h (0) (0)
def fX7_weight (h : zH) (a0 : Nat) (a1 : Int32) : Option (Int32 × zH) :=
    zb2 (fX7_sizeOf h (a0) (a1)) fun w1 h2 =>
    (zaI h2 a0 (1)).bind fun w3 =>
    zb2 (fX7_at h2 (a1)) fun w4 h5 =>
    (zaI h5 a0 (((w4 : Int32) + 26))).bind fun w6 =>
    zb2 (fX7_at h5 (a1)) fun w7 h8 =>
    (zaI h8 a0 (((w7 : Int32) + 25))).bind fun w9 =>
    if ((((w9 : Int32) + 1) : Int32).toInt64 : Int64) = 0 then none else
    if ((lg_cmp (((((w1 : Int32).toInt64 : Int64) * (((((w3 : Int32) - w6) : Int32) + 1) : Int32).toInt64) : Int64) / (((w9 : Int32) + 1) : Int32).toInt64) 999999999) : Int32) ≤ 0 then
    some (((((((w1 : Int32).toInt64 : Int64) * (((((w3 : Int32) - w6) : Int32) + 1) : Int32).toInt64) : Int64) / (((w9 : Int32) + 1) : Int32).toInt64) : Int64).toInt32, h8)
    else
    some (999999999, h8)
def fX7_drop_L12 (k : zH → Int32 → Option (zH)) (u0 : Nat) (u1 : Int32) : Nat → zH → Int32 → Option (zH)
  | 0, _, _ => none
  | n + 1, h, v2 => (zaI h u0 (0)).bind fun w1 =>
    zb2 (fX7_at h (w1)) fun w2 h3 =>
    if (w2 : Int32) ≤ v2 then
    k h3 (v2)
    else
    (zaI h3 u0 (((v2 : Int32) + 28))).bind fun w5 =>
    (zbI h3 u0 (v2) (w5)).bind fun h6 =>
    fX7_drop_L12 k u0 u1 n h6 ((v2 + 1))
def fX7_drop_L39 (k : zH → Int32 → Option (zH)) (u0 : Nat) (u1 : Int32) : Nat → zH → Int32 → Option (zH)
  | 0, _, _ => none
  | n + 1, h, v2 => if (28 : Int32) ≤ v2 then
    k h (v2)
    else
    (zaI h u0 (0)).bind fun w2 =>
    zb2 (fX7_at h (w2)) fun w3 h4 =>
    (zbI h4 u0 (((w3 : Int32) + v2)) (0)).bind fun h5 =>
    fX7_drop_L39 k u0 u1 n h5 ((v2 + 1))
def fX7_drop (h : zH) (a0 : Nat) (a1 : Int32) : Option (zH) :=
    (zaI h a0 (0)).bind fun w1 =>
    (zbI h a0 (0) (((w1 : Int32) - 1))).bind fun h2 =>
    zb2 (fX7_at h2 (a1)) fun w3 h4 =>
    fX7_drop_L12 (fun h5 y6 =>
    fX7_drop_L39 (fun h7 y8 =>
    some h7) (a0) (a1) zF h5 (0)) (a0) (a1) zF h4 (w3)
def fX7_dropForm (h : zH) (a0 : Nat) (a1 : Int32) (a2 : Int32) : Option (zH) :=
    zb2 (fX7_at h (a1)) fun w1 h2 =>
    (zbI h2 a0 (((((w1 : Int32) + 0) : Int32) + a2)) (0)).bind fun h3 =>
    zb2 (fX7_at h3 (a1)) fun w4 h5 =>
    (zbI h5 a0 (((((w4 : Int32) + 8) : Int32) + a2)) (0)).bind fun h6 =>
    zb2 (fX7_at h6 (a1)) fun w7 h8 =>
    (zbI h8 a0 (((((w7 : Int32) + 16) : Int32) + a2)) (0)).bind fun h9 =>
    some h9
def fX7_putForm (h : zH) (a0 : Nat) (a1 : Int32) (a2 : Int32) (a3 : Int32) (a4 : Int32) (a5 : Int32) : Option (zH) :=
    zb2 (fX7_at h (a1)) fun w1 h2 =>
    (zbI h2 a0 (((((w1 : Int32) + 0) : Int32) + a2)) (a3)).bind fun h3 =>
    zb2 (fX7_at h3 (a1)) fun w4 h5 =>
    (zbI h5 a0 (((((w4 : Int32) + 8) : Int32) + a2)) (a4)).bind fun h6 =>
    zb2 (fX7_at h6 (a1)) fun w7 h8 =>
    (zbI h8 a0 (((((w7 : Int32) + 16) : Int32) + a2)) (a5)).bind fun h9 =>
    some h9
def fX7_heaviest_L5 (k : zH → Int32 → Int32 → Option (Int32 × zH)) (u0 : Nat) (u1 : Int32) : Nat → zH → Int32 → Int32 → Option (Int32 × zH)
  | 0, _, _, _ => none
  | n + 1, h, v2, v3 => (zaI h u0 (0)).bind fun w1 =>
    if (w1 : Int32) ≤ v3 then
    k h (v2) (v3)
    else
    if (v3 : Int32) = u1 then
    fX7_heaviest_L5 k u0 u1 n h (v2) ((v3 + 1))
    else
    zb2 (fX7_at h (v3)) fun w4 h5 =>
    (zaI h5 u0 (((w4 : Int32) + 24))).bind fun w6 =>
    if (w6 : Int32) = 0 then
    if (v2 : Int32) < 0 then
    fX7_heaviest_L5 k u0 u1 n h5 (v3) ((v3 + 1))
    else
    zb2 (fX7_weight h5 (u0) (v3)) fun w9 h10 =>
    zb2 (fX7_weight h10 (u0) (v2)) fun w11 h12 =>
    if (w9 : Int32) < w11 then
    fX7_heaviest_L5 k u0 u1 n h12 (v2) ((v3 + 1))
    else
    fX7_heaviest_L5 k u0 u1 n h12 (v3) ((v3 + 1))
    else
    fX7_heaviest_L5 k u0 u1 n h5 (v2) ((v3 + 1))
def fX7_heaviest (h : zH) (a0 : Nat) (a1 : Int32) : Option (Int32 × zH) :=
    fX7_heaviest_L5 (fun h1 y2 y3 =>
    some (y2, h1)) (a0) (a1) zF h ((-9)) (0)
def fX7_largest_L20 (k : zH → Int32 → Int32 → Int32 → Option (Int32 × zH)) (u0 : Nat) (u1 : Int32) (u4 : Int32) : Nat → zH → Int32 → Int32 → Int32 → Option (Int32 × zH)
  | 0, _, _, _, _ => none
  | n + 1, h, v2, v3, v5 => if (8 : Int32) ≤ v5 then
    k h (v2) (v3) (v5)
    else
    if (u4 : Int32) = u1 then
    fX7_largest_L20 k u0 u1 u4 n h (v2) (v3) ((v5 + 1))
    else
    zb2 (fX7_at h (u4)) fun w3 h4 =>
    (zaI h4 u0 (((((w3 : Int32) + 16) : Int32) + v5))).bind fun w5 =>
    if (w5 : Int32) = 2 then
    zb2 (fX7_at h4 (u4)) fun w7 h8 =>
    (zaI h8 u0 (((((w7 : Int32) + 0) : Int32) + v5))).bind fun w9 =>
    if (w9 : Int32) ≤ v3 then
    fX7_largest_L20 k u0 u1 u4 n h8 (v2) (v3) ((v5 + 1))
    else
    zb2 (fX7_at h8 (u4)) fun w11 h12 =>
    (zaI h12 u0 (((((w11 : Int32) + 0) : Int32) + v5))).bind fun w13 =>
    fX7_largest_L20 k u0 u1 u4 n h12 (((((8 : Int32) * u4) : Int32) + v5)) (w13) ((v5 + 1))
    else
    fX7_largest_L20 k u0 u1 u4 n h4 (v2) (v3) ((v5 + 1))
def fX7_largest_L12 (k : zH → Int32 → Int32 → Int32 → Option (Int32 × zH)) (u0 : Nat) (u1 : Int32) : Nat → zH → Int32 → Int32 → Int32 → Option (Int32 × zH)
  | 0, _, _, _, _ => none
  | n + 1, h, v2, v3, v4 => if (v4 : Int32) < 0 then
    k h (v2) (v3) (v4)
    else
    fX7_largest_L20 (fun h2 y3 y4 y5 =>
    fX7_largest_L12 k u0 u1 n h2 (y3) (y4) ((v4 + (-1)))) (u0) (u1) (v4) zF h (v2) (v3) (0)
def fX7_largest (h : zH) (a0 : Nat) (a1 : Int32) : Option (Int32 × zH) :=
    (zaI h a0 (0)).bind fun w1 =>
    fX7_largest_L12 (fun h2 y3 y4 y5 =>
    some (y3, h2)) (a0) (a1) zF h ((-9)) (0) (((w1 : Int32) - 1))
def fX7_makeRoom_L0 (k : zH → Option (Int32 × zH)) (u0 : Nat) (u1 : Int32) (u2 : Int32) (u3 : Int32) : Nat → zH → Option (Int32 × zH)
  | 0, _ => none
  | n + 1, h => zb2 (fX7_used h (u0)) fun w1 h2 =>
    (zaI h2 u0 (3)).bind fun w3 =>
    if (((w1 : Int32) + u1) : Int32) ≤ w3 then
    k h2 
    else
    zb2 (fX7_largest h2 (u0) (u2)) fun w5 h6 =>
    if (w5 : Int32) = (-9) then
    if (u3 : Int32) = 0 then
    if (w5 : Int32) = (-9) then
    some (0, h6)
    else
    if (w5 : Int32) = (-9) then
    (fX7_drop h6 (u0) ((-9))).bind fun h11 =>
    fX7_makeRoom_L0 k u0 u1 u2 u3 n h11 
    else
    (fX7_dropForm h6 (u0) (((w5 : Int32) / 8)) (((w5 : Int32) - w5 / 8 * 8))).bind fun h12 =>
    fX7_makeRoom_L0 k u0 u1 u2 u3 n h12 
    else
    zb2 (fX7_heaviest h6 (u0) (u2)) fun w13 h14 =>
    if (w5 : Int32) = (-9) then
    if (w13 : Int32) = (-9) then
    some (0, h14)
    else
    if (w5 : Int32) = (-9) then
    (fX7_drop h14 (u0) (w13)).bind fun h18 =>
    fX7_makeRoom_L0 k u0 u1 u2 u3 n h18 
    else
    (fX7_dropForm h14 (u0) (((w5 : Int32) / 8)) (((w5 : Int32) - w5 / 8 * 8))).bind fun h19 =>
    fX7_makeRoom_L0 k u0 u1 u2 u3 n h19 
    else
    if (w5 : Int32) = (-9) then
    (fX7_drop h14 (u0) (w13)).bind fun h21 =>
    fX7_makeRoom_L0 k u0 u1 u2 u3 n h21 
    else
    (fX7_dropForm h14 (u0) (((w5 : Int32) / 8)) (((w5 : Int32) - w5 / 8 * 8))).bind fun h22 =>
    fX7_makeRoom_L0 k u0 u1 u2 u3 n h22 
    else
    if (w5 : Int32) = (-9) then
    some (0, h6)
    else
    if (w5 : Int32) = (-9) then
    (fX7_drop h6 (u0) ((-9))).bind fun h25 =>
    fX7_makeRoom_L0 k u0 u1 u2 u3 n h25 
    else
    (fX7_dropForm h6 (u0) (((w5 : Int32) / 8)) (((w5 : Int32) - w5 / 8 * 8))).bind fun h26 =>
    fX7_makeRoom_L0 k u0 u1 u2 u3 n h26 
def fX7_makeRoom (h : zH) (a0 : Nat) (a1 : Int32) (a2 : Int32) (a3 : Int32) : Option (Int32 × zH) :=
    fX7_makeRoom_L0 (fun h1 =>
    some (1, h1)) (a0) (a1) (a2) (a3) zF h
def fX7_tryNow_L18 (k : zH → Int32 → Option (zH)) (u0 : Nat) : Nat → zH → Int32 → Option (zH)
  | 0, _, _ => none
  | n + 1, h, v1 => (zgP h 7 u0 25).bind fun w1 =>
    (zaI h w1 (0)).bind fun w2 =>
    if (w2 : Int32) ≤ v1 then
    k h (v1)
    else
    (zgP h 7 u0 25).bind fun w4 =>
    zb2 (fX7_at h (v1)) fun w5 h6 =>
    (zbI h6 w4 (((w5 : Int32) + 27)) (v1)).bind fun h7 =>
    fX7_tryNow_L18 k u0 n h7 ((v1 + 1))
def fX7_tryNow (h : zH) (a0 : Nat) : Option (zH) :=
    if zkd h a0 = 8 then
    (zgP h 7 a0 24).bind fun w1 =>
    (zgP h 7 a0 25).bind fun w2 =>
    (fX7_copyRow h (w1) (0) (w2) (0) (360)).bind fun h3 =>
    fX7_tryNow_L18 (fun h4 y5 =>
    some h4) (a0) zF h3 (0)
    else none
theorem kfX7_tryNow {h : zH} {a0 : Nat} {r : zH} (hf : fX7_tryNow h a0 = some r) : zkd h a0 = 8 := by
  unfold fX7_tryNow at hf
  exact (zck hf).1
def fX7_about (h : zH) (a0 : Nat) (a1 : Int32) : Option (Int32 × zH) :=
    if zkd h a0 = 8 then
    zb2 (fX7_in h ((a1 : Int32).toInt64) (0) (7)) fun w1 h2 =>
    if (w1 : Int32) = 0 then
    zb2 (fX7_refused h2 (a0) (1)) fun w4 h5 =>
    if (w4 : Int32) = 0 then
    if (a1 : Int32) = 0 then
    (zgI h5 7 a0 4).bind fun w8 =>
    some (w8, h5)
    else
    if (a1 : Int32) = 1 then
    (zgI h5 7 a0 5).bind fun w10 =>
    some (w10, h5)
    else
    if (a1 : Int32) = 2 then
    (zgI h5 7 a0 6).bind fun w12 =>
    some (w12, h5)
    else
    if (a1 : Int32) = 3 then
    (zgP h5 7 a0 24).bind fun w14 =>
    (zaI h5 w14 (0)).bind fun w15 =>
    some (w15, h5)
    else
    if (a1 : Int32) = 4 then
    (zgP h5 7 a0 24).bind fun w17 =>
    (zaI h5 w17 (3)).bind fun w18 =>
    some (w18, h5)
    else
    if (a1 : Int32) = 5 then
    (zgP h5 7 a0 24).bind fun w20 =>
    zb2 (fX7_used h5 (w20)) fun w21 h22 =>
    some (w21, h22)
    else
    if (a1 : Int32) = 6 then
    (zgP h5 7 a0 24).bind fun w24 =>
    (zaI h5 w24 (1)).bind fun w25 =>
    some (w25, h5)
    else
    (zgP h5 7 a0 24).bind fun w26 =>
    (zaI h5 w26 (2)).bind fun w27 =>
    some (w27, h5)
    else
    some (0, h5)
    else
    zb2 (fX7_refused h2 (a0) (0)) fun w28 h29 =>
    if (w28 : Int32) = 0 then
    if (a1 : Int32) = 0 then
    (zgI h29 7 a0 4).bind fun w32 =>
    some (w32, h29)
    else
    if (a1 : Int32) = 1 then
    (zgI h29 7 a0 5).bind fun w34 =>
    some (w34, h29)
    else
    if (a1 : Int32) = 2 then
    (zgI h29 7 a0 6).bind fun w36 =>
    some (w36, h29)
    else
    if (a1 : Int32) = 3 then
    (zgP h29 7 a0 24).bind fun w38 =>
    (zaI h29 w38 (0)).bind fun w39 =>
    some (w39, h29)
    else
    if (a1 : Int32) = 4 then
    (zgP h29 7 a0 24).bind fun w41 =>
    (zaI h29 w41 (3)).bind fun w42 =>
    some (w42, h29)
    else
    if (a1 : Int32) = 5 then
    (zgP h29 7 a0 24).bind fun w44 =>
    zb2 (fX7_used h29 (w44)) fun w45 h46 =>
    some (w45, h46)
    else
    if (a1 : Int32) = 6 then
    (zgP h29 7 a0 24).bind fun w48 =>
    (zaI h29 w48 (1)).bind fun w49 =>
    some (w49, h29)
    else
    (zgP h29 7 a0 24).bind fun w50 =>
    (zaI h29 w50 (2)).bind fun w51 =>
    some (w51, h29)
    else
    some (0, h29)
    else none
theorem kfX7_about {h : zH} {a0 : Nat} {a1 : Int32} {r : Int32 × zH} (hf : fX7_about h a0 a1 = some r) : zkd h a0 = 8 := by
  unfold fX7_about at hf
  exact (zck hf).1
abbrev rm_X7_clearText : Room := { frames := 0, cells := 0, slots := 0, locals := 0 }
set_option maxRecDepth 100000 in
set_option maxHeartbeats 4000000 in
theorem tX7_clearText {l : Launch} {G : zG} (hst : l.stackTraces = false) {h : zH} {a0 : Nat} {r : Int32 × zH} (hf : fX7_clearText h a0 = some r) : zMet l G yX7_clearText (.code yX7_clearText cX7_clearText 2 (some .int)) rm_X7_clearText 0 0 [.ref a0] h (zoi r) := by
  unfold fX7_clearText at hf
  obtain ⟨-, hf⟩ := zck hf
  refine z_enter (by decide) (Nat.le_of_ble_eq_true rfl) hst (fun x hx B hE => ?_)
  subst hx
  have B : zB G x cX7_clearText 2 RX7 "clearText" rm_X7_clearText (some .int) := B
  show zV G x 2 (zQ G x (zoi r) 0 0) h 0 0 0 [(0, .ref a0)] []
  refine z_aload_n B dX7_clearText_0 rfl 0 rfl ?_
  refine z_iconst (v := 0) B dX7_clearText_1 (by decide) ?_
  obtain ⟨h1, eh1, hf⟩ := zbs hf
  refine z_pI B fl_RX7_84 eh1 rfl dX7_clearText_2 ?_
  refine z_aload_n B dX7_clearText_5 rfl 0 rfl ?_
  obtain ⟨w2, ew2, hf⟩ := zbs hf
  refine z_gI B fl_RX7_109 ew2 rfl dX7_clearText_6 ?_
  refine z_istore_n (lv' := [(1, .int w2), (0, .ref a0)]) B dX7_clearText_9 rfl (by decide) rfl ?_
  refine z_aload_n B dX7_clearText_10 rfl 1 rfl ?_
  refine z_iconst (v := 0) B dX7_clearText_11 (by decide) ?_
  obtain ⟨h3, eh3, hf⟩ := zbs hf
  refine z_pI B fl_RX7_109 eh3 rfl dX7_clearText_12 ?_
  refine z_iload_n B dX7_clearText_15 rfl 0 rfl ?_
  cases hf
  exact z_iret B dX7_clearText_16 (Nat.le_of_ble_eq_true rfl) (Nat.le_of_ble_eq_true rfl)
abbrev rm_X7_digit : Room := { frames := 1, cells := 0, slots := 0, locals := 25 }
set_option maxRecDepth 100000 in
set_option maxHeartbeats 4000000 in
theorem tX7_digit {l : Launch} {G : zG} (hst : l.stackTraces = false) {h : zH} {a0 : Nat} {r : Int32 × zH} (hf : fX7_digit h a0 = some r) : zMet l G yX7_digit (.code yX7_digit cX7_digit 2 (some .int)) rm_X7_digit 0 0 [.ref a0] h (zoi r) := by
  unfold fX7_digit at hf
  obtain ⟨-, hf⟩ := zck hf
  refine z_enter (by decide) (Nat.le_of_ble_eq_true rfl) hst (fun x hx B hE => ?_)
  subst hx
  have B : zB G x cX7_digit 2 RX7 "digit" rm_X7_digit (some .int) := B
  show zV G x 2 (zQ G x (zoi r) 0 0) h 0 0 0 [(0, .ref a0)] []
  refine z_aload_n B dX7_digit_0 rfl 0 rfl ?_
  obtain ⟨w1, ew1, hf⟩ := zbs hf
  refine z_gI B fl_RX7_116 ew1 rfl dX7_digit_1 ?_
  refine z_aload_n B dX7_digit_4 rfl 0 rfl ?_
  obtain ⟨w2, ew2, hf⟩ := zbs hf
  refine z_gI B fl_RX7_109 ew2 rfl dX7_digit_5 ?_
  rcases zite hf with ⟨c3, hf⟩ | ⟨c3, hf⟩
  · refine z_icmp_ge B 26 dX7_digit_8 (by decide) (fun _ => ?_) (fun e => absurd c3 e)
    refine z_bipush (v := (-9)) B dX7_digit_26 (by decide) ?_
    refine z_istore_n (lv' := [(1, .int (-9)), (0, .ref a0)]) B dX7_digit_28 rfl (by decide) rfl ?_
    refine z_iload_n B dX7_digit_29 rfl 0 rfl ?_
    refine z_i2l B dX7_digit_30 ?_
    refine z_lconst (v := 0) B dX7_digit_31 (by decide) ?_
    refine z_ldc2 B dX7_digit_32 kl_RX7_119 ?_
    obtain ⟨w4, h5, ew4, hf⟩ := zb2s hf
    refine z_callSi B [.long ((-9) : Int32).toInt64, .long 0, .long 9] [] cw_X7_in mt_RX7_97 (tX7_in hst ew4) ⟨rfl, rfl, (Nat.le_of_ble_eq_true rfl), (Nat.le_of_ble_eq_true rfl), (Nat.le_of_ble_eq_true rfl), (Nat.le_of_ble_eq_true rfl)⟩ rfl rfl (Nat.le_of_ble_eq_true rfl) dX7_digit_35 ?_
    rcases zite hf with ⟨c6, hf⟩ | ⟨c6, hf⟩
    · refine z_if_eq B 45 dX7_digit_38 (by decide) (fun _ => ?_) (fun e => absurd c6 e)
      refine z_bipush (v := (-9)) B dX7_digit_45 (by decide) ?_
      cases hf
      exact z_iret B dX7_digit_47 (Nat.le_of_ble_eq_true rfl) (Nat.le_of_ble_eq_true rfl)
    refine z_if_eq B 45 dX7_digit_38 (by decide) (fun e => absurd e c6) (fun _ => ?_)
    refine z_iload_n B dX7_digit_41 rfl 0 rfl ?_
    refine z_goto B 47 dX7_digit_42 (by decide) ?_
    cases hf
    exact z_iret B dX7_digit_47 (Nat.le_of_ble_eq_true rfl) (Nat.le_of_ble_eq_true rfl)
  refine z_icmp_ge B 26 dX7_digit_8 (by decide) (fun e => absurd e c3) (fun _ => ?_)
  refine z_aload_n B dX7_digit_11 rfl 0 rfl ?_
  obtain ⟨w7, ew7, hf⟩ := zbs hf
  refine z_gP B fl_RX7_7 ew7 rfl dX7_digit_12 ?_
  refine z_aload_n B dX7_digit_15 rfl 0 rfl ?_
  obtain ⟨w8, ew8, hf⟩ := zbs hf
  refine z_gI B fl_RX7_116 ew8 rfl dX7_digit_16 ?_
  obtain ⟨w9, ew9, hf⟩ := zbs hf
  refine z_aI B ew9 dX7_digit_19 ?_
  refine z_bipush (v := 48) B dX7_digit_20 (by decide) ?_
  refine z_isub B dX7_digit_22 ?_
  refine z_goto B 28 dX7_digit_23 (by decide) ?_
  refine z_istore_n (lv' := [(1, .int ((w9 : Int32) - 48)), (0, .ref a0)]) B dX7_digit_28 rfl (by decide) rfl ?_
  refine z_iload_n B dX7_digit_29 rfl 0 rfl ?_
  refine z_i2l B dX7_digit_30 ?_
  refine z_lconst (v := 0) B dX7_digit_31 (by decide) ?_
  refine z_ldc2 B dX7_digit_32 kl_RX7_119 ?_
  obtain ⟨w10, h11, ew10, hf⟩ := zb2s hf
  refine z_callSi B [.long (((w9 : Int32) - 48) : Int32).toInt64, .long 0, .long 9] [] cw_X7_in mt_RX7_97 (tX7_in hst ew10) ⟨rfl, rfl, (Nat.le_of_ble_eq_true rfl), (Nat.le_of_ble_eq_true rfl), (Nat.le_of_ble_eq_true rfl), (Nat.le_of_ble_eq_true rfl)⟩ rfl rfl (Nat.le_of_ble_eq_true rfl) dX7_digit_35 ?_
  rcases zite hf with ⟨c12, hf⟩ | ⟨c12, hf⟩
  · refine z_if_eq B 45 dX7_digit_38 (by decide) (fun _ => ?_) (fun e => absurd c12 e)
    refine z_bipush (v := (-9)) B dX7_digit_45 (by decide) ?_
    cases hf
    exact z_iret B dX7_digit_47 (Nat.le_of_ble_eq_true rfl) (Nat.le_of_ble_eq_true rfl)
  refine z_if_eq B 45 dX7_digit_38 (by decide) (fun e => absurd e c12) (fun _ => ?_)
  refine z_iload_n B dX7_digit_41 rfl 0 rfl ?_
  refine z_goto B 47 dX7_digit_42 (by decide) ?_
  cases hf
  exact z_iret B dX7_digit_47 (Nat.le_of_ble_eq_true rfl) (Nat.le_of_ble_eq_true rfl)
abbrev rm_X7_passes : Room := { frames := 0, cells := 0, slots := 0, locals := 0 }
set_option maxRecDepth 100000 in
set_option maxHeartbeats 4000000 in
theorem tX7_passes {l : Launch} {G : zG} (hst : l.stackTraces = false) {h : zH} {a0 : Nat} {a1 : Int32} {r : Int32 × zH} (hf : fX7_passes h a0 a1 = some r) : zMet l G yX7_passes (.code yX7_passes cX7_passes 3 (some .boolean)) rm_X7_passes 0 0 [.ref a0, .int a1] h (zoi r) := by
  unfold fX7_passes at hf
  obtain ⟨-, hf⟩ := zck hf
  refine z_enter (by decide) (Nat.le_of_ble_eq_true rfl) hst (fun x hx B hE => ?_)
  subst hx
  have B : zB G x cX7_passes 3 RX7 "passes" rm_X7_passes (some .boolean) := B
  show zV G x 3 (zQ G x (zoi r) 0 0) h 0 0 0 [(0, .ref a0), (1, .int a1)] []
  refine z_aload_n B dX7_passes_0 rfl 0 rfl ?_
  obtain ⟨w1, ew1, hf⟩ := zbs hf
  refine z_gI B fl_RX7_116 ew1 rfl dX7_passes_1 ?_
  refine z_aload_n B dX7_passes_4 rfl 0 rfl ?_
  obtain ⟨w2, ew2, hf⟩ := zbs hf
  refine z_gI B fl_RX7_109 ew2 rfl dX7_passes_5 ?_
  rcases zite hf with ⟨c3, hf⟩ | ⟨c3, hf⟩
  · refine z_icmp_ge B 28 dX7_passes_8 (by decide) (fun _ => ?_) (fun e => absurd c3 e)
    refine z_iconst (v := 0) B dX7_passes_28 (by decide) ?_
    refine z_istore_n (lv' := [(2, .int 0), (0, .ref a0), (1, .int a1)]) B dX7_passes_29 rfl (by decide) rfl ?_
    refine z_aload_n B dX7_passes_30 rfl 1 rfl ?_
    refine z_dup B dX7_passes_31 rfl ?_
    obtain ⟨w4, ew4, hf⟩ := zbs hf
    refine z_gI B fl_RX7_116 ew4 rfl dX7_passes_32 ?_
    refine z_iload_n B dX7_passes_35 rfl 0 rfl ?_
    refine z_if_eq B 43 dX7_passes_36 (by decide) (fun _ => ?_) (fun e => absurd e (by decide))
    refine z_iconst (v := 0) B dX7_passes_43 (by decide) ?_
    refine z_iadd B dX7_passes_44 ?_
    obtain ⟨h5, eh5, hf⟩ := zbs hf
    refine z_pI B fl_RX7_116 eh5 rfl dX7_passes_45 ?_
    refine z_iload_n B dX7_passes_48 rfl 0 rfl ?_
    cases hf
    exact z_zret B dX7_passes_49 (Or.inl rfl) (Nat.le_of_ble_eq_true rfl) (Nat.le_of_ble_eq_true rfl)
  refine z_icmp_ge B 28 dX7_passes_8 (by decide) (fun e => absurd e c3) (fun _ => ?_)
  refine z_aload_n B dX7_passes_11 rfl 0 rfl ?_
  obtain ⟨w6, ew6, hf⟩ := zbs hf
  refine z_gP B fl_RX7_7 ew6 rfl dX7_passes_12 ?_
  refine z_aload_n B dX7_passes_15 rfl 0 rfl ?_
  obtain ⟨w7, ew7, hf⟩ := zbs hf
  refine z_gI B fl_RX7_116 ew7 rfl dX7_passes_16 ?_
  obtain ⟨w8, ew8, hf⟩ := zbs hf
  refine z_aI B ew8 dX7_passes_19 ?_
  refine z_iload_n B dX7_passes_20 rfl 1 rfl ?_
  rcases zite hf with ⟨c9, hf⟩ | ⟨c9, hf⟩
  · refine z_icmp_ne B 28 dX7_passes_21 (by decide) (fun e => absurd c9 e) (fun _ => ?_)
    refine z_iconst (v := 1) B dX7_passes_24 (by decide) ?_
    refine z_goto B 29 dX7_passes_25 (by decide) ?_
    refine z_istore_n (lv' := [(2, .int 1), (0, .ref a0), (1, .int a1)]) B dX7_passes_29 rfl (by decide) rfl ?_
    refine z_aload_n B dX7_passes_30 rfl 1 rfl ?_
    refine z_dup B dX7_passes_31 rfl ?_
    obtain ⟨w10, ew10, hf⟩ := zbs hf
    refine z_gI B fl_RX7_116 ew10 rfl dX7_passes_32 ?_
    refine z_iload_n B dX7_passes_35 rfl 0 rfl ?_
    refine z_if_eq B 43 dX7_passes_36 (by decide) (fun e => absurd e (by decide)) (fun _ => ?_)
    refine z_iconst (v := 1) B dX7_passes_39 (by decide) ?_
    refine z_goto B 44 dX7_passes_40 (by decide) ?_
    refine z_iadd B dX7_passes_44 ?_
    obtain ⟨h11, eh11, hf⟩ := zbs hf
    refine z_pI B fl_RX7_116 eh11 rfl dX7_passes_45 ?_
    refine z_iload_n B dX7_passes_48 rfl 0 rfl ?_
    cases hf
    exact z_zret B dX7_passes_49 (Or.inr rfl) (Nat.le_of_ble_eq_true rfl) (Nat.le_of_ble_eq_true rfl)
  refine z_icmp_ne B 28 dX7_passes_21 (by decide) (fun _ => ?_) (fun e => absurd e c9)
  refine z_iconst (v := 0) B dX7_passes_28 (by decide) ?_
  refine z_istore_n (lv' := [(2, .int 0), (0, .ref a0), (1, .int a1)]) B dX7_passes_29 rfl (by decide) rfl ?_
  refine z_aload_n B dX7_passes_30 rfl 1 rfl ?_
  refine z_dup B dX7_passes_31 rfl ?_
  obtain ⟨w12, ew12, hf⟩ := zbs hf
  refine z_gI B fl_RX7_116 ew12 rfl dX7_passes_32 ?_
  refine z_iload_n B dX7_passes_35 rfl 0 rfl ?_
  refine z_if_eq B 43 dX7_passes_36 (by decide) (fun _ => ?_) (fun e => absurd e (by decide))
  refine z_iconst (v := 0) B dX7_passes_43 (by decide) ?_
  refine z_iadd B dX7_passes_44 ?_
  obtain ⟨h13, eh13, hf⟩ := zbs hf
  refine z_pI B fl_RX7_116 eh13 rfl dX7_passes_45 ?_
  refine z_iload_n B dX7_passes_48 rfl 0 rfl ?_
  cases hf
  exact z_zret B dX7_passes_49 (Or.inl rfl) (Nat.le_of_ble_eq_true rfl) (Nat.le_of_ble_eq_true rfl)
abbrev rm_X7_number : Room := { frames := 2, cells := 0, slots := 0, locals := 46 }
set_option maxRecDepth 100000 in
set_option maxHeartbeats 4000000 in
theorem fX7_number_L5_ok {G : zG} {x : zX} (B : zB G x cX7_number 6 RX7 "number" rm_X7_number (some .int)) (hst : (zl x).stackTraces = false) (hE : ∀ e ∈ (zc x).exceptionTable.toList, False) {r : Int32 × zH} {k : zH → Int32 → Int32 → Option (Int32 × zH)} {u0 : Nat} {u1 : Int32} {u2 : Int32} (hk : ∀ h v3 v4, k h v3 v4 = some r → zV G x 6 (zQ G x (zoi r) 0 0) h 0 0 72 [(0, .ref u0), (1, .int u1), (2, .int u2), (3, .int v3), (4, .int v4)] []) : ∀ n h v3 v4, fX7_number_L5 k u0 u1 u2 n h v3 v4 = some r → zV G x 6 (zQ G x (zoi r) 0 0) h 0 0 5 [(0, .ref u0), (1, .int u1), (2, .int u2), (3, .int v3), (4, .int v4)] [] := by
  intro n
  induction n with
  | zero =>
    intro h v3 v4 hf
    have hf : (none : Option (Int32 × zH)) = some r := hf
    cases hf
  | succ n ih =>
    intro h v3 v4 hf
    rw [fX7_number_L5] at hf
    refine z_iload B dX7_number_5 4 rfl ?_
    refine z_iload_n B dX7_number_7 rfl 1 rfl ?_
    rcases zite hf with ⟨c1, hf⟩ | ⟨c1, hf⟩
    · refine z_icmp_ge B 72 dX7_number_8 (by decide) (fun _ => ?_) (fun e => absurd c1 e)
      exact hk _ _ _ hf
    refine z_icmp_ge B 72 dX7_number_8 (by decide) (fun e => absurd e c1) (fun _ => ?_)
    refine z_aload_n B dX7_number_11 rfl 0 rfl ?_
    obtain ⟨w2, h3, ew2, hf⟩ := zb2s hf
    refine z_callVi B [] [] cw_X7_digit mv_RX7_121 (tX7_digit hst ew2) rfl (by decide) (kfX7_digit ew2) ⟨rfl, rfl, (Nat.le_of_ble_eq_true rfl), (Nat.le_of_ble_eq_true rfl), (Nat.le_of_ble_eq_true rfl), (Nat.le_of_ble_eq_true rfl)⟩ rfl rfl (Nat.le_of_ble_eq_true rfl) dX7_number_12 ?_
    refine z_istore (lv' := [(5, .int w2), (0, .ref u0), (1, .int u1), (2, .int u2), (3, .int v3), (4, .int v4)]) B dX7_number_15 (by decide) rfl ?_
    refine z_iload B dX7_number_17 0 rfl ?_
    refine z_bipush (v := (-9)) B dX7_number_19 (by decide) ?_
    rcases zite hf with ⟨c4, hf⟩ | ⟨c4, hf⟩
    · refine z_icmp_eq B 45 dX7_number_21 (by decide) (fun _ => ?_) (fun e => absurd c4 e)
      refine z_bipush (v := (-9)) B dX7_number_45 (by decide) ?_
      cases hf
      exact z_iret B dX7_number_47 (Nat.le_of_ble_eq_true rfl) (Nat.le_of_ble_eq_true rfl)
    refine z_icmp_eq B 45 dX7_number_21 (by decide) (fun e => absurd e c4) (fun _ => ?_)
    refine z_iload_n B dX7_number_24 rfl 3 rfl ?_
    rcases zite hf with ⟨c5, hf⟩ | ⟨c5, hf⟩
    · refine z_if_eq B 48 dX7_number_25 (by decide) (fun _ => ?_) (fun e => absurd c5 e)
      refine z_bipush (v := 10) B dX7_number_48 (by decide) ?_
      refine z_iload_n B dX7_number_50 rfl 4 rfl ?_
      refine z_imul B dX7_number_51 ?_
      refine z_iload B dX7_number_52 0 rfl ?_
      refine z_iadd B dX7_number_54 ?_
      refine z_istore_n (lv' := [(3, .int ((((10 : Int32) * v3) : Int32) + w2)), (5, .int w2), (0, .ref u0), (1, .int u1), (2, .int u2), (4, .int v4)]) B dX7_number_55 rfl (by decide) rfl ?_
      refine z_aload_n B dX7_number_56 rfl 2 rfl ?_
      refine z_dup B dX7_number_57 rfl ?_
      obtain ⟨w6, ew6, hf⟩ := zbs hf
      refine z_gI B fl_RX7_116 ew6 rfl dX7_number_58 ?_
      refine z_iconst (v := 1) B dX7_number_61 (by decide) ?_
      refine z_iadd B dX7_number_62 ?_
      obtain ⟨h7, eh7, hf⟩ := zbs hf
      refine z_pI B fl_RX7_116 eh7 rfl dX7_number_63 ?_
      refine z_iinc (v' := (v4 + 1)) (lv' := [(4, .int (v4 + 1)), (3, .int ((((10 : Int32) * v3) : Int32) + w2)), (5, .int w2), (0, .ref u0), (1, .int u1), (2, .int u2)]) B dX7_number_66 5 rfl rfl (by decide) rfl ?_
      refine z_goto B 5 dX7_number_69 (by decide) ?_
      refine zV.sub [3, 4, 5, 1, 0] rfl ?_
      exact ih _ _ _ hf
    refine z_if_eq B 48 dX7_number_25 (by decide) (fun e => absurd e c5) (fun _ => ?_)
    refine z_iload B dX7_number_28 5 rfl ?_
    refine z_iload_n B dX7_number_30 rfl 2 rfl ?_
    refine z_iconst (v := 1) B dX7_number_31 (by decide) ?_
    refine z_isub B dX7_number_32 ?_
    rcases zite hf with ⟨c8, hf⟩ | ⟨c8, hf⟩
    · refine z_icmp_ne B 48 dX7_number_33 (by decide) (fun e => absurd c8 e) (fun _ => ?_)
      refine z_iload_n B dX7_number_36 rfl 4 rfl ?_
      rcases zite hf with ⟨c9, hf⟩ | ⟨c9, hf⟩
      · refine z_if_ne B 48 dX7_number_37 (by decide) (fun e => absurd c9 e) (fun _ => ?_)
        refine z_iload B dX7_number_40 0 rfl ?_
        rcases zite hf with ⟨c10, hf⟩ | ⟨c10, hf⟩
        · refine z_if_ne B 48 dX7_number_42 (by decide) (fun e => absurd c10 e) (fun _ => ?_)
          refine z_bipush (v := (-9)) B dX7_number_45 (by decide) ?_
          cases hf
          exact z_iret B dX7_number_47 (Nat.le_of_ble_eq_true rfl) (Nat.le_of_ble_eq_true rfl)
        refine z_if_ne B 48 dX7_number_42 (by decide) (fun _ => ?_) (fun e => absurd e c10)
        refine z_bipush (v := 10) B dX7_number_48 (by decide) ?_
        refine z_iload_n B dX7_number_50 rfl 4 rfl ?_
        refine z_imul B dX7_number_51 ?_
        refine z_iload B dX7_number_52 0 rfl ?_
        refine z_iadd B dX7_number_54 ?_
        refine z_istore_n (lv' := [(3, .int ((((10 : Int32) * v3) : Int32) + w2)), (5, .int w2), (0, .ref u0), (1, .int u1), (2, .int u2), (4, .int v4)]) B dX7_number_55 rfl (by decide) rfl ?_
        refine z_aload_n B dX7_number_56 rfl 2 rfl ?_
        refine z_dup B dX7_number_57 rfl ?_
        obtain ⟨w11, ew11, hf⟩ := zbs hf
        refine z_gI B fl_RX7_116 ew11 rfl dX7_number_58 ?_
        refine z_iconst (v := 1) B dX7_number_61 (by decide) ?_
        refine z_iadd B dX7_number_62 ?_
        obtain ⟨h12, eh12, hf⟩ := zbs hf
        refine z_pI B fl_RX7_116 eh12 rfl dX7_number_63 ?_
        refine z_iinc (v' := (v4 + 1)) (lv' := [(4, .int (v4 + 1)), (3, .int ((((10 : Int32) * v3) : Int32) + w2)), (5, .int w2), (0, .ref u0), (1, .int u1), (2, .int u2)]) B dX7_number_66 5 rfl rfl (by decide) rfl ?_
        refine z_goto B 5 dX7_number_69 (by decide) ?_
        refine zV.sub [3, 4, 5, 1, 0] rfl ?_
        exact ih _ _ _ hf
      refine z_if_ne B 48 dX7_number_37 (by decide) (fun _ => ?_) (fun e => absurd e c9)
      refine z_bipush (v := 10) B dX7_number_48 (by decide) ?_
      refine z_iload_n B dX7_number_50 rfl 4 rfl ?_
      refine z_imul B dX7_number_51 ?_
      refine z_iload B dX7_number_52 0 rfl ?_
      refine z_iadd B dX7_number_54 ?_
      refine z_istore_n (lv' := [(3, .int ((((10 : Int32) * v3) : Int32) + w2)), (5, .int w2), (0, .ref u0), (1, .int u1), (2, .int u2), (4, .int v4)]) B dX7_number_55 rfl (by decide) rfl ?_
      refine z_aload_n B dX7_number_56 rfl 2 rfl ?_
      refine z_dup B dX7_number_57 rfl ?_
      obtain ⟨w13, ew13, hf⟩ := zbs hf
      refine z_gI B fl_RX7_116 ew13 rfl dX7_number_58 ?_
      refine z_iconst (v := 1) B dX7_number_61 (by decide) ?_
      refine z_iadd B dX7_number_62 ?_
      obtain ⟨h14, eh14, hf⟩ := zbs hf
      refine z_pI B fl_RX7_116 eh14 rfl dX7_number_63 ?_
      refine z_iinc (v' := (v4 + 1)) (lv' := [(4, .int (v4 + 1)), (3, .int ((((10 : Int32) * v3) : Int32) + w2)), (5, .int w2), (0, .ref u0), (1, .int u1), (2, .int u2)]) B dX7_number_66 5 rfl rfl (by decide) rfl ?_
      refine z_goto B 5 dX7_number_69 (by decide) ?_
      refine zV.sub [3, 4, 5, 1, 0] rfl ?_
      exact ih _ _ _ hf
    refine z_icmp_ne B 48 dX7_number_33 (by decide) (fun _ => ?_) (fun e => absurd e c8)
    refine z_bipush (v := 10) B dX7_number_48 (by decide) ?_
    refine z_iload_n B dX7_number_50 rfl 4 rfl ?_
    refine z_imul B dX7_number_51 ?_
    refine z_iload B dX7_number_52 0 rfl ?_
    refine z_iadd B dX7_number_54 ?_
    refine z_istore_n (lv' := [(3, .int ((((10 : Int32) * v3) : Int32) + w2)), (5, .int w2), (0, .ref u0), (1, .int u1), (2, .int u2), (4, .int v4)]) B dX7_number_55 rfl (by decide) rfl ?_
    refine z_aload_n B dX7_number_56 rfl 2 rfl ?_
    refine z_dup B dX7_number_57 rfl ?_
    obtain ⟨w15, ew15, hf⟩ := zbs hf
    refine z_gI B fl_RX7_116 ew15 rfl dX7_number_58 ?_
    refine z_iconst (v := 1) B dX7_number_61 (by decide) ?_
    refine z_iadd B dX7_number_62 ?_
    obtain ⟨h16, eh16, hf⟩ := zbs hf
    refine z_pI B fl_RX7_116 eh16 rfl dX7_number_63 ?_
    refine z_iinc (v' := (v4 + 1)) (lv' := [(4, .int (v4 + 1)), (3, .int ((((10 : Int32) * v3) : Int32) + w2)), (5, .int w2), (0, .ref u0), (1, .int u1), (2, .int u2)]) B dX7_number_66 5 rfl rfl (by decide) rfl ?_
    refine z_goto B 5 dX7_number_69 (by decide) ?_
    refine zV.sub [3, 4, 5, 1, 0] rfl ?_
    exact ih _ _ _ hf
set_option maxRecDepth 100000 in
set_option maxHeartbeats 4000000 in
theorem tX7_number {l : Launch} {G : zG} (hst : l.stackTraces = false) {h : zH} {a0 : Nat} {a1 : Int32} {a2 : Int32} {r : Int32 × zH} (hf : fX7_number h a0 a1 a2 = some r) : zMet l G yX7_number (.code yX7_number cX7_number 6 (some .int)) rm_X7_number 0 0 [.ref a0, .int a1, .int a2] h (zoi r) := by
  unfold fX7_number at hf
  obtain ⟨-, hf⟩ := zck hf
  refine z_enter (by decide) (Nat.le_of_ble_eq_true rfl) hst (fun x hx B hE => ?_)
  subst hx
  have B : zB G x cX7_number 6 RX7 "number" rm_X7_number (some .int) := B
  show zV G x 6 (zQ G x (zoi r) 0 0) h 0 0 0 [(0, .ref a0), (1, .int a1), (2, .int a2)] []
  refine z_iconst (v := 0) B dX7_number_0 (by decide) ?_
  refine z_istore_n (lv' := [(3, .int 0), (0, .ref a0), (1, .int a1), (2, .int a2)]) B dX7_number_1 rfl (by decide) rfl ?_
  refine z_iconst (v := 0) B dX7_number_2 (by decide) ?_
  refine z_istore (lv' := [(4, .int 0), (3, .int 0), (0, .ref a0), (1, .int a1), (2, .int a2)]) B dX7_number_3 (by decide) rfl ?_
  refine zV.sub [2, 3, 4, 1, 0] rfl ?_
  refine fX7_number_L5_ok B hst hE (fun h1 y2 y3 hf => ?_) _ _ _ _ hf
  refine z_iload_n B dX7_number_72 rfl 3 rfl ?_
  cases hf
  exact z_iret B dX7_number_73 (Nat.le_of_ble_eq_true rfl) (Nat.le_of_ble_eq_true rfl)
abbrev rm_X7_readAway : Room := { frames := 0, cells := 0, slots := 0, locals := 0 }
set_option maxRecDepth 100000 in
set_option maxHeartbeats 4000000 in
theorem fX7_readAway_L6_ok {G : zG} {x : zX} (B : zB G x cX7_readAway 4 RX7 "readAway" rm_X7_readAway (some .int)) (hst : (zl x).stackTraces = false) (hE : ∀ e ∈ (zc x).exceptionTable.toList, False) {r : Int32 × zH} {k : zH → Int32 → Int32 → Option (Int32 × zH)} {u0 : Nat} {u1 : Int32} (hk : ∀ h v2 v3, k h v2 v3 = some r → zV G x 4 (zQ G x (zoi r) 0 0) h 0 0 45 [(0, .ref u0), (1, .int u1), (2, .int v2), (3, .int v3)] []) : ∀ n h v2 v3, fX7_readAway_L6 k u0 u1 n h v2 v3 = some r → zV G x 4 (zQ G x (zoi r) 0 0) h 0 0 6 [(0, .ref u0), (1, .int u1), (2, .int v2), (3, .int v3)] [] := by
  intro n
  induction n with
  | zero =>
    intro h v2 v3 hf
    have hf : (none : Option (Int32 × zH)) = some r := hf
    cases hf
  | succ n ih =>
    intro h v2 v3 hf
    rw [fX7_readAway_L6] at hf
    refine z_iload_n B dX7_readAway_6 rfl 3 rfl ?_
    refine z_aload_n B dX7_readAway_7 rfl 0 rfl ?_
    obtain ⟨w1, ew1, hf⟩ := zbs hf
    refine z_gI B fl_RX7_125 ew1 rfl dX7_readAway_8 ?_
    rcases zite hf with ⟨c2, hf⟩ | ⟨c2, hf⟩
    · refine z_icmp_ge B 45 dX7_readAway_11 (by decide) (fun _ => ?_) (fun e => absurd c2 e)
      exact hk _ _ _ hf
    refine z_icmp_ge B 45 dX7_readAway_11 (by decide) (fun e => absurd e c2) (fun _ => ?_)
    refine z_iload_n B dX7_readAway_14 rfl 2 rfl ?_
    refine z_aload_n B dX7_readAway_15 rfl 0 rfl ?_
    obtain ⟨w3, ew3, hf⟩ := zbs hf
    refine z_gP B fl_RX7_35 ew3 rfl dX7_readAway_16 ?_
    refine z_iload_n B dX7_readAway_19 rfl 3 rfl ?_
    obtain ⟨w4, ew4, hf⟩ := zbs hf
    refine z_aI B ew4 dX7_readAway_20 ?_
    refine z_iload_n B dX7_readAway_21 rfl 1 rfl ?_
    rcases zite hf with ⟨c5, hf⟩ | ⟨c5, hf⟩
    · refine z_icmp_ne B 36 dX7_readAway_22 (by decide) (fun e => absurd c5 e) (fun _ => ?_)
      refine z_iconst (v := 1) B dX7_readAway_25 (by decide) ?_
      refine z_aload_n B dX7_readAway_26 rfl 0 rfl ?_
      obtain ⟨w6, ew6, hf⟩ := zbs hf
      refine z_gP B fl_RX7_38 ew6 rfl dX7_readAway_27 ?_
      refine z_iload_n B dX7_readAway_30 rfl 3 rfl ?_
      obtain ⟨w7, ew7, hf⟩ := zbs hf
      refine z_aI B ew7 dX7_readAway_31 ?_
      refine z_ishl B dX7_readAway_32 ?_
      refine z_goto B 37 dX7_readAway_33 (by decide) ?_
      refine z_ior B dX7_readAway_37 ?_
      refine z_istore_n (lv' := [(2, .int ((v2 : Int32) ||| ((1 : Int32) <<< (w7 &&& 31)))), (0, .ref u0), (1, .int u1), (3, .int v3)]) B dX7_readAway_38 rfl (by decide) rfl ?_
      refine z_iinc (v' := (v3 + 1)) (lv' := [(3, .int (v3 + 1)), (2, .int ((v2 : Int32) ||| ((1 : Int32) <<< (w7 &&& 31)))), (0, .ref u0), (1, .int u1)]) B dX7_readAway_39 3 rfl rfl (by decide) rfl ?_
      refine z_goto B 6 dX7_readAway_42 (by decide) ?_
      refine zV.sub [2, 3, 1, 0] rfl ?_
      exact ih _ _ _ hf
    refine z_icmp_ne B 36 dX7_readAway_22 (by decide) (fun _ => ?_) (fun e => absurd e c5)
    refine z_iconst (v := 0) B dX7_readAway_36 (by decide) ?_
    refine z_ior B dX7_readAway_37 ?_
    refine z_istore_n (lv' := [(2, .int ((v2 : Int32) ||| 0)), (0, .ref u0), (1, .int u1), (3, .int v3)]) B dX7_readAway_38 rfl (by decide) rfl ?_
    refine z_iinc (v' := (v3 + 1)) (lv' := [(3, .int (v3 + 1)), (2, .int ((v2 : Int32) ||| 0)), (0, .ref u0), (1, .int u1)]) B dX7_readAway_39 3 rfl rfl (by decide) rfl ?_
    refine z_goto B 6 dX7_readAway_42 (by decide) ?_
    refine zV.sub [2, 3, 1, 0] rfl ?_
    exact ih _ _ _ hf
set_option maxRecDepth 100000 in
set_option maxHeartbeats 4000000 in
theorem tX7_readAway {l : Launch} {G : zG} (hst : l.stackTraces = false) {h : zH} {a0 : Nat} {a1 : Int32} {r : Int32 × zH} (hf : fX7_readAway h a0 a1 = some r) : zMet l G yX7_readAway (.code yX7_readAway cX7_readAway 4 (some .int)) rm_X7_readAway 0 0 [.ref a0, .int a1] h (zoi r) := by
  unfold fX7_readAway at hf
  obtain ⟨-, hf⟩ := zck hf
  refine z_enter (by decide) (Nat.le_of_ble_eq_true rfl) hst (fun x hx B hE => ?_)
  subst hx
  have B : zB G x cX7_readAway 4 RX7 "readAway" rm_X7_readAway (some .int) := B
  show zV G x 4 (zQ G x (zoi r) 0 0) h 0 0 0 [(0, .ref a0), (1, .int a1)] []
  refine z_iconst (v := 1) B dX7_readAway_0 (by decide) ?_
  refine z_iload_n B dX7_readAway_1 rfl 1 rfl ?_
  refine z_ishl B dX7_readAway_2 ?_
  refine z_istore_n (lv' := [(2, .int ((1 : Int32) <<< (a1 &&& 31))), (0, .ref a0), (1, .int a1)]) B dX7_readAway_3 rfl (by decide) rfl ?_
  refine z_iconst (v := 0) B dX7_readAway_4 (by decide) ?_
  refine z_istore_n (lv' := [(3, .int 0), (2, .int ((1 : Int32) <<< (a1 &&& 31))), (0, .ref a0), (1, .int a1)]) B dX7_readAway_5 rfl (by decide) rfl ?_
  refine zV.sub [2, 3, 1, 0] rfl ?_
  refine fX7_readAway_L6_ok B hst hE (fun h1 y2 y3 hf => ?_) _ _ _ _ hf
  refine z_iload_n B dX7_readAway_45 rfl 2 rfl ?_
  cases hf
  exact z_iret B dX7_readAway_46 (Nat.le_of_ble_eq_true rfl) (Nat.le_of_ble_eq_true rfl)
abbrev rm_X7_mayConvert : Room := { frames := 1, cells := 0, slots := 0, locals := 23 }
set_option maxRecDepth 100000 in
set_option maxHeartbeats 4000000 in
theorem fX7_mayConvert_L4_ok {G : zG} {x : zX} (B : zB G x cX7_mayConvert 3 RX7 "mayConvert" rm_X7_mayConvert (some .boolean)) (hst : (zl x).stackTraces = false) (hE : ∀ e ∈ (zc x).exceptionTable.toList, False) {r : Int32 × zH} {k : zH → Int32 → Int32 → Option (Int32 × zH)} {u0 : Nat} (hk : ∀ h v1 v2, k h v1 v2 = some r → zV G x 3 (zQ G x (zoi r) 0 0) h 0 0 44 [(0, .ref u0), (1, .int v1), (2, .int v2)] []) : ∀ n h v1 v2, fX7_mayConvert_L4 k u0 n h v1 v2 = some r → zV G x 3 (zQ G x (zoi r) 0 0) h 0 0 4 [(0, .ref u0), (1, .int v1), (2, .int v2)] [] := by
  intro n
  induction n with
  | zero =>
    intro h v1 v2 hf
    have hf : (none : Option (Int32 × zH)) = some r := hf
    cases hf
  | succ n ih =>
    intro h v1 v2 hf
    rw [fX7_mayConvert_L4] at hf
    refine z_iload_n B dX7_mayConvert_4 rfl 2 rfl ?_
    refine z_aload_n B dX7_mayConvert_5 rfl 0 rfl ?_
    obtain ⟨w1, ew1, hf⟩ := zbs hf
    refine z_gI B fl_RX7_128 ew1 rfl dX7_mayConvert_6 ?_
    rcases zite hf with ⟨c2, hf⟩ | ⟨c2, hf⟩
    · refine z_icmp_ge B 44 dX7_mayConvert_9 (by decide) (fun _ => ?_) (fun e => absurd c2 e)
      exact hk _ _ _ hf
    refine z_icmp_ge B 44 dX7_mayConvert_9 (by decide) (fun e => absurd e c2) (fun _ => ?_)
    refine z_iload_n B dX7_mayConvert_12 rfl 1 rfl ?_
    rcases zite hf with ⟨c3, hf⟩ | ⟨c3, hf⟩
    · refine z_if_ne B 32 dX7_mayConvert_13 (by decide) (fun e => absurd c3 e) (fun _ => ?_)
      refine z_aload_n B dX7_mayConvert_16 rfl 0 rfl ?_
      refine z_iload_n B dX7_mayConvert_17 rfl 2 rfl ?_
      obtain ⟨w4, h5, ew4, hf⟩ := zb2s hf
      refine z_callVi B [.int v2] [] cw_X7_readAway mv_RX7_131 (tX7_readAway hst ew4) rfl (by decide) (kfX7_readAway ew4) ⟨rfl, rfl, (Nat.le_of_ble_eq_true rfl), (Nat.le_of_ble_eq_true rfl), (Nat.le_of_ble_eq_true rfl), (Nat.le_of_ble_eq_true rfl)⟩ rfl rfl (Nat.le_of_ble_eq_true rfl) dX7_mayConvert_18 ?_
      refine z_iconst (v := 1) B dX7_mayConvert_21 (by decide) ?_
      refine z_aload_n B dX7_mayConvert_22 rfl 0 rfl ?_
      obtain ⟨w6, ew6, hf⟩ := zbs hf
      refine z_gI B fl_RX7_128 ew6 rfl dX7_mayConvert_23 ?_
      refine z_ishl B dX7_mayConvert_26 ?_
      refine z_iconst (v := 1) B dX7_mayConvert_27 (by decide) ?_
      refine z_isub B dX7_mayConvert_28 ?_
      rcases zite hf with ⟨c7, hf⟩ | ⟨c7, hf⟩
      · refine z_icmp_eq B 36 dX7_mayConvert_29 (by decide) (fun _ => ?_) (fun e => absurd c7 e)
        refine z_iconst (v := 0) B dX7_mayConvert_36 (by decide) ?_
        refine z_istore_n (lv' := [(1, .int 0), (0, .ref u0), (2, .int v2)]) B dX7_mayConvert_37 rfl (by decide) rfl ?_
        refine z_iinc (v' := (v2 + 1)) (lv' := [(2, .int (v2 + 1)), (1, .int 0), (0, .ref u0)]) B dX7_mayConvert_38 2 rfl rfl (by decide) rfl ?_
        refine z_goto B 4 dX7_mayConvert_41 (by decide) ?_
        refine zV.sub [2, 1, 0] rfl ?_
        exact ih _ _ _ hf
      refine z_icmp_eq B 36 dX7_mayConvert_29 (by decide) (fun e => absurd e c7) (fun _ => ?_)
      refine z_iconst (v := 1) B dX7_mayConvert_32 (by decide) ?_
      refine z_goto B 37 dX7_mayConvert_33 (by decide) ?_
      refine z_istore_n (lv' := [(1, .int 1), (0, .ref u0), (2, .int v2)]) B dX7_mayConvert_37 rfl (by decide) rfl ?_
      refine z_iinc (v' := (v2 + 1)) (lv' := [(2, .int (v2 + 1)), (1, .int 1), (0, .ref u0)]) B dX7_mayConvert_38 2 rfl rfl (by decide) rfl ?_
      refine z_goto B 4 dX7_mayConvert_41 (by decide) ?_
      refine zV.sub [2, 1, 0] rfl ?_
      exact ih _ _ _ hf
    refine z_if_ne B 32 dX7_mayConvert_13 (by decide) (fun _ => ?_) (fun e => absurd e c3)
    refine z_iconst (v := 1) B dX7_mayConvert_32 (by decide) ?_
    refine z_goto B 37 dX7_mayConvert_33 (by decide) ?_
    refine z_istore_n (lv' := [(1, .int 1), (0, .ref u0), (2, .int v2)]) B dX7_mayConvert_37 rfl (by decide) rfl ?_
    refine z_iinc (v' := (v2 + 1)) (lv' := [(2, .int (v2 + 1)), (1, .int 1), (0, .ref u0)]) B dX7_mayConvert_38 2 rfl rfl (by decide) rfl ?_
    refine z_goto B 4 dX7_mayConvert_41 (by decide) ?_
    refine zV.sub [2, 1, 0] rfl ?_
    exact ih _ _ _ hf
set_option maxRecDepth 100000 in
set_option maxHeartbeats 4000000 in
theorem tX7_mayConvert {l : Launch} {G : zG} (hst : l.stackTraces = false) {h : zH} {a0 : Nat} {r : Int32 × zH} (hf : fX7_mayConvert h a0 = some r) : zMet l G yX7_mayConvert (.code yX7_mayConvert cX7_mayConvert 3 (some .boolean)) rm_X7_mayConvert 0 0 [.ref a0] h (zoi r) := by
  unfold fX7_mayConvert at hf
  obtain ⟨-, hf⟩ := zck hf
  refine z_enter (by decide) (Nat.le_of_ble_eq_true rfl) hst (fun x hx B hE => ?_)
  subst hx
  have B : zB G x cX7_mayConvert 3 RX7 "mayConvert" rm_X7_mayConvert (some .boolean) := B
  show zV G x 3 (zQ G x (zoi r) 0 0) h 0 0 0 [(0, .ref a0)] []
  refine z_iconst (v := 0) B dX7_mayConvert_0 (by decide) ?_
  refine z_istore_n (lv' := [(1, .int 0), (0, .ref a0)]) B dX7_mayConvert_1 rfl (by decide) rfl ?_
  refine z_iconst (v := 0) B dX7_mayConvert_2 (by decide) ?_
  refine z_istore_n (lv' := [(2, .int 0), (1, .int 0), (0, .ref a0)]) B dX7_mayConvert_3 rfl (by decide) rfl ?_
  refine zV.sub [2, 1, 0] rfl ?_
  refine fX7_mayConvert_L4_ok B hst hE (fun h1 y2 y3 hf => ?_) _ _ _ _ hf
  refine z_iload_n B dX7_mayConvert_44 rfl 1 rfl ?_
  rcases zite hf with ⟨c4, hf⟩ | ⟨c4, hf⟩
  · refine z_if_eq B 61 dX7_mayConvert_45 (by decide) (fun _ => ?_) (fun e => absurd c4 e)
    refine z_iconst (v := 0) B dX7_mayConvert_61 (by decide) ?_
    cases hf
    exact z_zret B dX7_mayConvert_62 (Or.inl rfl) (Nat.le_of_ble_eq_true rfl) (Nat.le_of_ble_eq_true rfl)
  refine z_if_eq B 61 dX7_mayConvert_45 (by decide) (fun e => absurd e c4) (fun _ => ?_)
  refine z_aload_n B dX7_mayConvert_48 rfl 0 rfl ?_
  obtain ⟨w5, ew5, hf⟩ := zbs hf
  refine z_gI B fl_RX7_125 ew5 rfl dX7_mayConvert_49 ?_
  refine z_bipush (v := 20) B dX7_mayConvert_52 (by decide) ?_
  rcases zite hf with ⟨c6, hf⟩ | ⟨c6, hf⟩
  · refine z_icmp_ge B 61 dX7_mayConvert_54 (by decide) (fun _ => ?_) (fun e => absurd c6 e)
    refine z_iconst (v := 0) B dX7_mayConvert_61 (by decide) ?_
    cases hf
    exact z_zret B dX7_mayConvert_62 (Or.inl rfl) (Nat.le_of_ble_eq_true rfl) (Nat.le_of_ble_eq_true rfl)
  refine z_icmp_ge B 61 dX7_mayConvert_54 (by decide) (fun e => absurd e c6) (fun _ => ?_)
  refine z_iconst (v := 1) B dX7_mayConvert_57 (by decide) ?_
  refine z_goto B 62 dX7_mayConvert_58 (by decide) ?_
  cases hf
  exact z_zret B dX7_mayConvert_62 (Or.inr rfl) (Nat.le_of_ble_eq_true rfl) (Nat.le_of_ble_eq_true rfl)
abbrev rm_X7_readConversion : Room := { frames := 3, cells := 0, slots := 0, locals := 71 }
set_option maxRecDepth 100000 in
set_option maxHeartbeats 4000000 in
theorem tX7_readConversion {l : Launch} {G : zG} (hst : l.stackTraces = false) {h : zH} {a0 : Nat} {r : Int32 × zH} (hf : fX7_readConversion h a0 = some r) : zMet l G yX7_readConversion (.code yX7_readConversion cX7_readConversion 4 (some .boolean)) rm_X7_readConversion 0 0 [.ref a0] h (zoi r) := by
  unfold fX7_readConversion at hf
  obtain ⟨-, hf⟩ := zck hf
  refine z_enter (by decide) (Nat.le_of_ble_eq_true rfl) hst (fun x hx B hE => ?_)
  subst hx
  have B : zB G x cX7_readConversion 4 RX7 "readConversion" rm_X7_readConversion (some .boolean) := B
  show zV G x 4 (zQ G x (zoi r) 0 0) h 0 0 0 [(0, .ref a0)] []
  refine z_aload_n B dX7_readConversion_0 rfl 0 rfl ?_
  obtain ⟨w1, h2, ew1, hf⟩ := zb2s hf
  refine z_callVi B [] [] cw_X7_digit mv_RX7_121 (tX7_digit hst ew1) rfl (by decide) (kfX7_digit ew1) ⟨rfl, rfl, (Nat.le_of_ble_eq_true rfl), (Nat.le_of_ble_eq_true rfl), (Nat.le_of_ble_eq_true rfl), (Nat.le_of_ble_eq_true rfl)⟩ rfl rfl (Nat.le_of_ble_eq_true rfl) dX7_readConversion_1 ?_
  refine z_istore_n (lv' := [(1, .int w1), (0, .ref a0)]) B dX7_readConversion_4 rfl (by decide) rfl ?_
  refine z_iload_n B dX7_readConversion_5 rfl 0 rfl ?_
  refine z_i2l B dX7_readConversion_6 ?_
  refine z_lconst (v := 0) B dX7_readConversion_7 (by decide) ?_
  refine z_aload_n B dX7_readConversion_8 rfl 1 rfl ?_
  obtain ⟨w3, ew3, hf⟩ := zbs hf
  refine z_gI B fl_RX7_128 ew3 rfl dX7_readConversion_9 ?_
  refine z_iconst (v := 1) B dX7_readConversion_12 (by decide) ?_
  refine z_isub B dX7_readConversion_13 ?_
  refine z_i2l B dX7_readConversion_14 ?_
  obtain ⟨w4, h5, ew4, hf⟩ := zb2s hf
  refine z_callSi B [.long (w1 : Int32).toInt64, .long 0, .long (((w3 : Int32) - 1) : Int32).toInt64] [] cw_X7_in mt_RX7_97 (tX7_in hst ew4) ⟨rfl, rfl, (Nat.le_of_ble_eq_true rfl), (Nat.le_of_ble_eq_true rfl), (Nat.le_of_ble_eq_true rfl), (Nat.le_of_ble_eq_true rfl)⟩ rfl rfl (Nat.le_of_ble_eq_true rfl) dX7_readConversion_15 ?_
  rcases zite hf with ⟨c6, hf⟩ | ⟨c6, hf⟩
  · refine z_if_eq B 37 dX7_readConversion_18 (by decide) (fun _ => ?_) (fun e => absurd c6 e)
    refine z_iconst (v := 0) B dX7_readConversion_37 (by decide) ?_
    cases hf
    exact z_zret B dX7_readConversion_38 (Or.inl rfl) (Nat.le_of_ble_eq_true rfl) (Nat.le_of_ble_eq_true rfl)
  refine z_if_eq B 37 dX7_readConversion_18 (by decide) (fun e => absurd e c6) (fun _ => ?_)
  refine z_aload_n B dX7_readConversion_21 rfl 1 rfl ?_
  refine z_iload_n B dX7_readConversion_22 rfl 0 rfl ?_
  obtain ⟨w7, h8, ew7, hf⟩ := zb2s hf
  refine z_callVi B [.int w1] [] cw_X7_readAway mv_RX7_131 (tX7_readAway hst ew7) rfl (by decide) (kfX7_readAway ew7) ⟨rfl, rfl, (Nat.le_of_ble_eq_true rfl), (Nat.le_of_ble_eq_true rfl), (Nat.le_of_ble_eq_true rfl), (Nat.le_of_ble_eq_true rfl)⟩ rfl rfl (Nat.le_of_ble_eq_true rfl) dX7_readConversion_23 ?_
  refine z_iconst (v := 1) B dX7_readConversion_26 (by decide) ?_
  refine z_aload_n B dX7_readConversion_27 rfl 1 rfl ?_
  obtain ⟨w9, ew9, hf⟩ := zbs hf
  refine z_gI B fl_RX7_128 ew9 rfl dX7_readConversion_28 ?_
  refine z_ishl B dX7_readConversion_31 ?_
  refine z_iconst (v := 1) B dX7_readConversion_32 (by decide) ?_
  refine z_isub B dX7_readConversion_33 ?_
  rcases zite hf with ⟨c10, hf⟩ | ⟨c10, hf⟩
  · refine z_icmp_ne B 39 dX7_readConversion_34 (by decide) (fun e => absurd c10 e) (fun _ => ?_)
    refine z_iconst (v := 0) B dX7_readConversion_37 (by decide) ?_
    cases hf
    exact z_zret B dX7_readConversion_38 (Or.inl rfl) (Nat.le_of_ble_eq_true rfl) (Nat.le_of_ble_eq_true rfl)
  refine z_icmp_ne B 39 dX7_readConversion_34 (by decide) (fun _ => ?_) (fun e => absurd e c10)
  refine z_aload_n B dX7_readConversion_39 rfl 1 rfl ?_
  refine z_dup B dX7_readConversion_40 rfl ?_
  obtain ⟨w11, ew11, hf⟩ := zbs hf
  refine z_gI B fl_RX7_116 ew11 rfl dX7_readConversion_41 ?_
  refine z_iconst (v := 1) B dX7_readConversion_44 (by decide) ?_
  refine z_iadd B dX7_readConversion_45 ?_
  obtain ⟨h12, eh12, hf⟩ := zbs hf
  refine z_pI B fl_RX7_116 eh12 rfl dX7_readConversion_46 ?_
  refine z_aload_n B dX7_readConversion_49 rfl 1 rfl ?_
  obtain ⟨w13, h14, ew13, hf⟩ := zb2s hf
  refine z_callVi B [] [] cw_X7_digit mv_RX7_121 (tX7_digit hst ew13) rfl (by decide) (kfX7_digit ew13) ⟨rfl, rfl, (Nat.le_of_ble_eq_true rfl), (Nat.le_of_ble_eq_true rfl), (Nat.le_of_ble_eq_true rfl), (Nat.le_of_ble_eq_true rfl)⟩ rfl rfl (Nat.le_of_ble_eq_true rfl) dX7_readConversion_50 ?_
  refine z_istore_n (lv' := [(2, .int w13), (1, .int w1), (0, .ref a0)]) B dX7_readConversion_53 rfl (by decide) rfl ?_
  refine z_iload_n B dX7_readConversion_54 rfl 0 rfl ?_
  refine z_i2l B dX7_readConversion_55 ?_
  refine z_lconst (v := 0) B dX7_readConversion_56 (by decide) ?_
  refine z_aload_n B dX7_readConversion_57 rfl 2 rfl ?_
  obtain ⟨w15, ew15, hf⟩ := zbs hf
  refine z_gI B fl_RX7_128 ew15 rfl dX7_readConversion_58 ?_
  refine z_iconst (v := 1) B dX7_readConversion_61 (by decide) ?_
  refine z_isub B dX7_readConversion_62 ?_
  refine z_i2l B dX7_readConversion_63 ?_
  obtain ⟨w16, h17, ew16, hf⟩ := zb2s hf
  refine z_callSi B [.long (w13 : Int32).toInt64, .long 0, .long (((w15 : Int32) - 1) : Int32).toInt64] [] cw_X7_in mt_RX7_97 (tX7_in hst ew16) ⟨rfl, rfl, (Nat.le_of_ble_eq_true rfl), (Nat.le_of_ble_eq_true rfl), (Nat.le_of_ble_eq_true rfl), (Nat.le_of_ble_eq_true rfl)⟩ rfl rfl (Nat.le_of_ble_eq_true rfl) dX7_readConversion_64 ?_
  rcases zite hf with ⟨c18, hf⟩ | ⟨c18, hf⟩
  · refine z_if_eq B 83 dX7_readConversion_67 (by decide) (fun _ => ?_) (fun e => absurd c18 e)
    refine z_iconst (v := 0) B dX7_readConversion_83 (by decide) ?_
    cases hf
    exact z_zret B dX7_readConversion_84 (Or.inl rfl) (Nat.le_of_ble_eq_true rfl) (Nat.le_of_ble_eq_true rfl)
  refine z_if_eq B 83 dX7_readConversion_67 (by decide) (fun e => absurd e c18) (fun _ => ?_)
  refine z_aload_n B dX7_readConversion_70 rfl 2 rfl ?_
  refine z_iload_n B dX7_readConversion_71 rfl 1 rfl ?_
  obtain ⟨w19, h20, ew19, hf⟩ := zb2s hf
  refine z_callVi B [.int w1] [] cw_X7_readAway mv_RX7_131 (tX7_readAway hst ew19) rfl (by decide) (kfX7_readAway ew19) ⟨rfl, rfl, (Nat.le_of_ble_eq_true rfl), (Nat.le_of_ble_eq_true rfl), (Nat.le_of_ble_eq_true rfl), (Nat.le_of_ble_eq_true rfl)⟩ rfl rfl (Nat.le_of_ble_eq_true rfl) dX7_readConversion_72 ?_
  refine z_iload_n B dX7_readConversion_75 rfl 0 rfl ?_
  refine z_ishr B dX7_readConversion_76 ?_
  refine z_iconst (v := 1) B dX7_readConversion_77 (by decide) ?_
  refine z_iand B dX7_readConversion_78 ?_
  refine z_iconst (v := 1) B dX7_readConversion_79 (by decide) ?_
  rcases zite hf with ⟨c21, hf⟩ | ⟨c21, hf⟩
  · refine z_icmp_ne B 85 dX7_readConversion_80 (by decide) (fun e => absurd c21 e) (fun _ => ?_)
    refine z_iconst (v := 0) B dX7_readConversion_83 (by decide) ?_
    cases hf
    exact z_zret B dX7_readConversion_84 (Or.inl rfl) (Nat.le_of_ble_eq_true rfl) (Nat.le_of_ble_eq_true rfl)
  refine z_icmp_ne B 85 dX7_readConversion_80 (by decide) (fun _ => ?_) (fun e => absurd e c21)
  refine z_aload_n B dX7_readConversion_85 rfl 2 rfl ?_
  refine z_dup B dX7_readConversion_86 rfl ?_
  obtain ⟨w22, ew22, hf⟩ := zbs hf
  refine z_gI B fl_RX7_116 ew22 rfl dX7_readConversion_87 ?_
  refine z_iconst (v := 1) B dX7_readConversion_90 (by decide) ?_
  refine z_iadd B dX7_readConversion_91 ?_
  obtain ⟨h23, eh23, hf⟩ := zbs hf
  refine z_pI B fl_RX7_116 eh23 rfl dX7_readConversion_92 ?_
  refine z_aload_n B dX7_readConversion_95 rfl 2 rfl ?_
  obtain ⟨w24, ew24, hf⟩ := zbs hf
  refine z_gI B fl_RX7_125 ew24 rfl dX7_readConversion_96 ?_
  refine z_istore_n (lv' := [(3, .int w24), (2, .int w13), (1, .int w1), (0, .ref a0)]) B dX7_readConversion_99 rfl (by decide) rfl ?_
  refine z_aload_n B dX7_readConversion_100 rfl 3 rfl ?_
  obtain ⟨w25, ew25, hf⟩ := zbs hf
  refine z_gP B fl_RX7_35 ew25 rfl dX7_readConversion_101 ?_
  refine z_iload_n B dX7_readConversion_104 rfl 0 rfl ?_
  refine z_iload_n B dX7_readConversion_105 rfl 2 rfl ?_
  obtain ⟨h26, eh26, hf⟩ := zbs hf
  refine z_bI B eh26 dX7_readConversion_106 ?_
  refine z_aload_n B dX7_readConversion_107 rfl 3 rfl ?_
  obtain ⟨w27, ew27, hf⟩ := zbs hf
  refine z_gP B fl_RX7_38 ew27 rfl dX7_readConversion_108 ?_
  refine z_iload_n B dX7_readConversion_111 rfl 0 rfl ?_
  refine z_iload_n B dX7_readConversion_112 rfl 1 rfl ?_
  obtain ⟨h28, eh28, hf⟩ := zbs hf
  refine z_bI B eh28 dX7_readConversion_113 ?_
  refine z_aload_n B dX7_readConversion_114 rfl 3 rfl ?_
  obtain ⟨w29, ew29, hf⟩ := zbs hf
  refine z_gP B fl_RX7_41 ew29 rfl dX7_readConversion_115 ?_
  refine z_iload_n B dX7_readConversion_118 rfl 0 rfl ?_
  refine z_aload_n B dX7_readConversion_119 rfl 3 rfl ?_
  refine z_iconst (v := 2) B dX7_readConversion_120 (by decide) ?_
  refine z_iconst (v := 1) B dX7_readConversion_121 (by decide) ?_
  obtain ⟨w30, h31, ew30, hf⟩ := zb2s hf
  refine z_callVi B [.int 2, .int 1] [.int w24, .ref w29] cw_X7_number mv_RX7_135 (tX7_number hst ew30) rfl (by decide) (kfX7_number ew30) ⟨rfl, rfl, (Nat.le_of_ble_eq_true rfl), (Nat.le_of_ble_eq_true rfl), (Nat.le_of_ble_eq_true rfl), (Nat.le_of_ble_eq_true rfl)⟩ rfl rfl (Nat.le_of_ble_eq_true rfl) dX7_readConversion_122 ?_
  obtain ⟨h32, eh32, hf⟩ := zbs hf
  refine z_bI B eh32 dX7_readConversion_125 ?_
  refine z_aload_n B dX7_readConversion_126 rfl 3 rfl ?_
  obtain ⟨w33, ew33, hf⟩ := zbs hf
  refine z_gP B fl_RX7_44 ew33 rfl dX7_readConversion_127 ?_
  refine z_iload_n B dX7_readConversion_130 rfl 0 rfl ?_
  refine z_aload_n B dX7_readConversion_131 rfl 3 rfl ?_
  obtain ⟨w34, ew34, hf⟩ := zbs hf
  refine z_gP B fl_RX7_41 ew34 rfl dX7_readConversion_132 ?_
  refine z_iload_n B dX7_readConversion_135 rfl 0 rfl ?_
  obtain ⟨w35, ew35, hf⟩ := zbs hf
  refine z_aI B ew35 dX7_readConversion_136 ?_
  refine z_bipush (v := (-9)) B dX7_readConversion_137 (by decide) ?_
  rcases zite hf with ⟨c36, hf⟩ | ⟨c36, hf⟩
  · refine z_icmp_ne B 147 dX7_readConversion_139 (by decide) (fun e => absurd c36 e) (fun _ => ?_)
    refine z_bipush (v := (-9)) B dX7_readConversion_142 (by decide) ?_
    refine z_goto B 153 dX7_readConversion_144 (by decide) ?_
    obtain ⟨h37, eh37, hf⟩ := zbs hf
    refine z_bI B eh37 dX7_readConversion_153 ?_
    refine z_aload_n B dX7_readConversion_154 rfl 3 rfl ?_
    obtain ⟨w38, ew38, hf⟩ := zbs hf
    refine z_gP B fl_RX7_47 ew38 rfl dX7_readConversion_155 ?_
    refine z_iload_n B dX7_readConversion_158 rfl 0 rfl ?_
    refine z_aload_n B dX7_readConversion_159 rfl 3 rfl ?_
    obtain ⟨w39, ew39, hf⟩ := zbs hf
    refine z_gP B fl_RX7_44 ew39 rfl dX7_readConversion_160 ?_
    refine z_iload_n B dX7_readConversion_163 rfl 0 rfl ?_
    obtain ⟨w40, ew40, hf⟩ := zbs hf
    refine z_aI B ew40 dX7_readConversion_164 ?_
    refine z_bipush (v := (-9)) B dX7_readConversion_165 (by decide) ?_
    rcases zite hf with ⟨c41, hf⟩ | ⟨c41, hf⟩
    · refine z_icmp_ne B 175 dX7_readConversion_167 (by decide) (fun e => absurd c41 e) (fun _ => ?_)
      refine z_bipush (v := (-9)) B dX7_readConversion_170 (by decide) ?_
      refine z_goto B 181 dX7_readConversion_172 (by decide) ?_
      obtain ⟨h42, eh42, hf⟩ := zbs hf
      refine z_bI B eh42 dX7_readConversion_181 ?_
      refine z_aload_n B dX7_readConversion_182 rfl 3 rfl ?_
      obtain ⟨w43, ew43, hf⟩ := zbs hf
      refine z_gP B fl_RX7_47 ew43 rfl dX7_readConversion_183 ?_
      refine z_iload_n B dX7_readConversion_186 rfl 0 rfl ?_
      obtain ⟨w44, ew44, hf⟩ := zbs hf
      refine z_aI B ew44 dX7_readConversion_187 ?_
      refine z_bipush (v := (-9)) B dX7_readConversion_188 (by decide) ?_
      rcases zite hf with ⟨c45, hf⟩ | ⟨c45, hf⟩
      · refine z_icmp_ne B 195 dX7_readConversion_190 (by decide) (fun e => absurd c45 e) (fun _ => ?_)
        refine z_iconst (v := 0) B dX7_readConversion_193 (by decide) ?_
        cases hf
        exact z_zret B dX7_readConversion_194 (Or.inl rfl) (Nat.le_of_ble_eq_true rfl) (Nat.le_of_ble_eq_true rfl)
      refine z_icmp_ne B 195 dX7_readConversion_190 (by decide) (fun _ => ?_) (fun e => absurd e c45)
      refine z_aload_n B dX7_readConversion_195 rfl 3 rfl ?_
      refine z_dup B dX7_readConversion_196 rfl ?_
      obtain ⟨w46, ew46, hf⟩ := zbs hf
      refine z_gI B fl_RX7_125 ew46 rfl dX7_readConversion_197 ?_
      refine z_iconst (v := 1) B dX7_readConversion_200 (by decide) ?_
      refine z_iadd B dX7_readConversion_201 ?_
      obtain ⟨h47, eh47, hf⟩ := zbs hf
      refine z_pI B fl_RX7_125 eh47 rfl dX7_readConversion_202 ?_
      refine z_iconst (v := 1) B dX7_readConversion_205 (by decide) ?_
      cases hf
      exact z_zret B dX7_readConversion_206 (Or.inr rfl) (Nat.le_of_ble_eq_true rfl) (Nat.le_of_ble_eq_true rfl)
    refine z_icmp_ne B 175 dX7_readConversion_167 (by decide) (fun _ => ?_) (fun e => absurd e c41)
    refine z_aload_n B dX7_readConversion_175 rfl 3 rfl ?_
    refine z_iconst (v := 1) B dX7_readConversion_176 (by decide) ?_
    refine z_iconst (v := 0) B dX7_readConversion_177 (by decide) ?_
    obtain ⟨w48, h49, ew48, hf⟩ := zb2s hf
    refine z_callVi B [.int 1, .int 0] [.int w24, .ref w38] cw_X7_number mv_RX7_135 (tX7_number hst ew48) rfl (by decide) (kfX7_number ew48) ⟨rfl, rfl, (Nat.le_of_ble_eq_true rfl), (Nat.le_of_ble_eq_true rfl), (Nat.le_of_ble_eq_true rfl), (Nat.le_of_ble_eq_true rfl)⟩ rfl rfl (Nat.le_of_ble_eq_true rfl) dX7_readConversion_178 ?_
    obtain ⟨h50, eh50, hf⟩ := zbs hf
    refine z_bI B eh50 dX7_readConversion_181 ?_
    refine z_aload_n B dX7_readConversion_182 rfl 3 rfl ?_
    obtain ⟨w51, ew51, hf⟩ := zbs hf
    refine z_gP B fl_RX7_47 ew51 rfl dX7_readConversion_183 ?_
    refine z_iload_n B dX7_readConversion_186 rfl 0 rfl ?_
    obtain ⟨w52, ew52, hf⟩ := zbs hf
    refine z_aI B ew52 dX7_readConversion_187 ?_
    refine z_bipush (v := (-9)) B dX7_readConversion_188 (by decide) ?_
    rcases zite hf with ⟨c53, hf⟩ | ⟨c53, hf⟩
    · refine z_icmp_ne B 195 dX7_readConversion_190 (by decide) (fun e => absurd c53 e) (fun _ => ?_)
      refine z_iconst (v := 0) B dX7_readConversion_193 (by decide) ?_
      cases hf
      exact z_zret B dX7_readConversion_194 (Or.inl rfl) (Nat.le_of_ble_eq_true rfl) (Nat.le_of_ble_eq_true rfl)
    refine z_icmp_ne B 195 dX7_readConversion_190 (by decide) (fun _ => ?_) (fun e => absurd e c53)
    refine z_aload_n B dX7_readConversion_195 rfl 3 rfl ?_
    refine z_dup B dX7_readConversion_196 rfl ?_
    obtain ⟨w54, ew54, hf⟩ := zbs hf
    refine z_gI B fl_RX7_125 ew54 rfl dX7_readConversion_197 ?_
    refine z_iconst (v := 1) B dX7_readConversion_200 (by decide) ?_
    refine z_iadd B dX7_readConversion_201 ?_
    obtain ⟨h55, eh55, hf⟩ := zbs hf
    refine z_pI B fl_RX7_125 eh55 rfl dX7_readConversion_202 ?_
    refine z_iconst (v := 1) B dX7_readConversion_205 (by decide) ?_
    cases hf
    exact z_zret B dX7_readConversion_206 (Or.inr rfl) (Nat.le_of_ble_eq_true rfl) (Nat.le_of_ble_eq_true rfl)
  refine z_icmp_ne B 147 dX7_readConversion_139 (by decide) (fun _ => ?_) (fun e => absurd e c36)
  refine z_aload_n B dX7_readConversion_147 rfl 3 rfl ?_
  refine z_iconst (v := 2) B dX7_readConversion_148 (by decide) ?_
  refine z_iconst (v := 1) B dX7_readConversion_149 (by decide) ?_
  obtain ⟨w56, h57, ew56, hf⟩ := zb2s hf
  refine z_callVi B [.int 2, .int 1] [.int w24, .ref w33] cw_X7_number mv_RX7_135 (tX7_number hst ew56) rfl (by decide) (kfX7_number ew56) ⟨rfl, rfl, (Nat.le_of_ble_eq_true rfl), (Nat.le_of_ble_eq_true rfl), (Nat.le_of_ble_eq_true rfl), (Nat.le_of_ble_eq_true rfl)⟩ rfl rfl (Nat.le_of_ble_eq_true rfl) dX7_readConversion_150 ?_
  obtain ⟨h58, eh58, hf⟩ := zbs hf
  refine z_bI B eh58 dX7_readConversion_153 ?_
  refine z_aload_n B dX7_readConversion_154 rfl 3 rfl ?_
  obtain ⟨w59, ew59, hf⟩ := zbs hf
  refine z_gP B fl_RX7_47 ew59 rfl dX7_readConversion_155 ?_
  refine z_iload_n B dX7_readConversion_158 rfl 0 rfl ?_
  refine z_aload_n B dX7_readConversion_159 rfl 3 rfl ?_
  obtain ⟨w60, ew60, hf⟩ := zbs hf
  refine z_gP B fl_RX7_44 ew60 rfl dX7_readConversion_160 ?_
  refine z_iload_n B dX7_readConversion_163 rfl 0 rfl ?_
  obtain ⟨w61, ew61, hf⟩ := zbs hf
  refine z_aI B ew61 dX7_readConversion_164 ?_
  refine z_bipush (v := (-9)) B dX7_readConversion_165 (by decide) ?_
  rcases zite hf with ⟨c62, hf⟩ | ⟨c62, hf⟩
  · refine z_icmp_ne B 175 dX7_readConversion_167 (by decide) (fun e => absurd c62 e) (fun _ => ?_)
    refine z_bipush (v := (-9)) B dX7_readConversion_170 (by decide) ?_
    refine z_goto B 181 dX7_readConversion_172 (by decide) ?_
    obtain ⟨h63, eh63, hf⟩ := zbs hf
    refine z_bI B eh63 dX7_readConversion_181 ?_
    refine z_aload_n B dX7_readConversion_182 rfl 3 rfl ?_
    obtain ⟨w64, ew64, hf⟩ := zbs hf
    refine z_gP B fl_RX7_47 ew64 rfl dX7_readConversion_183 ?_
    refine z_iload_n B dX7_readConversion_186 rfl 0 rfl ?_
    obtain ⟨w65, ew65, hf⟩ := zbs hf
    refine z_aI B ew65 dX7_readConversion_187 ?_
    refine z_bipush (v := (-9)) B dX7_readConversion_188 (by decide) ?_
    rcases zite hf with ⟨c66, hf⟩ | ⟨c66, hf⟩
    · refine z_icmp_ne B 195 dX7_readConversion_190 (by decide) (fun e => absurd c66 e) (fun _ => ?_)
      refine z_iconst (v := 0) B dX7_readConversion_193 (by decide) ?_
      cases hf
      exact z_zret B dX7_readConversion_194 (Or.inl rfl) (Nat.le_of_ble_eq_true rfl) (Nat.le_of_ble_eq_true rfl)
    refine z_icmp_ne B 195 dX7_readConversion_190 (by decide) (fun _ => ?_) (fun e => absurd e c66)
    refine z_aload_n B dX7_readConversion_195 rfl 3 rfl ?_
    refine z_dup B dX7_readConversion_196 rfl ?_
    obtain ⟨w67, ew67, hf⟩ := zbs hf
    refine z_gI B fl_RX7_125 ew67 rfl dX7_readConversion_197 ?_
    refine z_iconst (v := 1) B dX7_readConversion_200 (by decide) ?_
    refine z_iadd B dX7_readConversion_201 ?_
    obtain ⟨h68, eh68, hf⟩ := zbs hf
    refine z_pI B fl_RX7_125 eh68 rfl dX7_readConversion_202 ?_
    refine z_iconst (v := 1) B dX7_readConversion_205 (by decide) ?_
    cases hf
    exact z_zret B dX7_readConversion_206 (Or.inr rfl) (Nat.le_of_ble_eq_true rfl) (Nat.le_of_ble_eq_true rfl)
  refine z_icmp_ne B 175 dX7_readConversion_167 (by decide) (fun _ => ?_) (fun e => absurd e c62)
  refine z_aload_n B dX7_readConversion_175 rfl 3 rfl ?_
  refine z_iconst (v := 1) B dX7_readConversion_176 (by decide) ?_
  refine z_iconst (v := 0) B dX7_readConversion_177 (by decide) ?_
  obtain ⟨w69, h70, ew69, hf⟩ := zb2s hf
  refine z_callVi B [.int 1, .int 0] [.int w24, .ref w59] cw_X7_number mv_RX7_135 (tX7_number hst ew69) rfl (by decide) (kfX7_number ew69) ⟨rfl, rfl, (Nat.le_of_ble_eq_true rfl), (Nat.le_of_ble_eq_true rfl), (Nat.le_of_ble_eq_true rfl), (Nat.le_of_ble_eq_true rfl)⟩ rfl rfl (Nat.le_of_ble_eq_true rfl) dX7_readConversion_178 ?_
  obtain ⟨h71, eh71, hf⟩ := zbs hf
  refine z_bI B eh71 dX7_readConversion_181 ?_
  refine z_aload_n B dX7_readConversion_182 rfl 3 rfl ?_
  obtain ⟨w72, ew72, hf⟩ := zbs hf
  refine z_gP B fl_RX7_47 ew72 rfl dX7_readConversion_183 ?_
  refine z_iload_n B dX7_readConversion_186 rfl 0 rfl ?_
  obtain ⟨w73, ew73, hf⟩ := zbs hf
  refine z_aI B ew73 dX7_readConversion_187 ?_
  refine z_bipush (v := (-9)) B dX7_readConversion_188 (by decide) ?_
  rcases zite hf with ⟨c74, hf⟩ | ⟨c74, hf⟩
  · refine z_icmp_ne B 195 dX7_readConversion_190 (by decide) (fun e => absurd c74 e) (fun _ => ?_)
    refine z_iconst (v := 0) B dX7_readConversion_193 (by decide) ?_
    cases hf
    exact z_zret B dX7_readConversion_194 (Or.inl rfl) (Nat.le_of_ble_eq_true rfl) (Nat.le_of_ble_eq_true rfl)
  refine z_icmp_ne B 195 dX7_readConversion_190 (by decide) (fun _ => ?_) (fun e => absurd e c74)
  refine z_aload_n B dX7_readConversion_195 rfl 3 rfl ?_
  refine z_dup B dX7_readConversion_196 rfl ?_
  obtain ⟨w75, ew75, hf⟩ := zbs hf
  refine z_gI B fl_RX7_125 ew75 rfl dX7_readConversion_197 ?_
  refine z_iconst (v := 1) B dX7_readConversion_200 (by decide) ?_
  refine z_iadd B dX7_readConversion_201 ?_
  obtain ⟨h76, eh76, hf⟩ := zbs hf
  refine z_pI B fl_RX7_125 eh76 rfl dX7_readConversion_202 ?_
  refine z_iconst (v := 1) B dX7_readConversion_205 (by decide) ?_
  cases hf
  exact z_zret B dX7_readConversion_206 (Or.inr rfl) (Nat.le_of_ble_eq_true rfl) (Nat.le_of_ble_eq_true rfl)
abbrev rm_X7_readPlace : Room := { frames := 3, cells := 0, slots := 0, locals := 71 }
set_option maxRecDepth 100000 in
set_option maxHeartbeats 4000000 in
theorem fX7_readPlace_L4_ok {G : zG} {x : zX} (B : zB G x cX7_readPlace 4 RX7 "readPlace" rm_X7_readPlace (some .boolean)) (hst : (zl x).stackTraces = false) (hE : ∀ e ∈ (zc x).exceptionTable.toList, False) {r : Int32 × zH} {k : zH → Int32 → Int32 → Option (Int32 × zH)} {u0 : Nat} (hk : ∀ h v1 v2, k h v1 v2 = some r → zV G x 4 (zQ G x (zoi r) 0 0) h 0 0 53 [(0, .ref u0), (1, .int v1), (2, .int v2)] []) : ∀ n h v1 v2, fX7_readPlace_L4 k u0 n h v1 v2 = some r → zV G x 4 (zQ G x (zoi r) 0 0) h 0 0 4 [(0, .ref u0), (1, .int v1), (2, .int v2)] [] := by
  intro n
  induction n with
  | zero =>
    intro h v1 v2 hf
    have hf : (none : Option (Int32 × zH)) = some r := hf
    cases hf
  | succ n ih =>
    intro h v1 v2 hf
    rw [fX7_readPlace_L4] at hf
    refine z_aload_n B dX7_readPlace_4 rfl 0 rfl ?_
    obtain ⟨w1, h2, ew1, hf⟩ := zb2s hf
    refine z_callVi B [] [] cw_X7_digit mv_RX7_121 (tX7_digit hst ew1) rfl (by decide) (kfX7_digit ew1) ⟨rfl, rfl, (Nat.le_of_ble_eq_true rfl), (Nat.le_of_ble_eq_true rfl), (Nat.le_of_ble_eq_true rfl), (Nat.le_of_ble_eq_true rfl)⟩ rfl rfl (Nat.le_of_ble_eq_true rfl) dX7_readPlace_5 ?_
    refine z_i2l B dX7_readPlace_8 ?_
    refine z_iload_n B dX7_readPlace_9 rfl 2 rfl ?_
    refine z_i2l B dX7_readPlace_10 ?_
    refine z_aload_n B dX7_readPlace_11 rfl 0 rfl ?_
    obtain ⟨w3, ew3, hf⟩ := zbs hf
    refine z_gI B fl_RX7_128 ew3 rfl dX7_readPlace_12 ?_
    refine z_iconst (v := 1) B dX7_readPlace_15 (by decide) ?_
    refine z_isub B dX7_readPlace_16 ?_
    refine z_i2l B dX7_readPlace_17 ?_
    obtain ⟨w4, h5, ew4, hf⟩ := zb2s hf
    refine z_callSi B [.long (w1 : Int32).toInt64, .long (v2 : Int32).toInt64, .long (((w3 : Int32) - 1) : Int32).toInt64] [] cw_X7_in mt_RX7_97 (tX7_in hst ew4) ⟨rfl, rfl, (Nat.le_of_ble_eq_true rfl), (Nat.le_of_ble_eq_true rfl), (Nat.le_of_ble_eq_true rfl), (Nat.le_of_ble_eq_true rfl)⟩ rfl rfl (Nat.le_of_ble_eq_true rfl) dX7_readPlace_18 ?_
    rcases zite hf with ⟨c6, hf⟩ | ⟨c6, hf⟩
    · refine z_if_eq B 53 dX7_readPlace_21 (by decide) (fun _ => ?_) (fun e => absurd c6 e)
      exact hk _ _ _ hf
    refine z_if_eq B 53 dX7_readPlace_21 (by decide) (fun e => absurd e c6) (fun _ => ?_)
    refine z_iload_n B dX7_readPlace_24 rfl 1 rfl ?_
    refine z_iconst (v := 1) B dX7_readPlace_25 (by decide) ?_
    refine z_aload_n B dX7_readPlace_26 rfl 0 rfl ?_
    obtain ⟨w7, h8, ew7, hf⟩ := zb2s hf
    refine z_callVi B [] [.int 1, .int v1] cw_X7_digit mv_RX7_121 (tX7_digit hst ew7) rfl (by decide) (kfX7_digit ew7) ⟨rfl, rfl, (Nat.le_of_ble_eq_true rfl), (Nat.le_of_ble_eq_true rfl), (Nat.le_of_ble_eq_true rfl), (Nat.le_of_ble_eq_true rfl)⟩ rfl rfl (Nat.le_of_ble_eq_true rfl) dX7_readPlace_27 ?_
    refine z_ishl B dX7_readPlace_30 ?_
    refine z_ior B dX7_readPlace_31 ?_
    refine z_istore_n (lv' := [(1, .int ((v1 : Int32) ||| ((1 : Int32) <<< (w7 &&& 31)))), (0, .ref u0), (2, .int v2)]) B dX7_readPlace_32 rfl (by decide) rfl ?_
    refine z_aload_n B dX7_readPlace_33 rfl 1 rfl ?_
    obtain ⟨w9, h10, ew9, hf⟩ := zb2s hf
    refine z_callVi B [] [] cw_X7_digit mv_RX7_121 (tX7_digit hst ew9) rfl (by decide) (kfX7_digit ew9) ⟨rfl, rfl, (Nat.le_of_ble_eq_true rfl), (Nat.le_of_ble_eq_true rfl), (Nat.le_of_ble_eq_true rfl), (Nat.le_of_ble_eq_true rfl)⟩ rfl rfl (Nat.le_of_ble_eq_true rfl) dX7_readPlace_34 ?_
    refine z_iconst (v := 1) B dX7_readPlace_37 (by decide) ?_
    refine z_iadd B dX7_readPlace_38 ?_
    refine z_istore_n (lv' := [(2, .int ((w9 : Int32) + 1)), (1, .int ((v1 : Int32) ||| ((1 : Int32) <<< (w7 &&& 31)))), (0, .ref u0)]) B dX7_readPlace_39 rfl (by decide) rfl ?_
    refine z_aload_n B dX7_readPlace_40 rfl 2 rfl ?_
    refine z_dup B dX7_readPlace_41 rfl ?_
    obtain ⟨w11, ew11, hf⟩ := zbs hf
    refine z_gI B fl_RX7_116 ew11 rfl dX7_readPlace_42 ?_
    refine z_iconst (v := 1) B dX7_readPlace_45 (by decide) ?_
    refine z_iadd B dX7_readPlace_46 ?_
    obtain ⟨h12, eh12, hf⟩ := zbs hf
    refine z_pI B fl_RX7_116 eh12 rfl dX7_readPlace_47 ?_
    refine z_goto B 4 dX7_readPlace_50 (by decide) ?_
    refine zV.sub [2, 1, 0] rfl ?_
    exact ih _ _ _ hf
set_option maxRecDepth 100000 in
set_option maxHeartbeats 4000000 in
theorem tX7_readPlace {l : Launch} {G : zG} (hst : l.stackTraces = false) {h : zH} {a0 : Nat} {r : Int32 × zH} (hf : fX7_readPlace h a0 = some r) : zMet l G yX7_readPlace (.code yX7_readPlace cX7_readPlace 4 (some .boolean)) rm_X7_readPlace 0 0 [.ref a0] h (zoi r) := by
  unfold fX7_readPlace at hf
  obtain ⟨-, hf⟩ := zck hf
  refine z_enter (by decide) (Nat.le_of_ble_eq_true rfl) hst (fun x hx B hE => ?_)
  subst hx
  have B : zB G x cX7_readPlace 4 RX7 "readPlace" rm_X7_readPlace (some .boolean) := B
  show zV G x 4 (zQ G x (zoi r) 0 0) h 0 0 0 [(0, .ref a0)] []
  refine z_iconst (v := 0) B dX7_readPlace_0 (by decide) ?_
  refine z_istore_n (lv' := [(1, .int 0), (0, .ref a0)]) B dX7_readPlace_1 rfl (by decide) rfl ?_
  refine z_iconst (v := 0) B dX7_readPlace_2 (by decide) ?_
  refine z_istore_n (lv' := [(2, .int 0), (1, .int 0), (0, .ref a0)]) B dX7_readPlace_3 rfl (by decide) rfl ?_
  refine zV.sub [2, 1, 0] rfl ?_
  refine fX7_readPlace_L4_ok B hst hE (fun h1 y2 y3 hf => ?_) _ _ _ _ hf
  refine z_iload_n B dX7_readPlace_53 rfl 1 rfl ?_
  rcases zite hf with ⟨c4, hf⟩ | ⟨c4, hf⟩
  · refine z_if_eq B 66 dX7_readPlace_54 (by decide) (fun _ => ?_) (fun e => absurd c4 e)
    refine z_iconst (v := 0) B dX7_readPlace_66 (by decide) ?_
    cases hf
    exact z_zret B dX7_readPlace_67 (Or.inl rfl) (Nat.le_of_ble_eq_true rfl) (Nat.le_of_ble_eq_true rfl)
  refine z_if_eq B 66 dX7_readPlace_54 (by decide) (fun e => absurd e c4) (fun _ => ?_)
  refine z_aload_n B dX7_readPlace_57 rfl 0 rfl ?_
  refine z_bipush (v := 58) B dX7_readPlace_58 (by decide) ?_
  obtain ⟨w5, h6, ew5, hf⟩ := zb2s hf
  refine z_callVi B [.int 58] [] cw_X7_passes mv_RX7_139 (tX7_passes hst ew5) rfl (by decide) (kfX7_passes ew5) ⟨rfl, rfl, (Nat.le_of_ble_eq_true rfl), (Nat.le_of_ble_eq_true rfl), (Nat.le_of_ble_eq_true rfl), (Nat.le_of_ble_eq_true rfl)⟩ rfl rfl (Nat.le_of_ble_eq_true rfl) dX7_readPlace_60 ?_
  rcases zite hf with ⟨c7, hf⟩ | ⟨c7, hf⟩
  · refine z_if_ne B 68 dX7_readPlace_63 (by decide) (fun e => absurd c7 e) (fun _ => ?_)
    refine z_iconst (v := 0) B dX7_readPlace_66 (by decide) ?_
    cases hf
    exact z_zret B dX7_readPlace_67 (Or.inl rfl) (Nat.le_of_ble_eq_true rfl) (Nat.le_of_ble_eq_true rfl)
  refine z_if_ne B 68 dX7_readPlace_63 (by decide) (fun _ => ?_) (fun e => absurd e c7)
  refine z_aload_n B dX7_readPlace_68 rfl 0 rfl ?_
  refine z_iconst (v := 5) B dX7_readPlace_69 (by decide) ?_
  refine z_iconst (v := 1) B dX7_readPlace_70 (by decide) ?_
  obtain ⟨w8, h9, ew8, hf⟩ := zb2s hf
  refine z_callVi B [.int 5, .int 1] [] cw_X7_number mv_RX7_135 (tX7_number hst ew8) rfl (by decide) (kfX7_number ew8) ⟨rfl, rfl, (Nat.le_of_ble_eq_true rfl), (Nat.le_of_ble_eq_true rfl), (Nat.le_of_ble_eq_true rfl), (Nat.le_of_ble_eq_true rfl)⟩ rfl rfl (Nat.le_of_ble_eq_true rfl) dX7_readPlace_71 ?_
  refine z_istore_n (lv' := [(3, .int w8), (0, .ref a0), (1, .int y2), (2, .int y3)]) B dX7_readPlace_74 rfl (by decide) rfl ?_
  refine z_iload_n B dX7_readPlace_75 rfl 0 rfl ?_
  refine z_bipush (v := (-9)) B dX7_readPlace_76 (by decide) ?_
  rcases zite hf with ⟨c10, hf⟩ | ⟨c10, hf⟩
  · refine z_icmp_ne B 83 dX7_readPlace_78 (by decide) (fun e => absurd c10 e) (fun _ => ?_)
    refine z_iconst (v := 0) B dX7_readPlace_81 (by decide) ?_
    cases hf
    exact z_zret B dX7_readPlace_82 (Or.inl rfl) (Nat.le_of_ble_eq_true rfl) (Nat.le_of_ble_eq_true rfl)
  refine z_icmp_ne B 83 dX7_readPlace_78 (by decide) (fun _ => ?_) (fun e => absurd e c10)
  refine z_aload_n B dX7_readPlace_83 rfl 1 rfl ?_
  obtain ⟨w11, ew11, hf⟩ := zbs hf
  refine z_gP B fl_RX7_50 ew11 rfl dX7_readPlace_84 ?_
  refine z_aload_n B dX7_readPlace_87 rfl 1 rfl ?_
  obtain ⟨w12, ew12, hf⟩ := zbs hf
  refine z_gI B fl_RX7_142 ew12 rfl dX7_readPlace_88 ?_
  refine z_iload_n B dX7_readPlace_91 rfl 2 rfl ?_
  obtain ⟨h13, eh13, hf⟩ := zbs hf
  refine z_bI B eh13 dX7_readPlace_92 ?_
  refine z_aload_n B dX7_readPlace_93 rfl 1 rfl ?_
  obtain ⟨w14, ew14, hf⟩ := zbs hf
  refine z_gP B fl_RX7_53 ew14 rfl dX7_readPlace_94 ?_
  refine z_aload_n B dX7_readPlace_97 rfl 1 rfl ?_
  obtain ⟨w15, ew15, hf⟩ := zbs hf
  refine z_gI B fl_RX7_142 ew15 rfl dX7_readPlace_98 ?_
  refine z_iload_n B dX7_readPlace_101 rfl 0 rfl ?_
  obtain ⟨h16, eh16, hf⟩ := zbs hf
  refine z_bI B eh16 dX7_readPlace_102 ?_
  refine z_aload_n B dX7_readPlace_103 rfl 1 rfl ?_
  refine z_dup B dX7_readPlace_104 rfl ?_
  obtain ⟨w17, ew17, hf⟩ := zbs hf
  refine z_gI B fl_RX7_142 ew17 rfl dX7_readPlace_105 ?_
  refine z_iconst (v := 1) B dX7_readPlace_108 (by decide) ?_
  refine z_iadd B dX7_readPlace_109 ?_
  obtain ⟨h18, eh18, hf⟩ := zbs hf
  refine z_pI B fl_RX7_142 eh18 rfl dX7_readPlace_110 ?_
  refine z_iconst (v := 1) B dX7_readPlace_113 (by decide) ?_
  cases hf
  exact z_zret B dX7_readPlace_114 (Or.inr rfl) (Nat.le_of_ble_eq_true rfl) (Nat.le_of_ble_eq_true rfl)
abbrev rm_X7_readText : Room := { frames := 4, cells := 0, slots := 0, locals := 94 }
set_option maxRecDepth 100000 in
set_option maxHeartbeats 4000000 in
theorem fX7_readText_L91_ok {G : zG} {x : zX} (B : zB G x cX7_readText 2 RX7 "readText" rm_X7_readText (some .int)) (hst : (zl x).stackTraces = false) (hE : ∀ e ∈ (zc x).exceptionTable.toList, False) {r : Int32 × zH} {k : zH → Option (Int32 × zH)} {u0 : Nat} (hk : ∀ h, k h = some r → zV G x 2 (zQ G x (zoi r) 0 0) h 0 0 163 [(0, .ref u0)] []) : ∀ n h, fX7_readText_L91 k u0 n h = some r → zV G x 2 (zQ G x (zoi r) 0 0) h 0 0 91 [(0, .ref u0)] [] := by
  intro n
  induction n with
  | zero =>
    intro h hf
    have hf : (none : Option (Int32 × zH)) = some r := hf
    cases hf
  | succ n ih =>
    intro h hf
    rw [fX7_readText_L91] at hf
    refine z_aload_n B dX7_readText_91 rfl 0 rfl ?_
    obtain ⟨w1, ew1, hf⟩ := zbs hf
    refine z_gI B fl_RX7_116 ew1 rfl dX7_readText_92 ?_
    refine z_aload_n B dX7_readText_95 rfl 0 rfl ?_
    obtain ⟨w2, ew2, hf⟩ := zbs hf
    refine z_gI B fl_RX7_109 ew2 rfl dX7_readText_96 ?_
    rcases zite hf with ⟨c3, hf⟩ | ⟨c3, hf⟩
    · refine z_icmp_ge B 163 dX7_readText_99 (by decide) (fun _ => ?_) (fun e => absurd c3 e)
      exact hk _ hf
    refine z_icmp_ge B 163 dX7_readText_99 (by decide) (fun e => absurd e c3) (fun _ => ?_)
    refine z_iconst (v := 0) B dX7_readText_102 (by decide) ?_
    refine z_istore_n (lv' := [(1, .int 0), (0, .ref u0)]) B dX7_readText_103 rfl (by decide) rfl ?_
    refine z_aload_n B dX7_readText_104 rfl 1 rfl ?_
    obtain ⟨w4, h5, ew4, hf⟩ := zb2s hf
    refine z_callVi B [] [] cw_X7_mayConvert mv_RX7_150 (tX7_mayConvert hst ew4) rfl (by decide) (kfX7_mayConvert ew4) ⟨rfl, rfl, (Nat.le_of_ble_eq_true rfl), (Nat.le_of_ble_eq_true rfl), (Nat.le_of_ble_eq_true rfl), (Nat.le_of_ble_eq_true rfl)⟩ rfl rfl (Nat.le_of_ble_eq_true rfl) dX7_readText_105 ?_
    rcases zite hf with ⟨c6, hf⟩ | ⟨c6, hf⟩
    · refine z_if_eq B 128 dX7_readText_108 (by decide) (fun _ => ?_) (fun e => absurd c6 e)
      refine z_aload_n B dX7_readText_128 rfl 1 rfl ?_
      obtain ⟨w7, ew7, hf⟩ := zbs hf
      refine z_gI B fl_RX7_142 ew7 rfl dX7_readText_129 ?_
      refine z_bipush (v := 6) B dX7_readText_132 (by decide) ?_
      rcases zite hf with ⟨c8, hf⟩ | ⟨c8, hf⟩
      · refine z_icmp_ge B 151 dX7_readText_134 (by decide) (fun _ => ?_) (fun e => absurd c8 e)
        refine z_iload_n B dX7_readText_151 rfl 0 rfl ?_
        refine z_if_ne B 160 dX7_readText_152 (by decide) (fun e => absurd e (by decide)) (fun _ => ?_)
        refine z_aload_n B dX7_readText_155 rfl 1 rfl ?_
        obtain ⟨w9, ew9, hf⟩ := zbs hf
        refine z_gI B fl_RX7_116 ew9 rfl dX7_readText_156 ?_
        cases hf
        exact z_iret B dX7_readText_159 (Nat.le_of_ble_eq_true rfl) (Nat.le_of_ble_eq_true rfl)
      refine z_icmp_ge B 151 dX7_readText_134 (by decide) (fun e => absurd e c8) (fun _ => ?_)
      refine z_aload_n B dX7_readText_137 rfl 1 rfl ?_
      refine z_bipush (v := 112) B dX7_readText_138 (by decide) ?_
      obtain ⟨w10, h11, ew10, hf⟩ := zb2s hf
      refine z_callVi B [.int 112] [] cw_X7_passes mv_RX7_139 (tX7_passes hst ew10) rfl (by decide) (kfX7_passes ew10) ⟨rfl, rfl, (Nat.le_of_ble_eq_true rfl), (Nat.le_of_ble_eq_true rfl), (Nat.le_of_ble_eq_true rfl), (Nat.le_of_ble_eq_true rfl)⟩ rfl rfl (Nat.le_of_ble_eq_true rfl) dX7_readText_140 ?_
      rcases zite hf with ⟨c12, hf⟩ | ⟨c12, hf⟩
      · refine z_if_eq B 151 dX7_readText_143 (by decide) (fun _ => ?_) (fun e => absurd c12 e)
        refine z_iload_n B dX7_readText_151 rfl 0 rfl ?_
        refine z_if_ne B 160 dX7_readText_152 (by decide) (fun e => absurd e (by decide)) (fun _ => ?_)
        refine z_aload_n B dX7_readText_155 rfl 1 rfl ?_
        obtain ⟨w13, ew13, hf⟩ := zbs hf
        refine z_gI B fl_RX7_116 ew13 rfl dX7_readText_156 ?_
        cases hf
        exact z_iret B dX7_readText_159 (Nat.le_of_ble_eq_true rfl) (Nat.le_of_ble_eq_true rfl)
      refine z_if_eq B 151 dX7_readText_143 (by decide) (fun e => absurd e c12) (fun _ => ?_)
      refine z_aload_n B dX7_readText_146 rfl 1 rfl ?_
      obtain ⟨w14, h15, ew14, hf⟩ := zb2s hf
      refine z_callVi B [] [] cw_X7_readPlace mv_RX7_157 (tX7_readPlace hst ew14) rfl (by decide) (kfX7_readPlace ew14) ⟨rfl, rfl, (Nat.le_of_ble_eq_true rfl), (Nat.le_of_ble_eq_true rfl), (Nat.le_of_ble_eq_true rfl), (Nat.le_of_ble_eq_true rfl)⟩ rfl rfl (Nat.le_of_ble_eq_true rfl) dX7_readText_147 ?_
      refine z_istore_n (lv' := [(1, .int w14), (0, .ref u0)]) B dX7_readText_150 rfl (by decide) rfl ?_
      refine z_iload_n B dX7_readText_151 rfl 0 rfl ?_
      rcases zite hf with ⟨c16, hf⟩ | ⟨c16, hf⟩
      · refine z_if_ne B 160 dX7_readText_152 (by decide) (fun e => absurd c16 e) (fun _ => ?_)
        refine z_aload_n B dX7_readText_155 rfl 1 rfl ?_
        obtain ⟨w17, ew17, hf⟩ := zbs hf
        refine z_gI B fl_RX7_116 ew17 rfl dX7_readText_156 ?_
        cases hf
        exact z_iret B dX7_readText_159 (Nat.le_of_ble_eq_true rfl) (Nat.le_of_ble_eq_true rfl)
      refine z_if_ne B 160 dX7_readText_152 (by decide) (fun _ => ?_) (fun e => absurd e c16)
      refine z_goto B 91 dX7_readText_160 (by decide) ?_
      refine zV.sub [1] rfl ?_
      exact ih _ hf
    refine z_if_eq B 128 dX7_readText_108 (by decide) (fun e => absurd e c6) (fun _ => ?_)
    refine z_aload_n B dX7_readText_111 rfl 1 rfl ?_
    refine z_bipush (v := 99) B dX7_readText_112 (by decide) ?_
    obtain ⟨w18, h19, ew18, hf⟩ := zb2s hf
    refine z_callVi B [.int 99] [] cw_X7_passes mv_RX7_139 (tX7_passes hst ew18) rfl (by decide) (kfX7_passes ew18) ⟨rfl, rfl, (Nat.le_of_ble_eq_true rfl), (Nat.le_of_ble_eq_true rfl), (Nat.le_of_ble_eq_true rfl), (Nat.le_of_ble_eq_true rfl)⟩ rfl rfl (Nat.le_of_ble_eq_true rfl) dX7_readText_114 ?_
    rcases zite hf with ⟨c20, hf⟩ | ⟨c20, hf⟩
    · refine z_if_eq B 128 dX7_readText_117 (by decide) (fun _ => ?_) (fun e => absurd c20 e)
      refine z_aload_n B dX7_readText_128 rfl 1 rfl ?_
      obtain ⟨w21, ew21, hf⟩ := zbs hf
      refine z_gI B fl_RX7_142 ew21 rfl dX7_readText_129 ?_
      refine z_bipush (v := 6) B dX7_readText_132 (by decide) ?_
      rcases zite hf with ⟨c22, hf⟩ | ⟨c22, hf⟩
      · refine z_icmp_ge B 151 dX7_readText_134 (by decide) (fun _ => ?_) (fun e => absurd c22 e)
        refine z_iload_n B dX7_readText_151 rfl 0 rfl ?_
        refine z_if_ne B 160 dX7_readText_152 (by decide) (fun e => absurd e (by decide)) (fun _ => ?_)
        refine z_aload_n B dX7_readText_155 rfl 1 rfl ?_
        obtain ⟨w23, ew23, hf⟩ := zbs hf
        refine z_gI B fl_RX7_116 ew23 rfl dX7_readText_156 ?_
        cases hf
        exact z_iret B dX7_readText_159 (Nat.le_of_ble_eq_true rfl) (Nat.le_of_ble_eq_true rfl)
      refine z_icmp_ge B 151 dX7_readText_134 (by decide) (fun e => absurd e c22) (fun _ => ?_)
      refine z_aload_n B dX7_readText_137 rfl 1 rfl ?_
      refine z_bipush (v := 112) B dX7_readText_138 (by decide) ?_
      obtain ⟨w24, h25, ew24, hf⟩ := zb2s hf
      refine z_callVi B [.int 112] [] cw_X7_passes mv_RX7_139 (tX7_passes hst ew24) rfl (by decide) (kfX7_passes ew24) ⟨rfl, rfl, (Nat.le_of_ble_eq_true rfl), (Nat.le_of_ble_eq_true rfl), (Nat.le_of_ble_eq_true rfl), (Nat.le_of_ble_eq_true rfl)⟩ rfl rfl (Nat.le_of_ble_eq_true rfl) dX7_readText_140 ?_
      rcases zite hf with ⟨c26, hf⟩ | ⟨c26, hf⟩
      · refine z_if_eq B 151 dX7_readText_143 (by decide) (fun _ => ?_) (fun e => absurd c26 e)
        refine z_iload_n B dX7_readText_151 rfl 0 rfl ?_
        refine z_if_ne B 160 dX7_readText_152 (by decide) (fun e => absurd e (by decide)) (fun _ => ?_)
        refine z_aload_n B dX7_readText_155 rfl 1 rfl ?_
        obtain ⟨w27, ew27, hf⟩ := zbs hf
        refine z_gI B fl_RX7_116 ew27 rfl dX7_readText_156 ?_
        cases hf
        exact z_iret B dX7_readText_159 (Nat.le_of_ble_eq_true rfl) (Nat.le_of_ble_eq_true rfl)
      refine z_if_eq B 151 dX7_readText_143 (by decide) (fun e => absurd e c26) (fun _ => ?_)
      refine z_aload_n B dX7_readText_146 rfl 1 rfl ?_
      obtain ⟨w28, h29, ew28, hf⟩ := zb2s hf
      refine z_callVi B [] [] cw_X7_readPlace mv_RX7_157 (tX7_readPlace hst ew28) rfl (by decide) (kfX7_readPlace ew28) ⟨rfl, rfl, (Nat.le_of_ble_eq_true rfl), (Nat.le_of_ble_eq_true rfl), (Nat.le_of_ble_eq_true rfl), (Nat.le_of_ble_eq_true rfl)⟩ rfl rfl (Nat.le_of_ble_eq_true rfl) dX7_readText_147 ?_
      refine z_istore_n (lv' := [(1, .int w28), (0, .ref u0)]) B dX7_readText_150 rfl (by decide) rfl ?_
      refine z_iload_n B dX7_readText_151 rfl 0 rfl ?_
      rcases zite hf with ⟨c30, hf⟩ | ⟨c30, hf⟩
      · refine z_if_ne B 160 dX7_readText_152 (by decide) (fun e => absurd c30 e) (fun _ => ?_)
        refine z_aload_n B dX7_readText_155 rfl 1 rfl ?_
        obtain ⟨w31, ew31, hf⟩ := zbs hf
        refine z_gI B fl_RX7_116 ew31 rfl dX7_readText_156 ?_
        cases hf
        exact z_iret B dX7_readText_159 (Nat.le_of_ble_eq_true rfl) (Nat.le_of_ble_eq_true rfl)
      refine z_if_ne B 160 dX7_readText_152 (by decide) (fun _ => ?_) (fun e => absurd e c30)
      refine z_goto B 91 dX7_readText_160 (by decide) ?_
      refine zV.sub [1] rfl ?_
      exact ih _ hf
    refine z_if_eq B 128 dX7_readText_117 (by decide) (fun e => absurd e c20) (fun _ => ?_)
    refine z_aload_n B dX7_readText_120 rfl 1 rfl ?_
    obtain ⟨w32, h33, ew32, hf⟩ := zb2s hf
    refine z_callVi B [] [] cw_X7_readConversion mv_RX7_154 (tX7_readConversion hst ew32) rfl (by decide) (kfX7_readConversion ew32) ⟨rfl, rfl, (Nat.le_of_ble_eq_true rfl), (Nat.le_of_ble_eq_true rfl), (Nat.le_of_ble_eq_true rfl), (Nat.le_of_ble_eq_true rfl)⟩ rfl rfl (Nat.le_of_ble_eq_true rfl) dX7_readText_121 ?_
    refine z_istore_n (lv' := [(1, .int w32), (0, .ref u0)]) B dX7_readText_124 rfl (by decide) rfl ?_
    refine z_goto B 151 dX7_readText_125 (by decide) ?_
    refine z_iload_n B dX7_readText_151 rfl 0 rfl ?_
    rcases zite hf with ⟨c34, hf⟩ | ⟨c34, hf⟩
    · refine z_if_ne B 160 dX7_readText_152 (by decide) (fun e => absurd c34 e) (fun _ => ?_)
      refine z_aload_n B dX7_readText_155 rfl 1 rfl ?_
      obtain ⟨w35, ew35, hf⟩ := zbs hf
      refine z_gI B fl_RX7_116 ew35 rfl dX7_readText_156 ?_
      cases hf
      exact z_iret B dX7_readText_159 (Nat.le_of_ble_eq_true rfl) (Nat.le_of_ble_eq_true rfl)
    refine z_if_ne B 160 dX7_readText_152 (by decide) (fun _ => ?_) (fun e => absurd e c34)
    refine z_goto B 91 dX7_readText_160 (by decide) ?_
    refine zV.sub [1] rfl ?_
    exact ih _ hf
set_option maxRecDepth 100000 in
set_option maxHeartbeats 4000000 in
theorem tX7_readText {l : Launch} {G : zG} (hst : l.stackTraces = false) {h : zH} {a0 : Nat} {r : Int32 × zH} (hf : fX7_readText h a0 = some r) : zMet l G yX7_readText (.code yX7_readText cX7_readText 2 (some .int)) rm_X7_readText 0 0 [.ref a0] h (zoi r) := by
  unfold fX7_readText at hf
  obtain ⟨-, hf⟩ := zck hf
  refine z_enter (by decide) (Nat.le_of_ble_eq_true rfl) hst (fun x hx B hE => ?_)
  subst hx
  have B : zB G x cX7_readText 2 RX7 "readText" rm_X7_readText (some .int) := B
  show zV G x 2 (zQ G x (zoi r) 0 0) h 0 0 0 [(0, .ref a0)] []
  refine z_aload_n B dX7_readText_0 rfl 0 rfl ?_
  refine z_iconst (v := 0) B dX7_readText_1 (by decide) ?_
  obtain ⟨h1, eh1, hf⟩ := zbs hf
  refine z_pI B fl_RX7_116 eh1 rfl dX7_readText_2 ?_
  refine z_aload_n B dX7_readText_5 rfl 0 rfl ?_
  refine z_iconst (v := 0) B dX7_readText_6 (by decide) ?_
  obtain ⟨h2, eh2, hf⟩ := zbs hf
  refine z_pI B fl_RX7_125 eh2 rfl dX7_readText_7 ?_
  refine z_aload_n B dX7_readText_10 rfl 0 rfl ?_
  refine z_iconst (v := 0) B dX7_readText_11 (by decide) ?_
  obtain ⟨h3, eh3, hf⟩ := zbs hf
  refine z_pI B fl_RX7_142 eh3 rfl dX7_readText_12 ?_
  refine z_aload_n B dX7_readText_15 rfl 0 rfl ?_
  refine z_bipush (v := 75) B dX7_readText_16 (by decide) ?_
  obtain ⟨w4, h5, ew4, hf⟩ := zb2s hf
  refine z_callVi B [.int 75] [] cw_X7_passes mv_RX7_139 (tX7_passes hst ew4) rfl (by decide) (kfX7_passes ew4) ⟨rfl, rfl, (Nat.le_of_ble_eq_true rfl), (Nat.le_of_ble_eq_true rfl), (Nat.le_of_ble_eq_true rfl), (Nat.le_of_ble_eq_true rfl)⟩ rfl rfl (Nat.le_of_ble_eq_true rfl) dX7_readText_18 ?_
  rcases zite hf with ⟨c6, hf⟩ | ⟨c6, hf⟩
  · refine z_if_ne B 29 dX7_readText_21 (by decide) (fun e => absurd c6 e) (fun _ => ?_)
    refine z_aload_n B dX7_readText_24 rfl 0 rfl ?_
    obtain ⟨w7, ew7, hf⟩ := zbs hf
    refine z_gI B fl_RX7_116 ew7 rfl dX7_readText_25 ?_
    cases hf
    exact z_iret B dX7_readText_28 (Nat.le_of_ble_eq_true rfl) (Nat.le_of_ble_eq_true rfl)
  refine z_if_ne B 29 dX7_readText_21 (by decide) (fun _ => ?_) (fun e => absurd e c6)
  refine z_aload_n B dX7_readText_29 rfl 0 rfl ?_
  refine z_aload_n B dX7_readText_30 rfl 0 rfl ?_
  obtain ⟨w8, h9, ew8, hf⟩ := zb2s hf
  refine z_callVi B [] [.ref a0] cw_X7_digit mv_RX7_121 (tX7_digit hst ew8) rfl (by decide) (kfX7_digit ew8) ⟨rfl, rfl, (Nat.le_of_ble_eq_true rfl), (Nat.le_of_ble_eq_true rfl), (Nat.le_of_ble_eq_true rfl), (Nat.le_of_ble_eq_true rfl)⟩ rfl rfl (Nat.le_of_ble_eq_true rfl) dX7_readText_31 ?_
  obtain ⟨h10, eh10, hf⟩ := zbs hf
  refine z_pI B fl_RX7_128 eh10 rfl dX7_readText_34 ?_
  refine z_aload_n B dX7_readText_37 rfl 0 rfl ?_
  obtain ⟨w11, ew11, hf⟩ := zbs hf
  refine z_gI B fl_RX7_128 ew11 rfl dX7_readText_38 ?_
  refine z_i2l B dX7_readText_41 ?_
  refine z_lconst (v := 1) B dX7_readText_42 (by decide) ?_
  refine z_ldc2 B dX7_readText_43 kl_RX7_145 ?_
  obtain ⟨w12, h13, ew12, hf⟩ := zb2s hf
  refine z_callSi B [.long (w11 : Int32).toInt64, .long 1, .long 8] [] cw_X7_in mt_RX7_97 (tX7_in hst ew12) ⟨rfl, rfl, (Nat.le_of_ble_eq_true rfl), (Nat.le_of_ble_eq_true rfl), (Nat.le_of_ble_eq_true rfl), (Nat.le_of_ble_eq_true rfl)⟩ rfl rfl (Nat.le_of_ble_eq_true rfl) dX7_readText_46 ?_
  rcases zite hf with ⟨c14, hf⟩ | ⟨c14, hf⟩
  · refine z_if_ne B 57 dX7_readText_49 (by decide) (fun e => absurd c14 e) (fun _ => ?_)
    refine z_aload_n B dX7_readText_52 rfl 0 rfl ?_
    obtain ⟨w15, ew15, hf⟩ := zbs hf
    refine z_gI B fl_RX7_116 ew15 rfl dX7_readText_53 ?_
    cases hf
    exact z_iret B dX7_readText_56 (Nat.le_of_ble_eq_true rfl) (Nat.le_of_ble_eq_true rfl)
  refine z_if_ne B 57 dX7_readText_49 (by decide) (fun _ => ?_) (fun e => absurd e c14)
  refine z_aload_n B dX7_readText_57 rfl 0 rfl ?_
  refine z_dup B dX7_readText_58 rfl ?_
  obtain ⟨w16, ew16, hf⟩ := zbs hf
  refine z_gI B fl_RX7_116 ew16 rfl dX7_readText_59 ?_
  refine z_iconst (v := 1) B dX7_readText_62 (by decide) ?_
  refine z_iadd B dX7_readText_63 ?_
  obtain ⟨h17, eh17, hf⟩ := zbs hf
  refine z_pI B fl_RX7_116 eh17 rfl dX7_readText_64 ?_
  refine z_aload_n B dX7_readText_67 rfl 0 rfl ?_
  refine z_aload_n B dX7_readText_68 rfl 0 rfl ?_
  refine z_iconst (v := 5) B dX7_readText_69 (by decide) ?_
  refine z_iconst (v := 1) B dX7_readText_70 (by decide) ?_
  obtain ⟨w18, h19, ew18, hf⟩ := zb2s hf
  refine z_callVi B [.int 5, .int 1] [.ref a0] cw_X7_number mv_RX7_135 (tX7_number hst ew18) rfl (by decide) (kfX7_number ew18) ⟨rfl, rfl, (Nat.le_of_ble_eq_true rfl), (Nat.le_of_ble_eq_true rfl), (Nat.le_of_ble_eq_true rfl), (Nat.le_of_ble_eq_true rfl)⟩ rfl rfl (Nat.le_of_ble_eq_true rfl) dX7_readText_71 ?_
  obtain ⟨h20, eh20, hf⟩ := zbs hf
  refine z_pI B fl_RX7_147 eh20 rfl dX7_readText_74 ?_
  refine z_aload_n B dX7_readText_77 rfl 0 rfl ?_
  obtain ⟨w21, ew21, hf⟩ := zbs hf
  refine z_gI B fl_RX7_147 ew21 rfl dX7_readText_78 ?_
  refine z_bipush (v := (-9)) B dX7_readText_81 (by decide) ?_
  rcases zite hf with ⟨c22, hf⟩ | ⟨c22, hf⟩
  · refine z_icmp_ne B 91 dX7_readText_83 (by decide) (fun e => absurd c22 e) (fun _ => ?_)
    refine z_aload_n B dX7_readText_86 rfl 0 rfl ?_
    obtain ⟨w23, ew23, hf⟩ := zbs hf
    refine z_gI B fl_RX7_116 ew23 rfl dX7_readText_87 ?_
    cases hf
    exact z_iret B dX7_readText_90 (Nat.le_of_ble_eq_true rfl) (Nat.le_of_ble_eq_true rfl)
  refine z_icmp_ne B 91 dX7_readText_83 (by decide) (fun _ => ?_) (fun e => absurd e c22)
  refine fX7_readText_L91_ok B hst hE (fun h24 hf => ?_) _ _ hf
  refine z_bipush (v := (-9)) B dX7_readText_163 (by decide) ?_
  cases hf
  exact z_iret B dX7_readText_165 (Nat.le_of_ble_eq_true rfl) (Nat.le_of_ble_eq_true rfl)
abbrev rm_X7_errorPosition : Room := { frames := 5, cells := 0, slots := 0, locals := 115 }
set_option maxRecDepth 100000 in
set_option maxHeartbeats 4000000 in
theorem tX7_errorPosition {l : Launch} {G : zG} (hst : l.stackTraces = false) {h : zH} {a0 : Nat} {r : Int32 × zH} (hf : fX7_errorPosition h a0 = some r) : zMet l G yX7_errorPosition (.code yX7_errorPosition cX7_errorPosition 1 (some .int)) rm_X7_errorPosition 0 0 [.ref a0] h (zoi r) := by
  unfold fX7_errorPosition at hf
  obtain ⟨-, hf⟩ := zck hf
  refine z_enter (by decide) (Nat.le_of_ble_eq_true rfl) hst (fun x hx B hE => ?_)
  subst hx
  have B : zB G x cX7_errorPosition 1 RX7 "errorPosition" rm_X7_errorPosition (some .int) := B
  show zV G x 1 (zQ G x (zoi r) 0 0) h 0 0 0 [(0, .ref a0)] []
  refine z_aload_n B dX7_errorPosition_0 rfl 0 rfl ?_
  refine z_iconst (v := 0) B dX7_errorPosition_1 (by decide) ?_
  obtain ⟨h1, eh1, hf⟩ := zbs hf
  refine z_pI B fl_RX7_84 eh1 rfl dX7_errorPosition_2 ?_
  refine z_aload_n B dX7_errorPosition_5 rfl 0 rfl ?_
  obtain ⟨w2, h3, ew2, hf⟩ := zb2s hf
  refine z_callVi B [] [] cw_X7_readText mv_RX7_160 (tX7_readText hst ew2) rfl (by decide) (kfX7_readText ew2) ⟨rfl, rfl, (Nat.le_of_ble_eq_true rfl), (Nat.le_of_ble_eq_true rfl), (Nat.le_of_ble_eq_true rfl), (Nat.le_of_ble_eq_true rfl)⟩ rfl rfl (Nat.le_of_ble_eq_true rfl) dX7_errorPosition_6 ?_
  cases hf
  exact z_iret B dX7_errorPosition_9 (Nat.le_of_ble_eq_true rfl) (Nat.le_of_ble_eq_true rfl)
abbrev rm_X7_load : Room := { frames := 5, cells := 0, slots := 0, locals := 115 }
set_option maxRecDepth 100000 in
set_option maxHeartbeats 4000000 in
theorem fX7_load_L25_ok {G : zG} {x : zX} (B : zB G x cX7_load 2 RX7 "load" rm_X7_load (some .int)) (hst : (zl x).stackTraces = false) (hE : ∀ e ∈ (zc x).exceptionTable.toList, False) {r : Int32 × zH} {k : zH → Int32 → Option (Int32 × zH)} {u0 : Nat} (hk : ∀ h v1, k h v1 = some r → zV G x 2 (zQ G x (zoi r) 0 0) h 0 0 45 [(0, .ref u0), (1, .int v1)] []) : ∀ n h v1, fX7_load_L25 k u0 n h v1 = some r → zV G x 2 (zQ G x (zoi r) 0 0) h 0 0 25 [(0, .ref u0), (1, .int v1)] [] := by
  intro n
  induction n with
  | zero =>
    intro h v1 hf
    have hf : (none : Option (Int32 × zH)) = some r := hf
    cases hf
  | succ n ih =>
    intro h v1 hf
    rw [fX7_load_L25] at hf
    refine z_iload_n B dX7_load_25 rfl 1 rfl ?_
    refine z_sipush (v := 360) B dX7_load_26 (by decide) ?_
    rcases zite hf with ⟨c1, hf⟩ | ⟨c1, hf⟩
    · refine z_icmp_ge B 45 dX7_load_29 (by decide) (fun _ => ?_) (fun e => absurd c1 e)
      exact hk _ _ hf
    refine z_icmp_ge B 45 dX7_load_29 (by decide) (fun e => absurd e c1) (fun _ => ?_)
    refine z_aload_n B dX7_load_32 rfl 0 rfl ?_
    obtain ⟨w2, ew2, hf⟩ := zbs hf
    refine z_gP B fl_RX7_56 ew2 rfl dX7_load_33 ?_
    refine z_iload_n B dX7_load_36 rfl 1 rfl ?_
    refine z_iconst (v := 0) B dX7_load_37 (by decide) ?_
    obtain ⟨h3, eh3, hf⟩ := zbs hf
    refine z_bI B eh3 dX7_load_38 ?_
    refine z_iinc (v' := (v1 + 1)) (lv' := [(1, .int (v1 + 1)), (0, .ref u0)]) B dX7_load_39 1 rfl rfl (by decide) rfl ?_
    refine z_goto B 25 dX7_load_42 (by decide) ?_
    refine zV.sub [1, 0] rfl ?_
    exact ih _ _ hf
set_option maxRecDepth 100000 in
set_option maxHeartbeats 4000000 in
theorem fX7_load_L81_ok {G : zG} {x : zX} (B : zB G x cX7_load 2 RX7 "load" rm_X7_load (some .int)) (hst : (zl x).stackTraces = false) (hE : ∀ e ∈ (zc x).exceptionTable.toList, False) {r : Int32 × zH} {k : zH → Int32 → Option (Int32 × zH)} {u0 : Nat} (hk : ∀ h v1, k h v1 = some r → zV G x 2 (zQ G x (zoi r) 0 0) h 0 0 157 [(0, .ref u0), (1, .int v1)] []) : ∀ n h v1, fX7_load_L81 k u0 n h v1 = some r → zV G x 2 (zQ G x (zoi r) 0 0) h 0 0 81 [(0, .ref u0), (1, .int v1)] [] := by
  intro n
  induction n with
  | zero =>
    intro h v1 hf
    have hf : (none : Option (Int32 × zH)) = some r := hf
    cases hf
  | succ n ih =>
    intro h v1 hf
    rw [fX7_load_L81] at hf
    refine z_iload_n B dX7_load_81 rfl 1 rfl ?_
    refine z_aload_n B dX7_load_82 rfl 0 rfl ?_
    obtain ⟨w1, ew1, hf⟩ := zbs hf
    refine z_gI B fl_RX7_101 ew1 rfl dX7_load_83 ?_
    rcases zite hf with ⟨c2, hf⟩ | ⟨c2, hf⟩
    · refine z_icmp_ge B 157 dX7_load_86 (by decide) (fun _ => ?_) (fun e => absurd c2 e)
      exact hk _ _ hf
    refine z_icmp_ge B 157 dX7_load_86 (by decide) (fun e => absurd e c2) (fun _ => ?_)
    refine z_aload_n B dX7_load_89 rfl 0 rfl ?_
    obtain ⟨w3, ew3, hf⟩ := zbs hf
    refine z_gP B fl_RX7_17 ew3 rfl dX7_load_90 ?_
    refine z_iload_n B dX7_load_93 rfl 1 rfl ?_
    refine z_aload_n B dX7_load_94 rfl 0 rfl ?_
    obtain ⟨w4, ew4, hf⟩ := zbs hf
    refine z_gP B fl_RX7_35 ew4 rfl dX7_load_95 ?_
    refine z_iload_n B dX7_load_98 rfl 1 rfl ?_
    obtain ⟨w5, ew5, hf⟩ := zbs hf
    refine z_aI B ew5 dX7_load_99 ?_
    obtain ⟨h6, eh6, hf⟩ := zbs hf
    refine z_bI B eh6 dX7_load_100 ?_
    refine z_aload_n B dX7_load_101 rfl 0 rfl ?_
    obtain ⟨w7, ew7, hf⟩ := zbs hf
    refine z_gP B fl_RX7_20 ew7 rfl dX7_load_102 ?_
    refine z_iload_n B dX7_load_105 rfl 1 rfl ?_
    refine z_aload_n B dX7_load_106 rfl 0 rfl ?_
    obtain ⟨w8, ew8, hf⟩ := zbs hf
    refine z_gP B fl_RX7_38 ew8 rfl dX7_load_107 ?_
    refine z_iload_n B dX7_load_110 rfl 1 rfl ?_
    obtain ⟨w9, ew9, hf⟩ := zbs hf
    refine z_aI B ew9 dX7_load_111 ?_
    obtain ⟨h10, eh10, hf⟩ := zbs hf
    refine z_bI B eh10 dX7_load_112 ?_
    refine z_aload_n B dX7_load_113 rfl 0 rfl ?_
    obtain ⟨w11, ew11, hf⟩ := zbs hf
    refine z_gP B fl_RX7_56 ew11 rfl dX7_load_114 ?_
    refine z_iconst (v := 4) B dX7_load_117 (by decide) ?_
    refine z_iload_n B dX7_load_118 rfl 1 rfl ?_
    refine z_iadd B dX7_load_119 ?_
    refine z_aload_n B dX7_load_120 rfl 0 rfl ?_
    obtain ⟨w12, ew12, hf⟩ := zbs hf
    refine z_gP B fl_RX7_41 ew12 rfl dX7_load_121 ?_
    refine z_iload_n B dX7_load_124 rfl 1 rfl ?_
    obtain ⟨w13, ew13, hf⟩ := zbs hf
    refine z_aI B ew13 dX7_load_125 ?_
    obtain ⟨h14, eh14, hf⟩ := zbs hf
    refine z_bI B eh14 dX7_load_126 ?_
    refine z_aload_n B dX7_load_127 rfl 0 rfl ?_
    obtain ⟨w15, ew15, hf⟩ := zbs hf
    refine z_gP B fl_RX7_23 ew15 rfl dX7_load_128 ?_
    refine z_iload_n B dX7_load_131 rfl 1 rfl ?_
    refine z_aload_n B dX7_load_132 rfl 0 rfl ?_
    obtain ⟨w16, ew16, hf⟩ := zbs hf
    refine z_gP B fl_RX7_44 ew16 rfl dX7_load_133 ?_
    refine z_iload_n B dX7_load_136 rfl 1 rfl ?_
    obtain ⟨w17, ew17, hf⟩ := zbs hf
    refine z_aI B ew17 dX7_load_137 ?_
    obtain ⟨h18, eh18, hf⟩ := zbs hf
    refine z_bI B eh18 dX7_load_138 ?_
    refine z_aload_n B dX7_load_139 rfl 0 rfl ?_
    obtain ⟨w19, ew19, hf⟩ := zbs hf
    refine z_gP B fl_RX7_26 ew19 rfl dX7_load_140 ?_
    refine z_iload_n B dX7_load_143 rfl 1 rfl ?_
    refine z_aload_n B dX7_load_144 rfl 0 rfl ?_
    obtain ⟨w20, ew20, hf⟩ := zbs hf
    refine z_gP B fl_RX7_47 ew20 rfl dX7_load_145 ?_
    refine z_iload_n B dX7_load_148 rfl 1 rfl ?_
    obtain ⟨w21, ew21, hf⟩ := zbs hf
    refine z_aI B ew21 dX7_load_149 ?_
    obtain ⟨h22, eh22, hf⟩ := zbs hf
    refine z_bI B eh22 dX7_load_150 ?_
    refine z_iinc (v' := (v1 + 1)) (lv' := [(1, .int (v1 + 1)), (0, .ref u0)]) B dX7_load_151 1 rfl rfl (by decide) rfl ?_
    refine z_goto B 81 dX7_load_154 (by decide) ?_
    refine zV.sub [1, 0] rfl ?_
    exact ih _ _ hf
set_option maxRecDepth 100000 in
set_option maxHeartbeats 4000000 in
theorem tX7_load {l : Launch} {G : zG} (hst : l.stackTraces = false) {h : zH} {a0 : Nat} {r : Int32 × zH} (hf : fX7_load h a0 = some r) : zMet l G yX7_load (.code yX7_load cX7_load 2 (some .int)) rm_X7_load 0 0 [.ref a0] h (zoi r) := by
  unfold fX7_load at hf
  obtain ⟨-, hf⟩ := zck hf
  refine z_enter (by decide) (Nat.le_of_ble_eq_true rfl) hst (fun x hx B hE => ?_)
  subst hx
  have B : zB G x cX7_load 2 RX7 "load" rm_X7_load (some .int) := B
  show zV G x 2 (zQ G x (zoi r) 0 0) h 0 0 0 [(0, .ref a0)] []
  refine z_aload_n B dX7_load_0 rfl 0 rfl ?_
  refine z_aload_n B dX7_load_1 rfl 0 rfl ?_
  obtain ⟨w1, h2, ew1, hf⟩ := zb2s hf
  refine z_callVi B [] [.ref a0] cw_X7_readText mv_RX7_160 (tX7_readText hst ew1) rfl (by decide) (kfX7_readText ew1) ⟨rfl, rfl, (Nat.le_of_ble_eq_true rfl), (Nat.le_of_ble_eq_true rfl), (Nat.le_of_ble_eq_true rfl), (Nat.le_of_ble_eq_true rfl)⟩ rfl rfl (Nat.le_of_ble_eq_true rfl) dX7_load_2 ?_
  refine z_bipush (v := (-9)) B dX7_load_5 (by decide) ?_
  rcases zite hf with ⟨c3, hf⟩ | ⟨c3, hf⟩
  · refine z_icmp_ne B 14 dX7_load_7 (by decide) (fun e => absurd c3 e) (fun _ => ?_)
    refine z_iconst (v := 0) B dX7_load_10 (by decide) ?_
    refine z_goto B 15 dX7_load_11 (by decide) ?_
    obtain ⟨w4, h5, ew4, hf⟩ := zb2s hf
    refine z_callVi B [.int 0] [] cw_X7_refused mv_RX7_112 (tX7_refused hst ew4) rfl (by decide) (kfX7_refused ew4) ⟨rfl, rfl, (Nat.le_of_ble_eq_true rfl), (Nat.le_of_ble_eq_true rfl), (Nat.le_of_ble_eq_true rfl), (Nat.le_of_ble_eq_true rfl)⟩ rfl rfl (Nat.le_of_ble_eq_true rfl) dX7_load_15 ?_
    rcases zite hf with ⟨c6, hf⟩ | ⟨c6, hf⟩
    · refine z_if_eq B 23 dX7_load_18 (by decide) (fun _ => ?_) (fun e => absurd c6 e)
      refine z_iconst (v := 0) B dX7_load_23 (by decide) ?_
      refine z_istore_n (lv' := [(1, .int 0), (0, .ref a0)]) B dX7_load_24 rfl (by decide) rfl ?_
      refine zV.sub [1, 0] rfl ?_
      refine fX7_load_L25_ok B hst hE (fun h7 y8 hf => ?_) _ _ _ hf
      refine z_aload_n B dX7_load_45 rfl 0 rfl ?_
      refine z_aload_n B dX7_load_46 rfl 0 rfl ?_
      obtain ⟨w9, ew9, hf⟩ := zbs hf
      refine z_gI B fl_RX7_128 ew9 rfl dX7_load_47 ?_
      obtain ⟨h10, eh10, hf⟩ := zbs hf
      refine z_pI B fl_RX7_13 eh10 rfl dX7_load_50 ?_
      refine z_aload_n B dX7_load_53 rfl 0 rfl ?_
      refine z_aload_n B dX7_load_54 rfl 0 rfl ?_
      obtain ⟨w11, ew11, hf⟩ := zbs hf
      refine z_gI B fl_RX7_125 ew11 rfl dX7_load_55 ?_
      obtain ⟨h12, eh12, hf⟩ := zbs hf
      refine z_pI B fl_RX7_101 eh12 rfl dX7_load_58 ?_
      refine z_aload_n B dX7_load_61 rfl 0 rfl ?_
      refine z_aload_n B dX7_load_62 rfl 0 rfl ?_
      obtain ⟨w13, ew13, hf⟩ := zbs hf
      refine z_gI B fl_RX7_142 ew13 rfl dX7_load_63 ?_
      obtain ⟨h14, eh14, hf⟩ := zbs hf
      refine z_pI B fl_RX7_104 eh14 rfl dX7_load_66 ?_
      refine z_aload_n B dX7_load_69 rfl 0 rfl ?_
      obtain ⟨w15, ew15, hf⟩ := zbs hf
      refine z_gP B fl_RX7_56 ew15 rfl dX7_load_70 ?_
      refine z_iconst (v := 3) B dX7_load_73 (by decide) ?_
      refine z_aload_n B dX7_load_74 rfl 0 rfl ?_
      obtain ⟨w16, ew16, hf⟩ := zbs hf
      refine z_gI B fl_RX7_147 ew16 rfl dX7_load_75 ?_
      obtain ⟨h17, eh17, hf⟩ := zbs hf
      refine z_bI B eh17 dX7_load_78 ?_
      refine z_iconst (v := 0) B dX7_load_79 (by decide) ?_
      refine z_istore_n (lv' := [(1, .int 0), (0, .ref a0)]) B dX7_load_80 rfl (by decide) rfl ?_
      refine zV.sub [1, 0] rfl ?_
      refine fX7_load_L81_ok B hst hE (fun h18 y19 hf => ?_) _ _ _ hf
      refine z_aload_n B dX7_load_157 rfl 0 rfl ?_
      obtain ⟨w20, ew20, hf⟩ := zbs hf
      refine z_gP B fl_RX7_50 ew20 rfl dX7_load_158 ?_
      refine z_iconst (v := 0) B dX7_load_161 (by decide) ?_
      refine z_aload_n B dX7_load_162 rfl 0 rfl ?_
      obtain ⟨w21, ew21, hf⟩ := zbs hf
      refine z_gP B fl_RX7_29 ew21 rfl dX7_load_163 ?_
      refine z_iconst (v := 0) B dX7_load_166 (by decide) ?_
      refine z_bipush (v := 6) B dX7_load_167 (by decide) ?_
      obtain ⟨h22, eh22, hf⟩ := zbs hf
      refine z_callSv B [.ref w20, .int 0, .ref w21, .int 0, .int 6] [] cw_X7_copyRow mt_RX7_90 (tX7_copyRow hst eh22) ⟨rfl, rfl, (Nat.le_of_ble_eq_true rfl), (Nat.le_of_ble_eq_true rfl), (Nat.le_of_ble_eq_true rfl), (Nat.le_of_ble_eq_true rfl)⟩ rfl rfl (Nat.le_of_ble_eq_true rfl) dX7_load_169 ?_
      refine z_aload_n B dX7_load_172 rfl 0 rfl ?_
      obtain ⟨w23, ew23, hf⟩ := zbs hf
      refine z_gP B fl_RX7_53 ew23 rfl dX7_load_173 ?_
      refine z_iconst (v := 0) B dX7_load_176 (by decide) ?_
      refine z_aload_n B dX7_load_177 rfl 0 rfl ?_
      obtain ⟨w24, ew24, hf⟩ := zbs hf
      refine z_gP B fl_RX7_32 ew24 rfl dX7_load_178 ?_
      refine z_iconst (v := 0) B dX7_load_181 (by decide) ?_
      refine z_bipush (v := 6) B dX7_load_182 (by decide) ?_
      obtain ⟨h25, eh25, hf⟩ := zbs hf
      refine z_callSv B [.ref w23, .int 0, .ref w24, .int 0, .int 6] [] cw_X7_copyRow mt_RX7_90 (tX7_copyRow hst eh25) ⟨rfl, rfl, (Nat.le_of_ble_eq_true rfl), (Nat.le_of_ble_eq_true rfl), (Nat.le_of_ble_eq_true rfl), (Nat.le_of_ble_eq_true rfl)⟩ rfl rfl (Nat.le_of_ble_eq_true rfl) dX7_load_184 ?_
      refine z_aload_n B dX7_load_187 rfl 0 rfl ?_
      refine z_iconst (v := 0) B dX7_load_188 (by decide) ?_
      obtain ⟨h26, eh26, hf⟩ := zbs hf
      refine z_pI B fl_RX7_87 eh26 rfl dX7_load_189 ?_
      refine z_aload_n B dX7_load_192 rfl 0 rfl ?_
      obtain ⟨w27, ew27, hf⟩ := zbs hf
      refine z_gP B fl_RX7_71 ew27 rfl dX7_load_193 ?_
      refine z_iconst (v := 0) B dX7_load_196 (by decide) ?_
      refine z_iconst (v := 0) B dX7_load_197 (by decide) ?_
      obtain ⟨h28, eh28, hf⟩ := zbs hf
      refine z_bZ B eh28 dX7_load_198 ?_
      refine z_aload_n B dX7_load_199 rfl 0 rfl ?_
      obtain ⟨w29, ew29, hf⟩ := zbs hf
      refine z_gP B fl_RX7_71 ew29 rfl dX7_load_200 ?_
      refine z_iconst (v := 1) B dX7_load_203 (by decide) ?_
      refine z_iconst (v := 0) B dX7_load_204 (by decide) ?_
      obtain ⟨h30, eh30, hf⟩ := zbs hf
      refine z_bZ B eh30 dX7_load_205 ?_
      refine z_aload_n B dX7_load_206 rfl 0 rfl ?_
      obtain ⟨w31, ew31, hf⟩ := zbs hf
      refine z_gI B fl_RX7_101 ew31 rfl dX7_load_207 ?_
      cases hf
      exact z_iret B dX7_load_210 (Nat.le_of_ble_eq_true rfl) (Nat.le_of_ble_eq_true rfl)
    refine z_if_eq B 23 dX7_load_18 (by decide) (fun e => absurd e c6) (fun _ => ?_)
    refine z_iconst (v := 0) B dX7_load_21 (by decide) ?_
    cases hf
    exact z_iret B dX7_load_22 (Nat.le_of_ble_eq_true rfl) (Nat.le_of_ble_eq_true rfl)
  refine z_icmp_ne B 14 dX7_load_7 (by decide) (fun _ => ?_) (fun e => absurd e c3)
  refine z_iconst (v := 1) B dX7_load_14 (by decide) ?_
  obtain ⟨w32, h33, ew32, hf⟩ := zb2s hf
  refine z_callVi B [.int 1] [] cw_X7_refused mv_RX7_112 (tX7_refused hst ew32) rfl (by decide) (kfX7_refused ew32) ⟨rfl, rfl, (Nat.le_of_ble_eq_true rfl), (Nat.le_of_ble_eq_true rfl), (Nat.le_of_ble_eq_true rfl), (Nat.le_of_ble_eq_true rfl)⟩ rfl rfl (Nat.le_of_ble_eq_true rfl) dX7_load_15 ?_
  rcases zite hf with ⟨c34, hf⟩ | ⟨c34, hf⟩
  · refine z_if_eq B 23 dX7_load_18 (by decide) (fun _ => ?_) (fun e => absurd c34 e)
    refine z_iconst (v := 0) B dX7_load_23 (by decide) ?_
    refine z_istore_n (lv' := [(1, .int 0), (0, .ref a0)]) B dX7_load_24 rfl (by decide) rfl ?_
    refine zV.sub [1, 0] rfl ?_
    refine fX7_load_L25_ok B hst hE (fun h35 y36 hf => ?_) _ _ _ hf
    refine z_aload_n B dX7_load_45 rfl 0 rfl ?_
    refine z_aload_n B dX7_load_46 rfl 0 rfl ?_
    obtain ⟨w37, ew37, hf⟩ := zbs hf
    refine z_gI B fl_RX7_128 ew37 rfl dX7_load_47 ?_
    obtain ⟨h38, eh38, hf⟩ := zbs hf
    refine z_pI B fl_RX7_13 eh38 rfl dX7_load_50 ?_
    refine z_aload_n B dX7_load_53 rfl 0 rfl ?_
    refine z_aload_n B dX7_load_54 rfl 0 rfl ?_
    obtain ⟨w39, ew39, hf⟩ := zbs hf
    refine z_gI B fl_RX7_125 ew39 rfl dX7_load_55 ?_
    obtain ⟨h40, eh40, hf⟩ := zbs hf
    refine z_pI B fl_RX7_101 eh40 rfl dX7_load_58 ?_
    refine z_aload_n B dX7_load_61 rfl 0 rfl ?_
    refine z_aload_n B dX7_load_62 rfl 0 rfl ?_
    obtain ⟨w41, ew41, hf⟩ := zbs hf
    refine z_gI B fl_RX7_142 ew41 rfl dX7_load_63 ?_
    obtain ⟨h42, eh42, hf⟩ := zbs hf
    refine z_pI B fl_RX7_104 eh42 rfl dX7_load_66 ?_
    refine z_aload_n B dX7_load_69 rfl 0 rfl ?_
    obtain ⟨w43, ew43, hf⟩ := zbs hf
    refine z_gP B fl_RX7_56 ew43 rfl dX7_load_70 ?_
    refine z_iconst (v := 3) B dX7_load_73 (by decide) ?_
    refine z_aload_n B dX7_load_74 rfl 0 rfl ?_
    obtain ⟨w44, ew44, hf⟩ := zbs hf
    refine z_gI B fl_RX7_147 ew44 rfl dX7_load_75 ?_
    obtain ⟨h45, eh45, hf⟩ := zbs hf
    refine z_bI B eh45 dX7_load_78 ?_
    refine z_iconst (v := 0) B dX7_load_79 (by decide) ?_
    refine z_istore_n (lv' := [(1, .int 0), (0, .ref a0)]) B dX7_load_80 rfl (by decide) rfl ?_
    refine zV.sub [1, 0] rfl ?_
    refine fX7_load_L81_ok B hst hE (fun h46 y47 hf => ?_) _ _ _ hf
    refine z_aload_n B dX7_load_157 rfl 0 rfl ?_
    obtain ⟨w48, ew48, hf⟩ := zbs hf
    refine z_gP B fl_RX7_50 ew48 rfl dX7_load_158 ?_
    refine z_iconst (v := 0) B dX7_load_161 (by decide) ?_
    refine z_aload_n B dX7_load_162 rfl 0 rfl ?_
    obtain ⟨w49, ew49, hf⟩ := zbs hf
    refine z_gP B fl_RX7_29 ew49 rfl dX7_load_163 ?_
    refine z_iconst (v := 0) B dX7_load_166 (by decide) ?_
    refine z_bipush (v := 6) B dX7_load_167 (by decide) ?_
    obtain ⟨h50, eh50, hf⟩ := zbs hf
    refine z_callSv B [.ref w48, .int 0, .ref w49, .int 0, .int 6] [] cw_X7_copyRow mt_RX7_90 (tX7_copyRow hst eh50) ⟨rfl, rfl, (Nat.le_of_ble_eq_true rfl), (Nat.le_of_ble_eq_true rfl), (Nat.le_of_ble_eq_true rfl), (Nat.le_of_ble_eq_true rfl)⟩ rfl rfl (Nat.le_of_ble_eq_true rfl) dX7_load_169 ?_
    refine z_aload_n B dX7_load_172 rfl 0 rfl ?_
    obtain ⟨w51, ew51, hf⟩ := zbs hf
    refine z_gP B fl_RX7_53 ew51 rfl dX7_load_173 ?_
    refine z_iconst (v := 0) B dX7_load_176 (by decide) ?_
    refine z_aload_n B dX7_load_177 rfl 0 rfl ?_
    obtain ⟨w52, ew52, hf⟩ := zbs hf
    refine z_gP B fl_RX7_32 ew52 rfl dX7_load_178 ?_
    refine z_iconst (v := 0) B dX7_load_181 (by decide) ?_
    refine z_bipush (v := 6) B dX7_load_182 (by decide) ?_
    obtain ⟨h53, eh53, hf⟩ := zbs hf
    refine z_callSv B [.ref w51, .int 0, .ref w52, .int 0, .int 6] [] cw_X7_copyRow mt_RX7_90 (tX7_copyRow hst eh53) ⟨rfl, rfl, (Nat.le_of_ble_eq_true rfl), (Nat.le_of_ble_eq_true rfl), (Nat.le_of_ble_eq_true rfl), (Nat.le_of_ble_eq_true rfl)⟩ rfl rfl (Nat.le_of_ble_eq_true rfl) dX7_load_184 ?_
    refine z_aload_n B dX7_load_187 rfl 0 rfl ?_
    refine z_iconst (v := 0) B dX7_load_188 (by decide) ?_
    obtain ⟨h54, eh54, hf⟩ := zbs hf
    refine z_pI B fl_RX7_87 eh54 rfl dX7_load_189 ?_
    refine z_aload_n B dX7_load_192 rfl 0 rfl ?_
    obtain ⟨w55, ew55, hf⟩ := zbs hf
    refine z_gP B fl_RX7_71 ew55 rfl dX7_load_193 ?_
    refine z_iconst (v := 0) B dX7_load_196 (by decide) ?_
    refine z_iconst (v := 0) B dX7_load_197 (by decide) ?_
    obtain ⟨h56, eh56, hf⟩ := zbs hf
    refine z_bZ B eh56 dX7_load_198 ?_
    refine z_aload_n B dX7_load_199 rfl 0 rfl ?_
    obtain ⟨w57, ew57, hf⟩ := zbs hf
    refine z_gP B fl_RX7_71 ew57 rfl dX7_load_200 ?_
    refine z_iconst (v := 1) B dX7_load_203 (by decide) ?_
    refine z_iconst (v := 0) B dX7_load_204 (by decide) ?_
    obtain ⟨h58, eh58, hf⟩ := zbs hf
    refine z_bZ B eh58 dX7_load_205 ?_
    refine z_aload_n B dX7_load_206 rfl 0 rfl ?_
    obtain ⟨w59, ew59, hf⟩ := zbs hf
    refine z_gI B fl_RX7_101 ew59 rfl dX7_load_207 ?_
    cases hf
    exact z_iret B dX7_load_210 (Nat.le_of_ble_eq_true rfl) (Nat.le_of_ble_eq_true rfl)
  refine z_if_eq B 23 dX7_load_18 (by decide) (fun e => absurd e c34) (fun _ => ?_)
  refine z_iconst (v := 0) B dX7_load_21 (by decide) ?_
  cases hf
  exact z_iret B dX7_load_22 (Nat.le_of_ble_eq_true rfl) (Nat.le_of_ble_eq_true rfl)
abbrev rm_X7_sizeOf : Room := { frames := 1, cells := 0, slots := 0, locals := 20 }
set_option maxRecDepth 100000 in
set_option maxHeartbeats 4000000 in
theorem fX7_sizeOf_L4_ok {G : zG} {x : zX} (B : zB G x cX7_sizeOf 4 RX7 "sizeOf" rm_X7_sizeOf (some .int)) (hst : (zl x).stackTraces = false) (hE : ∀ e ∈ (zc x).exceptionTable.toList, False) {r : Int32 × zH} {k : zH → Int32 → Int32 → Option (Int32 × zH)} {u0 : Nat} {u1 : Int32} (hk : ∀ h v2 v3, k h v2 v3 = some r → zV G x 4 (zQ G x (zoi r) 0 0) h 0 0 29 [(0, .ref u0), (1, .int u1), (2, .int v2), (3, .int v3)] []) : ∀ n h v2 v3, fX7_sizeOf_L4 k u0 u1 n h v2 v3 = some r → zV G x 4 (zQ G x (zoi r) 0 0) h 0 0 4 [(0, .ref u0), (1, .int u1), (2, .int v2), (3, .int v3)] [] := by
  intro n
  induction n with
  | zero =>
    intro h v2 v3 hf
    have hf : (none : Option (Int32 × zH)) = some r := hf
    cases hf
  | succ n ih =>
    intro h v2 v3 hf
    rw [fX7_sizeOf_L4] at hf
    refine z_iload_n B dX7_sizeOf_4 rfl 3 rfl ?_
    refine z_bipush (v := 8) B dX7_sizeOf_5 (by decide) ?_
    rcases zite hf with ⟨c1, hf⟩ | ⟨c1, hf⟩
    · refine z_icmp_ge B 29 dX7_sizeOf_7 (by decide) (fun _ => ?_) (fun e => absurd c1 e)
      exact hk _ _ _ hf
    refine z_icmp_ge B 29 dX7_sizeOf_7 (by decide) (fun e => absurd e c1) (fun _ => ?_)
    refine z_iload_n B dX7_sizeOf_10 rfl 2 rfl ?_
    refine z_aload_n B dX7_sizeOf_11 rfl 0 rfl ?_
    refine z_iload_n B dX7_sizeOf_12 rfl 1 rfl ?_
    obtain ⟨w2, h3, ew2, hf⟩ := zb2s hf
    refine z_callSi B [.int u1] [.ref u0, .int v2] cw_X7_at mt_RX7_163 (tX7_at hst ew2) ⟨rfl, rfl, (Nat.le_of_ble_eq_true rfl), (Nat.le_of_ble_eq_true rfl), (Nat.le_of_ble_eq_true rfl), (Nat.le_of_ble_eq_true rfl)⟩ rfl rfl (Nat.le_of_ble_eq_true rfl) dX7_sizeOf_13 ?_
    refine z_iconst (v := 0) B dX7_sizeOf_16 (by decide) ?_
    refine z_iadd B dX7_sizeOf_17 ?_
    refine z_iload_n B dX7_sizeOf_18 rfl 3 rfl ?_
    refine z_iadd B dX7_sizeOf_19 ?_
    obtain ⟨w4, ew4, hf⟩ := zbs hf
    refine z_aI B ew4 dX7_sizeOf_20 ?_
    refine z_iadd B dX7_sizeOf_21 ?_
    refine z_istore_n (lv' := [(2, .int ((v2 : Int32) + w4)), (0, .ref u0), (1, .int u1), (3, .int v3)]) B dX7_sizeOf_22 rfl (by decide) rfl ?_
    refine z_iinc (v' := (v3 + 1)) (lv' := [(3, .int (v3 + 1)), (2, .int ((v2 : Int32) + w4)), (0, .ref u0), (1, .int u1)]) B dX7_sizeOf_23 3 rfl rfl (by decide) rfl ?_
    refine z_goto B 4 dX7_sizeOf_26 (by decide) ?_
    refine zV.sub [2, 3, 1, 0] rfl ?_
    exact ih _ _ _ hf
set_option maxRecDepth 100000 in
set_option maxHeartbeats 4000000 in
theorem tX7_sizeOf {l : Launch} {G : zG} (hst : l.stackTraces = false) {h : zH} {a0 : Nat} {a1 : Int32} {r : Int32 × zH} (hf : fX7_sizeOf h a0 a1 = some r) : zMet l G yX7_sizeOf (.code yX7_sizeOf cX7_sizeOf 4 (some .int)) rm_X7_sizeOf 0 0 [.ref a0, .int a1] h (zoi r) := by
  unfold fX7_sizeOf at hf
  refine z_enter (by decide) (Nat.le_of_ble_eq_true rfl) hst (fun x hx B hE => ?_)
  subst hx
  have B : zB G x cX7_sizeOf 4 RX7 "sizeOf" rm_X7_sizeOf (some .int) := B
  show zV G x 4 (zQ G x (zoi r) 0 0) h 0 0 0 [(0, .ref a0), (1, .int a1)] []
  refine z_iconst (v := 0) B dX7_sizeOf_0 (by decide) ?_
  refine z_istore_n (lv' := [(2, .int 0), (0, .ref a0), (1, .int a1)]) B dX7_sizeOf_1 rfl (by decide) rfl ?_
  refine z_iconst (v := 0) B dX7_sizeOf_2 (by decide) ?_
  refine z_istore_n (lv' := [(3, .int 0), (2, .int 0), (0, .ref a0), (1, .int a1)]) B dX7_sizeOf_3 rfl (by decide) rfl ?_
  refine zV.sub [2, 3, 1, 0] rfl ?_
  refine fX7_sizeOf_L4_ok B hst hE (fun h1 y2 y3 hf => ?_) _ _ _ _ hf
  refine z_iload_n B dX7_sizeOf_29 rfl 2 rfl ?_
  cases hf
  exact z_iret B dX7_sizeOf_30 (Nat.le_of_ble_eq_true rfl) (Nat.le_of_ble_eq_true rfl)
abbrev rm_X7_used : Room := { frames := 2, cells := 0, slots := 0, locals := 43 }
set_option maxRecDepth 100000 in
set_option maxHeartbeats 4000000 in
theorem fX7_used_L4_ok {G : zG} {x : zX} (B : zB G x cX7_used 3 RX7 "used" rm_X7_used (some .int)) (hst : (zl x).stackTraces = false) (hE : ∀ e ∈ (zc x).exceptionTable.toList, False) {r : Int32 × zH} {k : zH → Int32 → Int32 → Option (Int32 × zH)} {u0 : Nat} (hk : ∀ h v1 v2, k h v1 v2 = some r → zV G x 3 (zQ G x (zoi r) 0 0) h 0 0 25 [(0, .ref u0), (1, .int v1), (2, .int v2)] []) : ∀ n h v1 v2, fX7_used_L4 k u0 n h v1 v2 = some r → zV G x 3 (zQ G x (zoi r) 0 0) h 0 0 4 [(0, .ref u0), (1, .int v1), (2, .int v2)] [] := by
  intro n
  induction n with
  | zero =>
    intro h v1 v2 hf
    have hf : (none : Option (Int32 × zH)) = some r := hf
    cases hf
  | succ n ih =>
    intro h v1 v2 hf
    rw [fX7_used_L4] at hf
    refine z_iload_n B dX7_used_4 rfl 2 rfl ?_
    refine z_aload_n B dX7_used_5 rfl 0 rfl ?_
    refine z_iconst (v := 0) B dX7_used_6 (by decide) ?_
    obtain ⟨w1, ew1, hf⟩ := zbs hf
    refine z_aI B ew1 dX7_used_7 ?_
    rcases zite hf with ⟨c2, hf⟩ | ⟨c2, hf⟩
    · refine z_icmp_ge B 25 dX7_used_8 (by decide) (fun _ => ?_) (fun e => absurd c2 e)
      exact hk _ _ _ hf
    refine z_icmp_ge B 25 dX7_used_8 (by decide) (fun e => absurd e c2) (fun _ => ?_)
    refine z_iload_n B dX7_used_11 rfl 1 rfl ?_
    refine z_aload_n B dX7_used_12 rfl 0 rfl ?_
    refine z_iload_n B dX7_used_13 rfl 2 rfl ?_
    obtain ⟨w3, h4, ew3, hf⟩ := zb2s hf
    refine z_callSi B [.ref u0, .int v2] [.int v1] cw_X7_sizeOf mt_RX7_166 (tX7_sizeOf hst ew3) ⟨rfl, rfl, (Nat.le_of_ble_eq_true rfl), (Nat.le_of_ble_eq_true rfl), (Nat.le_of_ble_eq_true rfl), (Nat.le_of_ble_eq_true rfl)⟩ rfl rfl (Nat.le_of_ble_eq_true rfl) dX7_used_14 ?_
    refine z_iadd B dX7_used_17 ?_
    refine z_istore_n (lv' := [(1, .int ((v1 : Int32) + w3)), (0, .ref u0), (2, .int v2)]) B dX7_used_18 rfl (by decide) rfl ?_
    refine z_iinc (v' := (v2 + 1)) (lv' := [(2, .int (v2 + 1)), (1, .int ((v1 : Int32) + w3)), (0, .ref u0)]) B dX7_used_19 2 rfl rfl (by decide) rfl ?_
    refine z_goto B 4 dX7_used_22 (by decide) ?_
    refine zV.sub [2, 1, 0] rfl ?_
    exact ih _ _ _ hf
set_option maxRecDepth 100000 in
set_option maxHeartbeats 4000000 in
theorem tX7_used {l : Launch} {G : zG} (hst : l.stackTraces = false) {h : zH} {a0 : Nat} {r : Int32 × zH} (hf : fX7_used h a0 = some r) : zMet l G yX7_used (.code yX7_used cX7_used 3 (some .int)) rm_X7_used 0 0 [.ref a0] h (zoi r) := by
  unfold fX7_used at hf
  refine z_enter (by decide) (Nat.le_of_ble_eq_true rfl) hst (fun x hx B hE => ?_)
  subst hx
  have B : zB G x cX7_used 3 RX7 "used" rm_X7_used (some .int) := B
  show zV G x 3 (zQ G x (zoi r) 0 0) h 0 0 0 [(0, .ref a0)] []
  refine z_iconst (v := 0) B dX7_used_0 (by decide) ?_
  refine z_istore_n (lv' := [(1, .int 0), (0, .ref a0)]) B dX7_used_1 rfl (by decide) rfl ?_
  refine z_iconst (v := 0) B dX7_used_2 (by decide) ?_
  refine z_istore_n (lv' := [(2, .int 0), (1, .int 0), (0, .ref a0)]) B dX7_used_3 rfl (by decide) rfl ?_
  refine zV.sub [2, 1, 0] rfl ?_
  refine fX7_used_L4_ok B hst hE (fun h1 y2 y3 hf => ?_) _ _ _ _ hf
  refine z_iload_n B dX7_used_25 rfl 1 rfl ?_
  cases hf
  exact z_iret B dX7_used_26 (Nat.le_of_ble_eq_true rfl) (Nat.le_of_ble_eq_true rfl)
abbrev rm_X7_formsOf : Room := { frames := 1, cells := 0, slots := 0, locals := 20 }
set_option maxRecDepth 100000 in
set_option maxHeartbeats 4000000 in
theorem fX7_formsOf_L5_ok {G : zG} {x : zX} (B : zB G x cX7_formsOf 5 RX7 "formsOf" rm_X7_formsOf (some .int)) (hst : (zl x).stackTraces = false) (hE : ∀ e ∈ (zc x).exceptionTable.toList, False) {r : Int32 × zH} {k : zH → Int32 → Int32 → Option (Int32 × zH)} {u0 : Nat} {u1 : Int32} {u2 : Int32} (hk : ∀ h v3 v4, k h v3 v4 = some r → zV G x 5 (zQ G x (zoi r) 0 0) h 0 0 45 [(0, .ref u0), (1, .int u1), (2, .int u2), (3, .int v3), (4, .int v4)] []) : ∀ n h v3 v4, fX7_formsOf_L5 k u0 u1 u2 n h v3 v4 = some r → zV G x 5 (zQ G x (zoi r) 0 0) h 0 0 5 [(0, .ref u0), (1, .int u1), (2, .int u2), (3, .int v3), (4, .int v4)] [] := by
  intro n
  induction n with
  | zero =>
    intro h v3 v4 hf
    have hf : (none : Option (Int32 × zH)) = some r := hf
    cases hf
  | succ n ih =>
    intro h v3 v4 hf
    rw [fX7_formsOf_L5] at hf
    refine z_iload B dX7_formsOf_5 4 rfl ?_
    refine z_bipush (v := 8) B dX7_formsOf_7 (by decide) ?_
    rcases zite hf with ⟨c1, hf⟩ | ⟨c1, hf⟩
    · refine z_icmp_ge B 45 dX7_formsOf_9 (by decide) (fun _ => ?_) (fun e => absurd c1 e)
      exact hk _ _ _ hf
    refine z_icmp_ge B 45 dX7_formsOf_9 (by decide) (fun e => absurd e c1) (fun _ => ?_)
    refine z_iload_n B dX7_formsOf_12 rfl 3 rfl ?_
    refine z_aload_n B dX7_formsOf_13 rfl 0 rfl ?_
    refine z_iload_n B dX7_formsOf_14 rfl 1 rfl ?_
    obtain ⟨w2, h3, ew2, hf⟩ := zb2s hf
    refine z_callSi B [.int u1] [.ref u0, .int v3] cw_X7_at mt_RX7_163 (tX7_at hst ew2) ⟨rfl, rfl, (Nat.le_of_ble_eq_true rfl), (Nat.le_of_ble_eq_true rfl), (Nat.le_of_ble_eq_true rfl), (Nat.le_of_ble_eq_true rfl)⟩ rfl rfl (Nat.le_of_ble_eq_true rfl) dX7_formsOf_15 ?_
    refine z_bipush (v := 16) B dX7_formsOf_18 (by decide) ?_
    refine z_iadd B dX7_formsOf_20 ?_
    refine z_iload B dX7_formsOf_21 4 rfl ?_
    refine z_iadd B dX7_formsOf_23 ?_
    obtain ⟨w4, ew4, hf⟩ := zbs hf
    refine z_aI B ew4 dX7_formsOf_24 ?_
    refine z_iload_n B dX7_formsOf_25 rfl 2 rfl ?_
    rcases zite hf with ⟨c5, hf⟩ | ⟨c5, hf⟩
    · refine z_icmp_lt B 36 dX7_formsOf_26 (by decide) (fun _ => ?_) (fun e => absurd c5 e)
      refine z_iconst (v := 0) B dX7_formsOf_36 (by decide) ?_
      refine z_ior B dX7_formsOf_37 ?_
      refine z_istore_n (lv' := [(3, .int ((v3 : Int32) ||| 0)), (0, .ref u0), (1, .int u1), (2, .int u2), (4, .int v4)]) B dX7_formsOf_38 rfl (by decide) rfl ?_
      refine z_iinc (v' := (v4 + 1)) (lv' := [(4, .int (v4 + 1)), (3, .int ((v3 : Int32) ||| 0)), (0, .ref u0), (1, .int u1), (2, .int u2)]) B dX7_formsOf_39 4 rfl rfl (by decide) rfl ?_
      refine z_goto B 5 dX7_formsOf_42 (by decide) ?_
      refine zV.sub [2, 3, 4, 1, 0] rfl ?_
      exact ih _ _ _ hf
    refine z_icmp_lt B 36 dX7_formsOf_26 (by decide) (fun e => absurd e c5) (fun _ => ?_)
    refine z_iconst (v := 1) B dX7_formsOf_29 (by decide) ?_
    refine z_iload B dX7_formsOf_30 4 rfl ?_
    refine z_ishl B dX7_formsOf_32 ?_
    refine z_goto B 37 dX7_formsOf_33 (by decide) ?_
    refine z_ior B dX7_formsOf_37 ?_
    refine z_istore_n (lv' := [(3, .int ((v3 : Int32) ||| ((1 : Int32) <<< (v4 &&& 31)))), (0, .ref u0), (1, .int u1), (2, .int u2), (4, .int v4)]) B dX7_formsOf_38 rfl (by decide) rfl ?_
    refine z_iinc (v' := (v4 + 1)) (lv' := [(4, .int (v4 + 1)), (3, .int ((v3 : Int32) ||| ((1 : Int32) <<< (v4 &&& 31)))), (0, .ref u0), (1, .int u1), (2, .int u2)]) B dX7_formsOf_39 4 rfl rfl (by decide) rfl ?_
    refine z_goto B 5 dX7_formsOf_42 (by decide) ?_
    refine zV.sub [2, 3, 4, 1, 0] rfl ?_
    exact ih _ _ _ hf
set_option maxRecDepth 100000 in
set_option maxHeartbeats 4000000 in
theorem tX7_formsOf {l : Launch} {G : zG} (hst : l.stackTraces = false) {h : zH} {a0 : Nat} {a1 : Int32} {a2 : Int32} {r : Int32 × zH} (hf : fX7_formsOf h a0 a1 a2 = some r) : zMet l G yX7_formsOf (.code yX7_formsOf cX7_formsOf 5 (some .int)) rm_X7_formsOf 0 0 [.ref a0, .int a1, .int a2] h (zoi r) := by
  unfold fX7_formsOf at hf
  refine z_enter (by decide) (Nat.le_of_ble_eq_true rfl) hst (fun x hx B hE => ?_)
  subst hx
  have B : zB G x cX7_formsOf 5 RX7 "formsOf" rm_X7_formsOf (some .int) := B
  show zV G x 5 (zQ G x (zoi r) 0 0) h 0 0 0 [(0, .ref a0), (1, .int a1), (2, .int a2)] []
  refine z_iconst (v := 0) B dX7_formsOf_0 (by decide) ?_
  refine z_istore_n (lv' := [(3, .int 0), (0, .ref a0), (1, .int a1), (2, .int a2)]) B dX7_formsOf_1 rfl (by decide) rfl ?_
  refine z_iconst (v := 0) B dX7_formsOf_2 (by decide) ?_
  refine z_istore (lv' := [(4, .int 0), (3, .int 0), (0, .ref a0), (1, .int a1), (2, .int a2)]) B dX7_formsOf_3 (by decide) rfl ?_
  refine zV.sub [2, 3, 4, 1, 0] rfl ?_
  refine fX7_formsOf_L5_ok B hst hE (fun h1 y2 y3 hf => ?_) _ _ _ _ hf
  refine z_iload_n B dX7_formsOf_45 rfl 3 rfl ?_
  cases hf
  exact z_iret B dX7_formsOf_46 (Nat.le_of_ble_eq_true rfl) (Nat.le_of_ble_eq_true rfl)
abbrev rm_X7_weight : Room := { frames := 2, cells := 0, slots := 0, locals := 43 }
set_option maxRecDepth 100000 in
set_option maxHeartbeats 4000000 in
theorem tX7_weight {l : Launch} {G : zG} (hst : l.stackTraces = false) {h : zH} {a0 : Nat} {a1 : Int32} {r : Int32 × zH} (hf : fX7_weight h a0 a1 = some r) : zMet l G yX7_weight (.code yX7_weight cX7_weight 4 (some .int)) rm_X7_weight 0 0 [.ref a0, .int a1] h (zoi r) := by
  unfold fX7_weight at hf
  refine z_enter (by decide) (Nat.le_of_ble_eq_true rfl) hst (fun x hx B hE => ?_)
  subst hx
  have B : zB G x cX7_weight 4 RX7 "weight" rm_X7_weight (some .int) := B
  show zV G x 4 (zQ G x (zoi r) 0 0) h 0 0 0 [(0, .ref a0), (1, .int a1)] []
  refine z_aload_n B dX7_weight_0 rfl 0 rfl ?_
  refine z_iload_n B dX7_weight_1 rfl 1 rfl ?_
  obtain ⟨w1, h2, ew1, hf⟩ := zb2s hf
  refine z_callSi B [.ref a0, .int a1] [] cw_X7_sizeOf mt_RX7_166 (tX7_sizeOf hst ew1) ⟨rfl, rfl, (Nat.le_of_ble_eq_true rfl), (Nat.le_of_ble_eq_true rfl), (Nat.le_of_ble_eq_true rfl), (Nat.le_of_ble_eq_true rfl)⟩ rfl rfl (Nat.le_of_ble_eq_true rfl) dX7_weight_2 ?_
  refine z_i2l B dX7_weight_5 ?_
  refine z_aload_n B dX7_weight_6 rfl 0 rfl ?_
  refine z_iconst (v := 1) B dX7_weight_7 (by decide) ?_
  obtain ⟨w3, ew3, hf⟩ := zbs hf
  refine z_aI B ew3 dX7_weight_8 ?_
  refine z_aload_n B dX7_weight_9 rfl 0 rfl ?_
  refine z_iload_n B dX7_weight_10 rfl 1 rfl ?_
  obtain ⟨w4, h5, ew4, hf⟩ := zb2s hf
  refine z_callSi B [.int a1] [.ref a0, .int w3, .long (w1 : Int32).toInt64] cw_X7_at mt_RX7_163 (tX7_at hst ew4) ⟨rfl, rfl, (Nat.le_of_ble_eq_true rfl), (Nat.le_of_ble_eq_true rfl), (Nat.le_of_ble_eq_true rfl), (Nat.le_of_ble_eq_true rfl)⟩ rfl rfl (Nat.le_of_ble_eq_true rfl) dX7_weight_11 ?_
  refine z_bipush (v := 26) B dX7_weight_14 (by decide) ?_
  refine z_iadd B dX7_weight_16 ?_
  obtain ⟨w6, ew6, hf⟩ := zbs hf
  refine z_aI B ew6 dX7_weight_17 ?_
  refine z_isub B dX7_weight_18 ?_
  refine z_iconst (v := 1) B dX7_weight_19 (by decide) ?_
  refine z_iadd B dX7_weight_20 ?_
  refine z_i2l B dX7_weight_21 ?_
  refine z_lmul B dX7_weight_22 ?_
  refine z_aload_n B dX7_weight_23 rfl 0 rfl ?_
  refine z_iload_n B dX7_weight_24 rfl 1 rfl ?_
  obtain ⟨w7, h8, ew7, hf⟩ := zb2s hf
  refine z_callSi B [.int a1] [.ref a0, .long (((w1 : Int32).toInt64 : Int64) * (((((w3 : Int32) - w6) : Int32) + 1) : Int32).toInt64)] cw_X7_at mt_RX7_163 (tX7_at hst ew7) ⟨rfl, rfl, (Nat.le_of_ble_eq_true rfl), (Nat.le_of_ble_eq_true rfl), (Nat.le_of_ble_eq_true rfl), (Nat.le_of_ble_eq_true rfl)⟩ rfl rfl (Nat.le_of_ble_eq_true rfl) dX7_weight_25 ?_
  refine z_bipush (v := 25) B dX7_weight_28 (by decide) ?_
  refine z_iadd B dX7_weight_30 ?_
  obtain ⟨w9, ew9, hf⟩ := zbs hf
  refine z_aI B ew9 dX7_weight_31 ?_
  refine z_iconst (v := 1) B dX7_weight_32 (by decide) ?_
  refine z_iadd B dX7_weight_33 ?_
  refine z_i2l B dX7_weight_34 ?_
  rcases zite hf with ⟨c11, hf⟩ | ⟨c11, hf⟩
  · cases hf
  refine z_ldiv B dX7_weight_35 c11 ?_
  refine z_lstore_n (lv' := [(2, .long (((((w1 : Int32).toInt64 : Int64) * (((((w3 : Int32) - w6) : Int32) + 1) : Int32).toInt64) : Int64) / (((w9 : Int32) + 1) : Int32).toInt64)), (0, .ref a0), (1, .int a1)]) B dX7_weight_36 rfl (by decide) rfl ?_
  refine z_lload_n B dX7_weight_37 rfl 0 rfl ?_
  refine z_ldc2 B dX7_weight_38 kl_RX7_170 ?_
  refine z_lcmp B dX7_weight_41 ?_
  rcases zite hf with ⟨c10, hf⟩ | ⟨c10, hf⟩
  · refine z_if_le B 50 dX7_weight_42 (by decide) (fun _ => ?_) (fun e => absurd c10 e)
    refine z_lload_n B dX7_weight_50 rfl 0 rfl ?_
    refine z_l2i B dX7_weight_51 ?_
    cases hf
    exact z_iret B dX7_weight_52 (Nat.le_of_ble_eq_true rfl) (Nat.le_of_ble_eq_true rfl)
  refine z_if_le B 50 dX7_weight_42 (by decide) (fun e => absurd e c10) (fun _ => ?_)
  refine z_ldc B dX7_weight_45 kc_RX7_172 ?_
  refine z_goto B 52 dX7_weight_47 (by decide) ?_
  cases hf
  exact z_iret B dX7_weight_52 (Nat.le_of_ble_eq_true rfl) (Nat.le_of_ble_eq_true rfl)
abbrev rm_X7_drop : Room := { frames := 1, cells := 0, slots := 0, locals := 20 }
set_option maxRecDepth 100000 in
set_option maxHeartbeats 4000000 in
theorem fX7_drop_L12_ok {G : zG} {x : zX} (B : zB G x cX7_drop 3 RX7 "drop" rm_X7_drop none) (hst : (zl x).stackTraces = false) (hE : ∀ e ∈ (zc x).exceptionTable.toList, False) {r : zH} {k : zH → Int32 → Option (zH)} {u0 : Nat} {u1 : Int32} (hk : ∀ h v2, k h v2 = some r → zV G x 3 (zQ G x (zov r) 0 0) h 0 0 37 [(0, .ref u0), (1, .int u1), (2, .int v2)] []) : ∀ n h v2, fX7_drop_L12 k u0 u1 n h v2 = some r → zV G x 3 (zQ G x (zov r) 0 0) h 0 0 12 [(0, .ref u0), (1, .int u1), (2, .int v2)] [] := by
  intro n
  induction n with
  | zero =>
    intro h v2 hf
    have hf : (none : Option (zH)) = some r := hf
    cases hf
  | succ n ih =>
    intro h v2 hf
    rw [fX7_drop_L12] at hf
    refine z_iload_n B dX7_drop_12 rfl 2 rfl ?_
    refine z_aload_n B dX7_drop_13 rfl 0 rfl ?_
    refine z_iconst (v := 0) B dX7_drop_14 (by decide) ?_
    obtain ⟨w1, ew1, hf⟩ := zbs hf
    refine z_aI B ew1 dX7_drop_15 ?_
    obtain ⟨w2, h3, ew2, hf⟩ := zb2s hf
    refine z_callSi B [.int w1] [.int v2] cw_X7_at mt_RX7_163 (tX7_at hst ew2) ⟨rfl, rfl, (Nat.le_of_ble_eq_true rfl), (Nat.le_of_ble_eq_true rfl), (Nat.le_of_ble_eq_true rfl), (Nat.le_of_ble_eq_true rfl)⟩ rfl rfl (Nat.le_of_ble_eq_true rfl) dX7_drop_16 ?_
    rcases zite hf with ⟨c4, hf⟩ | ⟨c4, hf⟩
    · refine z_icmp_ge B 37 dX7_drop_19 (by decide) (fun _ => ?_) (fun e => absurd c4 e)
      exact hk _ _ hf
    refine z_icmp_ge B 37 dX7_drop_19 (by decide) (fun e => absurd e c4) (fun _ => ?_)
    refine z_aload_n B dX7_drop_22 rfl 0 rfl ?_
    refine z_iload_n B dX7_drop_23 rfl 2 rfl ?_
    refine z_aload_n B dX7_drop_24 rfl 0 rfl ?_
    refine z_iload_n B dX7_drop_25 rfl 2 rfl ?_
    refine z_bipush (v := 28) B dX7_drop_26 (by decide) ?_
    refine z_iadd B dX7_drop_28 ?_
    obtain ⟨w5, ew5, hf⟩ := zbs hf
    refine z_aI B ew5 dX7_drop_29 ?_
    obtain ⟨h6, eh6, hf⟩ := zbs hf
    refine z_bI B eh6 dX7_drop_30 ?_
    refine z_iinc (v' := (v2 + 1)) (lv' := [(2, .int (v2 + 1)), (0, .ref u0), (1, .int u1)]) B dX7_drop_31 2 rfl rfl (by decide) rfl ?_
    refine z_goto B 12 dX7_drop_34 (by decide) ?_
    refine zV.sub [1, 2, 0] rfl ?_
    exact ih _ _ hf
set_option maxRecDepth 100000 in
set_option maxHeartbeats 4000000 in
theorem fX7_drop_L39_ok {G : zG} {x : zX} (B : zB G x cX7_drop 3 RX7 "drop" rm_X7_drop none) (hst : (zl x).stackTraces = false) (hE : ∀ e ∈ (zc x).exceptionTable.toList, False) {r : zH} {k : zH → Int32 → Option (zH)} {u0 : Nat} {u1 : Int32} (hk : ∀ h v2, k h v2 = some r → zV G x 3 (zQ G x (zov r) 0 0) h 0 0 62 [(0, .ref u0), (1, .int u1), (2, .int v2)] []) : ∀ n h v2, fX7_drop_L39 k u0 u1 n h v2 = some r → zV G x 3 (zQ G x (zov r) 0 0) h 0 0 39 [(0, .ref u0), (1, .int u1), (2, .int v2)] [] := by
  intro n
  induction n with
  | zero =>
    intro h v2 hf
    have hf : (none : Option (zH)) = some r := hf
    cases hf
  | succ n ih =>
    intro h v2 hf
    rw [fX7_drop_L39] at hf
    refine z_iload_n B dX7_drop_39 rfl 2 rfl ?_
    refine z_bipush (v := 28) B dX7_drop_40 (by decide) ?_
    rcases zite hf with ⟨c1, hf⟩ | ⟨c1, hf⟩
    · refine z_icmp_ge B 62 dX7_drop_42 (by decide) (fun _ => ?_) (fun e => absurd c1 e)
      exact hk _ _ hf
    refine z_icmp_ge B 62 dX7_drop_42 (by decide) (fun e => absurd e c1) (fun _ => ?_)
    refine z_aload_n B dX7_drop_45 rfl 0 rfl ?_
    refine z_aload_n B dX7_drop_46 rfl 0 rfl ?_
    refine z_iconst (v := 0) B dX7_drop_47 (by decide) ?_
    obtain ⟨w2, ew2, hf⟩ := zbs hf
    refine z_aI B ew2 dX7_drop_48 ?_
    obtain ⟨w3, h4, ew3, hf⟩ := zb2s hf
    refine z_callSi B [.int w2] [.ref u0] cw_X7_at mt_RX7_163 (tX7_at hst ew3) ⟨rfl, rfl, (Nat.le_of_ble_eq_true rfl), (Nat.le_of_ble_eq_true rfl), (Nat.le_of_ble_eq_true rfl), (Nat.le_of_ble_eq_true rfl)⟩ rfl rfl (Nat.le_of_ble_eq_true rfl) dX7_drop_49 ?_
    refine z_iload_n B dX7_drop_52 rfl 2 rfl ?_
    refine z_iadd B dX7_drop_53 ?_
    refine z_iconst (v := 0) B dX7_drop_54 (by decide) ?_
    obtain ⟨h5, eh5, hf⟩ := zbs hf
    refine z_bI B eh5 dX7_drop_55 ?_
    refine z_iinc (v' := (v2 + 1)) (lv' := [(2, .int (v2 + 1)), (0, .ref u0), (1, .int u1)]) B dX7_drop_56 2 rfl rfl (by decide) rfl ?_
    refine z_goto B 39 dX7_drop_59 (by decide) ?_
    refine zV.sub [1, 2, 0] rfl ?_
    exact ih _ _ hf
set_option maxRecDepth 100000 in
set_option maxHeartbeats 4000000 in
theorem tX7_drop {l : Launch} {G : zG} (hst : l.stackTraces = false) {h : zH} {a0 : Nat} {a1 : Int32} {r : zH} (hf : fX7_drop h a0 a1 = some r) : zMet l G yX7_drop (.code yX7_drop cX7_drop 3 none) rm_X7_drop 0 0 [.ref a0, .int a1] h (zov r) := by
  unfold fX7_drop at hf
  refine z_enter (by decide) (Nat.le_of_ble_eq_true rfl) hst (fun x hx B hE => ?_)
  subst hx
  have B : zB G x cX7_drop 3 RX7 "drop" rm_X7_drop none := B
  show zV G x 3 (zQ G x (zov r) 0 0) h 0 0 0 [(0, .ref a0), (1, .int a1)] []
  refine z_aload_n B dX7_drop_0 rfl 0 rfl ?_
  refine z_iconst (v := 0) B dX7_drop_1 (by decide) ?_
  refine z_dup2 B dX7_drop_2 rfl rfl ?_
  obtain ⟨w1, ew1, hf⟩ := zbs hf
  refine z_aI B ew1 dX7_drop_3 ?_
  refine z_iconst (v := 1) B dX7_drop_4 (by decide) ?_
  refine z_isub B dX7_drop_5 ?_
  obtain ⟨h2, eh2, hf⟩ := zbs hf
  refine z_bI B eh2 dX7_drop_6 ?_
  refine z_iload_n B dX7_drop_7 rfl 1 rfl ?_
  obtain ⟨w3, h4, ew3, hf⟩ := zb2s hf
  refine z_callSi B [.int a1] [] cw_X7_at mt_RX7_163 (tX7_at hst ew3) ⟨rfl, rfl, (Nat.le_of_ble_eq_true rfl), (Nat.le_of_ble_eq_true rfl), (Nat.le_of_ble_eq_true rfl), (Nat.le_of_ble_eq_true rfl)⟩ rfl rfl (Nat.le_of_ble_eq_true rfl) dX7_drop_8 ?_
  refine z_istore_n (lv' := [(2, .int w3), (0, .ref a0), (1, .int a1)]) B dX7_drop_11 rfl (by decide) rfl ?_
  refine zV.sub [1, 2, 0] rfl ?_
  refine fX7_drop_L12_ok B hst hE (fun h5 y6 hf => ?_) _ _ _ hf
  refine z_iconst (v := 0) B dX7_drop_37 (by decide) ?_
  refine z_istore_n (lv' := [(2, .int 0), (0, .ref a0), (1, .int a1)]) B dX7_drop_38 rfl (by decide) rfl ?_
  refine zV.sub [1, 2, 0] rfl ?_
  refine fX7_drop_L39_ok B hst hE (fun h7 y8 hf => ?_) _ _ _ hf
  cases hf
  exact z_vret B dX7_drop_62 (Nat.le_of_ble_eq_true rfl) (Nat.le_of_ble_eq_true rfl)
abbrev rm_X7_dropForm : Room := { frames := 1, cells := 0, slots := 0, locals := 20 }
set_option maxRecDepth 100000 in
set_option maxHeartbeats 4000000 in
theorem tX7_dropForm {l : Launch} {G : zG} (hst : l.stackTraces = false) {h : zH} {a0 : Nat} {a1 : Int32} {a2 : Int32} {r : zH} (hf : fX7_dropForm h a0 a1 a2 = some r) : zMet l G yX7_dropForm (.code yX7_dropForm cX7_dropForm 3 none) rm_X7_dropForm 0 0 [.ref a0, .int a1, .int a2] h (zov r) := by
  unfold fX7_dropForm at hf
  refine z_enter (by decide) (Nat.le_of_ble_eq_true rfl) hst (fun x hx B hE => ?_)
  subst hx
  have B : zB G x cX7_dropForm 3 RX7 "dropForm" rm_X7_dropForm none := B
  show zV G x 3 (zQ G x (zov r) 0 0) h 0 0 0 [(0, .ref a0), (1, .int a1), (2, .int a2)] []
  refine z_aload_n B dX7_dropForm_0 rfl 0 rfl ?_
  refine z_iload_n B dX7_dropForm_1 rfl 1 rfl ?_
  obtain ⟨w1, h2, ew1, hf⟩ := zb2s hf
  refine z_callSi B [.int a1] [.ref a0] cw_X7_at mt_RX7_163 (tX7_at hst ew1) ⟨rfl, rfl, (Nat.le_of_ble_eq_true rfl), (Nat.le_of_ble_eq_true rfl), (Nat.le_of_ble_eq_true rfl), (Nat.le_of_ble_eq_true rfl)⟩ rfl rfl (Nat.le_of_ble_eq_true rfl) dX7_dropForm_2 ?_
  refine z_iconst (v := 0) B dX7_dropForm_5 (by decide) ?_
  refine z_iadd B dX7_dropForm_6 ?_
  refine z_iload_n B dX7_dropForm_7 rfl 2 rfl ?_
  refine z_iadd B dX7_dropForm_8 ?_
  refine z_iconst (v := 0) B dX7_dropForm_9 (by decide) ?_
  obtain ⟨h3, eh3, hf⟩ := zbs hf
  refine z_bI B eh3 dX7_dropForm_10 ?_
  refine z_aload_n B dX7_dropForm_11 rfl 0 rfl ?_
  refine z_iload_n B dX7_dropForm_12 rfl 1 rfl ?_
  obtain ⟨w4, h5, ew4, hf⟩ := zb2s hf
  refine z_callSi B [.int a1] [.ref a0] cw_X7_at mt_RX7_163 (tX7_at hst ew4) ⟨rfl, rfl, (Nat.le_of_ble_eq_true rfl), (Nat.le_of_ble_eq_true rfl), (Nat.le_of_ble_eq_true rfl), (Nat.le_of_ble_eq_true rfl)⟩ rfl rfl (Nat.le_of_ble_eq_true rfl) dX7_dropForm_13 ?_
  refine z_bipush (v := 8) B dX7_dropForm_16 (by decide) ?_
  refine z_iadd B dX7_dropForm_18 ?_
  refine z_iload_n B dX7_dropForm_19 rfl 2 rfl ?_
  refine z_iadd B dX7_dropForm_20 ?_
  refine z_iconst (v := 0) B dX7_dropForm_21 (by decide) ?_
  obtain ⟨h6, eh6, hf⟩ := zbs hf
  refine z_bI B eh6 dX7_dropForm_22 ?_
  refine z_aload_n B dX7_dropForm_23 rfl 0 rfl ?_
  refine z_iload_n B dX7_dropForm_24 rfl 1 rfl ?_
  obtain ⟨w7, h8, ew7, hf⟩ := zb2s hf
  refine z_callSi B [.int a1] [.ref a0] cw_X7_at mt_RX7_163 (tX7_at hst ew7) ⟨rfl, rfl, (Nat.le_of_ble_eq_true rfl), (Nat.le_of_ble_eq_true rfl), (Nat.le_of_ble_eq_true rfl), (Nat.le_of_ble_eq_true rfl)⟩ rfl rfl (Nat.le_of_ble_eq_true rfl) dX7_dropForm_25 ?_
  refine z_bipush (v := 16) B dX7_dropForm_28 (by decide) ?_
  refine z_iadd B dX7_dropForm_30 ?_
  refine z_iload_n B dX7_dropForm_31 rfl 2 rfl ?_
  refine z_iadd B dX7_dropForm_32 ?_
  refine z_iconst (v := 0) B dX7_dropForm_33 (by decide) ?_
  obtain ⟨h9, eh9, hf⟩ := zbs hf
  refine z_bI B eh9 dX7_dropForm_34 ?_
  cases hf
  exact z_vret B dX7_dropForm_35 (Nat.le_of_ble_eq_true rfl) (Nat.le_of_ble_eq_true rfl)
abbrev rm_X7_putForm : Room := { frames := 1, cells := 0, slots := 0, locals := 20 }
set_option maxRecDepth 100000 in
set_option maxHeartbeats 4000000 in
theorem tX7_putForm {l : Launch} {G : zG} (hst : l.stackTraces = false) {h : zH} {a0 : Nat} {a1 : Int32} {a2 : Int32} {a3 : Int32} {a4 : Int32} {a5 : Int32} {r : zH} (hf : fX7_putForm h a0 a1 a2 a3 a4 a5 = some r) : zMet l G yX7_putForm (.code yX7_putForm cX7_putForm 6 none) rm_X7_putForm 0 0 [.ref a0, .int a1, .int a2, .int a3, .int a4, .int a5] h (zov r) := by
  unfold fX7_putForm at hf
  refine z_enter (by decide) (Nat.le_of_ble_eq_true rfl) hst (fun x hx B hE => ?_)
  subst hx
  have B : zB G x cX7_putForm 6 RX7 "putForm" rm_X7_putForm none := B
  show zV G x 6 (zQ G x (zov r) 0 0) h 0 0 0 [(0, .ref a0), (1, .int a1), (2, .int a2), (3, .int a3), (4, .int a4), (5, .int a5)] []
  refine z_aload_n B dX7_putForm_0 rfl 0 rfl ?_
  refine z_iload_n B dX7_putForm_1 rfl 1 rfl ?_
  obtain ⟨w1, h2, ew1, hf⟩ := zb2s hf
  refine z_callSi B [.int a1] [.ref a0] cw_X7_at mt_RX7_163 (tX7_at hst ew1) ⟨rfl, rfl, (Nat.le_of_ble_eq_true rfl), (Nat.le_of_ble_eq_true rfl), (Nat.le_of_ble_eq_true rfl), (Nat.le_of_ble_eq_true rfl)⟩ rfl rfl (Nat.le_of_ble_eq_true rfl) dX7_putForm_2 ?_
  refine z_iconst (v := 0) B dX7_putForm_5 (by decide) ?_
  refine z_iadd B dX7_putForm_6 ?_
  refine z_iload_n B dX7_putForm_7 rfl 2 rfl ?_
  refine z_iadd B dX7_putForm_8 ?_
  refine z_iload_n B dX7_putForm_9 rfl 3 rfl ?_
  obtain ⟨h3, eh3, hf⟩ := zbs hf
  refine z_bI B eh3 dX7_putForm_10 ?_
  refine z_aload_n B dX7_putForm_11 rfl 0 rfl ?_
  refine z_iload_n B dX7_putForm_12 rfl 1 rfl ?_
  obtain ⟨w4, h5, ew4, hf⟩ := zb2s hf
  refine z_callSi B [.int a1] [.ref a0] cw_X7_at mt_RX7_163 (tX7_at hst ew4) ⟨rfl, rfl, (Nat.le_of_ble_eq_true rfl), (Nat.le_of_ble_eq_true rfl), (Nat.le_of_ble_eq_true rfl), (Nat.le_of_ble_eq_true rfl)⟩ rfl rfl (Nat.le_of_ble_eq_true rfl) dX7_putForm_13 ?_
  refine z_bipush (v := 8) B dX7_putForm_16 (by decide) ?_
  refine z_iadd B dX7_putForm_18 ?_
  refine z_iload_n B dX7_putForm_19 rfl 2 rfl ?_
  refine z_iadd B dX7_putForm_20 ?_
  refine z_iload B dX7_putForm_21 4 rfl ?_
  obtain ⟨h6, eh6, hf⟩ := zbs hf
  refine z_bI B eh6 dX7_putForm_23 ?_
  refine z_aload_n B dX7_putForm_24 rfl 0 rfl ?_
  refine z_iload_n B dX7_putForm_25 rfl 1 rfl ?_
  obtain ⟨w7, h8, ew7, hf⟩ := zb2s hf
  refine z_callSi B [.int a1] [.ref a0] cw_X7_at mt_RX7_163 (tX7_at hst ew7) ⟨rfl, rfl, (Nat.le_of_ble_eq_true rfl), (Nat.le_of_ble_eq_true rfl), (Nat.le_of_ble_eq_true rfl), (Nat.le_of_ble_eq_true rfl)⟩ rfl rfl (Nat.le_of_ble_eq_true rfl) dX7_putForm_26 ?_
  refine z_bipush (v := 16) B dX7_putForm_29 (by decide) ?_
  refine z_iadd B dX7_putForm_31 ?_
  refine z_iload_n B dX7_putForm_32 rfl 2 rfl ?_
  refine z_iadd B dX7_putForm_33 ?_
  refine z_iload B dX7_putForm_34 5 rfl ?_
  obtain ⟨h9, eh9, hf⟩ := zbs hf
  refine z_bI B eh9 dX7_putForm_36 ?_
  cases hf
  exact z_vret B dX7_putForm_37 (Nat.le_of_ble_eq_true rfl) (Nat.le_of_ble_eq_true rfl)
abbrev rm_X7_heaviest : Room := { frames := 3, cells := 0, slots := 0, locals := 66 }
set_option maxRecDepth 100000 in
set_option maxHeartbeats 4000000 in
theorem fX7_heaviest_L5_ok {G : zG} {x : zX} (B : zB G x cX7_heaviest 5 RX7 "heaviest" rm_X7_heaviest (some .int)) (hst : (zl x).stackTraces = false) (hE : ∀ e ∈ (zc x).exceptionTable.toList, False) {r : Int32 × zH} {k : zH → Int32 → Int32 → Option (Int32 × zH)} {u0 : Nat} {u1 : Int32} (hk : ∀ h v2 v3, k h v2 v3 = some r → zV G x 5 (zQ G x (zoi r) 0 0) h 0 0 70 [(0, .ref u0), (1, .int u1), (2, .int v2), (3, .int v3)] []) : ∀ n h v2 v3, fX7_heaviest_L5 k u0 u1 n h v2 v3 = some r → zV G x 5 (zQ G x (zoi r) 0 0) h 0 0 5 [(0, .ref u0), (1, .int u1), (2, .int v2), (3, .int v3)] [] := by
  intro n
  induction n with
  | zero =>
    intro h v2 v3 hf
    have hf : (none : Option (Int32 × zH)) = some r := hf
    cases hf
  | succ n ih =>
    intro h v2 v3 hf
    rw [fX7_heaviest_L5] at hf
    refine z_iload_n B dX7_heaviest_5 rfl 3 rfl ?_
    refine z_aload_n B dX7_heaviest_6 rfl 0 rfl ?_
    refine z_iconst (v := 0) B dX7_heaviest_7 (by decide) ?_
    obtain ⟨w1, ew1, hf⟩ := zbs hf
    refine z_aI B ew1 dX7_heaviest_8 ?_
    rcases zite hf with ⟨c2, hf⟩ | ⟨c2, hf⟩
    · refine z_icmp_ge B 70 dX7_heaviest_9 (by decide) (fun _ => ?_) (fun e => absurd c2 e)
      exact hk _ _ _ hf
    refine z_icmp_ge B 70 dX7_heaviest_9 (by decide) (fun e => absurd e c2) (fun _ => ?_)
    refine z_iload_n B dX7_heaviest_12 rfl 3 rfl ?_
    refine z_iload_n B dX7_heaviest_13 rfl 1 rfl ?_
    rcases zite hf with ⟨c3, hf⟩ | ⟨c3, hf⟩
    · refine z_icmp_eq B 33 dX7_heaviest_14 (by decide) (fun _ => ?_) (fun e => absurd c3 e)
      refine z_iconst (v := 0) B dX7_heaviest_33 (by decide) ?_
      refine z_istore (lv' := [(4, .int 0), (0, .ref u0), (1, .int u1), (2, .int v2), (3, .int v3)]) B dX7_heaviest_34 (by decide) rfl ?_
      refine z_iload B dX7_heaviest_36 0 rfl ?_
      refine z_if_eq B 62 dX7_heaviest_38 (by decide) (fun _ => ?_) (fun e => absurd e (by decide))
      refine z_iload_n B dX7_heaviest_62 rfl 3 rfl ?_
      refine z_istore_n (lv' := [(2, .int v2), (4, .int 0), (0, .ref u0), (1, .int u1), (3, .int v3)]) B dX7_heaviest_63 rfl (by decide) rfl ?_
      refine z_iinc (v' := (v3 + 1)) (lv' := [(3, .int (v3 + 1)), (2, .int v2), (4, .int 0), (0, .ref u0), (1, .int u1)]) B dX7_heaviest_64 4 rfl rfl (by decide) rfl ?_
      refine z_goto B 5 dX7_heaviest_67 (by decide) ?_
      refine zV.sub [3, 4, 1, 0] rfl ?_
      exact ih _ _ _ hf
    refine z_icmp_eq B 33 dX7_heaviest_14 (by decide) (fun e => absurd e c3) (fun _ => ?_)
    refine z_aload_n B dX7_heaviest_17 rfl 0 rfl ?_
    refine z_iload_n B dX7_heaviest_18 rfl 3 rfl ?_
    obtain ⟨w4, h5, ew4, hf⟩ := zb2s hf
    refine z_callSi B [.int v3] [.ref u0] cw_X7_at mt_RX7_163 (tX7_at hst ew4) ⟨rfl, rfl, (Nat.le_of_ble_eq_true rfl), (Nat.le_of_ble_eq_true rfl), (Nat.le_of_ble_eq_true rfl), (Nat.le_of_ble_eq_true rfl)⟩ rfl rfl (Nat.le_of_ble_eq_true rfl) dX7_heaviest_19 ?_
    refine z_bipush (v := 24) B dX7_heaviest_22 (by decide) ?_
    refine z_iadd B dX7_heaviest_24 ?_
    obtain ⟨w6, ew6, hf⟩ := zbs hf
    refine z_aI B ew6 dX7_heaviest_25 ?_
    rcases zite hf with ⟨c7, hf⟩ | ⟨c7, hf⟩
    · refine z_if_ne B 33 dX7_heaviest_26 (by decide) (fun e => absurd c7 e) (fun _ => ?_)
      refine z_iconst (v := 1) B dX7_heaviest_29 (by decide) ?_
      refine z_goto B 34 dX7_heaviest_30 (by decide) ?_
      refine z_istore (lv' := [(4, .int 1), (0, .ref u0), (1, .int u1), (2, .int v2), (3, .int v3)]) B dX7_heaviest_34 (by decide) rfl ?_
      refine z_iload B dX7_heaviest_36 0 rfl ?_
      refine z_if_eq B 62 dX7_heaviest_38 (by decide) (fun e => absurd e (by decide)) (fun _ => ?_)
      refine z_iload_n B dX7_heaviest_41 rfl 3 rfl ?_
      rcases zite hf with ⟨c8, hf⟩ | ⟨c8, hf⟩
      · refine z_if_lt B 58 dX7_heaviest_42 (by decide) (fun _ => ?_) (fun e => absurd c8 e)
        refine z_iload_n B dX7_heaviest_58 rfl 4 rfl ?_
        refine z_goto B 63 dX7_heaviest_59 (by decide) ?_
        refine z_istore_n (lv' := [(2, .int v3), (4, .int 1), (0, .ref u0), (1, .int u1), (3, .int v3)]) B dX7_heaviest_63 rfl (by decide) rfl ?_
        refine z_iinc (v' := (v3 + 1)) (lv' := [(3, .int (v3 + 1)), (2, .int v3), (4, .int 1), (0, .ref u0), (1, .int u1)]) B dX7_heaviest_64 4 rfl rfl (by decide) rfl ?_
        refine z_goto B 5 dX7_heaviest_67 (by decide) ?_
        refine zV.sub [3, 4, 1, 0] rfl ?_
        exact ih _ _ _ hf
      refine z_if_lt B 58 dX7_heaviest_42 (by decide) (fun e => absurd e c8) (fun _ => ?_)
      refine z_aload_n B dX7_heaviest_45 rfl 1 rfl ?_
      refine z_iload_n B dX7_heaviest_46 rfl 4 rfl ?_
      obtain ⟨w9, h10, ew9, hf⟩ := zb2s hf
      refine z_callSi B [.ref u0, .int v3] [] cw_X7_weight mt_RX7_173 (tX7_weight hst ew9) ⟨rfl, rfl, (Nat.le_of_ble_eq_true rfl), (Nat.le_of_ble_eq_true rfl), (Nat.le_of_ble_eq_true rfl), (Nat.le_of_ble_eq_true rfl)⟩ rfl rfl (Nat.le_of_ble_eq_true rfl) dX7_heaviest_47 ?_
      refine z_aload_n B dX7_heaviest_50 rfl 1 rfl ?_
      refine z_iload_n B dX7_heaviest_51 rfl 3 rfl ?_
      obtain ⟨w11, h12, ew11, hf⟩ := zb2s hf
      refine z_callSi B [.ref u0, .int v2] [.int w9] cw_X7_weight mt_RX7_173 (tX7_weight hst ew11) ⟨rfl, rfl, (Nat.le_of_ble_eq_true rfl), (Nat.le_of_ble_eq_true rfl), (Nat.le_of_ble_eq_true rfl), (Nat.le_of_ble_eq_true rfl)⟩ rfl rfl (Nat.le_of_ble_eq_true rfl) dX7_heaviest_52 ?_
      rcases zite hf with ⟨c13, hf⟩ | ⟨c13, hf⟩
      · refine z_icmp_lt B 62 dX7_heaviest_55 (by decide) (fun _ => ?_) (fun e => absurd c13 e)
        refine z_iload_n B dX7_heaviest_62 rfl 3 rfl ?_
        refine z_istore_n (lv' := [(2, .int v2), (4, .int 1), (0, .ref u0), (1, .int u1), (3, .int v3)]) B dX7_heaviest_63 rfl (by decide) rfl ?_
        refine z_iinc (v' := (v3 + 1)) (lv' := [(3, .int (v3 + 1)), (2, .int v2), (4, .int 1), (0, .ref u0), (1, .int u1)]) B dX7_heaviest_64 4 rfl rfl (by decide) rfl ?_
        refine z_goto B 5 dX7_heaviest_67 (by decide) ?_
        refine zV.sub [3, 4, 1, 0] rfl ?_
        exact ih _ _ _ hf
      refine z_icmp_lt B 62 dX7_heaviest_55 (by decide) (fun e => absurd e c13) (fun _ => ?_)
      refine z_iload_n B dX7_heaviest_58 rfl 4 rfl ?_
      refine z_goto B 63 dX7_heaviest_59 (by decide) ?_
      refine z_istore_n (lv' := [(2, .int v3), (4, .int 1), (0, .ref u0), (1, .int u1), (3, .int v3)]) B dX7_heaviest_63 rfl (by decide) rfl ?_
      refine z_iinc (v' := (v3 + 1)) (lv' := [(3, .int (v3 + 1)), (2, .int v3), (4, .int 1), (0, .ref u0), (1, .int u1)]) B dX7_heaviest_64 4 rfl rfl (by decide) rfl ?_
      refine z_goto B 5 dX7_heaviest_67 (by decide) ?_
      refine zV.sub [3, 4, 1, 0] rfl ?_
      exact ih _ _ _ hf
    refine z_if_ne B 33 dX7_heaviest_26 (by decide) (fun _ => ?_) (fun e => absurd e c7)
    refine z_iconst (v := 0) B dX7_heaviest_33 (by decide) ?_
    refine z_istore (lv' := [(4, .int 0), (0, .ref u0), (1, .int u1), (2, .int v2), (3, .int v3)]) B dX7_heaviest_34 (by decide) rfl ?_
    refine z_iload B dX7_heaviest_36 0 rfl ?_
    refine z_if_eq B 62 dX7_heaviest_38 (by decide) (fun _ => ?_) (fun e => absurd e (by decide))
    refine z_iload_n B dX7_heaviest_62 rfl 3 rfl ?_
    refine z_istore_n (lv' := [(2, .int v2), (4, .int 0), (0, .ref u0), (1, .int u1), (3, .int v3)]) B dX7_heaviest_63 rfl (by decide) rfl ?_
    refine z_iinc (v' := (v3 + 1)) (lv' := [(3, .int (v3 + 1)), (2, .int v2), (4, .int 0), (0, .ref u0), (1, .int u1)]) B dX7_heaviest_64 4 rfl rfl (by decide) rfl ?_
    refine z_goto B 5 dX7_heaviest_67 (by decide) ?_
    refine zV.sub [3, 4, 1, 0] rfl ?_
    exact ih _ _ _ hf
set_option maxRecDepth 100000 in
set_option maxHeartbeats 4000000 in
theorem tX7_heaviest {l : Launch} {G : zG} (hst : l.stackTraces = false) {h : zH} {a0 : Nat} {a1 : Int32} {r : Int32 × zH} (hf : fX7_heaviest h a0 a1 = some r) : zMet l G yX7_heaviest (.code yX7_heaviest cX7_heaviest 5 (some .int)) rm_X7_heaviest 0 0 [.ref a0, .int a1] h (zoi r) := by
  unfold fX7_heaviest at hf
  refine z_enter (by decide) (Nat.le_of_ble_eq_true rfl) hst (fun x hx B hE => ?_)
  subst hx
  have B : zB G x cX7_heaviest 5 RX7 "heaviest" rm_X7_heaviest (some .int) := B
  show zV G x 5 (zQ G x (zoi r) 0 0) h 0 0 0 [(0, .ref a0), (1, .int a1)] []
  refine z_bipush (v := (-9)) B dX7_heaviest_0 (by decide) ?_
  refine z_istore_n (lv' := [(2, .int (-9)), (0, .ref a0), (1, .int a1)]) B dX7_heaviest_2 rfl (by decide) rfl ?_
  refine z_iconst (v := 0) B dX7_heaviest_3 (by decide) ?_
  refine z_istore_n (lv' := [(3, .int 0), (2, .int (-9)), (0, .ref a0), (1, .int a1)]) B dX7_heaviest_4 rfl (by decide) rfl ?_
  refine zV.sub [2, 3, 1, 0] rfl ?_
  refine fX7_heaviest_L5_ok B hst hE (fun h1 y2 y3 hf => ?_) _ _ _ _ hf
  refine z_iload_n B dX7_heaviest_70 rfl 2 rfl ?_
  cases hf
  exact z_iret B dX7_heaviest_71 (Nat.le_of_ble_eq_true rfl) (Nat.le_of_ble_eq_true rfl)
abbrev rm_X7_largest : Room := { frames := 1, cells := 0, slots := 0, locals := 20 }
set_option maxRecDepth 100000 in
set_option maxHeartbeats 4000000 in
theorem fX7_largest_L20_ok {G : zG} {x : zX} (B : zB G x cX7_largest 6 RX7 "largest" rm_X7_largest (some .int)) (hst : (zl x).stackTraces = false) (hE : ∀ e ∈ (zc x).exceptionTable.toList, False) {r : Int32 × zH} {k : zH → Int32 → Int32 → Int32 → Option (Int32 × zH)} {u0 : Nat} {u1 : Int32} {u4 : Int32} (hk : ∀ h v2 v3 v5, k h v2 v3 v5 = some r → zV G x 6 (zQ G x (zoi r) 0 0) h 0 0 94 [(0, .ref u0), (1, .int u1), (2, .int v2), (3, .int v3), (4, .int u4), (5, .int v5)] []) : ∀ n h v2 v3 v5, fX7_largest_L20 k u0 u1 u4 n h v2 v3 v5 = some r → zV G x 6 (zQ G x (zoi r) 0 0) h 0 0 20 [(0, .ref u0), (1, .int u1), (2, .int v2), (3, .int v3), (4, .int u4), (5, .int v5)] [] := by
  intro n
  induction n with
  | zero =>
    intro h v2 v3 v5 hf
    have hf : (none : Option (Int32 × zH)) = some r := hf
    cases hf
  | succ n ih =>
    intro h v2 v3 v5 hf
    rw [fX7_largest_L20] at hf
    refine z_iload B dX7_largest_20 5 rfl ?_
    refine z_bipush (v := 8) B dX7_largest_22 (by decide) ?_
    rcases zite hf with ⟨c1, hf⟩ | ⟨c1, hf⟩
    · refine z_icmp_ge B 94 dX7_largest_24 (by decide) (fun _ => ?_) (fun e => absurd c1 e)
      exact hk _ _ _ _ hf
    refine z_icmp_ge B 94 dX7_largest_24 (by decide) (fun e => absurd e c1) (fun _ => ?_)
    refine z_iload B dX7_largest_27 4 rfl ?_
    refine z_iload_n B dX7_largest_29 rfl 1 rfl ?_
    rcases zite hf with ⟨c2, hf⟩ | ⟨c2, hf⟩
    · refine z_icmp_eq B 88 dX7_largest_30 (by decide) (fun _ => ?_) (fun e => absurd c2 e)
      refine z_iinc (v' := (v5 + 1)) (lv' := [(5, .int (v5 + 1)), (0, .ref u0), (1, .int u1), (2, .int v2), (3, .int v3), (4, .int u4)]) B dX7_largest_88 5 rfl rfl (by decide) rfl ?_
      refine z_goto B 20 dX7_largest_91 (by decide) ?_
      refine zV.sub [1, 2, 3, 4, 5, 0] rfl ?_
      exact ih _ _ _ _ hf
    refine z_icmp_eq B 88 dX7_largest_30 (by decide) (fun e => absurd e c2) (fun _ => ?_)
    refine z_aload_n B dX7_largest_33 rfl 0 rfl ?_
    refine z_iload B dX7_largest_34 4 rfl ?_
    obtain ⟨w3, h4, ew3, hf⟩ := zb2s hf
    refine z_callSi B [.int u4] [.ref u0] cw_X7_at mt_RX7_163 (tX7_at hst ew3) ⟨rfl, rfl, (Nat.le_of_ble_eq_true rfl), (Nat.le_of_ble_eq_true rfl), (Nat.le_of_ble_eq_true rfl), (Nat.le_of_ble_eq_true rfl)⟩ rfl rfl (Nat.le_of_ble_eq_true rfl) dX7_largest_36 ?_
    refine z_bipush (v := 16) B dX7_largest_39 (by decide) ?_
    refine z_iadd B dX7_largest_41 ?_
    refine z_iload B dX7_largest_42 5 rfl ?_
    refine z_iadd B dX7_largest_44 ?_
    obtain ⟨w5, ew5, hf⟩ := zbs hf
    refine z_aI B ew5 dX7_largest_45 ?_
    refine z_iconst (v := 2) B dX7_largest_46 (by decide) ?_
    rcases zite hf with ⟨c6, hf⟩ | ⟨c6, hf⟩
    · refine z_icmp_ne B 88 dX7_largest_47 (by decide) (fun e => absurd c6 e) (fun _ => ?_)
      refine z_aload_n B dX7_largest_50 rfl 0 rfl ?_
      refine z_iload B dX7_largest_51 4 rfl ?_
      obtain ⟨w7, h8, ew7, hf⟩ := zb2s hf
      refine z_callSi B [.int u4] [.ref u0] cw_X7_at mt_RX7_163 (tX7_at hst ew7) ⟨rfl, rfl, (Nat.le_of_ble_eq_true rfl), (Nat.le_of_ble_eq_true rfl), (Nat.le_of_ble_eq_true rfl), (Nat.le_of_ble_eq_true rfl)⟩ rfl rfl (Nat.le_of_ble_eq_true rfl) dX7_largest_53 ?_
      refine z_iconst (v := 0) B dX7_largest_56 (by decide) ?_
      refine z_iadd B dX7_largest_57 ?_
      refine z_iload B dX7_largest_58 5 rfl ?_
      refine z_iadd B dX7_largest_60 ?_
      obtain ⟨w9, ew9, hf⟩ := zbs hf
      refine z_aI B ew9 dX7_largest_61 ?_
      refine z_iload_n B dX7_largest_62 rfl 3 rfl ?_
      rcases zite hf with ⟨c10, hf⟩ | ⟨c10, hf⟩
      · refine z_icmp_le B 88 dX7_largest_63 (by decide) (fun _ => ?_) (fun e => absurd c10 e)
        refine z_iinc (v' := (v5 + 1)) (lv' := [(5, .int (v5 + 1)), (0, .ref u0), (1, .int u1), (2, .int v2), (3, .int v3), (4, .int u4)]) B dX7_largest_88 5 rfl rfl (by decide) rfl ?_
        refine z_goto B 20 dX7_largest_91 (by decide) ?_
        refine zV.sub [1, 2, 3, 4, 5, 0] rfl ?_
        exact ih _ _ _ _ hf
      refine z_icmp_le B 88 dX7_largest_63 (by decide) (fun e => absurd e c10) (fun _ => ?_)
      refine z_aload_n B dX7_largest_66 rfl 0 rfl ?_
      refine z_iload B dX7_largest_67 4 rfl ?_
      obtain ⟨w11, h12, ew11, hf⟩ := zb2s hf
      refine z_callSi B [.int u4] [.ref u0] cw_X7_at mt_RX7_163 (tX7_at hst ew11) ⟨rfl, rfl, (Nat.le_of_ble_eq_true rfl), (Nat.le_of_ble_eq_true rfl), (Nat.le_of_ble_eq_true rfl), (Nat.le_of_ble_eq_true rfl)⟩ rfl rfl (Nat.le_of_ble_eq_true rfl) dX7_largest_69 ?_
      refine z_iconst (v := 0) B dX7_largest_72 (by decide) ?_
      refine z_iadd B dX7_largest_73 ?_
      refine z_iload B dX7_largest_74 5 rfl ?_
      refine z_iadd B dX7_largest_76 ?_
      obtain ⟨w13, ew13, hf⟩ := zbs hf
      refine z_aI B ew13 dX7_largest_77 ?_
      refine z_istore_n (lv' := [(3, .int w13), (0, .ref u0), (1, .int u1), (2, .int v2), (4, .int u4), (5, .int v5)]) B dX7_largest_78 rfl (by decide) rfl ?_
      refine z_bipush (v := 8) B dX7_largest_79 (by decide) ?_
      refine z_iload B dX7_largest_81 4 rfl ?_
      refine z_imul B dX7_largest_83 ?_
      refine z_iload B dX7_largest_84 5 rfl ?_
      refine z_iadd B dX7_largest_86 ?_
      refine z_istore_n (lv' := [(2, .int ((((8 : Int32) * u4) : Int32) + v5)), (3, .int w13), (0, .ref u0), (1, .int u1), (4, .int u4), (5, .int v5)]) B dX7_largest_87 rfl (by decide) rfl ?_
      refine z_iinc (v' := (v5 + 1)) (lv' := [(5, .int (v5 + 1)), (2, .int ((((8 : Int32) * u4) : Int32) + v5)), (3, .int w13), (0, .ref u0), (1, .int u1), (4, .int u4)]) B dX7_largest_88 5 rfl rfl (by decide) rfl ?_
      refine z_goto B 20 dX7_largest_91 (by decide) ?_
      refine zV.sub [3, 4, 1, 2, 5, 0] rfl ?_
      exact ih _ _ _ _ hf
    refine z_icmp_ne B 88 dX7_largest_47 (by decide) (fun _ => ?_) (fun e => absurd e c6)
    refine z_iinc (v' := (v5 + 1)) (lv' := [(5, .int (v5 + 1)), (0, .ref u0), (1, .int u1), (2, .int v2), (3, .int v3), (4, .int u4)]) B dX7_largest_88 5 rfl rfl (by decide) rfl ?_
    refine z_goto B 20 dX7_largest_91 (by decide) ?_
    refine zV.sub [1, 2, 3, 4, 5, 0] rfl ?_
    exact ih _ _ _ _ hf
set_option maxRecDepth 100000 in
set_option maxHeartbeats 4000000 in
theorem fX7_largest_L12_ok {G : zG} {x : zX} (B : zB G x cX7_largest 6 RX7 "largest" rm_X7_largest (some .int)) (hst : (zl x).stackTraces = false) (hE : ∀ e ∈ (zc x).exceptionTable.toList, False) {r : Int32 × zH} {k : zH → Int32 → Int32 → Int32 → Option (Int32 × zH)} {u0 : Nat} {u1 : Int32} (hk : ∀ h v2 v3 v4, k h v2 v3 v4 = some r → zV G x 6 (zQ G x (zoi r) 0 0) h 0 0 100 [(0, .ref u0), (1, .int u1), (2, .int v2), (3, .int v3), (4, .int v4)] []) : ∀ n h v2 v3 v4, fX7_largest_L12 k u0 u1 n h v2 v3 v4 = some r → zV G x 6 (zQ G x (zoi r) 0 0) h 0 0 12 [(0, .ref u0), (1, .int u1), (2, .int v2), (3, .int v3), (4, .int v4)] [] := by
  intro n
  induction n with
  | zero =>
    intro h v2 v3 v4 hf
    have hf : (none : Option (Int32 × zH)) = some r := hf
    cases hf
  | succ n ih =>
    intro h v2 v3 v4 hf
    rw [fX7_largest_L12] at hf
    refine z_iload B dX7_largest_12 4 rfl ?_
    rcases zite hf with ⟨c1, hf⟩ | ⟨c1, hf⟩
    · refine z_if_lt B 100 dX7_largest_14 (by decide) (fun _ => ?_) (fun e => absurd c1 e)
      exact hk _ _ _ _ hf
    refine z_if_lt B 100 dX7_largest_14 (by decide) (fun e => absurd e c1) (fun _ => ?_)
    refine z_iconst (v := 0) B dX7_largest_17 (by decide) ?_
    refine z_istore (lv' := [(5, .int 0), (0, .ref u0), (1, .int u1), (2, .int v2), (3, .int v3), (4, .int v4)]) B dX7_largest_18 (by decide) rfl ?_
    refine zV.sub [1, 2, 3, 4, 5, 0] rfl ?_
    refine fX7_largest_L20_ok B hst hE (fun h2 y3 y4 y5 hf => ?_) _ _ _ _ _ hf
    refine z_iinc (v' := (v4 + (-1))) (lv' := [(4, .int (v4 + (-1))), (0, .ref u0), (1, .int u1), (2, .int y3), (3, .int y4), (5, .int y5)]) B dX7_largest_94 4 rfl (zdec _) (by decide) rfl ?_
    refine z_goto B 12 dX7_largest_97 (by decide) ?_
    refine zV.sub [1, 2, 3, 4, 0] rfl ?_
    exact ih _ _ _ _ hf
set_option maxRecDepth 100000 in
set_option maxHeartbeats 4000000 in
theorem tX7_largest {l : Launch} {G : zG} (hst : l.stackTraces = false) {h : zH} {a0 : Nat} {a1 : Int32} {r : Int32 × zH} (hf : fX7_largest h a0 a1 = some r) : zMet l G yX7_largest (.code yX7_largest cX7_largest 6 (some .int)) rm_X7_largest 0 0 [.ref a0, .int a1] h (zoi r) := by
  unfold fX7_largest at hf
  refine z_enter (by decide) (Nat.le_of_ble_eq_true rfl) hst (fun x hx B hE => ?_)
  subst hx
  have B : zB G x cX7_largest 6 RX7 "largest" rm_X7_largest (some .int) := B
  show zV G x 6 (zQ G x (zoi r) 0 0) h 0 0 0 [(0, .ref a0), (1, .int a1)] []
  refine z_bipush (v := (-9)) B dX7_largest_0 (by decide) ?_
  refine z_istore_n (lv' := [(2, .int (-9)), (0, .ref a0), (1, .int a1)]) B dX7_largest_2 rfl (by decide) rfl ?_
  refine z_iconst (v := 0) B dX7_largest_3 (by decide) ?_
  refine z_istore_n (lv' := [(3, .int 0), (2, .int (-9)), (0, .ref a0), (1, .int a1)]) B dX7_largest_4 rfl (by decide) rfl ?_
  refine z_aload_n B dX7_largest_5 rfl 2 rfl ?_
  refine z_iconst (v := 0) B dX7_largest_6 (by decide) ?_
  obtain ⟨w1, ew1, hf⟩ := zbs hf
  refine z_aI B ew1 dX7_largest_7 ?_
  refine z_iconst (v := 1) B dX7_largest_8 (by decide) ?_
  refine z_isub B dX7_largest_9 ?_
  refine z_istore (lv' := [(4, .int ((w1 : Int32) - 1)), (3, .int 0), (2, .int (-9)), (0, .ref a0), (1, .int a1)]) B dX7_largest_10 (by decide) rfl ?_
  refine zV.sub [3, 4, 2, 1, 0] rfl ?_
  refine fX7_largest_L12_ok B hst hE (fun h2 y3 y4 y5 hf => ?_) _ _ _ _ _ hf
  refine z_iload_n B dX7_largest_100 rfl 2 rfl ?_
  cases hf
  exact z_iret B dX7_largest_101 (Nat.le_of_ble_eq_true rfl) (Nat.le_of_ble_eq_true rfl)
abbrev rm_X7_makeRoom : Room := { frames := 4, cells := 0, slots := 0, locals := 90 }
set_option maxRecDepth 100000 in
set_option maxHeartbeats 4000000 in
theorem fX7_makeRoom_L0_ok {G : zG} {x : zX} (B : zB G x cX7_makeRoom 6 RX7 "makeRoom" rm_X7_makeRoom (some .boolean)) (hst : (zl x).stackTraces = false) (hE : ∀ e ∈ (zc x).exceptionTable.toList, False) {r : Int32 × zH} {k : zH → Option (Int32 × zH)} {u0 : Nat} {u1 : Int32} {u2 : Int32} {u3 : Int32} (hk : ∀ h, k h = some r → zV G x 6 (zQ G x (zoi r) 0 0) h 0 0 91 [(0, .ref u0), (1, .int u1), (2, .int u2), (3, .int u3)] []) : ∀ n h, fX7_makeRoom_L0 k u0 u1 u2 u3 n h = some r → zV G x 6 (zQ G x (zoi r) 0 0) h 0 0 0 [(0, .ref u0), (1, .int u1), (2, .int u2), (3, .int u3)] [] := by
  intro n
  induction n with
  | zero =>
    intro h hf
    have hf : (none : Option (Int32 × zH)) = some r := hf
    cases hf
  | succ n ih =>
    intro h hf
    rw [fX7_makeRoom_L0] at hf
    refine z_aload_n B dX7_makeRoom_0 rfl 0 rfl ?_
    obtain ⟨w1, h2, ew1, hf⟩ := zb2s hf
    refine z_callSi B [.ref u0] [] cw_X7_used mt_RX7_176 (tX7_used hst ew1) ⟨rfl, rfl, (Nat.le_of_ble_eq_true rfl), (Nat.le_of_ble_eq_true rfl), (Nat.le_of_ble_eq_true rfl), (Nat.le_of_ble_eq_true rfl)⟩ rfl rfl (Nat.le_of_ble_eq_true rfl) dX7_makeRoom_1 ?_
    refine z_iload_n B dX7_makeRoom_4 rfl 1 rfl ?_
    refine z_iadd B dX7_makeRoom_5 ?_
    refine z_aload_n B dX7_makeRoom_6 rfl 0 rfl ?_
    refine z_iconst (v := 3) B dX7_makeRoom_7 (by decide) ?_
    obtain ⟨w3, ew3, hf⟩ := zbs hf
    refine z_aI B ew3 dX7_makeRoom_8 ?_
    rcases zite hf with ⟨c4, hf⟩ | ⟨c4, hf⟩
    · refine z_icmp_le B 91 dX7_makeRoom_9 (by decide) (fun _ => ?_) (fun e => absurd c4 e)
      exact hk _ hf
    refine z_icmp_le B 91 dX7_makeRoom_9 (by decide) (fun e => absurd e c4) (fun _ => ?_)
    refine z_aload_n B dX7_makeRoom_12 rfl 0 rfl ?_
    refine z_iload_n B dX7_makeRoom_13 rfl 2 rfl ?_
    obtain ⟨w5, h6, ew5, hf⟩ := zb2s hf
    refine z_callSi B [.ref u0, .int u2] [] cw_X7_largest mt_RX7_180 (tX7_largest hst ew5) ⟨rfl, rfl, (Nat.le_of_ble_eq_true rfl), (Nat.le_of_ble_eq_true rfl), (Nat.le_of_ble_eq_true rfl), (Nat.le_of_ble_eq_true rfl)⟩ rfl rfl (Nat.le_of_ble_eq_true rfl) dX7_makeRoom_14 ?_
    refine z_istore (lv' := [(4, .int w5), (0, .ref u0), (1, .int u1), (2, .int u2), (3, .int u3)]) B dX7_makeRoom_17 (by decide) rfl ?_
    refine z_iload B dX7_makeRoom_19 0 rfl ?_
    refine z_bipush (v := (-9)) B dX7_makeRoom_21 (by decide) ?_
    rcases zite hf with ⟨c7, hf⟩ | ⟨c7, hf⟩
    · refine z_icmp_ne B 38 dX7_makeRoom_23 (by decide) (fun e => absurd c7 e) (fun _ => ?_)
      refine z_iload_n B dX7_makeRoom_26 rfl 4 rfl ?_
      rcases zite hf with ⟨c8, hf⟩ | ⟨c8, hf⟩
      · refine z_if_eq B 38 dX7_makeRoom_27 (by decide) (fun _ => ?_) (fun e => absurd c8 e)
        refine z_bipush (v := (-9)) B dX7_makeRoom_38 (by decide) ?_
        refine z_istore (lv' := [(5, .int (-9)), (4, .int w5), (0, .ref u0), (1, .int u1), (2, .int u2), (3, .int u3)]) B dX7_makeRoom_40 (by decide) rfl ?_
        refine z_iload B dX7_makeRoom_42 1 rfl ?_
        refine z_bipush (v := (-9)) B dX7_makeRoom_44 (by decide) ?_
        rcases zite hf with ⟨c9, hf⟩ | ⟨c9, hf⟩
        · refine z_icmp_ne B 58 dX7_makeRoom_46 (by decide) (fun e => absurd c9 e) (fun _ => ?_)
          refine z_iload B dX7_makeRoom_49 0 rfl ?_
          refine z_bipush (v := (-9)) B dX7_makeRoom_51 (by decide) ?_
          refine z_icmp_ne B 58 dX7_makeRoom_53 (by decide) (fun e => absurd e (by decide)) (fun _ => ?_)
          refine z_iconst (v := 0) B dX7_makeRoom_56 (by decide) ?_
          cases hf
          exact z_zret B dX7_makeRoom_57 (Or.inl rfl) (Nat.le_of_ble_eq_true rfl) (Nat.le_of_ble_eq_true rfl)
        refine z_icmp_ne B 58 dX7_makeRoom_46 (by decide) (fun _ => ?_) (fun e => absurd e c9)
        refine z_iload B dX7_makeRoom_58 1 rfl ?_
        refine z_bipush (v := (-9)) B dX7_makeRoom_60 (by decide) ?_
        rcases zite hf with ⟨c10, hf⟩ | ⟨c10, hf⟩
        · refine z_icmp_eq B 82 dX7_makeRoom_62 (by decide) (fun _ => ?_) (fun e => absurd c10 e)
          refine z_aload_n B dX7_makeRoom_82 rfl 2 rfl ?_
          refine z_iload B dX7_makeRoom_83 0 rfl ?_
          obtain ⟨h11, eh11, hf⟩ := zbs hf
          refine z_callSv B [.ref u0, .int (-9)] [] cw_X7_drop mt_RX7_190 (tX7_drop hst eh11) ⟨rfl, rfl, (Nat.le_of_ble_eq_true rfl), (Nat.le_of_ble_eq_true rfl), (Nat.le_of_ble_eq_true rfl), (Nat.le_of_ble_eq_true rfl)⟩ rfl rfl (Nat.le_of_ble_eq_true rfl) dX7_makeRoom_85 ?_
          refine z_goto B 0 dX7_makeRoom_88 (by decide) ?_
          refine zV.sub [2, 3, 4, 5] rfl ?_
          exact ih _ hf
        refine z_icmp_eq B 82 dX7_makeRoom_62 (by decide) (fun e => absurd e c10) (fun _ => ?_)
        refine z_aload_n B dX7_makeRoom_65 rfl 2 rfl ?_
        refine z_iload B dX7_makeRoom_66 1 rfl ?_
        refine z_bipush (v := 8) B dX7_makeRoom_68 (by decide) ?_
        refine z_idiv B dX7_makeRoom_70 (by decide) ?_
        refine z_iload B dX7_makeRoom_71 1 rfl ?_
        refine z_bipush (v := 8) B dX7_makeRoom_73 (by decide) ?_
        refine z_irem B dX7_makeRoom_75 (by decide) ?_
        obtain ⟨h12, eh12, hf⟩ := zbs hf
        refine z_callSv B [.ref u0, .int ((w5 : Int32) / 8), .int ((w5 : Int32) - w5 / 8 * 8)] [] cw_X7_dropForm mt_RX7_186 (tX7_dropForm hst eh12) ⟨rfl, rfl, (Nat.le_of_ble_eq_true rfl), (Nat.le_of_ble_eq_true rfl), (Nat.le_of_ble_eq_true rfl), (Nat.le_of_ble_eq_true rfl)⟩ rfl rfl (Nat.le_of_ble_eq_true rfl) dX7_makeRoom_76 ?_
        refine z_goto B 88 dX7_makeRoom_79 (by decide) ?_
        refine z_goto B 0 dX7_makeRoom_88 (by decide) ?_
        refine zV.sub [2, 3, 4, 5] rfl ?_
        exact ih _ hf
      refine z_if_eq B 38 dX7_makeRoom_27 (by decide) (fun e => absurd e c8) (fun _ => ?_)
      refine z_aload_n B dX7_makeRoom_30 rfl 1 rfl ?_
      refine z_iload_n B dX7_makeRoom_31 rfl 3 rfl ?_
      obtain ⟨w13, h14, ew13, hf⟩ := zb2s hf
      refine z_callSi B [.ref u0, .int u2] [] cw_X7_heaviest mt_RX7_183 (tX7_heaviest hst ew13) ⟨rfl, rfl, (Nat.le_of_ble_eq_true rfl), (Nat.le_of_ble_eq_true rfl), (Nat.le_of_ble_eq_true rfl), (Nat.le_of_ble_eq_true rfl)⟩ rfl rfl (Nat.le_of_ble_eq_true rfl) dX7_makeRoom_32 ?_
      refine z_goto B 40 dX7_makeRoom_35 (by decide) ?_
      refine z_istore (lv' := [(5, .int w13), (4, .int w5), (0, .ref u0), (1, .int u1), (2, .int u2), (3, .int u3)]) B dX7_makeRoom_40 (by decide) rfl ?_
      refine z_iload B dX7_makeRoom_42 1 rfl ?_
      refine z_bipush (v := (-9)) B dX7_makeRoom_44 (by decide) ?_
      rcases zite hf with ⟨c15, hf⟩ | ⟨c15, hf⟩
      · refine z_icmp_ne B 58 dX7_makeRoom_46 (by decide) (fun e => absurd c15 e) (fun _ => ?_)
        refine z_iload B dX7_makeRoom_49 0 rfl ?_
        refine z_bipush (v := (-9)) B dX7_makeRoom_51 (by decide) ?_
        rcases zite hf with ⟨c16, hf⟩ | ⟨c16, hf⟩
        · refine z_icmp_ne B 58 dX7_makeRoom_53 (by decide) (fun e => absurd c16 e) (fun _ => ?_)
          refine z_iconst (v := 0) B dX7_makeRoom_56 (by decide) ?_
          cases hf
          exact z_zret B dX7_makeRoom_57 (Or.inl rfl) (Nat.le_of_ble_eq_true rfl) (Nat.le_of_ble_eq_true rfl)
        refine z_icmp_ne B 58 dX7_makeRoom_53 (by decide) (fun _ => ?_) (fun e => absurd e c16)
        refine z_iload B dX7_makeRoom_58 1 rfl ?_
        refine z_bipush (v := (-9)) B dX7_makeRoom_60 (by decide) ?_
        rcases zite hf with ⟨c17, hf⟩ | ⟨c17, hf⟩
        · refine z_icmp_eq B 82 dX7_makeRoom_62 (by decide) (fun _ => ?_) (fun e => absurd c17 e)
          refine z_aload_n B dX7_makeRoom_82 rfl 2 rfl ?_
          refine z_iload B dX7_makeRoom_83 0 rfl ?_
          obtain ⟨h18, eh18, hf⟩ := zbs hf
          refine z_callSv B [.ref u0, .int w13] [] cw_X7_drop mt_RX7_190 (tX7_drop hst eh18) ⟨rfl, rfl, (Nat.le_of_ble_eq_true rfl), (Nat.le_of_ble_eq_true rfl), (Nat.le_of_ble_eq_true rfl), (Nat.le_of_ble_eq_true rfl)⟩ rfl rfl (Nat.le_of_ble_eq_true rfl) dX7_makeRoom_85 ?_
          refine z_goto B 0 dX7_makeRoom_88 (by decide) ?_
          refine zV.sub [2, 3, 4, 5] rfl ?_
          exact ih _ hf
        refine z_icmp_eq B 82 dX7_makeRoom_62 (by decide) (fun e => absurd e c17) (fun _ => ?_)
        refine z_aload_n B dX7_makeRoom_65 rfl 2 rfl ?_
        refine z_iload B dX7_makeRoom_66 1 rfl ?_
        refine z_bipush (v := 8) B dX7_makeRoom_68 (by decide) ?_
        refine z_idiv B dX7_makeRoom_70 (by decide) ?_
        refine z_iload B dX7_makeRoom_71 1 rfl ?_
        refine z_bipush (v := 8) B dX7_makeRoom_73 (by decide) ?_
        refine z_irem B dX7_makeRoom_75 (by decide) ?_
        obtain ⟨h19, eh19, hf⟩ := zbs hf
        refine z_callSv B [.ref u0, .int ((w5 : Int32) / 8), .int ((w5 : Int32) - w5 / 8 * 8)] [] cw_X7_dropForm mt_RX7_186 (tX7_dropForm hst eh19) ⟨rfl, rfl, (Nat.le_of_ble_eq_true rfl), (Nat.le_of_ble_eq_true rfl), (Nat.le_of_ble_eq_true rfl), (Nat.le_of_ble_eq_true rfl)⟩ rfl rfl (Nat.le_of_ble_eq_true rfl) dX7_makeRoom_76 ?_
        refine z_goto B 88 dX7_makeRoom_79 (by decide) ?_
        refine z_goto B 0 dX7_makeRoom_88 (by decide) ?_
        refine zV.sub [2, 3, 4, 5] rfl ?_
        exact ih _ hf
      refine z_icmp_ne B 58 dX7_makeRoom_46 (by decide) (fun _ => ?_) (fun e => absurd e c15)
      refine z_iload B dX7_makeRoom_58 1 rfl ?_
      refine z_bipush (v := (-9)) B dX7_makeRoom_60 (by decide) ?_
      rcases zite hf with ⟨c20, hf⟩ | ⟨c20, hf⟩
      · refine z_icmp_eq B 82 dX7_makeRoom_62 (by decide) (fun _ => ?_) (fun e => absurd c20 e)
        refine z_aload_n B dX7_makeRoom_82 rfl 2 rfl ?_
        refine z_iload B dX7_makeRoom_83 0 rfl ?_
        obtain ⟨h21, eh21, hf⟩ := zbs hf
        refine z_callSv B [.ref u0, .int w13] [] cw_X7_drop mt_RX7_190 (tX7_drop hst eh21) ⟨rfl, rfl, (Nat.le_of_ble_eq_true rfl), (Nat.le_of_ble_eq_true rfl), (Nat.le_of_ble_eq_true rfl), (Nat.le_of_ble_eq_true rfl)⟩ rfl rfl (Nat.le_of_ble_eq_true rfl) dX7_makeRoom_85 ?_
        refine z_goto B 0 dX7_makeRoom_88 (by decide) ?_
        refine zV.sub [2, 3, 4, 5] rfl ?_
        exact ih _ hf
      refine z_icmp_eq B 82 dX7_makeRoom_62 (by decide) (fun e => absurd e c20) (fun _ => ?_)
      refine z_aload_n B dX7_makeRoom_65 rfl 2 rfl ?_
      refine z_iload B dX7_makeRoom_66 1 rfl ?_
      refine z_bipush (v := 8) B dX7_makeRoom_68 (by decide) ?_
      refine z_idiv B dX7_makeRoom_70 (by decide) ?_
      refine z_iload B dX7_makeRoom_71 1 rfl ?_
      refine z_bipush (v := 8) B dX7_makeRoom_73 (by decide) ?_
      refine z_irem B dX7_makeRoom_75 (by decide) ?_
      obtain ⟨h22, eh22, hf⟩ := zbs hf
      refine z_callSv B [.ref u0, .int ((w5 : Int32) / 8), .int ((w5 : Int32) - w5 / 8 * 8)] [] cw_X7_dropForm mt_RX7_186 (tX7_dropForm hst eh22) ⟨rfl, rfl, (Nat.le_of_ble_eq_true rfl), (Nat.le_of_ble_eq_true rfl), (Nat.le_of_ble_eq_true rfl), (Nat.le_of_ble_eq_true rfl)⟩ rfl rfl (Nat.le_of_ble_eq_true rfl) dX7_makeRoom_76 ?_
      refine z_goto B 88 dX7_makeRoom_79 (by decide) ?_
      refine z_goto B 0 dX7_makeRoom_88 (by decide) ?_
      refine zV.sub [2, 3, 4, 5] rfl ?_
      exact ih _ hf
    refine z_icmp_ne B 38 dX7_makeRoom_23 (by decide) (fun _ => ?_) (fun e => absurd e c7)
    refine z_bipush (v := (-9)) B dX7_makeRoom_38 (by decide) ?_
    refine z_istore (lv' := [(5, .int (-9)), (4, .int w5), (0, .ref u0), (1, .int u1), (2, .int u2), (3, .int u3)]) B dX7_makeRoom_40 (by decide) rfl ?_
    refine z_iload B dX7_makeRoom_42 1 rfl ?_
    refine z_bipush (v := (-9)) B dX7_makeRoom_44 (by decide) ?_
    rcases zite hf with ⟨c23, hf⟩ | ⟨c23, hf⟩
    · refine z_icmp_ne B 58 dX7_makeRoom_46 (by decide) (fun e => absurd c23 e) (fun _ => ?_)
      refine z_iload B dX7_makeRoom_49 0 rfl ?_
      refine z_bipush (v := (-9)) B dX7_makeRoom_51 (by decide) ?_
      refine z_icmp_ne B 58 dX7_makeRoom_53 (by decide) (fun e => absurd e (by decide)) (fun _ => ?_)
      refine z_iconst (v := 0) B dX7_makeRoom_56 (by decide) ?_
      cases hf
      exact z_zret B dX7_makeRoom_57 (Or.inl rfl) (Nat.le_of_ble_eq_true rfl) (Nat.le_of_ble_eq_true rfl)
    refine z_icmp_ne B 58 dX7_makeRoom_46 (by decide) (fun _ => ?_) (fun e => absurd e c23)
    refine z_iload B dX7_makeRoom_58 1 rfl ?_
    refine z_bipush (v := (-9)) B dX7_makeRoom_60 (by decide) ?_
    rcases zite hf with ⟨c24, hf⟩ | ⟨c24, hf⟩
    · refine z_icmp_eq B 82 dX7_makeRoom_62 (by decide) (fun _ => ?_) (fun e => absurd c24 e)
      refine z_aload_n B dX7_makeRoom_82 rfl 2 rfl ?_
      refine z_iload B dX7_makeRoom_83 0 rfl ?_
      obtain ⟨h25, eh25, hf⟩ := zbs hf
      refine z_callSv B [.ref u0, .int (-9)] [] cw_X7_drop mt_RX7_190 (tX7_drop hst eh25) ⟨rfl, rfl, (Nat.le_of_ble_eq_true rfl), (Nat.le_of_ble_eq_true rfl), (Nat.le_of_ble_eq_true rfl), (Nat.le_of_ble_eq_true rfl)⟩ rfl rfl (Nat.le_of_ble_eq_true rfl) dX7_makeRoom_85 ?_
      refine z_goto B 0 dX7_makeRoom_88 (by decide) ?_
      refine zV.sub [2, 3, 4, 5] rfl ?_
      exact ih _ hf
    refine z_icmp_eq B 82 dX7_makeRoom_62 (by decide) (fun e => absurd e c24) (fun _ => ?_)
    refine z_aload_n B dX7_makeRoom_65 rfl 2 rfl ?_
    refine z_iload B dX7_makeRoom_66 1 rfl ?_
    refine z_bipush (v := 8) B dX7_makeRoom_68 (by decide) ?_
    refine z_idiv B dX7_makeRoom_70 (by decide) ?_
    refine z_iload B dX7_makeRoom_71 1 rfl ?_
    refine z_bipush (v := 8) B dX7_makeRoom_73 (by decide) ?_
    refine z_irem B dX7_makeRoom_75 (by decide) ?_
    obtain ⟨h26, eh26, hf⟩ := zbs hf
    refine z_callSv B [.ref u0, .int ((w5 : Int32) / 8), .int ((w5 : Int32) - w5 / 8 * 8)] [] cw_X7_dropForm mt_RX7_186 (tX7_dropForm hst eh26) ⟨rfl, rfl, (Nat.le_of_ble_eq_true rfl), (Nat.le_of_ble_eq_true rfl), (Nat.le_of_ble_eq_true rfl), (Nat.le_of_ble_eq_true rfl)⟩ rfl rfl (Nat.le_of_ble_eq_true rfl) dX7_makeRoom_76 ?_
    refine z_goto B 88 dX7_makeRoom_79 (by decide) ?_
    refine z_goto B 0 dX7_makeRoom_88 (by decide) ?_
    refine zV.sub [2, 3, 4, 5] rfl ?_
    exact ih _ hf
set_option maxRecDepth 100000 in
set_option maxHeartbeats 4000000 in
theorem tX7_makeRoom {l : Launch} {G : zG} (hst : l.stackTraces = false) {h : zH} {a0 : Nat} {a1 : Int32} {a2 : Int32} {a3 : Int32} {r : Int32 × zH} (hf : fX7_makeRoom h a0 a1 a2 a3 = some r) : zMet l G yX7_makeRoom (.code yX7_makeRoom cX7_makeRoom 6 (some .boolean)) rm_X7_makeRoom 0 0 [.ref a0, .int a1, .int a2, .int a3] h (zoi r) := by
  unfold fX7_makeRoom at hf
  refine z_enter (by decide) (Nat.le_of_ble_eq_true rfl) hst (fun x hx B hE => ?_)
  subst hx
  have B : zB G x cX7_makeRoom 6 RX7 "makeRoom" rm_X7_makeRoom (some .boolean) := B
  show zV G x 6 (zQ G x (zoi r) 0 0) h 0 0 0 [(0, .ref a0), (1, .int a1), (2, .int a2), (3, .int a3)] []
  refine fX7_makeRoom_L0_ok B hst hE (fun h1 hf => ?_) _ _ hf
  refine z_iconst (v := 1) B dX7_makeRoom_91 (by decide) ?_
  cases hf
  exact z_zret B dX7_makeRoom_92 (Or.inr rfl) (Nat.le_of_ble_eq_true rfl) (Nat.le_of_ble_eq_true rfl)
abbrev rm_X7_tryNow : Room := { frames := 1, cells := 0, slots := 0, locals := 25 }
set_option maxRecDepth 100000 in
set_option maxHeartbeats 4000000 in
theorem fX7_tryNow_L18_ok {G : zG} {x : zX} (B : zB G x cX7_tryNow 2 RX7 "tryNow" rm_X7_tryNow none) (hst : (zl x).stackTraces = false) (hE : ∀ e ∈ (zc x).exceptionTable.toList, False) {r : zH} {k : zH → Int32 → Option (zH)} {u0 : Nat} (hk : ∀ h v1, k h v1 = some r → zV G x 2 (zQ G x (zov r) 0 0) h 0 0 47 [(0, .ref u0), (1, .int v1)] []) : ∀ n h v1, fX7_tryNow_L18 k u0 n h v1 = some r → zV G x 2 (zQ G x (zov r) 0 0) h 0 0 18 [(0, .ref u0), (1, .int v1)] [] := by
  intro n
  induction n with
  | zero =>
    intro h v1 hf
    have hf : (none : Option (zH)) = some r := hf
    cases hf
  | succ n ih =>
    intro h v1 hf
    rw [fX7_tryNow_L18] at hf
    refine z_iload_n B dX7_tryNow_18 rfl 1 rfl ?_
    refine z_aload_n B dX7_tryNow_19 rfl 0 rfl ?_
    obtain ⟨w1, ew1, hf⟩ := zbs hf
    refine z_gP B fl_RX7_59 ew1 rfl dX7_tryNow_20 ?_
    refine z_iconst (v := 0) B dX7_tryNow_23 (by decide) ?_
    obtain ⟨w2, ew2, hf⟩ := zbs hf
    refine z_aI B ew2 dX7_tryNow_24 ?_
    rcases zite hf with ⟨c3, hf⟩ | ⟨c3, hf⟩
    · refine z_icmp_ge B 47 dX7_tryNow_25 (by decide) (fun _ => ?_) (fun e => absurd c3 e)
      exact hk _ _ hf
    refine z_icmp_ge B 47 dX7_tryNow_25 (by decide) (fun e => absurd e c3) (fun _ => ?_)
    refine z_aload_n B dX7_tryNow_28 rfl 0 rfl ?_
    obtain ⟨w4, ew4, hf⟩ := zbs hf
    refine z_gP B fl_RX7_59 ew4 rfl dX7_tryNow_29 ?_
    refine z_iload_n B dX7_tryNow_32 rfl 1 rfl ?_
    obtain ⟨w5, h6, ew5, hf⟩ := zb2s hf
    refine z_callSi B [.int v1] [.ref w4] cw_X7_at mt_RX7_163 (tX7_at hst ew5) ⟨rfl, rfl, (Nat.le_of_ble_eq_true rfl), (Nat.le_of_ble_eq_true rfl), (Nat.le_of_ble_eq_true rfl), (Nat.le_of_ble_eq_true rfl)⟩ rfl rfl (Nat.le_of_ble_eq_true rfl) dX7_tryNow_33 ?_
    refine z_bipush (v := 27) B dX7_tryNow_36 (by decide) ?_
    refine z_iadd B dX7_tryNow_38 ?_
    refine z_iload_n B dX7_tryNow_39 rfl 1 rfl ?_
    obtain ⟨h7, eh7, hf⟩ := zbs hf
    refine z_bI B eh7 dX7_tryNow_40 ?_
    refine z_iinc (v' := (v1 + 1)) (lv' := [(1, .int (v1 + 1)), (0, .ref u0)]) B dX7_tryNow_41 1 rfl rfl (by decide) rfl ?_
    refine z_goto B 18 dX7_tryNow_44 (by decide) ?_
    refine zV.sub [1, 0] rfl ?_
    exact ih _ _ hf
set_option maxRecDepth 100000 in
set_option maxHeartbeats 4000000 in
theorem tX7_tryNow {l : Launch} {G : zG} (hst : l.stackTraces = false) {h : zH} {a0 : Nat} {r : zH} (hf : fX7_tryNow h a0 = some r) : zMet l G yX7_tryNow (.code yX7_tryNow cX7_tryNow 2 none) rm_X7_tryNow 0 0 [.ref a0] h (zov r) := by
  unfold fX7_tryNow at hf
  obtain ⟨-, hf⟩ := zck hf
  refine z_enter (by decide) (Nat.le_of_ble_eq_true rfl) hst (fun x hx B hE => ?_)
  subst hx
  have B : zB G x cX7_tryNow 2 RX7 "tryNow" rm_X7_tryNow none := B
  show zV G x 2 (zQ G x (zov r) 0 0) h 0 0 0 [(0, .ref a0)] []
  refine z_aload_n B dX7_tryNow_0 rfl 0 rfl ?_
  obtain ⟨w1, ew1, hf⟩ := zbs hf
  refine z_gP B fl_RX7_56 ew1 rfl dX7_tryNow_1 ?_
  refine z_iconst (v := 0) B dX7_tryNow_4 (by decide) ?_
  refine z_aload_n B dX7_tryNow_5 rfl 0 rfl ?_
  obtain ⟨w2, ew2, hf⟩ := zbs hf
  refine z_gP B fl_RX7_59 ew2 rfl dX7_tryNow_6 ?_
  refine z_iconst (v := 0) B dX7_tryNow_9 (by decide) ?_
  refine z_sipush (v := 360) B dX7_tryNow_10 (by decide) ?_
  obtain ⟨h3, eh3, hf⟩ := zbs hf
  refine z_callSv B [.ref w1, .int 0, .ref w2, .int 0, .int 360] [] cw_X7_copyRow mt_RX7_90 (tX7_copyRow hst eh3) ⟨rfl, rfl, (Nat.le_of_ble_eq_true rfl), (Nat.le_of_ble_eq_true rfl), (Nat.le_of_ble_eq_true rfl), (Nat.le_of_ble_eq_true rfl)⟩ rfl rfl (Nat.le_of_ble_eq_true rfl) dX7_tryNow_13 ?_
  refine z_iconst (v := 0) B dX7_tryNow_16 (by decide) ?_
  refine z_istore_n (lv' := [(1, .int 0), (0, .ref a0)]) B dX7_tryNow_17 rfl (by decide) rfl ?_
  refine zV.sub [1, 0] rfl ?_
  refine fX7_tryNow_L18_ok B hst hE (fun h4 y5 hf => ?_) _ _ _ hf
  cases hf
  exact z_vret B dX7_tryNow_47 (Nat.le_of_ble_eq_true rfl) (Nat.le_of_ble_eq_true rfl)
abbrev rm_X7_about : Room := { frames := 3, cells := 0, slots := 0, locals := 65 }
set_option maxRecDepth 100000 in
set_option maxHeartbeats 4000000 in
theorem tX7_about {l : Launch} {G : zG} (hst : l.stackTraces = false) {h : zH} {a0 : Nat} {a1 : Int32} {r : Int32 × zH} (hf : fX7_about h a0 a1 = some r) : zMet l G yX7_about (.code yX7_about cX7_about 2 (some .int)) rm_X7_about 0 0 [.ref a0, .int a1] h (zoi r) := by
  unfold fX7_about at hf
  obtain ⟨-, hf⟩ := zck hf
  refine z_enter (by decide) (Nat.le_of_ble_eq_true rfl) hst (fun x hx B hE => ?_)
  subst hx
  have B : zB G x cX7_about 2 RX7 "about" rm_X7_about (some .int) := B
  show zV G x 2 (zQ G x (zoi r) 0 0) h 0 0 0 [(0, .ref a0), (1, .int a1)] []
  refine z_aload_n B dX7_about_0 rfl 0 rfl ?_
  refine z_iload_n B dX7_about_1 rfl 1 rfl ?_
  refine z_i2l B dX7_about_2 ?_
  refine z_lconst (v := 0) B dX7_about_3 (by decide) ?_
  refine z_ldc2 B dX7_about_4 kl_RX7_194 ?_
  obtain ⟨w1, h2, ew1, hf⟩ := zb2s hf
  refine z_callSi B [.long (a1 : Int32).toInt64, .long 0, .long 7] [.ref a0] cw_X7_in mt_RX7_97 (tX7_in hst ew1) ⟨rfl, rfl, (Nat.le_of_ble_eq_true rfl), (Nat.le_of_ble_eq_true rfl), (Nat.le_of_ble_eq_true rfl), (Nat.le_of_ble_eq_true rfl)⟩ rfl rfl (Nat.le_of_ble_eq_true rfl) dX7_about_7 ?_
  rcases zite hf with ⟨c3, hf⟩ | ⟨c3, hf⟩
  · refine z_if_eq B 17 dX7_about_10 (by decide) (fun _ => ?_) (fun e => absurd c3 e)
    refine z_iconst (v := 1) B dX7_about_17 (by decide) ?_
    obtain ⟨w4, h5, ew4, hf⟩ := zb2s hf
    refine z_callVi B [.int 1] [] cw_X7_refused mv_RX7_112 (tX7_refused hst ew4) rfl (by decide) (kfX7_refused ew4) ⟨rfl, rfl, (Nat.le_of_ble_eq_true rfl), (Nat.le_of_ble_eq_true rfl), (Nat.le_of_ble_eq_true rfl), (Nat.le_of_ble_eq_true rfl)⟩ rfl rfl (Nat.le_of_ble_eq_true rfl) dX7_about_18 ?_
    rcases zite hf with ⟨c6, hf⟩ | ⟨c6, hf⟩
    · refine z_if_eq B 26 dX7_about_21 (by decide) (fun _ => ?_) (fun e => absurd c6 e)
      refine z_iload_n B dX7_about_26 rfl 1 rfl ?_
      rcases zite hf with ⟨c7, hf⟩ | ⟨c7, hf⟩
      · refine z_tabIn B 0 68 dX7_about_27 c7 (by decide) (by decide) rfl (by decide) ?_
        refine z_aload_n B dX7_about_68 rfl 0 rfl ?_
        obtain ⟨w8, ew8, hf⟩ := zbs hf
        refine z_gI B fl_RX7_13 ew8 rfl dX7_about_69 ?_
        cases hf
        exact z_iret B dX7_about_72 (Nat.le_of_ble_eq_true rfl) (Nat.le_of_ble_eq_true rfl)
      rcases zite hf with ⟨c9, hf⟩ | ⟨c9, hf⟩
      · refine z_tabIn B 1 73 dX7_about_27 c9 (by decide) (by decide) rfl (by decide) ?_
        refine z_aload_n B dX7_about_73 rfl 0 rfl ?_
        obtain ⟨w10, ew10, hf⟩ := zbs hf
        refine z_gI B fl_RX7_101 ew10 rfl dX7_about_74 ?_
        cases hf
        exact z_iret B dX7_about_77 (Nat.le_of_ble_eq_true rfl) (Nat.le_of_ble_eq_true rfl)
      rcases zite hf with ⟨c11, hf⟩ | ⟨c11, hf⟩
      · refine z_tabIn B 2 78 dX7_about_27 c11 (by decide) (by decide) rfl (by decide) ?_
        refine z_aload_n B dX7_about_78 rfl 0 rfl ?_
        obtain ⟨w12, ew12, hf⟩ := zbs hf
        refine z_gI B fl_RX7_104 ew12 rfl dX7_about_79 ?_
        cases hf
        exact z_iret B dX7_about_82 (Nat.le_of_ble_eq_true rfl) (Nat.le_of_ble_eq_true rfl)
      rcases zite hf with ⟨c13, hf⟩ | ⟨c13, hf⟩
      · refine z_tabIn B 3 83 dX7_about_27 c13 (by decide) (by decide) rfl (by decide) ?_
        refine z_aload_n B dX7_about_83 rfl 0 rfl ?_
        obtain ⟨w14, ew14, hf⟩ := zbs hf
        refine z_gP B fl_RX7_56 ew14 rfl dX7_about_84 ?_
        refine z_iconst (v := 0) B dX7_about_87 (by decide) ?_
        obtain ⟨w15, ew15, hf⟩ := zbs hf
        refine z_aI B ew15 dX7_about_88 ?_
        cases hf
        exact z_iret B dX7_about_89 (Nat.le_of_ble_eq_true rfl) (Nat.le_of_ble_eq_true rfl)
      rcases zite hf with ⟨c16, hf⟩ | ⟨c16, hf⟩
      · refine z_tabIn B 4 90 dX7_about_27 c16 (by decide) (by decide) rfl (by decide) ?_
        refine z_aload_n B dX7_about_90 rfl 0 rfl ?_
        obtain ⟨w17, ew17, hf⟩ := zbs hf
        refine z_gP B fl_RX7_56 ew17 rfl dX7_about_91 ?_
        refine z_iconst (v := 3) B dX7_about_94 (by decide) ?_
        obtain ⟨w18, ew18, hf⟩ := zbs hf
        refine z_aI B ew18 dX7_about_95 ?_
        cases hf
        exact z_iret B dX7_about_96 (Nat.le_of_ble_eq_true rfl) (Nat.le_of_ble_eq_true rfl)
      rcases zite hf with ⟨c19, hf⟩ | ⟨c19, hf⟩
      · refine z_tabIn B 5 97 dX7_about_27 c19 (by decide) (by decide) rfl (by decide) ?_
        refine z_aload_n B dX7_about_97 rfl 0 rfl ?_
        obtain ⟨w20, ew20, hf⟩ := zbs hf
        refine z_gP B fl_RX7_56 ew20 rfl dX7_about_98 ?_
        obtain ⟨w21, h22, ew21, hf⟩ := zb2s hf
        refine z_callSi B [.ref w20] [] cw_X7_used mt_RX7_176 (tX7_used hst ew21) ⟨rfl, rfl, (Nat.le_of_ble_eq_true rfl), (Nat.le_of_ble_eq_true rfl), (Nat.le_of_ble_eq_true rfl), (Nat.le_of_ble_eq_true rfl)⟩ rfl rfl (Nat.le_of_ble_eq_true rfl) dX7_about_101 ?_
        cases hf
        exact z_iret B dX7_about_104 (Nat.le_of_ble_eq_true rfl) (Nat.le_of_ble_eq_true rfl)
      rcases zite hf with ⟨c23, hf⟩ | ⟨c23, hf⟩
      · refine z_tabIn B 6 105 dX7_about_27 c23 (by decide) (by decide) rfl (by decide) ?_
        refine z_aload_n B dX7_about_105 rfl 0 rfl ?_
        obtain ⟨w24, ew24, hf⟩ := zbs hf
        refine z_gP B fl_RX7_56 ew24 rfl dX7_about_106 ?_
        refine z_iconst (v := 1) B dX7_about_109 (by decide) ?_
        obtain ⟨w25, ew25, hf⟩ := zbs hf
        refine z_aI B ew25 dX7_about_110 ?_
        cases hf
        exact z_iret B dX7_about_111 (Nat.le_of_ble_eq_true rfl) (Nat.le_of_ble_eq_true rfl)
      refine z_tabOut B 112 dX7_about_27 (z_outL 0 7 (by decide) (fun j hj0 hj => by rcases (show j = 0 ∨ j = 1 ∨ j = 2 ∨ j = 3 ∨ j = 4 ∨ j = 5 ∨ j = 6 by omega) with rfl | rfl | rfl | rfl | rfl | rfl | rfl <;> assumption)) (by decide) ?_
      refine z_aload_n B dX7_about_112 rfl 0 rfl ?_
      obtain ⟨w26, ew26, hf⟩ := zbs hf
      refine z_gP B fl_RX7_56 ew26 rfl dX7_about_113 ?_
      refine z_iconst (v := 2) B dX7_about_116 (by decide) ?_
      obtain ⟨w27, ew27, hf⟩ := zbs hf
      refine z_aI B ew27 dX7_about_117 ?_
      cases hf
      exact z_iret B dX7_about_118 (Nat.le_of_ble_eq_true rfl) (Nat.le_of_ble_eq_true rfl)
    refine z_if_eq B 26 dX7_about_21 (by decide) (fun e => absurd e c6) (fun _ => ?_)
    refine z_iconst (v := 0) B dX7_about_24 (by decide) ?_
    cases hf
    exact z_iret B dX7_about_25 (Nat.le_of_ble_eq_true rfl) (Nat.le_of_ble_eq_true rfl)
  refine z_if_eq B 17 dX7_about_10 (by decide) (fun e => absurd e c3) (fun _ => ?_)
  refine z_iconst (v := 0) B dX7_about_13 (by decide) ?_
  refine z_goto B 18 dX7_about_14 (by decide) ?_
  obtain ⟨w28, h29, ew28, hf⟩ := zb2s hf
  refine z_callVi B [.int 0] [] cw_X7_refused mv_RX7_112 (tX7_refused hst ew28) rfl (by decide) (kfX7_refused ew28) ⟨rfl, rfl, (Nat.le_of_ble_eq_true rfl), (Nat.le_of_ble_eq_true rfl), (Nat.le_of_ble_eq_true rfl), (Nat.le_of_ble_eq_true rfl)⟩ rfl rfl (Nat.le_of_ble_eq_true rfl) dX7_about_18 ?_
  rcases zite hf with ⟨c30, hf⟩ | ⟨c30, hf⟩
  · refine z_if_eq B 26 dX7_about_21 (by decide) (fun _ => ?_) (fun e => absurd c30 e)
    refine z_iload_n B dX7_about_26 rfl 1 rfl ?_
    rcases zite hf with ⟨c31, hf⟩ | ⟨c31, hf⟩
    · refine z_tabIn B 0 68 dX7_about_27 c31 (by decide) (by decide) rfl (by decide) ?_
      refine z_aload_n B dX7_about_68 rfl 0 rfl ?_
      obtain ⟨w32, ew32, hf⟩ := zbs hf
      refine z_gI B fl_RX7_13 ew32 rfl dX7_about_69 ?_
      cases hf
      exact z_iret B dX7_about_72 (Nat.le_of_ble_eq_true rfl) (Nat.le_of_ble_eq_true rfl)
    rcases zite hf with ⟨c33, hf⟩ | ⟨c33, hf⟩
    · refine z_tabIn B 1 73 dX7_about_27 c33 (by decide) (by decide) rfl (by decide) ?_
      refine z_aload_n B dX7_about_73 rfl 0 rfl ?_
      obtain ⟨w34, ew34, hf⟩ := zbs hf
      refine z_gI B fl_RX7_101 ew34 rfl dX7_about_74 ?_
      cases hf
      exact z_iret B dX7_about_77 (Nat.le_of_ble_eq_true rfl) (Nat.le_of_ble_eq_true rfl)
    rcases zite hf with ⟨c35, hf⟩ | ⟨c35, hf⟩
    · refine z_tabIn B 2 78 dX7_about_27 c35 (by decide) (by decide) rfl (by decide) ?_
      refine z_aload_n B dX7_about_78 rfl 0 rfl ?_
      obtain ⟨w36, ew36, hf⟩ := zbs hf
      refine z_gI B fl_RX7_104 ew36 rfl dX7_about_79 ?_
      cases hf
      exact z_iret B dX7_about_82 (Nat.le_of_ble_eq_true rfl) (Nat.le_of_ble_eq_true rfl)
    rcases zite hf with ⟨c37, hf⟩ | ⟨c37, hf⟩
    · refine z_tabIn B 3 83 dX7_about_27 c37 (by decide) (by decide) rfl (by decide) ?_
      refine z_aload_n B dX7_about_83 rfl 0 rfl ?_
      obtain ⟨w38, ew38, hf⟩ := zbs hf
      refine z_gP B fl_RX7_56 ew38 rfl dX7_about_84 ?_
      refine z_iconst (v := 0) B dX7_about_87 (by decide) ?_
      obtain ⟨w39, ew39, hf⟩ := zbs hf
      refine z_aI B ew39 dX7_about_88 ?_
      cases hf
      exact z_iret B dX7_about_89 (Nat.le_of_ble_eq_true rfl) (Nat.le_of_ble_eq_true rfl)
    rcases zite hf with ⟨c40, hf⟩ | ⟨c40, hf⟩
    · refine z_tabIn B 4 90 dX7_about_27 c40 (by decide) (by decide) rfl (by decide) ?_
      refine z_aload_n B dX7_about_90 rfl 0 rfl ?_
      obtain ⟨w41, ew41, hf⟩ := zbs hf
      refine z_gP B fl_RX7_56 ew41 rfl dX7_about_91 ?_
      refine z_iconst (v := 3) B dX7_about_94 (by decide) ?_
      obtain ⟨w42, ew42, hf⟩ := zbs hf
      refine z_aI B ew42 dX7_about_95 ?_
      cases hf
      exact z_iret B dX7_about_96 (Nat.le_of_ble_eq_true rfl) (Nat.le_of_ble_eq_true rfl)
    rcases zite hf with ⟨c43, hf⟩ | ⟨c43, hf⟩
    · refine z_tabIn B 5 97 dX7_about_27 c43 (by decide) (by decide) rfl (by decide) ?_
      refine z_aload_n B dX7_about_97 rfl 0 rfl ?_
      obtain ⟨w44, ew44, hf⟩ := zbs hf
      refine z_gP B fl_RX7_56 ew44 rfl dX7_about_98 ?_
      obtain ⟨w45, h46, ew45, hf⟩ := zb2s hf
      refine z_callSi B [.ref w44] [] cw_X7_used mt_RX7_176 (tX7_used hst ew45) ⟨rfl, rfl, (Nat.le_of_ble_eq_true rfl), (Nat.le_of_ble_eq_true rfl), (Nat.le_of_ble_eq_true rfl), (Nat.le_of_ble_eq_true rfl)⟩ rfl rfl (Nat.le_of_ble_eq_true rfl) dX7_about_101 ?_
      cases hf
      exact z_iret B dX7_about_104 (Nat.le_of_ble_eq_true rfl) (Nat.le_of_ble_eq_true rfl)
    rcases zite hf with ⟨c47, hf⟩ | ⟨c47, hf⟩
    · refine z_tabIn B 6 105 dX7_about_27 c47 (by decide) (by decide) rfl (by decide) ?_
      refine z_aload_n B dX7_about_105 rfl 0 rfl ?_
      obtain ⟨w48, ew48, hf⟩ := zbs hf
      refine z_gP B fl_RX7_56 ew48 rfl dX7_about_106 ?_
      refine z_iconst (v := 1) B dX7_about_109 (by decide) ?_
      obtain ⟨w49, ew49, hf⟩ := zbs hf
      refine z_aI B ew49 dX7_about_110 ?_
      cases hf
      exact z_iret B dX7_about_111 (Nat.le_of_ble_eq_true rfl) (Nat.le_of_ble_eq_true rfl)
    refine z_tabOut B 112 dX7_about_27 (z_outL 0 7 (by decide) (fun j hj0 hj => by rcases (show j = 0 ∨ j = 1 ∨ j = 2 ∨ j = 3 ∨ j = 4 ∨ j = 5 ∨ j = 6 by omega) with rfl | rfl | rfl | rfl | rfl | rfl | rfl <;> assumption)) (by decide) ?_
    refine z_aload_n B dX7_about_112 rfl 0 rfl ?_
    obtain ⟨w50, ew50, hf⟩ := zbs hf
    refine z_gP B fl_RX7_56 ew50 rfl dX7_about_113 ?_
    refine z_iconst (v := 2) B dX7_about_116 (by decide) ?_
    obtain ⟨w51, ew51, hf⟩ := zbs hf
    refine z_aI B ew51 dX7_about_117 ?_
    cases hf
    exact z_iret B dX7_about_118 (Nat.le_of_ble_eq_true rfl) (Nat.le_of_ble_eq_true rfl)
  refine z_if_eq B 26 dX7_about_21 (by decide) (fun e => absurd e c30) (fun _ => ?_)
  refine z_iconst (v := 0) B dX7_about_24 (by decide) ?_
  cases hf
  exact z_iret B dX7_about_25 (Nat.le_of_ble_eq_true rfl) (Nat.le_of_ble_eq_true rfl)
