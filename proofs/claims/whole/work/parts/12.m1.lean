theorem dX4_init_0 : zD cX4_init 0 (.aload_n 0) 1 1 := ⟨by decide +kernel, rfl⟩
theorem dX4_init_1 : zD cX4_init 1 (.invokespecial 3) 3 4 := ⟨by decide +kernel, rfl⟩
theorem dX4_init_4 : zD cX4_init 4 (.aload_n 0) 1 5 := ⟨by decide +kernel, rfl⟩
theorem dX4_init_5 : zD cX4_init 5 (.sipush 160) 3 8 := ⟨by decide +kernel, rfl⟩
theorem dX4_init_8 : zD cX4_init 8 (.newarray .int) 2 10 := ⟨by decide +kernel, rfl⟩
theorem dX4_init_10 : zD cX4_init 10 (.putfield 9) 3 13 := ⟨by decide +kernel, rfl⟩
theorem dX4_init_13 : zD cX4_init 13 (.return_) 1 14 := ⟨by decide +kernel, rfl⟩
theorem dX2_init_0 : zD cX2_init 0 (.aload_n 0) 1 1 := ⟨by decide +kernel, rfl⟩
theorem dX2_init_1 : zD cX2_init 1 (.invokespecial 3) 3 4 := ⟨by decide +kernel, rfl⟩
theorem dX2_init_4 : zD cX2_init 4 (.aload_n 0) 1 5 := ⟨by decide +kernel, rfl⟩
theorem dX2_init_5 : zD cX2_init 5 (.bipush 8) 2 7 := ⟨by decide +kernel, rfl⟩
theorem dX2_init_7 : zD cX2_init 7 (.bipush 8) 2 9 := ⟨by decide +kernel, rfl⟩
theorem dX2_init_9 : zD cX2_init 9 (.multianewarray 9 2) 4 13 := ⟨by decide +kernel, rfl⟩
theorem dX2_init_13 : zD cX2_init 13 (.putfield 11) 3 16 := ⟨by decide +kernel, rfl⟩
theorem dX2_init_16 : zD cX2_init 16 (.aload_n 0) 1 17 := ⟨by decide +kernel, rfl⟩
theorem dX2_init_17 : zD cX2_init 17 (.bipush 8) 2 19 := ⟨by decide +kernel, rfl⟩
theorem dX2_init_19 : zD cX2_init 19 (.bipush 8) 2 21 := ⟨by decide +kernel, rfl⟩
theorem dX2_init_21 : zD cX2_init 21 (.multianewarray 9 2) 4 25 := ⟨by decide +kernel, rfl⟩
theorem dX2_init_25 : zD cX2_init 25 (.putfield 16) 3 28 := ⟨by decide +kernel, rfl⟩
theorem dX2_init_28 : zD cX2_init 28 (.aload_n 0) 1 29 := ⟨by decide +kernel, rfl⟩
theorem dX2_init_29 : zD cX2_init 29 (.bipush 8) 2 31 := ⟨by decide +kernel, rfl⟩
theorem dX2_init_31 : zD cX2_init 31 (.bipush 8) 2 33 := ⟨by decide +kernel, rfl⟩
theorem dX2_init_33 : zD cX2_init 33 (.multianewarray 9 2) 4 37 := ⟨by decide +kernel, rfl⟩
theorem dX2_init_37 : zD cX2_init 37 (.putfield 19) 3 40 := ⟨by decide +kernel, rfl⟩
theorem dX2_init_40 : zD cX2_init 40 (.aload_n 0) 1 41 := ⟨by decide +kernel, rfl⟩
theorem dX2_init_41 : zD cX2_init 41 (.bipush 8) 2 43 := ⟨by decide +kernel, rfl⟩
theorem dX2_init_43 : zD cX2_init 43 (.bipush 8) 2 45 := ⟨by decide +kernel, rfl⟩
theorem dX2_init_45 : zD cX2_init 45 (.multianewarray 9 2) 4 49 := ⟨by decide +kernel, rfl⟩
theorem dX2_init_49 : zD cX2_init 49 (.putfield 22) 3 52 := ⟨by decide +kernel, rfl⟩
theorem dX2_init_52 : zD cX2_init 52 (.return_) 1 53 := ⟨by decide +kernel, rfl⟩
theorem dX5_init_0 : zD cX5_init 0 (.aload_n 0) 1 1 := ⟨by decide +kernel, rfl⟩
theorem dX5_init_1 : zD cX5_init 1 (.invokespecial 1) 3 4 := ⟨by decide +kernel, rfl⟩
theorem dX5_init_4 : zD cX5_init 4 (.return_) 1 5 := ⟨by decide +kernel, rfl⟩
theorem dX1_init_0 : zD cX1_init 0 (.aload_n 0) 1 1 := ⟨by decide +kernel, rfl⟩
theorem dX1_init_1 : zD cX1_init 1 (.invokespecial 3) 3 4 := ⟨by decide +kernel, rfl⟩
theorem dX1_init_4 : zD cX1_init 4 (.aload_n 0) 1 5 := ⟨by decide +kernel, rfl⟩
theorem dX1_init_5 : zD cX1_init 5 (.bipush 8) 2 7 := ⟨by decide +kernel, rfl⟩
theorem dX1_init_7 : zD cX1_init 7 (.newarray .int) 2 9 := ⟨by decide +kernel, rfl⟩
theorem dX1_init_9 : zD cX1_init 9 (.putfield 9) 3 12 := ⟨by decide +kernel, rfl⟩
theorem dX1_init_12 : zD cX1_init 12 (.aload_n 0) 1 13 := ⟨by decide +kernel, rfl⟩
theorem dX1_init_13 : zD cX1_init 13 (.bipush 8) 2 15 := ⟨by decide +kernel, rfl⟩
theorem dX1_init_15 : zD cX1_init 15 (.newarray .int) 2 17 := ⟨by decide +kernel, rfl⟩
theorem dX1_init_17 : zD cX1_init 17 (.putfield 15) 3 20 := ⟨by decide +kernel, rfl⟩
theorem dX1_init_20 : zD cX1_init 20 (.return_) 1 21 := ⟨by decide +kernel, rfl⟩
theorem dX3_init_0 : zD cX3_init 0 (.aload_n 0) 1 1 := ⟨by decide +kernel, rfl⟩
theorem dX3_init_1 : zD cX3_init 1 (.invokespecial 3) 3 4 := ⟨by decide +kernel, rfl⟩
theorem dX3_init_4 : zD cX3_init 4 (.aload_n 0) 1 5 := ⟨by decide +kernel, rfl⟩
theorem dX3_init_5 : zD cX3_init 5 (.bipush 12) 2 7 := ⟨by decide +kernel, rfl⟩
theorem dX3_init_7 : zD cX3_init 7 (.anewarray 9) 3 10 := ⟨by decide +kernel, rfl⟩
theorem dX3_init_10 : zD cX3_init 10 (.putfield 11) 3 13 := ⟨by decide +kernel, rfl⟩
theorem dX3_init_13 : zD cX3_init 13 (.aload_n 0) 1 14 := ⟨by decide +kernel, rfl⟩
theorem dX3_init_14 : zD cX3_init 14 (.bipush 20) 2 16 := ⟨by decide +kernel, rfl⟩
theorem dX3_init_16 : zD cX3_init 16 (.newarray .int) 2 18 := ⟨by decide +kernel, rfl⟩
theorem dX3_init_18 : zD cX3_init 18 (.putfield 17) 3 21 := ⟨by decide +kernel, rfl⟩
theorem dX3_init_21 : zD cX3_init 21 (.iconst 0) 1 22 := ⟨by decide +kernel, rfl⟩
theorem dX3_init_22 : zD cX3_init 22 (.istore_n 1) 1 23 := ⟨by decide +kernel, rfl⟩
theorem dX3_init_23 : zD cX3_init 23 (.iload_n 1) 1 24 := ⟨by decide +kernel, rfl⟩
theorem dX3_init_24 : zD cX3_init 24 (.aload_n 0) 1 25 := ⟨by decide +kernel, rfl⟩
theorem dX3_init_25 : zD cX3_init 25 (.getfield 11) 3 28 := ⟨by decide +kernel, rfl⟩
theorem dX3_init_28 : zD cX3_init 28 (.arraylength) 1 29 := ⟨by decide +kernel, rfl⟩
theorem dX3_init_29 : zD cX3_init 29 (.if_icmp .ge 22) 3 32 := ⟨by decide +kernel, rfl⟩
theorem dX3_init_32 : zD cX3_init 32 (.aload_n 0) 1 33 := ⟨by decide +kernel, rfl⟩
theorem dX3_init_33 : zD cX3_init 33 (.getfield 11) 3 36 := ⟨by decide +kernel, rfl⟩
theorem dX3_init_36 : zD cX3_init 36 (.iload_n 1) 1 37 := ⟨by decide +kernel, rfl⟩
theorem dX3_init_37 : zD cX3_init 37 (.new 9) 3 40 := ⟨by decide +kernel, rfl⟩
theorem dX3_init_40 : zD cX3_init 40 (.dup) 1 41 := ⟨by decide +kernel, rfl⟩
theorem dX3_init_41 : zD cX3_init 41 (.invokespecial 21) 3 44 := ⟨by decide +kernel, rfl⟩
theorem dX3_init_44 : zD cX3_init 44 (.aastore) 1 45 := ⟨by decide +kernel, rfl⟩
theorem dX3_init_45 : zD cX3_init 45 (.iinc 1 1) 3 48 := ⟨by decide +kernel, rfl⟩
theorem dX3_init_48 : zD cX3_init 48 (.goto (-25)) 3 51 := ⟨by decide +kernel, rfl⟩
theorem dX3_init_51 : zD cX3_init 51 (.return_) 1 52 := ⟨by decide +kernel, rfl⟩
theorem dX0_begin_0 : zD cX0_begin 0 (.aload_n 0) 1 1 := ⟨by decide +kernel, rfl⟩
theorem dX0_begin_1 : zD cX0_begin 1 (.iconst 1) 1 2 := ⟨by decide +kernel, rfl⟩
theorem dX0_begin_2 : zD cX0_begin 2 (.iload_n 1) 1 3 := ⟨by decide +kernel, rfl⟩
theorem dX0_begin_3 : zD cX0_begin 3 (.bipush 8) 2 5 := ⟨by decide +kernel, rfl⟩
theorem dX0_begin_5 : zD cX0_begin 5 (.invokestatic 41) 3 8 := ⟨by decide +kernel, rfl⟩
theorem dX0_begin_8 : zD cX0_begin 8 (.invokestatic 47) 3 11 := ⟨by decide +kernel, rfl⟩
theorem dX0_begin_11 : zD cX0_begin 11 (.putfield 50) 3 14 := ⟨by decide +kernel, rfl⟩
theorem dX0_begin_14 : zD cX0_begin 14 (.aload_n 0) 1 15 := ⟨by decide +kernel, rfl⟩
theorem dX0_begin_15 : zD cX0_begin 15 (.iload_n 2) 1 16 := ⟨by decide +kernel, rfl⟩
theorem dX0_begin_16 : zD cX0_begin 16 (.putfield 54) 3 19 := ⟨by decide +kernel, rfl⟩
theorem dX0_begin_19 : zD cX0_begin 19 (.aload_n 0) 1 20 := ⟨by decide +kernel, rfl⟩
theorem dX0_begin_20 : zD cX0_begin 20 (.iconst 0) 1 21 := ⟨by decide +kernel, rfl⟩
theorem dX0_begin_21 : zD cX0_begin 21 (.putfield 57) 3 24 := ⟨by decide +kernel, rfl⟩
theorem dX0_begin_24 : zD cX0_begin 24 (.aload_n 0) 1 25 := ⟨by decide +kernel, rfl⟩
theorem dX0_begin_25 : zD cX0_begin 25 (.iconst 0) 1 26 := ⟨by decide +kernel, rfl⟩
theorem dX0_begin_26 : zD cX0_begin 26 (.putfield 60) 3 29 := ⟨by decide +kernel, rfl⟩
theorem dX0_begin_29 : zD cX0_begin 29 (.iconst 0) 1 30 := ⟨by decide +kernel, rfl⟩
theorem dX0_begin_30 : zD cX0_begin 30 (.istore_n 3) 1 31 := ⟨by decide +kernel, rfl⟩
theorem dX0_begin_31 : zD cX0_begin 31 (.iload_n 3) 1 32 := ⟨by decide +kernel, rfl⟩
theorem dX0_begin_32 : zD cX0_begin 32 (.aload_n 0) 1 33 := ⟨by decide +kernel, rfl⟩
theorem dX0_begin_33 : zD cX0_begin 33 (.getfield 33) 3 36 := ⟨by decide +kernel, rfl⟩
theorem dX0_begin_36 : zD cX0_begin 36 (.arraylength) 1 37 := ⟨by decide +kernel, rfl⟩
theorem dX0_begin_37 : zD cX0_begin 37 (.if_icmp .ge 16) 3 40 := ⟨by decide +kernel, rfl⟩
theorem dX0_begin_40 : zD cX0_begin 40 (.aload_n 0) 1 41 := ⟨by decide +kernel, rfl⟩
theorem dX0_begin_41 : zD cX0_begin 41 (.getfield 33) 3 44 := ⟨by decide +kernel, rfl⟩
theorem dX0_begin_44 : zD cX0_begin 44 (.iload_n 3) 1 45 := ⟨by decide +kernel, rfl⟩
theorem dX0_begin_45 : zD cX0_begin 45 (.iconst 0) 1 46 := ⟨by decide +kernel, rfl⟩
theorem dX0_begin_46 : zD cX0_begin 46 (.bastore) 1 47 := ⟨by decide +kernel, rfl⟩
theorem dX0_begin_47 : zD cX0_begin 47 (.iinc 3 1) 3 50 := ⟨by decide +kernel, rfl⟩
theorem dX0_begin_50 : zD cX0_begin 50 (.goto (-19)) 3 53 := ⟨by decide +kernel, rfl⟩
theorem dX0_begin_53 : zD cX0_begin 53 (.return_) 1 54 := ⟨by decide +kernel, rfl⟩
theorem dX0_init_0 : zD cX0_init 0 (.aload_n 0) 1 1 := ⟨by decide +kernel, rfl⟩
theorem dX0_init_1 : zD cX0_init 1 (.invokespecial 3) 3 4 := ⟨by decide +kernel, rfl⟩
theorem dX0_init_4 : zD cX0_init 4 (.aload_n 0) 1 5 := ⟨by decide +kernel, rfl⟩
theorem dX0_init_5 : zD cX0_init 5 (.bipush 20) 2 7 := ⟨by decide +kernel, rfl⟩
theorem dX0_init_7 : zD cX0_init 7 (.newarray .int) 2 9 := ⟨by decide +kernel, rfl⟩
theorem dX0_init_9 : zD cX0_init 9 (.putfield 9) 3 12 := ⟨by decide +kernel, rfl⟩
theorem dX0_init_12 : zD cX0_init 12 (.aload_n 0) 1 13 := ⟨by decide +kernel, rfl⟩
theorem dX0_init_13 : zD cX0_init 13 (.bipush 20) 2 15 := ⟨by decide +kernel, rfl⟩
theorem dX0_init_15 : zD cX0_init 15 (.newarray .int) 2 17 := ⟨by decide +kernel, rfl⟩
theorem dX0_init_17 : zD cX0_init 17 (.putfield 15) 3 20 := ⟨by decide +kernel, rfl⟩
theorem dX0_init_20 : zD cX0_init 20 (.aload_n 0) 1 21 := ⟨by decide +kernel, rfl⟩
theorem dX0_init_21 : zD cX0_init 21 (.bipush 20) 2 23 := ⟨by decide +kernel, rfl⟩
theorem dX0_init_23 : zD cX0_init 23 (.newarray .int) 2 25 := ⟨by decide +kernel, rfl⟩
theorem dX0_init_25 : zD cX0_init 25 (.putfield 18) 3 28 := ⟨by decide +kernel, rfl⟩
theorem dX0_init_28 : zD cX0_init 28 (.aload_n 0) 1 29 := ⟨by decide +kernel, rfl⟩
theorem dX0_init_29 : zD cX0_init 29 (.bipush 20) 2 31 := ⟨by decide +kernel, rfl⟩
theorem dX0_init_31 : zD cX0_init 31 (.newarray .int) 2 33 := ⟨by decide +kernel, rfl⟩
theorem dX0_init_33 : zD cX0_init 33 (.putfield 21) 3 36 := ⟨by decide +kernel, rfl⟩
theorem dX0_init_36 : zD cX0_init 36 (.aload_n 0) 1 37 := ⟨by decide +kernel, rfl⟩
theorem dX0_init_37 : zD cX0_init 37 (.bipush 20) 2 39 := ⟨by decide +kernel, rfl⟩
theorem dX0_init_39 : zD cX0_init 39 (.newarray .int) 2 41 := ⟨by decide +kernel, rfl⟩
theorem dX0_init_41 : zD cX0_init 41 (.putfield 24) 3 44 := ⟨by decide +kernel, rfl⟩
theorem dX0_init_44 : zD cX0_init 44 (.aload_n 0) 1 45 := ⟨by decide +kernel, rfl⟩
theorem dX0_init_45 : zD cX0_init 45 (.bipush 6) 2 47 := ⟨by decide +kernel, rfl⟩
theorem dX0_init_47 : zD cX0_init 47 (.newarray .int) 2 49 := ⟨by decide +kernel, rfl⟩
theorem dX0_init_49 : zD cX0_init 49 (.putfield 27) 3 52 := ⟨by decide +kernel, rfl⟩
theorem dX0_init_52 : zD cX0_init 52 (.aload_n 0) 1 53 := ⟨by decide +kernel, rfl⟩
theorem dX0_init_53 : zD cX0_init 53 (.bipush 6) 2 55 := ⟨by decide +kernel, rfl⟩
theorem dX0_init_55 : zD cX0_init 55 (.newarray .int) 2 57 := ⟨by decide +kernel, rfl⟩
theorem dX0_init_57 : zD cX0_init 57 (.putfield 30) 3 60 := ⟨by decide +kernel, rfl⟩
theorem dX0_init_60 : zD cX0_init 60 (.aload_n 0) 1 61 := ⟨by decide +kernel, rfl⟩
theorem dX0_init_61 : zD cX0_init 61 (.bipush 64) 2 63 := ⟨by decide +kernel, rfl⟩
theorem dX0_init_63 : zD cX0_init 63 (.newarray .boolean) 2 65 := ⟨by decide +kernel, rfl⟩
theorem dX0_init_65 : zD cX0_init 65 (.putfield 33) 3 68 := ⟨by decide +kernel, rfl⟩
theorem dX0_init_68 : zD cX0_init 68 (.aload_n 0) 1 69 := ⟨by decide +kernel, rfl⟩
theorem dX0_init_69 : zD cX0_init 69 (.iconst 1) 1 70 := ⟨by decide +kernel, rfl⟩
theorem dX0_init_70 : zD cX0_init 70 (.sipush 1000) 3 73 := ⟨by decide +kernel, rfl⟩
theorem dX0_init_73 : zD cX0_init 73 (.invokevirtual 37) 3 76 := ⟨by decide +kernel, rfl⟩
theorem dX0_init_76 : zD cX0_init 76 (.return_) 1 77 := ⟨by decide +kernel, rfl⟩
theorem dX3_begin_0 : zD cX3_begin 0 (.aload_n 0) 1 1 := ⟨by decide +kernel, rfl⟩
theorem dX3_begin_1 : zD cX3_begin 1 (.iconst 0) 1 2 := ⟨by decide +kernel, rfl⟩
theorem dX3_begin_2 : zD cX3_begin 2 (.putfield 22) 3 5 := ⟨by decide +kernel, rfl⟩
theorem dX3_begin_5 : zD cX3_begin 5 (.aload_n 0) 1 6 := ⟨by decide +kernel, rfl⟩
theorem dX3_begin_6 : zD cX3_begin 6 (.iconst 0) 1 7 := ⟨by decide +kernel, rfl⟩
theorem dX3_begin_7 : zD cX3_begin 7 (.putfield 26) 3 10 := ⟨by decide +kernel, rfl⟩
theorem dX3_begin_10 : zD cX3_begin 10 (.aload_n 0) 1 11 := ⟨by decide +kernel, rfl⟩
theorem dX3_begin_11 : zD cX3_begin 11 (.iconst 0) 1 12 := ⟨by decide +kernel, rfl⟩
theorem dX3_begin_12 : zD cX3_begin 12 (.putfield 29) 3 15 := ⟨by decide +kernel, rfl⟩
theorem dX3_begin_15 : zD cX3_begin 15 (.aload_n 0) 1 16 := ⟨by decide +kernel, rfl⟩
theorem dX3_begin_16 : zD cX3_begin 16 (.aload_n 1) 1 17 := ⟨by decide +kernel, rfl⟩
theorem dX3_begin_17 : zD cX3_begin 17 (.getfield 32) 3 20 := ⟨by decide +kernel, rfl⟩
theorem dX3_begin_20 : zD cX3_begin 20 (.putfield 37) 3 23 := ⟨by decide +kernel, rfl⟩
theorem dX3_begin_23 : zD cX3_begin 23 (.aload_n 1) 1 24 := ⟨by decide +kernel, rfl⟩
theorem dX3_begin_24 : zD cX3_begin 24 (.getfield 38) 3 27 := ⟨by decide +kernel, rfl⟩
theorem dX3_begin_27 : zD cX3_begin 27 (.iconst 0) 1 28 := ⟨by decide +kernel, rfl⟩
theorem dX3_begin_28 : zD cX3_begin 28 (.aload_n 0) 1 29 := ⟨by decide +kernel, rfl⟩
theorem dX3_begin_29 : zD cX3_begin 29 (.getfield 17) 3 32 := ⟨by decide +kernel, rfl⟩
theorem dX3_begin_32 : zD cX3_begin 32 (.iconst 0) 1 33 := ⟨by decide +kernel, rfl⟩
theorem dX3_begin_33 : zD cX3_begin 33 (.bipush 20) 2 35 := ⟨by decide +kernel, rfl⟩
theorem dX3_begin_35 : zD cX3_begin 35 (.invokestatic 41) 3 38 := ⟨by decide +kernel, rfl⟩
theorem dX3_begin_38 : zD cX3_begin 38 (.return_) 1 39 := ⟨by decide +kernel, rfl⟩
theorem dX2_clearSteps_0 : zD cX2_clearSteps 0 (.iconst 0) 1 1 := ⟨by decide +kernel, rfl⟩
theorem dX2_clearSteps_1 : zD cX2_clearSteps 1 (.istore_n 1) 1 2 := ⟨by decide +kernel, rfl⟩
theorem dX2_clearSteps_2 : zD cX2_clearSteps 2 (.iload_n 1) 1 3 := ⟨by decide +kernel, rfl⟩
theorem dX2_clearSteps_3 : zD cX2_clearSteps 3 (.bipush 8) 2 5 := ⟨by decide +kernel, rfl⟩
theorem dX2_clearSteps_5 : zD cX2_clearSteps 5 (.if_icmp .ge 70) 3 8 := ⟨by decide +kernel, rfl⟩
theorem dX2_clearSteps_8 : zD cX2_clearSteps 8 (.iconst 0) 1 9 := ⟨by decide +kernel, rfl⟩
theorem dX2_clearSteps_9 : zD cX2_clearSteps 9 (.istore_n 2) 1 10 := ⟨by decide +kernel, rfl⟩
theorem dX2_clearSteps_10 : zD cX2_clearSteps 10 (.iload_n 2) 1 11 := ⟨by decide +kernel, rfl⟩
theorem dX2_clearSteps_11 : zD cX2_clearSteps 11 (.bipush 8) 2 13 := ⟨by decide +kernel, rfl⟩
theorem dX2_clearSteps_13 : zD cX2_clearSteps 13 (.if_icmp .ge 56) 3 16 := ⟨by decide +kernel, rfl⟩
theorem dX2_clearSteps_16 : zD cX2_clearSteps 16 (.aload_n 0) 1 17 := ⟨by decide +kernel, rfl⟩
theorem dX2_clearSteps_17 : zD cX2_clearSteps 17 (.getfield 11) 3 20 := ⟨by decide +kernel, rfl⟩
theorem dX2_clearSteps_20 : zD cX2_clearSteps 20 (.iload_n 1) 1 21 := ⟨by decide +kernel, rfl⟩
theorem dX2_clearSteps_21 : zD cX2_clearSteps 21 (.aaload) 1 22 := ⟨by decide +kernel, rfl⟩
theorem dX2_clearSteps_22 : zD cX2_clearSteps 22 (.iload_n 2) 1 23 := ⟨by decide +kernel, rfl⟩
theorem dX2_clearSteps_23 : zD cX2_clearSteps 23 (.ldc 48) 2 25 := ⟨by decide +kernel, rfl⟩
theorem dX2_clearSteps_25 : zD cX2_clearSteps 25 (.iastore) 1 26 := ⟨by decide +kernel, rfl⟩
theorem dX2_clearSteps_26 : zD cX2_clearSteps 26 (.aload_n 0) 1 27 := ⟨by decide +kernel, rfl⟩
theorem dX2_clearSteps_27 : zD cX2_clearSteps 27 (.getfield 16) 3 30 := ⟨by decide +kernel, rfl⟩
theorem dX2_clearSteps_30 : zD cX2_clearSteps 30 (.iload_n 1) 1 31 := ⟨by decide +kernel, rfl⟩
theorem dX2_clearSteps_31 : zD cX2_clearSteps 31 (.aaload) 1 32 := ⟨by decide +kernel, rfl⟩
theorem dX2_clearSteps_32 : zD cX2_clearSteps 32 (.iload_n 2) 1 33 := ⟨by decide +kernel, rfl⟩
theorem dX2_clearSteps_33 : zD cX2_clearSteps 33 (.iconst (-1)) 1 34 := ⟨by decide +kernel, rfl⟩
theorem dX2_clearSteps_34 : zD cX2_clearSteps 34 (.iastore) 1 35 := ⟨by decide +kernel, rfl⟩
theorem dX2_clearSteps_35 : zD cX2_clearSteps 35 (.aload_n 0) 1 36 := ⟨by decide +kernel, rfl⟩
theorem dX2_clearSteps_36 : zD cX2_clearSteps 36 (.getfield 19) 3 39 := ⟨by decide +kernel, rfl⟩
theorem dX2_clearSteps_39 : zD cX2_clearSteps 39 (.iload_n 1) 1 40 := ⟨by decide +kernel, rfl⟩
theorem dX2_clearSteps_40 : zD cX2_clearSteps 40 (.aaload) 1 41 := ⟨by decide +kernel, rfl⟩
theorem dX2_clearSteps_41 : zD cX2_clearSteps 41 (.iload_n 2) 1 42 := ⟨by decide +kernel, rfl⟩
theorem dX2_clearSteps_42 : zD cX2_clearSteps 42 (.iload_n 1) 1 43 := ⟨by decide +kernel, rfl⟩
theorem dX2_clearSteps_43 : zD cX2_clearSteps 43 (.iload_n 2) 1 44 := ⟨by decide +kernel, rfl⟩
theorem dX2_clearSteps_44 : zD cX2_clearSteps 44 (.if_icmp .ne 7) 3 47 := ⟨by decide +kernel, rfl⟩
theorem dX2_clearSteps_47 : zD cX2_clearSteps 47 (.iconst 0) 1 48 := ⟨by decide +kernel, rfl⟩
theorem dX2_clearSteps_48 : zD cX2_clearSteps 48 (.goto 5) 3 51 := ⟨by decide +kernel, rfl⟩
theorem dX2_clearSteps_51 : zD cX2_clearSteps 51 (.ldc 48) 2 53 := ⟨by decide +kernel, rfl⟩
theorem dX2_clearSteps_53 : zD cX2_clearSteps 53 (.iastore) 1 54 := ⟨by decide +kernel, rfl⟩
theorem dX2_clearSteps_54 : zD cX2_clearSteps 54 (.aload_n 0) 1 55 := ⟨by decide +kernel, rfl⟩
theorem dX2_clearSteps_55 : zD cX2_clearSteps 55 (.getfield 22) 3 58 := ⟨by decide +kernel, rfl⟩
theorem dX2_clearSteps_58 : zD cX2_clearSteps 58 (.iload_n 1) 1 59 := ⟨by decide +kernel, rfl⟩
theorem dX2_clearSteps_59 : zD cX2_clearSteps 59 (.aaload) 1 60 := ⟨by decide +kernel, rfl⟩
theorem dX2_clearSteps_60 : zD cX2_clearSteps 60 (.iload_n 2) 1 61 := ⟨by decide +kernel, rfl⟩
theorem dX2_clearSteps_61 : zD cX2_clearSteps 61 (.iconst (-1)) 1 62 := ⟨by decide +kernel, rfl⟩
theorem dX2_clearSteps_62 : zD cX2_clearSteps 62 (.iastore) 1 63 := ⟨by decide +kernel, rfl⟩
theorem dX2_clearSteps_63 : zD cX2_clearSteps 63 (.iinc 2 1) 3 66 := ⟨by decide +kernel, rfl⟩
theorem dX2_clearSteps_66 : zD cX2_clearSteps 66 (.goto (-56)) 3 69 := ⟨by decide +kernel, rfl⟩
theorem dX2_clearSteps_69 : zD cX2_clearSteps 69 (.iinc 1 1) 3 72 := ⟨by decide +kernel, rfl⟩
theorem dX2_clearSteps_72 : zD cX2_clearSteps 72 (.goto (-70)) 3 75 := ⟨by decide +kernel, rfl⟩
theorem dX2_clearSteps_75 : zD cX2_clearSteps 75 (.return_) 1 76 := ⟨by decide +kernel, rfl⟩
theorem dX2_shortenBy_0 : zD cX2_shortenBy 0 (.iconst 0) 1 1 := ⟨by decide +kernel, rfl⟩
theorem dX2_shortenBy_1 : zD cX2_shortenBy 1 (.istore_n 2) 1 2 := ⟨by decide +kernel, rfl⟩
theorem dX2_shortenBy_2 : zD cX2_shortenBy 2 (.iload_n 2) 1 3 := ⟨by decide +kernel, rfl⟩
theorem dX2_shortenBy_3 : zD cX2_shortenBy 3 (.bipush 8) 2 5 := ⟨by decide +kernel, rfl⟩
theorem dX2_shortenBy_5 : zD cX2_shortenBy 5 (.if_icmp .ge 59) 3 8 := ⟨by decide +kernel, rfl⟩
theorem dX2_shortenBy_8 : zD cX2_shortenBy 8 (.iconst 0) 1 9 := ⟨by decide +kernel, rfl⟩
theorem dX2_shortenBy_9 : zD cX2_shortenBy 9 (.istore_n 3) 1 10 := ⟨by decide +kernel, rfl⟩
theorem dX2_shortenBy_10 : zD cX2_shortenBy 10 (.iload_n 3) 1 11 := ⟨by decide +kernel, rfl⟩
theorem dX2_shortenBy_11 : zD cX2_shortenBy 11 (.bipush 8) 2 13 := ⟨by decide +kernel, rfl⟩
theorem dX2_shortenBy_13 : zD cX2_shortenBy 13 (.if_icmp .ge 45) 3 16 := ⟨by decide +kernel, rfl⟩
theorem dX2_shortenBy_16 : zD cX2_shortenBy 16 (.aload_n 0) 1 17 := ⟨by decide +kernel, rfl⟩
theorem dX2_shortenBy_17 : zD cX2_shortenBy 17 (.getfield 19) 3 20 := ⟨by decide +kernel, rfl⟩
theorem dX2_shortenBy_20 : zD cX2_shortenBy 20 (.iload_n 2) 1 21 := ⟨by decide +kernel, rfl⟩
theorem dX2_shortenBy_21 : zD cX2_shortenBy 21 (.aaload) 1 22 := ⟨by decide +kernel, rfl⟩
theorem dX2_shortenBy_22 : zD cX2_shortenBy 22 (.iload_n 3) 1 23 := ⟨by decide +kernel, rfl⟩
theorem dX2_shortenBy_23 : zD cX2_shortenBy 23 (.aload_n 0) 1 24 := ⟨by decide +kernel, rfl⟩
theorem dX2_shortenBy_24 : zD cX2_shortenBy 24 (.getfield 19) 3 27 := ⟨by decide +kernel, rfl⟩
theorem dX2_shortenBy_27 : zD cX2_shortenBy 27 (.iload_n 2) 1 28 := ⟨by decide +kernel, rfl⟩
theorem dX2_shortenBy_28 : zD cX2_shortenBy 28 (.aaload) 1 29 := ⟨by decide +kernel, rfl⟩
theorem dX2_shortenBy_29 : zD cX2_shortenBy 29 (.iload_n 3) 1 30 := ⟨by decide +kernel, rfl⟩
theorem dX2_shortenBy_30 : zD cX2_shortenBy 30 (.iaload) 1 31 := ⟨by decide +kernel, rfl⟩
theorem dX2_shortenBy_31 : zD cX2_shortenBy 31 (.aload_n 0) 1 32 := ⟨by decide +kernel, rfl⟩
theorem dX2_shortenBy_32 : zD cX2_shortenBy 32 (.getfield 19) 3 35 := ⟨by decide +kernel, rfl⟩
theorem dX2_shortenBy_35 : zD cX2_shortenBy 35 (.iload_n 2) 1 36 := ⟨by decide +kernel, rfl⟩
theorem dX2_shortenBy_36 : zD cX2_shortenBy 36 (.aaload) 1 37 := ⟨by decide +kernel, rfl⟩
theorem dX2_shortenBy_37 : zD cX2_shortenBy 37 (.iload_n 1) 1 38 := ⟨by decide +kernel, rfl⟩
theorem dX2_shortenBy_38 : zD cX2_shortenBy 38 (.iaload) 1 39 := ⟨by decide +kernel, rfl⟩
theorem dX2_shortenBy_39 : zD cX2_shortenBy 39 (.aload_n 0) 1 40 := ⟨by decide +kernel, rfl⟩
theorem dX2_shortenBy_40 : zD cX2_shortenBy 40 (.getfield 19) 3 43 := ⟨by decide +kernel, rfl⟩
theorem dX2_shortenBy_43 : zD cX2_shortenBy 43 (.iload_n 1) 1 44 := ⟨by decide +kernel, rfl⟩
theorem dX2_shortenBy_44 : zD cX2_shortenBy 44 (.aaload) 1 45 := ⟨by decide +kernel, rfl⟩
theorem dX2_shortenBy_45 : zD cX2_shortenBy 45 (.iload_n 3) 1 46 := ⟨by decide +kernel, rfl⟩
theorem dX2_shortenBy_46 : zD cX2_shortenBy 46 (.iaload) 1 47 := ⟨by decide +kernel, rfl⟩
theorem dX2_shortenBy_47 : zD cX2_shortenBy 47 (.iadd) 1 48 := ⟨by decide +kernel, rfl⟩
theorem dX2_shortenBy_48 : zD cX2_shortenBy 48 (.invokestatic 49) 3 51 := ⟨by decide +kernel, rfl⟩
theorem dX2_shortenBy_51 : zD cX2_shortenBy 51 (.iastore) 1 52 := ⟨by decide +kernel, rfl⟩
theorem dX2_shortenBy_52 : zD cX2_shortenBy 52 (.iinc 3 1) 3 55 := ⟨by decide +kernel, rfl⟩
theorem dX2_shortenBy_55 : zD cX2_shortenBy 55 (.goto (-45)) 3 58 := ⟨by decide +kernel, rfl⟩
theorem dX2_shortenBy_58 : zD cX2_shortenBy 58 (.iinc 2 1) 3 61 := ⟨by decide +kernel, rfl⟩
theorem dX2_shortenBy_61 : zD cX2_shortenBy 61 (.goto (-59)) 3 64 := ⟨by decide +kernel, rfl⟩
theorem dX2_shortenBy_64 : zD cX2_shortenBy 64 (.return_) 1 65 := ⟨by decide +kernel, rfl⟩
theorem dX2_connects_0 : zD cX2_connects 0 (.aload_n 0) 1 1 := ⟨by decide +kernel, rfl⟩
theorem dX2_connects_1 : zD cX2_connects 1 (.getfield 19) 3 4 := ⟨by decide +kernel, rfl⟩
theorem dX2_connects_4 : zD cX2_connects 4 (.iload_n 1) 1 5 := ⟨by decide +kernel, rfl⟩
theorem dX2_connects_5 : zD cX2_connects 5 (.aaload) 1 6 := ⟨by decide +kernel, rfl⟩
theorem dX2_connects_6 : zD cX2_connects 6 (.iload_n 2) 1 7 := ⟨by decide +kernel, rfl⟩
theorem dX2_connects_7 : zD cX2_connects 7 (.iaload) 1 8 := ⟨by decide +kernel, rfl⟩
theorem dX2_connects_8 : zD cX2_connects 8 (.ldc 48) 2 10 := ⟨by decide +kernel, rfl⟩
theorem dX2_connects_10 : zD cX2_connects 10 (.if_icmp .ge 7) 3 13 := ⟨by decide +kernel, rfl⟩
theorem dX2_connects_13 : zD cX2_connects 13 (.iconst 1) 1 14 := ⟨by decide +kernel, rfl⟩
theorem dX2_connects_14 : zD cX2_connects 14 (.goto 4) 3 17 := ⟨by decide +kernel, rfl⟩
theorem dX2_connects_17 : zD cX2_connects 17 (.iconst 0) 1 18 := ⟨by decide +kernel, rfl⟩
theorem dX2_connects_18 : zD cX2_connects 18 (.ireturn) 1 19 := ⟨by decide +kernel, rfl⟩
theorem dX2_lowestFirstStep_0 : zD cX2_lowestFirstStep 0 (.iconst 0) 1 1 := ⟨by decide +kernel, rfl⟩
theorem dX2_lowestFirstStep_1 : zD cX2_lowestFirstStep 1 (.istore_n 3) 1 2 := ⟨by decide +kernel, rfl⟩
theorem dX2_lowestFirstStep_2 : zD cX2_lowestFirstStep 2 (.iload_n 3) 1 3 := ⟨by decide +kernel, rfl⟩
theorem dX2_lowestFirstStep_3 : zD cX2_lowestFirstStep 3 (.bipush 8) 2 5 := ⟨by decide +kernel, rfl⟩
theorem dX2_lowestFirstStep_5 : zD cX2_lowestFirstStep 5 (.if_icmp .ge 46) 3 8 := ⟨by decide +kernel, rfl⟩
theorem dX2_lowestFirstStep_8 : zD cX2_lowestFirstStep 8 (.aload_n 0) 1 9 := ⟨by decide +kernel, rfl⟩
theorem dX2_lowestFirstStep_9 : zD cX2_lowestFirstStep 9 (.getfield 11) 3 12 := ⟨by decide +kernel, rfl⟩
theorem dX2_lowestFirstStep_12 : zD cX2_lowestFirstStep 12 (.iload_n 1) 1 13 := ⟨by decide +kernel, rfl⟩
theorem dX2_lowestFirstStep_13 : zD cX2_lowestFirstStep 13 (.aaload) 1 14 := ⟨by decide +kernel, rfl⟩
theorem dX2_lowestFirstStep_14 : zD cX2_lowestFirstStep 14 (.iload_n 3) 1 15 := ⟨by decide +kernel, rfl⟩
theorem dX2_lowestFirstStep_15 : zD cX2_lowestFirstStep 15 (.iaload) 1 16 := ⟨by decide +kernel, rfl⟩
theorem dX2_lowestFirstStep_16 : zD cX2_lowestFirstStep 16 (.aload_n 0) 1 17 := ⟨by decide +kernel, rfl⟩
theorem dX2_lowestFirstStep_17 : zD cX2_lowestFirstStep 17 (.getfield 19) 3 20 := ⟨by decide +kernel, rfl⟩
theorem dX2_lowestFirstStep_20 : zD cX2_lowestFirstStep 20 (.iload_n 3) 1 21 := ⟨by decide +kernel, rfl⟩
theorem dX2_lowestFirstStep_21 : zD cX2_lowestFirstStep 21 (.aaload) 1 22 := ⟨by decide +kernel, rfl⟩
theorem dX2_lowestFirstStep_22 : zD cX2_lowestFirstStep 22 (.iload_n 2) 1 23 := ⟨by decide +kernel, rfl⟩
theorem dX2_lowestFirstStep_23 : zD cX2_lowestFirstStep 23 (.iaload) 1 24 := ⟨by decide +kernel, rfl⟩
theorem dX2_lowestFirstStep_24 : zD cX2_lowestFirstStep 24 (.iadd) 1 25 := ⟨by decide +kernel, rfl⟩
theorem dX2_lowestFirstStep_25 : zD cX2_lowestFirstStep 25 (.aload_n 0) 1 26 := ⟨by decide +kernel, rfl⟩
theorem dX2_lowestFirstStep_26 : zD cX2_lowestFirstStep 26 (.getfield 19) 3 29 := ⟨by decide +kernel, rfl⟩
theorem dX2_lowestFirstStep_29 : zD cX2_lowestFirstStep 29 (.iload_n 1) 1 30 := ⟨by decide +kernel, rfl⟩
theorem dX2_lowestFirstStep_30 : zD cX2_lowestFirstStep 30 (.aaload) 1 31 := ⟨by decide +kernel, rfl⟩
theorem dX2_lowestFirstStep_31 : zD cX2_lowestFirstStep 31 (.iload_n 2) 1 32 := ⟨by decide +kernel, rfl⟩
theorem dX2_lowestFirstStep_32 : zD cX2_lowestFirstStep 32 (.iaload) 1 33 := ⟨by decide +kernel, rfl⟩
theorem dX2_lowestFirstStep_33 : zD cX2_lowestFirstStep 33 (.if_icmp .ne 12) 3 36 := ⟨by decide +kernel, rfl⟩
theorem dX2_lowestFirstStep_36 : zD cX2_lowestFirstStep 36 (.aload_n 0) 1 37 := ⟨by decide +kernel, rfl⟩
theorem dX2_lowestFirstStep_37 : zD cX2_lowestFirstStep 37 (.getfield 16) 3 40 := ⟨by decide +kernel, rfl⟩
theorem dX2_lowestFirstStep_40 : zD cX2_lowestFirstStep 40 (.iload_n 1) 1 41 := ⟨by decide +kernel, rfl⟩
theorem dX2_lowestFirstStep_41 : zD cX2_lowestFirstStep 41 (.aaload) 1 42 := ⟨by decide +kernel, rfl⟩
theorem dX2_lowestFirstStep_42 : zD cX2_lowestFirstStep 42 (.iload_n 3) 1 43 := ⟨by decide +kernel, rfl⟩
theorem dX2_lowestFirstStep_43 : zD cX2_lowestFirstStep 43 (.iaload) 1 44 := ⟨by decide +kernel, rfl⟩
theorem dX2_lowestFirstStep_44 : zD cX2_lowestFirstStep 44 (.ireturn) 1 45 := ⟨by decide +kernel, rfl⟩
theorem dX2_lowestFirstStep_45 : zD cX2_lowestFirstStep 45 (.iinc 3 1) 3 48 := ⟨by decide +kernel, rfl⟩
theorem dX2_lowestFirstStep_48 : zD cX2_lowestFirstStep 48 (.goto (-46)) 3 51 := ⟨by decide +kernel, rfl⟩
theorem dX2_lowestFirstStep_51 : zD cX2_lowestFirstStep 51 (.iconst (-1)) 1 52 := ⟨by decide +kernel, rfl⟩
theorem dX2_lowestFirstStep_52 : zD cX2_lowestFirstStep 52 (.ireturn) 1 53 := ⟨by decide +kernel, rfl⟩
theorem dX2_chooseFirstSteps_0 : zD cX2_chooseFirstSteps 0 (.iconst 0) 1 1 := ⟨by decide +kernel, rfl⟩
theorem dX2_chooseFirstSteps_1 : zD cX2_chooseFirstSteps 1 (.istore_n 1) 1 2 := ⟨by decide +kernel, rfl⟩
theorem dX2_chooseFirstSteps_2 : zD cX2_chooseFirstSteps 2 (.iload_n 1) 1 3 := ⟨by decide +kernel, rfl⟩
theorem dX2_chooseFirstSteps_3 : zD cX2_chooseFirstSteps 3 (.bipush 8) 2 5 := ⟨by decide +kernel, rfl⟩
theorem dX2_chooseFirstSteps_5 : zD cX2_chooseFirstSteps 5 (.if_icmp .ge 51) 3 8 := ⟨by decide +kernel, rfl⟩
theorem dX2_chooseFirstSteps_8 : zD cX2_chooseFirstSteps 8 (.iconst 0) 1 9 := ⟨by decide +kernel, rfl⟩
theorem dX2_chooseFirstSteps_9 : zD cX2_chooseFirstSteps 9 (.istore_n 2) 1 10 := ⟨by decide +kernel, rfl⟩
theorem dX2_chooseFirstSteps_10 : zD cX2_chooseFirstSteps 10 (.iload_n 2) 1 11 := ⟨by decide +kernel, rfl⟩
theorem dX2_chooseFirstSteps_11 : zD cX2_chooseFirstSteps 11 (.bipush 8) 2 13 := ⟨by decide +kernel, rfl⟩
theorem dX2_chooseFirstSteps_13 : zD cX2_chooseFirstSteps 13 (.if_icmp .ge 37) 3 16 := ⟨by decide +kernel, rfl⟩
theorem dX2_chooseFirstSteps_16 : zD cX2_chooseFirstSteps 16 (.iload_n 1) 1 17 := ⟨by decide +kernel, rfl⟩
theorem dX2_chooseFirstSteps_17 : zD cX2_chooseFirstSteps 17 (.iload_n 2) 1 18 := ⟨by decide +kernel, rfl⟩
theorem dX2_chooseFirstSteps_18 : zD cX2_chooseFirstSteps 18 (.if_icmp .eq 26) 3 21 := ⟨by decide +kernel, rfl⟩
theorem dX2_chooseFirstSteps_21 : zD cX2_chooseFirstSteps 21 (.aload_n 0) 1 22 := ⟨by decide +kernel, rfl⟩
theorem dX2_chooseFirstSteps_22 : zD cX2_chooseFirstSteps 22 (.iload_n 1) 1 23 := ⟨by decide +kernel, rfl⟩
theorem dX2_chooseFirstSteps_23 : zD cX2_chooseFirstSteps 23 (.iload_n 2) 1 24 := ⟨by decide +kernel, rfl⟩
theorem dX2_chooseFirstSteps_24 : zD cX2_chooseFirstSteps 24 (.invokevirtual 55) 3 27 := ⟨by decide +kernel, rfl⟩
theorem dX2_chooseFirstSteps_27 : zD cX2_chooseFirstSteps 27 (.ifCond .eq 17) 3 30 := ⟨by decide +kernel, rfl⟩
theorem dX2_chooseFirstSteps_30 : zD cX2_chooseFirstSteps 30 (.aload_n 0) 1 31 := ⟨by decide +kernel, rfl⟩
theorem dX2_chooseFirstSteps_31 : zD cX2_chooseFirstSteps 31 (.getfield 22) 3 34 := ⟨by decide +kernel, rfl⟩
theorem dX2_chooseFirstSteps_34 : zD cX2_chooseFirstSteps 34 (.iload_n 1) 1 35 := ⟨by decide +kernel, rfl⟩
theorem dX2_chooseFirstSteps_35 : zD cX2_chooseFirstSteps 35 (.aaload) 1 36 := ⟨by decide +kernel, rfl⟩
theorem dX2_chooseFirstSteps_36 : zD cX2_chooseFirstSteps 36 (.iload_n 2) 1 37 := ⟨by decide +kernel, rfl⟩
theorem dX2_chooseFirstSteps_37 : zD cX2_chooseFirstSteps 37 (.aload_n 0) 1 38 := ⟨by decide +kernel, rfl⟩
theorem dX2_chooseFirstSteps_38 : zD cX2_chooseFirstSteps 38 (.iload_n 1) 1 39 := ⟨by decide +kernel, rfl⟩
theorem dX2_chooseFirstSteps_39 : zD cX2_chooseFirstSteps 39 (.iload_n 2) 1 40 := ⟨by decide +kernel, rfl⟩
theorem dX2_chooseFirstSteps_40 : zD cX2_chooseFirstSteps 40 (.invokevirtual 59) 3 43 := ⟨by decide +kernel, rfl⟩
theorem dX2_chooseFirstSteps_43 : zD cX2_chooseFirstSteps 43 (.iastore) 1 44 := ⟨by decide +kernel, rfl⟩
theorem dX2_chooseFirstSteps_44 : zD cX2_chooseFirstSteps 44 (.iinc 2 1) 3 47 := ⟨by decide +kernel, rfl⟩
theorem dX2_chooseFirstSteps_47 : zD cX2_chooseFirstSteps 47 (.goto (-37)) 3 50 := ⟨by decide +kernel, rfl⟩
theorem dX2_chooseFirstSteps_50 : zD cX2_chooseFirstSteps 50 (.iinc 1 1) 3 53 := ⟨by decide +kernel, rfl⟩
theorem dX2_chooseFirstSteps_53 : zD cX2_chooseFirstSteps 53 (.goto (-51)) 3 56 := ⟨by decide +kernel, rfl⟩
theorem dX2_chooseFirstSteps_56 : zD cX2_chooseFirstSteps 56 (.return_) 1 57 := ⟨by decide +kernel, rfl⟩
theorem dX2_find_0 : zD cX2_find 0 (.aload_n 0) 1 1 := ⟨by decide +kernel, rfl⟩
theorem dX2_find_1 : zD cX2_find 1 (.invokevirtual 25) 3 4 := ⟨by decide +kernel, rfl⟩
theorem dX2_find_4 : zD cX2_find 4 (.iconst 0) 1 5 := ⟨by decide +kernel, rfl⟩
theorem dX2_find_5 : zD cX2_find 5 (.istore 4) 2 7 := ⟨by decide +kernel, rfl⟩
theorem dX2_find_7 : zD cX2_find 7 (.iload 4) 2 9 := ⟨by decide +kernel, rfl⟩
theorem dX2_find_9 : zD cX2_find 9 (.aload_n 1) 1 10 := ⟨by decide +kernel, rfl⟩
theorem dX2_find_10 : zD cX2_find 10 (.getfield 28) 3 13 := ⟨by decide +kernel, rfl⟩
theorem dX2_find_13 : zD cX2_find 13 (.if_icmp .ge 91) 3 16 := ⟨by decide +kernel, rfl⟩
theorem dX2_find_16 : zD cX2_find 16 (.iload 4) 2 18 := ⟨by decide +kernel, rfl⟩
theorem dX2_find_18 : zD cX2_find 18 (.aload_n 2) 1 19 := ⟨by decide +kernel, rfl⟩
theorem dX2_find_19 : zD cX2_find 19 (.arraylength) 1 20 := ⟨by decide +kernel, rfl⟩
theorem dX2_find_20 : zD cX2_find 20 (.if_icmp .ge 84) 3 23 := ⟨by decide +kernel, rfl⟩
theorem dX2_find_23 : zD cX2_find 23 (.iload 4) 2 25 := ⟨by decide +kernel, rfl⟩
theorem dX2_find_25 : zD cX2_find 25 (.iload_n 3) 1 26 := ⟨by decide +kernel, rfl⟩
theorem dX2_find_26 : zD cX2_find 26 (.if_icmp .eq 72) 3 29 := ⟨by decide +kernel, rfl⟩
theorem dX2_find_29 : zD cX2_find 29 (.aload_n 1) 1 30 := ⟨by decide +kernel, rfl⟩
theorem dX2_find_30 : zD cX2_find 30 (.getfield 34) 3 33 := ⟨by decide +kernel, rfl⟩
theorem dX2_find_33 : zD cX2_find 33 (.iload 4) 2 35 := ⟨by decide +kernel, rfl⟩
theorem dX2_find_35 : zD cX2_find 35 (.iaload) 1 36 := ⟨by decide +kernel, rfl⟩
theorem dX2_find_36 : zD cX2_find 36 (.istore 5) 2 38 := ⟨by decide +kernel, rfl⟩
theorem dX2_find_38 : zD cX2_find 38 (.aload_n 1) 1 39 := ⟨by decide +kernel, rfl⟩
theorem dX2_find_39 : zD cX2_find 39 (.getfield 38) 3 42 := ⟨by decide +kernel, rfl⟩
theorem dX2_find_42 : zD cX2_find 42 (.iload 4) 2 44 := ⟨by decide +kernel, rfl⟩
theorem dX2_find_44 : zD cX2_find 44 (.iaload) 1 45 := ⟨by decide +kernel, rfl⟩
theorem dX2_find_45 : zD cX2_find 45 (.istore 6) 2 47 := ⟨by decide +kernel, rfl⟩
theorem dX2_find_47 : zD cX2_find 47 (.aload_n 0) 1 48 := ⟨by decide +kernel, rfl⟩
theorem dX2_find_48 : zD cX2_find 48 (.getfield 11) 3 51 := ⟨by decide +kernel, rfl⟩
theorem dX2_find_51 : zD cX2_find 51 (.iload 5) 2 53 := ⟨by decide +kernel, rfl⟩
theorem dX2_find_53 : zD cX2_find 53 (.aaload) 1 54 := ⟨by decide +kernel, rfl⟩
theorem dX2_find_54 : zD cX2_find 54 (.iload 6) 2 56 := ⟨by decide +kernel, rfl⟩
theorem dX2_find_56 : zD cX2_find 56 (.aload_n 2) 1 57 := ⟨by decide +kernel, rfl⟩
theorem dX2_find_57 : zD cX2_find 57 (.iload 4) 2 59 := ⟨by decide +kernel, rfl⟩
theorem dX2_find_59 : zD cX2_find 59 (.iaload) 1 60 := ⟨by decide +kernel, rfl⟩
theorem dX2_find_60 : zD cX2_find 60 (.bipush 8) 2 62 := ⟨by decide +kernel, rfl⟩
theorem dX2_find_62 : zD cX2_find 62 (.imul) 1 63 := ⟨by decide +kernel, rfl⟩
theorem dX2_find_63 : zD cX2_find 63 (.iconst 1) 1 64 := ⟨by decide +kernel, rfl⟩
theorem dX2_find_64 : zD cX2_find 64 (.iadd) 1 65 := ⟨by decide +kernel, rfl⟩
theorem dX2_find_65 : zD cX2_find 65 (.iastore) 1 66 := ⟨by decide +kernel, rfl⟩
theorem dX2_find_66 : zD cX2_find 66 (.aload_n 0) 1 67 := ⟨by decide +kernel, rfl⟩
theorem dX2_find_67 : zD cX2_find 67 (.getfield 16) 3 70 := ⟨by decide +kernel, rfl⟩
theorem dX2_find_70 : zD cX2_find 70 (.iload 5) 2 72 := ⟨by decide +kernel, rfl⟩
theorem dX2_find_72 : zD cX2_find 72 (.aaload) 1 73 := ⟨by decide +kernel, rfl⟩
theorem dX2_find_73 : zD cX2_find 73 (.iload 6) 2 75 := ⟨by decide +kernel, rfl⟩
theorem dX2_find_75 : zD cX2_find 75 (.iload 4) 2 77 := ⟨by decide +kernel, rfl⟩
theorem dX2_find_77 : zD cX2_find 77 (.iastore) 1 78 := ⟨by decide +kernel, rfl⟩
theorem dX2_find_78 : zD cX2_find 78 (.aload_n 0) 1 79 := ⟨by decide +kernel, rfl⟩
theorem dX2_find_79 : zD cX2_find 79 (.getfield 19) 3 82 := ⟨by decide +kernel, rfl⟩
theorem dX2_find_82 : zD cX2_find 82 (.iload 5) 2 84 := ⟨by decide +kernel, rfl⟩
theorem dX2_find_84 : zD cX2_find 84 (.aaload) 1 85 := ⟨by decide +kernel, rfl⟩
theorem dX2_find_85 : zD cX2_find 85 (.iload 6) 2 87 := ⟨by decide +kernel, rfl⟩
theorem dX2_find_87 : zD cX2_find 87 (.aload_n 0) 1 88 := ⟨by decide +kernel, rfl⟩
theorem dX2_find_88 : zD cX2_find 88 (.getfield 11) 3 91 := ⟨by decide +kernel, rfl⟩
theorem dX2_find_91 : zD cX2_find 91 (.iload 5) 2 93 := ⟨by decide +kernel, rfl⟩
theorem dX2_find_93 : zD cX2_find 93 (.aaload) 1 94 := ⟨by decide +kernel, rfl⟩
theorem dX2_find_94 : zD cX2_find 94 (.iload 6) 2 96 := ⟨by decide +kernel, rfl⟩
theorem dX2_find_96 : zD cX2_find 96 (.iaload) 1 97 := ⟨by decide +kernel, rfl⟩
theorem dX2_find_97 : zD cX2_find 97 (.iastore) 1 98 := ⟨by decide +kernel, rfl⟩
theorem dX2_find_98 : zD cX2_find 98 (.iinc 4 1) 3 101 := ⟨by decide +kernel, rfl⟩
theorem dX2_find_101 : zD cX2_find 101 (.goto (-94)) 3 104 := ⟨by decide +kernel, rfl⟩
theorem dX2_find_104 : zD cX2_find 104 (.iconst 0) 1 105 := ⟨by decide +kernel, rfl⟩
theorem dX2_find_105 : zD cX2_find 105 (.istore 4) 2 107 := ⟨by decide +kernel, rfl⟩
theorem dX2_find_107 : zD cX2_find 107 (.iload 4) 2 109 := ⟨by decide +kernel, rfl⟩
theorem dX2_find_109 : zD cX2_find 109 (.bipush 8) 2 111 := ⟨by decide +kernel, rfl⟩
theorem dX2_find_111 : zD cX2_find 111 (.if_icmp .ge 15) 3 114 := ⟨by decide +kernel, rfl⟩
theorem dX2_find_114 : zD cX2_find 114 (.aload_n 0) 1 115 := ⟨by decide +kernel, rfl⟩
theorem dX2_find_115 : zD cX2_find 115 (.iload 4) 2 117 := ⟨by decide +kernel, rfl⟩
theorem dX2_find_117 : zD cX2_find 117 (.invokevirtual 41) 3 120 := ⟨by decide +kernel, rfl⟩
theorem dX2_find_120 : zD cX2_find 120 (.iinc 4 1) 3 123 := ⟨by decide +kernel, rfl⟩
theorem dX2_find_123 : zD cX2_find 123 (.goto (-16)) 3 126 := ⟨by decide +kernel, rfl⟩
theorem dX2_find_126 : zD cX2_find 126 (.aload_n 0) 1 127 := ⟨by decide +kernel, rfl⟩
theorem dX2_find_127 : zD cX2_find 127 (.invokevirtual 45) 3 130 := ⟨by decide +kernel, rfl⟩
theorem dX2_find_130 : zD cX2_find 130 (.return_) 1 131 := ⟨by decide +kernel, rfl⟩
theorem dX6_findPaths_0 : zD cX6_findPaths 0 (.aload_n 0) 1 1 := ⟨by decide +kernel, rfl⟩
theorem dX6_findPaths_1 : zD cX6_findPaths 1 (.getfield 19) 3 4 := ⟨by decide +kernel, rfl⟩
theorem dX6_findPaths_4 : zD cX6_findPaths 4 (.aload_n 0) 1 5 := ⟨by decide +kernel, rfl⟩
theorem dX6_findPaths_5 : zD cX6_findPaths 5 (.getfield 57) 3 8 := ⟨by decide +kernel, rfl⟩
theorem dX6_findPaths_8 : zD cX6_findPaths 8 (.aload_n 0) 1 9 := ⟨by decide +kernel, rfl⟩
theorem dX6_findPaths_9 : zD cX6_findPaths 9 (.getfield 36) 3 12 := ⟨by decide +kernel, rfl⟩
theorem dX6_findPaths_12 : zD cX6_findPaths 12 (.getfield 134) 3 15 := ⟨by decide +kernel, rfl⟩
theorem dX6_findPaths_15 : zD cX6_findPaths 15 (.iconst (-1)) 1 16 := ⟨by decide +kernel, rfl⟩
theorem dX6_findPaths_16 : zD cX6_findPaths 16 (.invokevirtual 302) 3 19 := ⟨by decide +kernel, rfl⟩
theorem dX6_findPaths_19 : zD cX6_findPaths 19 (.return_) 1 20 := ⟨by decide +kernel, rfl⟩
theorem dX6_startOver_0 : zD cX6_startOver 0 (.aload_n 0) 1 1 := ⟨by decide +kernel, rfl⟩
theorem dX6_startOver_1 : zD cX6_startOver 1 (.getfield 36) 3 4 := ⟨by decide +kernel, rfl⟩
theorem dX6_startOver_4 : zD cX6_startOver 4 (.aload_n 0) 1 5 := ⟨by decide +kernel, rfl⟩
theorem dX6_startOver_5 : zD cX6_startOver 5 (.getfield 57) 3 8 := ⟨by decide +kernel, rfl⟩
theorem dX6_startOver_8 : zD cX6_startOver 8 (.invokevirtual 374) 3 11 := ⟨by decide +kernel, rfl⟩
theorem dX6_startOver_11 : zD cX6_startOver 11 (.aload_n 0) 1 12 := ⟨by decide +kernel, rfl⟩
theorem dX6_startOver_12 : zD cX6_startOver 12 (.iconst 0) 1 13 := ⟨by decide +kernel, rfl⟩
theorem dX6_startOver_13 : zD cX6_startOver 13 (.putfield 266) 3 16 := ⟨by decide +kernel, rfl⟩
theorem dX6_startOver_16 : zD cX6_startOver 16 (.iconst 0) 1 17 := ⟨by decide +kernel, rfl⟩
theorem dX6_startOver_17 : zD cX6_startOver 17 (.istore_n 1) 1 18 := ⟨by decide +kernel, rfl⟩
theorem dX6_startOver_18 : zD cX6_startOver 18 (.iload_n 1) 1 19 := ⟨by decide +kernel, rfl⟩
theorem dX6_startOver_19 : zD cX6_startOver 19 (.aload_n 0) 1 20 := ⟨by decide +kernel, rfl⟩
theorem dX6_startOver_20 : zD cX6_startOver 20 (.getfield 50) 3 23 := ⟨by decide +kernel, rfl⟩
theorem dX6_startOver_23 : zD cX6_startOver 23 (.arraylength) 1 24 := ⟨by decide +kernel, rfl⟩
theorem dX6_startOver_24 : zD cX6_startOver 24 (.if_icmp .ge 16) 3 27 := ⟨by decide +kernel, rfl⟩
theorem dX6_startOver_27 : zD cX6_startOver 27 (.aload_n 0) 1 28 := ⟨by decide +kernel, rfl⟩
theorem dX6_startOver_28 : zD cX6_startOver 28 (.getfield 50) 3 31 := ⟨by decide +kernel, rfl⟩
theorem dX6_startOver_31 : zD cX6_startOver 31 (.iload_n 1) 1 32 := ⟨by decide +kernel, rfl⟩
theorem dX6_startOver_32 : zD cX6_startOver 32 (.iconst 0) 1 33 := ⟨by decide +kernel, rfl⟩
theorem dX6_startOver_33 : zD cX6_startOver 33 (.bastore) 1 34 := ⟨by decide +kernel, rfl⟩
theorem dX6_startOver_34 : zD cX6_startOver 34 (.iinc 1 1) 3 37 := ⟨by decide +kernel, rfl⟩
theorem dX6_startOver_37 : zD cX6_startOver 37 (.goto (-19)) 3 40 := ⟨by decide +kernel, rfl⟩
theorem dX6_startOver_40 : zD cX6_startOver 40 (.aload_n 0) 1 41 := ⟨by decide +kernel, rfl⟩
theorem dX6_startOver_41 : zD cX6_startOver 41 (.invokevirtual 263) 3 44 := ⟨by decide +kernel, rfl⟩
theorem dX6_startOver_44 : zD cX6_startOver 44 (.return_) 1 45 := ⟨by decide +kernel, rfl⟩
theorem dX6_init_0 : zD cX6_init 0 (.aload_n 0) 1 1 := ⟨by decide +kernel, rfl⟩
theorem dX6_init_1 : zD cX6_init 1 (.invokespecial 1) 3 4 := ⟨by decide +kernel, rfl⟩
theorem dX6_init_4 : zD cX6_init 4 (.aload_n 0) 1 5 := ⟨by decide +kernel, rfl⟩
theorem dX6_init_5 : zD cX6_init 5 (.new 7) 3 8 := ⟨by decide +kernel, rfl⟩
theorem dX6_init_8 : zD cX6_init 8 (.dup) 1 9 := ⟨by decide +kernel, rfl⟩
theorem dX6_init_9 : zD cX6_init 9 (.invokespecial 9) 3 12 := ⟨by decide +kernel, rfl⟩
theorem dX6_init_12 : zD cX6_init 12 (.putfield 10) 3 15 := ⟨by decide +kernel, rfl⟩
theorem dX6_init_15 : zD cX6_init 15 (.aload_n 0) 1 16 := ⟨by decide +kernel, rfl⟩
theorem dX6_init_16 : zD cX6_init 16 (.new 16) 3 19 := ⟨by decide +kernel, rfl⟩
theorem dX6_init_19 : zD cX6_init 19 (.dup) 1 20 := ⟨by decide +kernel, rfl⟩
theorem dX6_init_20 : zD cX6_init 20 (.invokespecial 18) 3 23 := ⟨by decide +kernel, rfl⟩
theorem dX6_init_23 : zD cX6_init 23 (.putfield 19) 3 26 := ⟨by decide +kernel, rfl⟩
theorem dX6_init_26 : zD cX6_init 26 (.aload_n 0) 1 27 := ⟨by decide +kernel, rfl⟩
theorem dX6_init_27 : zD cX6_init 27 (.new 16) 3 30 := ⟨by decide +kernel, rfl⟩
theorem dX6_init_30 : zD cX6_init 30 (.dup) 1 31 := ⟨by decide +kernel, rfl⟩
theorem dX6_init_31 : zD cX6_init 31 (.invokespecial 18) 3 34 := ⟨by decide +kernel, rfl⟩
theorem dX6_init_34 : zD cX6_init 34 (.putfield 23) 3 37 := ⟨by decide +kernel, rfl⟩
theorem dX6_init_37 : zD cX6_init 37 (.aload_n 0) 1 38 := ⟨by decide +kernel, rfl⟩
theorem dX6_init_38 : zD cX6_init 38 (.new 26) 3 41 := ⟨by decide +kernel, rfl⟩
theorem dX6_init_41 : zD cX6_init 41 (.dup) 1 42 := ⟨by decide +kernel, rfl⟩
theorem dX6_init_42 : zD cX6_init 42 (.invokespecial 28) 3 45 := ⟨by decide +kernel, rfl⟩
theorem dX6_init_45 : zD cX6_init 45 (.putfield 29) 3 48 := ⟨by decide +kernel, rfl⟩
theorem dX6_init_48 : zD cX6_init 48 (.aload_n 0) 1 49 := ⟨by decide +kernel, rfl⟩
theorem dX6_init_49 : zD cX6_init 49 (.new 33) 3 52 := ⟨by decide +kernel, rfl⟩
theorem dX6_init_52 : zD cX6_init 52 (.dup) 1 53 := ⟨by decide +kernel, rfl⟩
theorem dX6_init_53 : zD cX6_init 53 (.invokespecial 35) 3 56 := ⟨by decide +kernel, rfl⟩
theorem dX6_init_56 : zD cX6_init 56 (.putfield 36) 3 59 := ⟨by decide +kernel, rfl⟩
theorem dX6_init_59 : zD cX6_init 59 (.aload_n 0) 1 60 := ⟨by decide +kernel, rfl⟩
theorem dX6_init_60 : zD cX6_init 60 (.new 33) 3 63 := ⟨by decide +kernel, rfl⟩
theorem dX6_init_63 : zD cX6_init 63 (.dup) 1 64 := ⟨by decide +kernel, rfl⟩
theorem dX6_init_64 : zD cX6_init 64 (.invokespecial 35) 3 67 := ⟨by decide +kernel, rfl⟩
theorem dX6_init_67 : zD cX6_init 67 (.putfield 40) 3 70 := ⟨by decide +kernel, rfl⟩
theorem dX6_init_70 : zD cX6_init 70 (.aload_n 0) 1 71 := ⟨by decide +kernel, rfl⟩
theorem dX6_init_71 : zD cX6_init 71 (.bipush 14) 2 73 := ⟨by decide +kernel, rfl⟩
theorem dX6_init_73 : zD cX6_init 73 (.anewarray 33) 3 76 := ⟨by decide +kernel, rfl⟩
theorem dX6_init_76 : zD cX6_init 76 (.putfield 43) 3 79 := ⟨by decide +kernel, rfl⟩
theorem dX6_init_79 : zD cX6_init 79 (.aload_n 0) 1 80 := ⟨by decide +kernel, rfl⟩
theorem dX6_init_80 : zD cX6_init 80 (.iconst 2) 1 81 := ⟨by decide +kernel, rfl⟩
theorem dX6_init_81 : zD cX6_init 81 (.anewarray 33) 3 84 := ⟨by decide +kernel, rfl⟩
theorem dX6_init_84 : zD cX6_init 84 (.putfield 47) 3 87 := ⟨by decide +kernel, rfl⟩
theorem dX6_init_87 : zD cX6_init 87 (.aload_n 0) 1 88 := ⟨by decide +kernel, rfl⟩
theorem dX6_init_88 : zD cX6_init 88 (.iconst 2) 1 89 := ⟨by decide +kernel, rfl⟩
theorem dX6_init_89 : zD cX6_init 89 (.newarray .boolean) 2 91 := ⟨by decide +kernel, rfl⟩
theorem dX6_init_91 : zD cX6_init 91 (.putfield 50) 3 94 := ⟨by decide +kernel, rfl⟩
theorem dX6_init_94 : zD cX6_init 94 (.aload_n 0) 1 95 := ⟨by decide +kernel, rfl⟩
theorem dX6_init_95 : zD cX6_init 95 (.new 54) 3 98 := ⟨by decide +kernel, rfl⟩
theorem dX6_init_98 : zD cX6_init 98 (.dup) 1 99 := ⟨by decide +kernel, rfl⟩
theorem dX6_init_99 : zD cX6_init 99 (.invokespecial 56) 3 102 := ⟨by decide +kernel, rfl⟩
theorem dX6_init_102 : zD cX6_init 102 (.putfield 57) 3 105 := ⟨by decide +kernel, rfl⟩
theorem dX6_init_105 : zD cX6_init 105 (.aload_n 0) 1 106 := ⟨by decide +kernel, rfl⟩
theorem dX6_init_106 : zD cX6_init 106 (.new 54) 3 109 := ⟨by decide +kernel, rfl⟩
theorem dX6_init_109 : zD cX6_init 109 (.dup) 1 110 := ⟨by decide +kernel, rfl⟩
theorem dX6_init_110 : zD cX6_init 110 (.invokespecial 56) 3 113 := ⟨by decide +kernel, rfl⟩
theorem dX6_init_113 : zD cX6_init 113 (.putfield 61) 3 116 := ⟨by decide +kernel, rfl⟩
theorem dX6_init_116 : zD cX6_init 116 (.iconst 0) 1 117 := ⟨by decide +kernel, rfl⟩
theorem dX6_init_117 : zD cX6_init 117 (.istore_n 1) 1 118 := ⟨by decide +kernel, rfl⟩
theorem dX6_init_118 : zD cX6_init 118 (.iload_n 1) 1 119 := ⟨by decide +kernel, rfl⟩
theorem dX6_init_119 : zD cX6_init 119 (.aload_n 0) 1 120 := ⟨by decide +kernel, rfl⟩
theorem dX6_init_120 : zD cX6_init 120 (.getfield 43) 3 123 := ⟨by decide +kernel, rfl⟩
theorem dX6_init_123 : zD cX6_init 123 (.arraylength) 1 124 := ⟨by decide +kernel, rfl⟩
theorem dX6_init_124 : zD cX6_init 124 (.if_icmp .ge 22) 3 127 := ⟨by decide +kernel, rfl⟩
theorem dX6_init_127 : zD cX6_init 127 (.aload_n 0) 1 128 := ⟨by decide +kernel, rfl⟩
theorem dX6_init_128 : zD cX6_init 128 (.getfield 43) 3 131 := ⟨by decide +kernel, rfl⟩
theorem dX6_init_131 : zD cX6_init 131 (.iload_n 1) 1 132 := ⟨by decide +kernel, rfl⟩
theorem dX6_init_132 : zD cX6_init 132 (.new 33) 3 135 := ⟨by decide +kernel, rfl⟩
theorem dX6_init_135 : zD cX6_init 135 (.dup) 1 136 := ⟨by decide +kernel, rfl⟩
theorem dX6_init_136 : zD cX6_init 136 (.invokespecial 35) 3 139 := ⟨by decide +kernel, rfl⟩
theorem dX6_init_139 : zD cX6_init 139 (.aastore) 1 140 := ⟨by decide +kernel, rfl⟩
theorem dX6_init_140 : zD cX6_init 140 (.iinc 1 1) 3 143 := ⟨by decide +kernel, rfl⟩
theorem dX6_init_143 : zD cX6_init 143 (.goto (-25)) 3 146 := ⟨by decide +kernel, rfl⟩
theorem dX6_init_146 : zD cX6_init 146 (.iconst 0) 1 147 := ⟨by decide +kernel, rfl⟩
theorem dX6_init_147 : zD cX6_init 147 (.istore_n 1) 1 148 := ⟨by decide +kernel, rfl⟩
theorem dX6_init_148 : zD cX6_init 148 (.iload_n 1) 1 149 := ⟨by decide +kernel, rfl⟩
theorem dX6_init_149 : zD cX6_init 149 (.aload_n 0) 1 150 := ⟨by decide +kernel, rfl⟩
theorem dX6_init_150 : zD cX6_init 150 (.getfield 47) 3 153 := ⟨by decide +kernel, rfl⟩
theorem dX6_init_153 : zD cX6_init 153 (.arraylength) 1 154 := ⟨by decide +kernel, rfl⟩
theorem dX6_init_154 : zD cX6_init 154 (.if_icmp .ge 22) 3 157 := ⟨by decide +kernel, rfl⟩
theorem dX6_init_157 : zD cX6_init 157 (.aload_n 0) 1 158 := ⟨by decide +kernel, rfl⟩
theorem dX6_init_158 : zD cX6_init 158 (.getfield 47) 3 161 := ⟨by decide +kernel, rfl⟩
theorem dX6_init_161 : zD cX6_init 161 (.iload_n 1) 1 162 := ⟨by decide +kernel, rfl⟩
theorem dX6_init_162 : zD cX6_init 162 (.new 33) 3 165 := ⟨by decide +kernel, rfl⟩
theorem dX6_init_165 : zD cX6_init 165 (.dup) 1 166 := ⟨by decide +kernel, rfl⟩
theorem dX6_init_166 : zD cX6_init 166 (.invokespecial 35) 3 169 := ⟨by decide +kernel, rfl⟩
theorem dX6_init_169 : zD cX6_init 169 (.aastore) 1 170 := ⟨by decide +kernel, rfl⟩
theorem dX6_init_170 : zD cX6_init 170 (.iinc 1 1) 3 173 := ⟨by decide +kernel, rfl⟩
theorem dX6_init_173 : zD cX6_init 173 (.goto (-25)) 3 176 := ⟨by decide +kernel, rfl⟩
theorem dX6_init_176 : zD cX6_init 176 (.aload_n 0) 1 177 := ⟨by decide +kernel, rfl⟩
theorem dX6_init_177 : zD cX6_init 177 (.invokevirtual 64) 3 180 := ⟨by decide +kernel, rfl⟩
theorem dX6_init_180 : zD cX6_init 180 (.return_) 1 181 := ⟨by decide +kernel, rfl⟩
theorem dX4_isFull_0 : zD cX4_isFull 0 (.aload_n 0) 1 1 := ⟨by decide +kernel, rfl⟩
theorem dX4_isFull_1 : zD cX4_isFull 1 (.getfield 15) 3 4 := ⟨by decide +kernel, rfl⟩
theorem dX4_isFull_4 : zD cX4_isFull 4 (.sipush 160) 3 7 := ⟨by decide +kernel, rfl⟩
theorem dX4_isFull_7 : zD cX4_isFull 7 (.if_icmp .lt 7) 3 10 := ⟨by decide +kernel, rfl⟩
theorem dX4_isFull_10 : zD cX4_isFull 10 (.iconst 1) 1 11 := ⟨by decide +kernel, rfl⟩
theorem dX4_isFull_11 : zD cX4_isFull 11 (.goto 4) 3 14 := ⟨by decide +kernel, rfl⟩
theorem dX4_isFull_14 : zD cX4_isFull 14 (.iconst 0) 1 15 := ⟨by decide +kernel, rfl⟩
theorem dX4_isFull_15 : zD cX4_isFull 15 (.ireturn) 1 16 := ⟨by decide +kernel, rfl⟩
theorem dX4_addSign_0 : zD cX4_addSign 0 (.aload_n 0) 1 1 := ⟨by decide +kernel, rfl⟩
theorem dX4_addSign_1 : zD cX4_addSign 1 (.invokevirtual 19) 3 4 := ⟨by decide +kernel, rfl⟩
theorem dX4_addSign_4 : zD cX4_addSign 4 (.ifCond .ne 23) 3 7 := ⟨by decide +kernel, rfl⟩
theorem dX4_addSign_7 : zD cX4_addSign 7 (.aload_n 0) 1 8 := ⟨by decide +kernel, rfl⟩
theorem dX4_addSign_8 : zD cX4_addSign 8 (.getfield 9) 3 11 := ⟨by decide +kernel, rfl⟩
theorem dX4_addSign_11 : zD cX4_addSign 11 (.aload_n 0) 1 12 := ⟨by decide +kernel, rfl⟩
theorem dX4_addSign_12 : zD cX4_addSign 12 (.getfield 15) 3 15 := ⟨by decide +kernel, rfl⟩
theorem dX4_addSign_15 : zD cX4_addSign 15 (.iload_n 1) 1 16 := ⟨by decide +kernel, rfl⟩
theorem dX4_addSign_16 : zD cX4_addSign 16 (.iastore) 1 17 := ⟨by decide +kernel, rfl⟩
theorem dX4_addSign_17 : zD cX4_addSign 17 (.aload_n 0) 1 18 := ⟨by decide +kernel, rfl⟩
theorem dX4_addSign_18 : zD cX4_addSign 18 (.dup) 1 19 := ⟨by decide +kernel, rfl⟩
theorem dX4_addSign_19 : zD cX4_addSign 19 (.getfield 15) 3 22 := ⟨by decide +kernel, rfl⟩
theorem dX4_addSign_22 : zD cX4_addSign 22 (.iconst 1) 1 23 := ⟨by decide +kernel, rfl⟩
theorem dX4_addSign_23 : zD cX4_addSign 23 (.iadd) 1 24 := ⟨by decide +kernel, rfl⟩
theorem dX4_addSign_24 : zD cX4_addSign 24 (.putfield 15) 3 27 := ⟨by decide +kernel, rfl⟩
theorem dX4_addSign_27 : zD cX4_addSign 27 (.return_) 1 28 := ⟨by decide +kernel, rfl⟩
theorem dX6_append_0 : zD cX6_append 0 (.iload_n 1) 1 1 := ⟨by decide +kernel, rfl⟩
theorem dX6_append_1 : zD cX6_append 1 (.ifCond .lt 10) 3 4 := ⟨by decide +kernel, rfl⟩
theorem dX6_append_4 : zD cX6_append 4 (.iload_n 1) 1 5 := ⟨by decide +kernel, rfl⟩
theorem dX6_append_5 : zD cX6_append 5 (.sipush 255) 3 8 := ⟨by decide +kernel, rfl⟩
theorem dX6_append_8 : zD cX6_append 8 (.if_icmp .le 13) 3 11 := ⟨by decide +kernel, rfl⟩
theorem dX6_append_11 : zD cX6_append 11 (.new 67) 3 14 := ⟨by decide +kernel, rfl⟩
theorem dX6_append_14 : zD cX6_append 14 (.dup) 1 15 := ⟨by decide +kernel, rfl⟩
theorem dX6_append_15 : zD cX6_append 15 (.ldc 69) 2 17 := ⟨by decide +kernel, rfl⟩
theorem dX6_append_17 : zD cX6_append 17 (.invokespecial 71) 3 20 := ⟨by decide +kernel, rfl⟩
theorem dX6_append_20 : zD cX6_append 20 (.athrow) 1 21 := ⟨by decide +kernel, rfl⟩
theorem dX6_append_21 : zD cX6_append 21 (.aload_n 0) 1 22 := ⟨by decide +kernel, rfl⟩
theorem dX6_append_22 : zD cX6_append 22 (.getfield 10) 3 25 := ⟨by decide +kernel, rfl⟩
theorem dX6_append_25 : zD cX6_append 25 (.invokevirtual 74) 3 28 := ⟨by decide +kernel, rfl⟩
theorem dX6_append_28 : zD cX6_append 28 (.ifCond .eq 13) 3 31 := ⟨by decide +kernel, rfl⟩
theorem dX6_append_31 : zD cX6_append 31 (.new 78) 3 34 := ⟨by decide +kernel, rfl⟩
theorem dX6_append_34 : zD cX6_append 34 (.dup) 1 35 := ⟨by decide +kernel, rfl⟩
theorem dX6_append_35 : zD cX6_append 35 (.ldc 80) 2 37 := ⟨by decide +kernel, rfl⟩
theorem dX6_append_37 : zD cX6_append 37 (.invokespecial 82) 3 40 := ⟨by decide +kernel, rfl⟩
theorem dX6_append_40 : zD cX6_append 40 (.athrow) 1 41 := ⟨by decide +kernel, rfl⟩
theorem dX6_append_41 : zD cX6_append 41 (.aload_n 0) 1 42 := ⟨by decide +kernel, rfl⟩
theorem dX6_append_42 : zD cX6_append 42 (.getfield 10) 3 45 := ⟨by decide +kernel, rfl⟩
theorem dX6_append_45 : zD cX6_append 45 (.iload_n 1) 1 46 := ⟨by decide +kernel, rfl⟩
theorem dX6_append_46 : zD cX6_append 46 (.invokevirtual 83) 3 49 := ⟨by decide +kernel, rfl⟩
theorem dX6_append_49 : zD cX6_append 49 (.aload_n 0) 1 50 := ⟨by decide +kernel, rfl⟩
theorem dX6_append_50 : zD cX6_append 50 (.getfield 10) 3 53 := ⟨by decide +kernel, rfl⟩
theorem dX6_append_53 : zD cX6_append 53 (.getfield 87) 3 56 := ⟨by decide +kernel, rfl⟩
theorem dX6_append_56 : zD cX6_append 56 (.ireturn) 1 57 := ⟨by decide +kernel, rfl⟩
theorem dX6_clearText_0 : zD cX6_clearText 0 (.aload_n 0) 1 1 := ⟨by decide +kernel, rfl⟩
theorem dX6_clearText_1 : zD cX6_clearText 1 (.getfield 10) 3 4 := ⟨by decide +kernel, rfl⟩
theorem dX6_clearText_4 : zD cX6_clearText 4 (.getfield 87) 3 7 := ⟨by decide +kernel, rfl⟩
theorem dX6_clearText_7 : zD cX6_clearText 7 (.istore_n 1) 1 8 := ⟨by decide +kernel, rfl⟩
theorem dX6_clearText_8 : zD cX6_clearText 8 (.aload_n 0) 1 9 := ⟨by decide +kernel, rfl⟩
theorem dX6_clearText_9 : zD cX6_clearText 9 (.getfield 10) 3 12 := ⟨by decide +kernel, rfl⟩
theorem dX6_clearText_12 : zD cX6_clearText 12 (.iconst 0) 1 13 := ⟨by decide +kernel, rfl⟩
theorem dX6_clearText_13 : zD cX6_clearText 13 (.putfield 87) 3 16 := ⟨by decide +kernel, rfl⟩
theorem dX6_clearText_16 : zD cX6_clearText 16 (.iload_n 1) 1 17 := ⟨by decide +kernel, rfl⟩
theorem dX6_clearText_17 : zD cX6_clearText 17 (.ireturn) 1 18 := ⟨by decide +kernel, rfl⟩
theorem dX4_shownSign_0 : zD cX4_shownSign 0 (.aload_n 0) 1 1 := ⟨by decide +kernel, rfl⟩
theorem dX4_shownSign_1 : zD cX4_shownSign 1 (.getfield 23) 3 4 := ⟨by decide +kernel, rfl⟩
theorem dX4_shownSign_4 : zD cX4_shownSign 4 (.ifCond .lt 36) 3 7 := ⟨by decide +kernel, rfl⟩
theorem dX4_shownSign_7 : zD cX4_shownSign 7 (.aload_n 0) 1 8 := ⟨by decide +kernel, rfl⟩
theorem dX4_shownSign_8 : zD cX4_shownSign 8 (.getfield 23) 3 11 := ⟨by decide +kernel, rfl⟩
theorem dX4_shownSign_11 : zD cX4_shownSign 11 (.aload_n 0) 1 12 := ⟨by decide +kernel, rfl⟩
theorem dX4_shownSign_12 : zD cX4_shownSign 12 (.getfield 15) 3 15 := ⟨by decide +kernel, rfl⟩
theorem dX4_shownSign_15 : zD cX4_shownSign 15 (.if_icmp .ge 25) 3 18 := ⟨by decide +kernel, rfl⟩
theorem dX4_shownSign_18 : zD cX4_shownSign 18 (.aload_n 0) 1 19 := ⟨by decide +kernel, rfl⟩
theorem dX4_shownSign_19 : zD cX4_shownSign 19 (.getfield 23) 3 22 := ⟨by decide +kernel, rfl⟩
theorem dX4_shownSign_22 : zD cX4_shownSign 22 (.sipush 160) 3 25 := ⟨by decide +kernel, rfl⟩
theorem dX4_shownSign_25 : zD cX4_shownSign 25 (.if_icmp .ge 15) 3 28 := ⟨by decide +kernel, rfl⟩
theorem dX4_shownSign_28 : zD cX4_shownSign 28 (.aload_n 0) 1 29 := ⟨by decide +kernel, rfl⟩
theorem dX4_shownSign_29 : zD cX4_shownSign 29 (.getfield 9) 3 32 := ⟨by decide +kernel, rfl⟩
theorem dX4_shownSign_32 : zD cX4_shownSign 32 (.aload_n 0) 1 33 := ⟨by decide +kernel, rfl⟩
theorem dX4_shownSign_33 : zD cX4_shownSign 33 (.getfield 23) 3 36 := ⟨by decide +kernel, rfl⟩
theorem dX4_shownSign_36 : zD cX4_shownSign 36 (.iaload) 1 37 := ⟨by decide +kernel, rfl⟩
theorem dX4_shownSign_37 : zD cX4_shownSign 37 (.goto 4) 3 40 := ⟨by decide +kernel, rfl⟩
theorem dX4_shownSign_40 : zD cX4_shownSign 40 (.iconst (-1)) 1 41 := ⟨by decide +kernel, rfl⟩
theorem dX4_shownSign_41 : zD cX4_shownSign 41 (.ireturn) 1 42 := ⟨by decide +kernel, rfl⟩
theorem dX4_readSign_0 : zD cX4_readSign 0 (.aload_n 0) 1 1 := ⟨by decide +kernel, rfl⟩
theorem dX4_readSign_1 : zD cX4_readSign 1 (.invokevirtual 30) 3 4 := ⟨by decide +kernel, rfl⟩
theorem dX4_readSign_4 : zD cX4_readSign 4 (.iload_n 1) 1 5 := ⟨by decide +kernel, rfl⟩
theorem dX4_readSign_5 : zD cX4_readSign 5 (.if_icmp .eq 5) 3 8 := ⟨by decide +kernel, rfl⟩
theorem dX4_readSign_8 : zD cX4_readSign 8 (.iconst 0) 1 9 := ⟨by decide +kernel, rfl⟩
theorem dX4_readSign_9 : zD cX4_readSign 9 (.ireturn) 1 10 := ⟨by decide +kernel, rfl⟩
theorem dX4_readSign_10 : zD cX4_readSign 10 (.aload_n 0) 1 11 := ⟨by decide +kernel, rfl⟩
theorem dX4_readSign_11 : zD cX4_readSign 11 (.dup) 1 12 := ⟨by decide +kernel, rfl⟩
theorem dX4_readSign_12 : zD cX4_readSign 12 (.getfield 23) 3 15 := ⟨by decide +kernel, rfl⟩
theorem dX4_readSign_15 : zD cX4_readSign 15 (.iconst 1) 1 16 := ⟨by decide +kernel, rfl⟩
theorem dX4_readSign_16 : zD cX4_readSign 16 (.iadd) 1 17 := ⟨by decide +kernel, rfl⟩
theorem dX4_readSign_17 : zD cX4_readSign 17 (.putfield 23) 3 20 := ⟨by decide +kernel, rfl⟩
theorem dX4_readSign_20 : zD cX4_readSign 20 (.iconst 1) 1 21 := ⟨by decide +kernel, rfl⟩
theorem dX4_readSign_21 : zD cX4_readSign 21 (.ireturn) 1 22 := ⟨by decide +kernel, rfl⟩
theorem dX4_shownDigit_0 : zD cX4_shownDigit 0 (.aload_n 0) 1 1 := ⟨by decide +kernel, rfl⟩
theorem dX4_shownDigit_1 : zD cX4_shownDigit 1 (.invokevirtual 30) 3 4 := ⟨by decide +kernel, rfl⟩
theorem dX4_shownDigit_4 : zD cX4_shownDigit 4 (.istore_n 1) 1 5 := ⟨by decide +kernel, rfl⟩
theorem dX4_shownDigit_5 : zD cX4_shownDigit 5 (.iload_n 1) 1 6 := ⟨by decide +kernel, rfl⟩
theorem dX4_shownDigit_6 : zD cX4_shownDigit 6 (.bipush 48) 2 8 := ⟨by decide +kernel, rfl⟩
theorem dX4_shownDigit_8 : zD cX4_shownDigit 8 (.if_icmp .lt 16) 3 11 := ⟨by decide +kernel, rfl⟩
theorem dX4_shownDigit_11 : zD cX4_shownDigit 11 (.iload_n 1) 1 12 := ⟨by decide +kernel, rfl⟩
theorem dX4_shownDigit_12 : zD cX4_shownDigit 12 (.bipush 57) 2 14 := ⟨by decide +kernel, rfl⟩
theorem dX4_shownDigit_14 : zD cX4_shownDigit 14 (.if_icmp .gt 10) 3 17 := ⟨by decide +kernel, rfl⟩
theorem dX4_shownDigit_17 : zD cX4_shownDigit 17 (.iload_n 1) 1 18 := ⟨by decide +kernel, rfl⟩
theorem dX4_shownDigit_18 : zD cX4_shownDigit 18 (.bipush 48) 2 20 := ⟨by decide +kernel, rfl⟩
theorem dX4_shownDigit_20 : zD cX4_shownDigit 20 (.isub) 1 21 := ⟨by decide +kernel, rfl⟩
theorem dX4_shownDigit_21 : zD cX4_shownDigit 21 (.goto 4) 3 24 := ⟨by decide +kernel, rfl⟩
theorem dX4_shownDigit_24 : zD cX4_shownDigit 24 (.iconst (-1)) 1 25 := ⟨by decide +kernel, rfl⟩
theorem dX4_shownDigit_25 : zD cX4_shownDigit 25 (.ireturn) 1 26 := ⟨by decide +kernel, rfl⟩
theorem dX4_readDigit_0 : zD cX4_readDigit 0 (.aload_n 0) 1 1 := ⟨by decide +kernel, rfl⟩
theorem dX4_readDigit_1 : zD cX4_readDigit 1 (.invokevirtual 61) 3 4 := ⟨by decide +kernel, rfl⟩
theorem dX4_readDigit_4 : zD cX4_readDigit 4 (.istore_n 3) 1 5 := ⟨by decide +kernel, rfl⟩
theorem dX4_readDigit_5 : zD cX4_readDigit 5 (.iload_n 3) 1 6 := ⟨by decide +kernel, rfl⟩
theorem dX4_readDigit_6 : zD cX4_readDigit 6 (.iconst (-1)) 1 7 := ⟨by decide +kernel, rfl⟩
theorem dX4_readDigit_7 : zD cX4_readDigit 7 (.if_icmp .eq 13) 3 10 := ⟨by decide +kernel, rfl⟩
theorem dX4_readDigit_10 : zD cX4_readDigit 10 (.iload_n 3) 1 11 := ⟨by decide +kernel, rfl⟩
theorem dX4_readDigit_11 : zD cX4_readDigit 11 (.iload_n 1) 1 12 := ⟨by decide +kernel, rfl⟩
theorem dX4_readDigit_12 : zD cX4_readDigit 12 (.if_icmp .lt 8) 3 15 := ⟨by decide +kernel, rfl⟩
theorem dX4_readDigit_15 : zD cX4_readDigit 15 (.iload_n 3) 1 16 := ⟨by decide +kernel, rfl⟩
theorem dX4_readDigit_16 : zD cX4_readDigit 16 (.iload_n 2) 1 17 := ⟨by decide +kernel, rfl⟩
theorem dX4_readDigit_17 : zD cX4_readDigit 17 (.if_icmp .le 5) 3 20 := ⟨by decide +kernel, rfl⟩
theorem dX4_readDigit_20 : zD cX4_readDigit 20 (.iconst (-1)) 1 21 := ⟨by decide +kernel, rfl⟩
theorem dX4_readDigit_21 : zD cX4_readDigit 21 (.ireturn) 1 22 := ⟨by decide +kernel, rfl⟩
theorem dX4_readDigit_22 : zD cX4_readDigit 22 (.aload_n 0) 1 23 := ⟨by decide +kernel, rfl⟩
theorem dX4_readDigit_23 : zD cX4_readDigit 23 (.dup) 1 24 := ⟨by decide +kernel, rfl⟩
theorem dX4_readDigit_24 : zD cX4_readDigit 24 (.getfield 23) 3 27 := ⟨by decide +kernel, rfl⟩
theorem dX4_readDigit_27 : zD cX4_readDigit 27 (.iconst 1) 1 28 := ⟨by decide +kernel, rfl⟩
theorem dX4_readDigit_28 : zD cX4_readDigit 28 (.iadd) 1 29 := ⟨by decide +kernel, rfl⟩
theorem dX4_readDigit_29 : zD cX4_readDigit 29 (.putfield 23) 3 32 := ⟨by decide +kernel, rfl⟩
theorem dX4_readDigit_32 : zD cX4_readDigit 32 (.iload_n 3) 1 33 := ⟨by decide +kernel, rfl⟩
theorem dX4_readDigit_33 : zD cX4_readDigit 33 (.ireturn) 1 34 := ⟨by decide +kernel, rfl⟩
theorem dX4_readNumber_0 : zD cX4_readNumber 0 (.iconst 0) 1 1 := ⟨by decide +kernel, rfl⟩
theorem dX4_readNumber_1 : zD cX4_readNumber 1 (.istore_n 2) 1 2 := ⟨by decide +kernel, rfl⟩
theorem dX4_readNumber_2 : zD cX4_readNumber 2 (.iconst 0) 1 3 := ⟨by decide +kernel, rfl⟩
theorem dX4_readNumber_3 : zD cX4_readNumber 3 (.istore_n 3) 1 4 := ⟨by decide +kernel, rfl⟩
theorem dX4_readNumber_4 : zD cX4_readNumber 4 (.iload_n 3) 1 5 := ⟨by decide +kernel, rfl⟩
theorem dX4_readNumber_5 : zD cX4_readNumber 5 (.iload_n 1) 1 6 := ⟨by decide +kernel, rfl⟩
theorem dX4_readNumber_6 : zD cX4_readNumber 6 (.if_icmp .ge 61) 3 9 := ⟨by decide +kernel, rfl⟩
theorem dX4_readNumber_9 : zD cX4_readNumber 9 (.iload_n 3) 1 10 := ⟨by decide +kernel, rfl⟩
theorem dX4_readNumber_10 : zD cX4_readNumber 10 (.iload_n 1) 1 11 := ⟨by decide +kernel, rfl⟩
theorem dX4_readNumber_11 : zD cX4_readNumber 11 (.iconst 1) 1 12 := ⟨by decide +kernel, rfl⟩
theorem dX4_readNumber_12 : zD cX4_readNumber 12 (.isub) 1 13 := ⟨by decide +kernel, rfl⟩
theorem dX4_readNumber_13 : zD cX4_readNumber 13 (.if_icmp .ne 11) 3 16 := ⟨by decide +kernel, rfl⟩
theorem dX4_readNumber_16 : zD cX4_readNumber 16 (.iload_n 2) 1 17 := ⟨by decide +kernel, rfl⟩
theorem dX4_readNumber_17 : zD cX4_readNumber 17 (.ifCond .ne 7) 3 20 := ⟨by decide +kernel, rfl⟩
theorem dX4_readNumber_20 : zD cX4_readNumber 20 (.iconst 1) 1 21 := ⟨by decide +kernel, rfl⟩
theorem dX4_readNumber_21 : zD cX4_readNumber 21 (.goto 4) 3 24 := ⟨by decide +kernel, rfl⟩
theorem dX4_readNumber_24 : zD cX4_readNumber 24 (.iconst 0) 1 25 := ⟨by decide +kernel, rfl⟩
theorem dX4_readNumber_25 : zD cX4_readNumber 25 (.istore 4) 2 27 := ⟨by decide +kernel, rfl⟩
theorem dX4_readNumber_27 : zD cX4_readNumber 27 (.aload_n 0) 1 28 := ⟨by decide +kernel, rfl⟩
theorem dX4_readNumber_28 : zD cX4_readNumber 28 (.iload 4) 2 30 := ⟨by decide +kernel, rfl⟩
theorem dX4_readNumber_30 : zD cX4_readNumber 30 (.ifCond .eq 7) 3 33 := ⟨by decide +kernel, rfl⟩
theorem dX4_readNumber_33 : zD cX4_readNumber 33 (.iconst 1) 1 34 := ⟨by decide +kernel, rfl⟩
theorem dX4_readNumber_34 : zD cX4_readNumber 34 (.goto 4) 3 37 := ⟨by decide +kernel, rfl⟩
theorem dX4_readNumber_37 : zD cX4_readNumber 37 (.iconst 0) 1 38 := ⟨by decide +kernel, rfl⟩
theorem dX4_readNumber_38 : zD cX4_readNumber 38 (.bipush 9) 2 40 := ⟨by decide +kernel, rfl⟩
theorem dX4_readNumber_40 : zD cX4_readNumber 40 (.invokevirtual 44) 3 43 := ⟨by decide +kernel, rfl⟩
theorem dX4_readNumber_43 : zD cX4_readNumber 43 (.istore 5) 2 45 := ⟨by decide +kernel, rfl⟩
theorem dX4_readNumber_45 : zD cX4_readNumber 45 (.iload 5) 2 47 := ⟨by decide +kernel, rfl⟩
theorem dX4_readNumber_47 : zD cX4_readNumber 47 (.iconst (-1)) 1 48 := ⟨by decide +kernel, rfl⟩
theorem dX4_readNumber_48 : zD cX4_readNumber 48 (.if_icmp .ne 5) 3 51 := ⟨by decide +kernel, rfl⟩
theorem dX4_readNumber_51 : zD cX4_readNumber 51 (.iconst (-1)) 1 52 := ⟨by decide +kernel, rfl⟩
theorem dX4_readNumber_52 : zD cX4_readNumber 52 (.ireturn) 1 53 := ⟨by decide +kernel, rfl⟩
theorem dX4_readNumber_53 : zD cX4_readNumber 53 (.iload_n 2) 1 54 := ⟨by decide +kernel, rfl⟩
theorem dX4_readNumber_54 : zD cX4_readNumber 54 (.bipush 10) 2 56 := ⟨by decide +kernel, rfl⟩
theorem dX4_readNumber_56 : zD cX4_readNumber 56 (.imul) 1 57 := ⟨by decide +kernel, rfl⟩
theorem dX4_readNumber_57 : zD cX4_readNumber 57 (.iload 5) 2 59 := ⟨by decide +kernel, rfl⟩
theorem dX4_readNumber_59 : zD cX4_readNumber 59 (.iadd) 1 60 := ⟨by decide +kernel, rfl⟩
theorem dX4_readNumber_60 : zD cX4_readNumber 60 (.istore_n 2) 1 61 := ⟨by decide +kernel, rfl⟩
theorem dX4_readNumber_61 : zD cX4_readNumber 61 (.iinc 3 1) 3 64 := ⟨by decide +kernel, rfl⟩
theorem dX4_readNumber_64 : zD cX4_readNumber 64 (.goto (-60)) 3 67 := ⟨by decide +kernel, rfl⟩
theorem dX4_readNumber_67 : zD cX4_readNumber 67 (.iload_n 2) 1 68 := ⟨by decide +kernel, rfl⟩
theorem dX4_readNumber_68 : zD cX4_readNumber 68 (.ireturn) 1 69 := ⟨by decide +kernel, rfl⟩
theorem dX4_readHead_0 : zD cX4_readHead 0 (.aload_n 0) 1 1 := ⟨by decide +kernel, rfl⟩
theorem dX4_readHead_1 : zD cX4_readHead 1 (.bipush 75) 2 3 := ⟨by decide +kernel, rfl⟩
theorem dX4_readHead_3 : zD cX4_readHead 3 (.invokevirtual 40) 3 6 := ⟨by decide +kernel, rfl⟩
theorem dX4_readHead_6 : zD cX4_readHead 6 (.ifCond .ne 5) 3 9 := ⟨by decide +kernel, rfl⟩
theorem dX4_readHead_9 : zD cX4_readHead 9 (.iconst 0) 1 10 := ⟨by decide +kernel, rfl⟩
theorem dX4_readHead_10 : zD cX4_readHead 10 (.ireturn) 1 11 := ⟨by decide +kernel, rfl⟩
theorem dX4_readHead_11 : zD cX4_readHead 11 (.aload_n 0) 1 12 := ⟨by decide +kernel, rfl⟩
theorem dX4_readHead_12 : zD cX4_readHead 12 (.iconst 1) 1 13 := ⟨by decide +kernel, rfl⟩
theorem dX4_readHead_13 : zD cX4_readHead 13 (.bipush 8) 2 15 := ⟨by decide +kernel, rfl⟩
theorem dX4_readHead_15 : zD cX4_readHead 15 (.invokevirtual 44) 3 18 := ⟨by decide +kernel, rfl⟩
theorem dX4_readHead_18 : zD cX4_readHead 18 (.istore_n 2) 1 19 := ⟨by decide +kernel, rfl⟩
theorem dX4_readHead_19 : zD cX4_readHead 19 (.iload_n 2) 1 20 := ⟨by decide +kernel, rfl⟩
theorem dX4_readHead_20 : zD cX4_readHead 20 (.iconst (-1)) 1 21 := ⟨by decide +kernel, rfl⟩
theorem dX4_readHead_21 : zD cX4_readHead 21 (.if_icmp .ne 5) 3 24 := ⟨by decide +kernel, rfl⟩
theorem dX4_readHead_24 : zD cX4_readHead 24 (.iconst 0) 1 25 := ⟨by decide +kernel, rfl⟩
theorem dX4_readHead_25 : zD cX4_readHead 25 (.ireturn) 1 26 := ⟨by decide +kernel, rfl⟩
theorem dX4_readHead_26 : zD cX4_readHead 26 (.aload_n 0) 1 27 := ⟨by decide +kernel, rfl⟩
theorem dX4_readHead_27 : zD cX4_readHead 27 (.iconst 5) 1 28 := ⟨by decide +kernel, rfl⟩
theorem dX4_readHead_28 : zD cX4_readHead 28 (.invokevirtual 48) 3 31 := ⟨by decide +kernel, rfl⟩
theorem dX4_readHead_31 : zD cX4_readHead 31 (.istore_n 3) 1 32 := ⟨by decide +kernel, rfl⟩
theorem dX4_readHead_32 : zD cX4_readHead 32 (.iload_n 3) 1 33 := ⟨by decide +kernel, rfl⟩
theorem dX4_readHead_33 : zD cX4_readHead 33 (.iconst (-1)) 1 34 := ⟨by decide +kernel, rfl⟩
theorem dX4_readHead_34 : zD cX4_readHead 34 (.if_icmp .ne 5) 3 37 := ⟨by decide +kernel, rfl⟩
theorem dX4_readHead_37 : zD cX4_readHead 37 (.iconst 0) 1 38 := ⟨by decide +kernel, rfl⟩
theorem dX4_readHead_38 : zD cX4_readHead 38 (.ireturn) 1 39 := ⟨by decide +kernel, rfl⟩
theorem dX4_readHead_39 : zD cX4_readHead 39 (.aload_n 1) 1 40 := ⟨by decide +kernel, rfl⟩
theorem dX4_readHead_40 : zD cX4_readHead 40 (.iload_n 2) 1 41 := ⟨by decide +kernel, rfl⟩
theorem dX4_readHead_41 : zD cX4_readHead 41 (.iload_n 3) 1 42 := ⟨by decide +kernel, rfl⟩
theorem dX4_readHead_42 : zD cX4_readHead 42 (.invokevirtual 52) 3 45 := ⟨by decide +kernel, rfl⟩
theorem dX4_readHead_45 : zD cX4_readHead 45 (.iconst 1) 1 46 := ⟨by decide +kernel, rfl⟩
theorem dX4_readHead_46 : zD cX4_readHead 46 (.ireturn) 1 47 := ⟨by decide +kernel, rfl⟩
theorem dX0_canAddConversion_0 : zD cX0_canAddConversion 0 (.aload_n 0) 1 1 := ⟨by decide +kernel, rfl⟩
theorem dX0_canAddConversion_1 : zD cX0_canAddConversion 1 (.getfield 57) 3 4 := ⟨by decide +kernel, rfl⟩
theorem dX0_canAddConversion_4 : zD cX0_canAddConversion 4 (.bipush 20) 2 6 := ⟨by decide +kernel, rfl⟩
theorem dX0_canAddConversion_6 : zD cX0_canAddConversion 6 (.if_icmp .ge 25) 3 9 := ⟨by decide +kernel, rfl⟩
theorem dX0_canAddConversion_9 : zD cX0_canAddConversion 9 (.aload_n 0) 1 10 := ⟨by decide +kernel, rfl⟩
theorem dX0_canAddConversion_10 : zD cX0_canAddConversion 10 (.getfield 57) 3 13 := ⟨by decide +kernel, rfl⟩
theorem dX0_canAddConversion_13 : zD cX0_canAddConversion 13 (.aload_n 0) 1 14 := ⟨by decide +kernel, rfl⟩
theorem dX0_canAddConversion_14 : zD cX0_canAddConversion 14 (.getfield 50) 3 17 := ⟨by decide +kernel, rfl⟩
theorem dX0_canAddConversion_17 : zD cX0_canAddConversion 17 (.aload_n 0) 1 18 := ⟨by decide +kernel, rfl⟩
theorem dX0_canAddConversion_18 : zD cX0_canAddConversion 18 (.getfield 50) 3 21 := ⟨by decide +kernel, rfl⟩
theorem dX0_canAddConversion_21 : zD cX0_canAddConversion 21 (.iconst 1) 1 22 := ⟨by decide +kernel, rfl⟩
theorem dX0_canAddConversion_22 : zD cX0_canAddConversion 22 (.isub) 1 23 := ⟨by decide +kernel, rfl⟩
theorem dX0_canAddConversion_23 : zD cX0_canAddConversion 23 (.imul) 1 24 := ⟨by decide +kernel, rfl⟩
theorem dX0_canAddConversion_24 : zD cX0_canAddConversion 24 (.if_icmp .ge 7) 3 27 := ⟨by decide +kernel, rfl⟩
theorem dX0_canAddConversion_27 : zD cX0_canAddConversion 27 (.iconst 1) 1 28 := ⟨by decide +kernel, rfl⟩
theorem dX0_canAddConversion_28 : zD cX0_canAddConversion 28 (.goto 4) 3 31 := ⟨by decide +kernel, rfl⟩
theorem dX0_canAddConversion_31 : zD cX0_canAddConversion 31 (.iconst 0) 1 32 := ⟨by decide +kernel, rfl⟩
theorem dX0_canAddConversion_32 : zD cX0_canAddConversion 32 (.ireturn) 1 33 := ⟨by decide +kernel, rfl⟩
theorem dX0_hasFormat_0 : zD cX0_hasFormat 0 (.iload_n 1) 1 1 := ⟨by decide +kernel, rfl⟩
theorem dX0_hasFormat_1 : zD cX0_hasFormat 1 (.ifCond .lt 15) 3 4 := ⟨by decide +kernel, rfl⟩
theorem dX0_hasFormat_4 : zD cX0_hasFormat 4 (.iload_n 1) 1 5 := ⟨by decide +kernel, rfl⟩
theorem dX0_hasFormat_5 : zD cX0_hasFormat 5 (.aload_n 0) 1 6 := ⟨by decide +kernel, rfl⟩
theorem dX0_hasFormat_6 : zD cX0_hasFormat 6 (.getfield 50) 3 9 := ⟨by decide +kernel, rfl⟩
theorem dX0_hasFormat_9 : zD cX0_hasFormat 9 (.if_icmp .ge 7) 3 12 := ⟨by decide +kernel, rfl⟩
theorem dX0_hasFormat_12 : zD cX0_hasFormat 12 (.iconst 1) 1 13 := ⟨by decide +kernel, rfl⟩
theorem dX0_hasFormat_13 : zD cX0_hasFormat 13 (.goto 4) 3 16 := ⟨by decide +kernel, rfl⟩
theorem dX0_hasFormat_16 : zD cX0_hasFormat 16 (.iconst 0) 1 17 := ⟨by decide +kernel, rfl⟩
theorem dX0_hasFormat_17 : zD cX0_hasFormat 17 (.ireturn) 1 18 := ⟨by decide +kernel, rfl⟩
theorem dX0_canLink_0 : zD cX0_canLink 0 (.aload_n 0) 1 1 := ⟨by decide +kernel, rfl⟩
theorem dX0_canLink_1 : zD cX0_canLink 1 (.iload_n 1) 1 2 := ⟨by decide +kernel, rfl⟩
theorem dX0_canLink_2 : zD cX0_canLink 2 (.invokevirtual 67) 3 5 := ⟨by decide +kernel, rfl⟩
theorem dX0_canLink_5 : zD cX0_canLink 5 (.ifCond .eq 34) 3 8 := ⟨by decide +kernel, rfl⟩
theorem dX0_canLink_8 : zD cX0_canLink 8 (.aload_n 0) 1 9 := ⟨by decide +kernel, rfl⟩
theorem dX0_canLink_9 : zD cX0_canLink 9 (.iload_n 2) 1 10 := ⟨by decide +kernel, rfl⟩
theorem dX0_canLink_10 : zD cX0_canLink 10 (.invokevirtual 67) 3 13 := ⟨by decide +kernel, rfl⟩
theorem dX0_canLink_13 : zD cX0_canLink 13 (.ifCond .eq 26) 3 16 := ⟨by decide +kernel, rfl⟩
theorem dX0_canLink_16 : zD cX0_canLink 16 (.iload_n 1) 1 17 := ⟨by decide +kernel, rfl⟩
theorem dX0_canLink_17 : zD cX0_canLink 17 (.iload_n 2) 1 18 := ⟨by decide +kernel, rfl⟩
theorem dX0_canLink_18 : zD cX0_canLink 18 (.if_icmp .eq 21) 3 21 := ⟨by decide +kernel, rfl⟩
theorem dX0_canLink_21 : zD cX0_canLink 21 (.aload_n 0) 1 22 := ⟨by decide +kernel, rfl⟩
theorem dX0_canLink_22 : zD cX0_canLink 22 (.getfield 33) 3 25 := ⟨by decide +kernel, rfl⟩
theorem dX0_canLink_25 : zD cX0_canLink 25 (.iload_n 1) 1 26 := ⟨by decide +kernel, rfl⟩
theorem dX0_canLink_26 : zD cX0_canLink 26 (.bipush 8) 2 28 := ⟨by decide +kernel, rfl⟩
theorem dX0_canLink_28 : zD cX0_canLink 28 (.imul) 1 29 := ⟨by decide +kernel, rfl⟩
theorem dX0_canLink_29 : zD cX0_canLink 29 (.iload_n 2) 1 30 := ⟨by decide +kernel, rfl⟩
theorem dX0_canLink_30 : zD cX0_canLink 30 (.iadd) 1 31 := ⟨by decide +kernel, rfl⟩
theorem dX0_canLink_31 : zD cX0_canLink 31 (.baload) 1 32 := ⟨by decide +kernel, rfl⟩
theorem dX0_canLink_32 : zD cX0_canLink 32 (.ifCond .ne 7) 3 35 := ⟨by decide +kernel, rfl⟩
theorem dX0_canLink_35 : zD cX0_canLink 35 (.iconst 1) 1 36 := ⟨by decide +kernel, rfl⟩
theorem dX0_canLink_36 : zD cX0_canLink 36 (.goto 4) 3 39 := ⟨by decide +kernel, rfl⟩
theorem dX0_canLink_39 : zD cX0_canLink 39 (.iconst 0) 1 40 := ⟨by decide +kernel, rfl⟩
theorem dX0_canLink_40 : zD cX0_canLink 40 (.ireturn) 1 41 := ⟨by decide +kernel, rfl⟩
theorem dX0_canAddConversionFrom_0 : zD cX0_canAddConversionFrom 0 (.iconst 0) 1 1 := ⟨by decide +kernel, rfl⟩
theorem dX0_canAddConversionFrom_1 : zD cX0_canAddConversionFrom 1 (.istore_n 2) 1 2 := ⟨by decide +kernel, rfl⟩
theorem dX0_canAddConversionFrom_2 : zD cX0_canAddConversionFrom 2 (.iload_n 2) 1 3 := ⟨by decide +kernel, rfl⟩
theorem dX0_canAddConversionFrom_3 : zD cX0_canAddConversionFrom 3 (.aload_n 0) 1 4 := ⟨by decide +kernel, rfl⟩
theorem dX0_canAddConversionFrom_4 : zD cX0_canAddConversionFrom 4 (.getfield 50) 3 7 := ⟨by decide +kernel, rfl⟩
theorem dX0_canAddConversionFrom_7 : zD cX0_canAddConversionFrom 7 (.if_icmp .ge 20) 3 10 := ⟨by decide +kernel, rfl⟩
theorem dX0_canAddConversionFrom_10 : zD cX0_canAddConversionFrom 10 (.aload_n 0) 1 11 := ⟨by decide +kernel, rfl⟩
theorem dX0_canAddConversionFrom_11 : zD cX0_canAddConversionFrom 11 (.iload_n 1) 1 12 := ⟨by decide +kernel, rfl⟩
theorem dX0_canAddConversionFrom_12 : zD cX0_canAddConversionFrom 12 (.iload_n 2) 1 13 := ⟨by decide +kernel, rfl⟩
theorem dX0_canAddConversionFrom_13 : zD cX0_canAddConversionFrom 13 (.invokevirtual 63) 3 16 := ⟨by decide +kernel, rfl⟩
theorem dX0_canAddConversionFrom_16 : zD cX0_canAddConversionFrom 16 (.ifCond .eq 5) 3 19 := ⟨by decide +kernel, rfl⟩
theorem dX0_canAddConversionFrom_19 : zD cX0_canAddConversionFrom 19 (.iconst 1) 1 20 := ⟨by decide +kernel, rfl⟩
theorem dX0_canAddConversionFrom_20 : zD cX0_canAddConversionFrom 20 (.ireturn) 1 21 := ⟨by decide +kernel, rfl⟩
theorem dX0_canAddConversionFrom_21 : zD cX0_canAddConversionFrom 21 (.iinc 2 1) 3 24 := ⟨by decide +kernel, rfl⟩
theorem dX0_canAddConversionFrom_24 : zD cX0_canAddConversionFrom 24 (.goto (-22)) 3 27 := ⟨by decide +kernel, rfl⟩
theorem dX0_canAddConversionFrom_27 : zD cX0_canAddConversionFrom 27 (.iconst 0) 1 28 := ⟨by decide +kernel, rfl⟩
theorem dX0_canAddConversionFrom_28 : zD cX0_canAddConversionFrom 28 (.ireturn) 1 29 := ⟨by decide +kernel, rfl⟩
theorem dX0_addConversion_0 : zD cX0_addConversion 0 (.aload_n 0) 1 1 := ⟨by decide +kernel, rfl⟩
theorem dX0_addConversion_1 : zD cX0_addConversion 1 (.invokevirtual 71) 3 4 := ⟨by decide +kernel, rfl⟩
theorem dX0_addConversion_4 : zD cX0_addConversion 4 (.ifCond .eq 12) 3 7 := ⟨by decide +kernel, rfl⟩
theorem dX0_addConversion_7 : zD cX0_addConversion 7 (.aload_n 0) 1 8 := ⟨by decide +kernel, rfl⟩
theorem dX0_addConversion_8 : zD cX0_addConversion 8 (.iload_n 1) 1 9 := ⟨by decide +kernel, rfl⟩
theorem dX0_addConversion_9 : zD cX0_addConversion 9 (.iload_n 2) 1 10 := ⟨by decide +kernel, rfl⟩
theorem dX0_addConversion_10 : zD cX0_addConversion 10 (.invokevirtual 63) 3 13 := ⟨by decide +kernel, rfl⟩
theorem dX0_addConversion_13 : zD cX0_addConversion 13 (.ifCond .ne 4) 3 16 := ⟨by decide +kernel, rfl⟩
theorem dX0_addConversion_16 : zD cX0_addConversion 16 (.return_) 1 17 := ⟨by decide +kernel, rfl⟩
theorem dX0_addConversion_17 : zD cX0_addConversion 17 (.aload_n 0) 1 18 := ⟨by decide +kernel, rfl⟩
theorem dX0_addConversion_18 : zD cX0_addConversion 18 (.getfield 9) 3 21 := ⟨by decide +kernel, rfl⟩
theorem dX0_addConversion_21 : zD cX0_addConversion 21 (.aload_n 0) 1 22 := ⟨by decide +kernel, rfl⟩
theorem dX0_addConversion_22 : zD cX0_addConversion 22 (.getfield 57) 3 25 := ⟨by decide +kernel, rfl⟩
theorem dX0_addConversion_25 : zD cX0_addConversion 25 (.iload_n 1) 1 26 := ⟨by decide +kernel, rfl⟩
theorem dX0_addConversion_26 : zD cX0_addConversion 26 (.iastore) 1 27 := ⟨by decide +kernel, rfl⟩
theorem dX0_addConversion_27 : zD cX0_addConversion 27 (.aload_n 0) 1 28 := ⟨by decide +kernel, rfl⟩
theorem dX0_addConversion_28 : zD cX0_addConversion 28 (.getfield 15) 3 31 := ⟨by decide +kernel, rfl⟩
theorem dX0_addConversion_31 : zD cX0_addConversion 31 (.aload_n 0) 1 32 := ⟨by decide +kernel, rfl⟩
theorem dX0_addConversion_32 : zD cX0_addConversion 32 (.getfield 57) 3 35 := ⟨by decide +kernel, rfl⟩
theorem dX0_addConversion_35 : zD cX0_addConversion 35 (.iload_n 2) 1 36 := ⟨by decide +kernel, rfl⟩
theorem dX0_addConversion_36 : zD cX0_addConversion 36 (.iastore) 1 37 := ⟨by decide +kernel, rfl⟩
theorem dX0_addConversion_37 : zD cX0_addConversion 37 (.aload_n 0) 1 38 := ⟨by decide +kernel, rfl⟩
theorem dX0_addConversion_38 : zD cX0_addConversion 38 (.getfield 18) 3 41 := ⟨by decide +kernel, rfl⟩
theorem dX0_addConversion_41 : zD cX0_addConversion 41 (.aload_n 0) 1 42 := ⟨by decide +kernel, rfl⟩
theorem dX0_addConversion_42 : zD cX0_addConversion 42 (.getfield 57) 3 45 := ⟨by decide +kernel, rfl⟩
theorem dX0_addConversion_45 : zD cX0_addConversion 45 (.iload_n 3) 1 46 := ⟨by decide +kernel, rfl⟩
theorem dX0_addConversion_46 : zD cX0_addConversion 46 (.iastore) 1 47 := ⟨by decide +kernel, rfl⟩
theorem dX0_addConversion_47 : zD cX0_addConversion 47 (.aload_n 0) 1 48 := ⟨by decide +kernel, rfl⟩
theorem dX0_addConversion_48 : zD cX0_addConversion 48 (.getfield 21) 3 51 := ⟨by decide +kernel, rfl⟩
theorem dX0_addConversion_51 : zD cX0_addConversion 51 (.aload_n 0) 1 52 := ⟨by decide +kernel, rfl⟩
theorem dX0_addConversion_52 : zD cX0_addConversion 52 (.getfield 57) 3 55 := ⟨by decide +kernel, rfl⟩
theorem dX0_addConversion_55 : zD cX0_addConversion 55 (.iload 4) 2 57 := ⟨by decide +kernel, rfl⟩
theorem dX0_addConversion_57 : zD cX0_addConversion 57 (.iastore) 1 58 := ⟨by decide +kernel, rfl⟩
theorem dX0_addConversion_58 : zD cX0_addConversion 58 (.aload_n 0) 1 59 := ⟨by decide +kernel, rfl⟩
theorem dX0_addConversion_59 : zD cX0_addConversion 59 (.getfield 24) 3 62 := ⟨by decide +kernel, rfl⟩
theorem dX0_addConversion_62 : zD cX0_addConversion 62 (.aload_n 0) 1 63 := ⟨by decide +kernel, rfl⟩
theorem dX0_addConversion_63 : zD cX0_addConversion 63 (.getfield 57) 3 66 := ⟨by decide +kernel, rfl⟩
theorem dX0_addConversion_66 : zD cX0_addConversion 66 (.iload 5) 2 68 := ⟨by decide +kernel, rfl⟩
theorem dX0_addConversion_68 : zD cX0_addConversion 68 (.iastore) 1 69 := ⟨by decide +kernel, rfl⟩
theorem dX0_addConversion_69 : zD cX0_addConversion 69 (.aload_n 0) 1 70 := ⟨by decide +kernel, rfl⟩
theorem dX0_addConversion_70 : zD cX0_addConversion 70 (.getfield 33) 3 73 := ⟨by decide +kernel, rfl⟩
theorem dX0_addConversion_73 : zD cX0_addConversion 73 (.iload_n 1) 1 74 := ⟨by decide +kernel, rfl⟩
theorem dX0_addConversion_74 : zD cX0_addConversion 74 (.bipush 8) 2 76 := ⟨by decide +kernel, rfl⟩
theorem dX0_addConversion_76 : zD cX0_addConversion 76 (.imul) 1 77 := ⟨by decide +kernel, rfl⟩
theorem dX0_addConversion_77 : zD cX0_addConversion 77 (.iload_n 2) 1 78 := ⟨by decide +kernel, rfl⟩
theorem dX0_addConversion_78 : zD cX0_addConversion 78 (.iadd) 1 79 := ⟨by decide +kernel, rfl⟩
theorem dX0_addConversion_79 : zD cX0_addConversion 79 (.iconst 1) 1 80 := ⟨by decide +kernel, rfl⟩
theorem dX0_addConversion_80 : zD cX0_addConversion 80 (.bastore) 1 81 := ⟨by decide +kernel, rfl⟩
theorem dX0_addConversion_81 : zD cX0_addConversion 81 (.aload_n 0) 1 82 := ⟨by decide +kernel, rfl⟩
theorem dX0_addConversion_82 : zD cX0_addConversion 82 (.dup) 1 83 := ⟨by decide +kernel, rfl⟩
theorem dX0_addConversion_83 : zD cX0_addConversion 83 (.getfield 57) 3 86 := ⟨by decide +kernel, rfl⟩
theorem dX0_addConversion_86 : zD cX0_addConversion 86 (.iconst 1) 1 87 := ⟨by decide +kernel, rfl⟩
theorem dX0_addConversion_87 : zD cX0_addConversion 87 (.iadd) 1 88 := ⟨by decide +kernel, rfl⟩
theorem dX0_addConversion_88 : zD cX0_addConversion 88 (.putfield 57) 3 91 := ⟨by decide +kernel, rfl⟩
theorem dX0_addConversion_91 : zD cX0_addConversion 91 (.return_) 1 92 := ⟨by decide +kernel, rfl⟩
theorem dX4_readConversion_0 : zD cX4_readConversion 0 (.aload_n 1) 1 1 := ⟨by decide +kernel, rfl⟩
theorem dX4_readConversion_1 : zD cX4_readConversion 1 (.invokevirtual 58) 3 4 := ⟨by decide +kernel, rfl⟩
theorem dX4_readConversion_4 : zD cX4_readConversion 4 (.ifCond .eq 12) 3 7 := ⟨by decide +kernel, rfl⟩
theorem dX4_readConversion_7 : zD cX4_readConversion 7 (.aload_n 0) 1 8 := ⟨by decide +kernel, rfl⟩
theorem dX4_readConversion_8 : zD cX4_readConversion 8 (.bipush 99) 2 10 := ⟨by decide +kernel, rfl⟩
theorem dX4_readConversion_10 : zD cX4_readConversion 10 (.invokevirtual 40) 3 13 := ⟨by decide +kernel, rfl⟩
theorem dX4_readConversion_13 : zD cX4_readConversion 13 (.ifCond .ne 5) 3 16 := ⟨by decide +kernel, rfl⟩
theorem dX4_readConversion_16 : zD cX4_readConversion 16 (.iconst 0) 1 17 := ⟨by decide +kernel, rfl⟩
theorem dX4_readConversion_17 : zD cX4_readConversion 17 (.ireturn) 1 18 := ⟨by decide +kernel, rfl⟩
theorem dX4_readConversion_18 : zD cX4_readConversion 18 (.aload_n 0) 1 19 := ⟨by decide +kernel, rfl⟩
theorem dX4_readConversion_19 : zD cX4_readConversion 19 (.invokevirtual 61) 3 22 := ⟨by decide +kernel, rfl⟩
theorem dX4_readConversion_22 : zD cX4_readConversion 22 (.istore_n 2) 1 23 := ⟨by decide +kernel, rfl⟩
theorem dX4_readConversion_23 : zD cX4_readConversion 23 (.aload_n 1) 1 24 := ⟨by decide +kernel, rfl⟩
theorem dX4_readConversion_24 : zD cX4_readConversion 24 (.iload_n 2) 1 25 := ⟨by decide +kernel, rfl⟩
theorem dX4_readConversion_25 : zD cX4_readConversion 25 (.invokevirtual 64) 3 28 := ⟨by decide +kernel, rfl⟩
theorem dX4_readConversion_28 : zD cX4_readConversion 28 (.ifCond .ne 5) 3 31 := ⟨by decide +kernel, rfl⟩
theorem dX4_readConversion_31 : zD cX4_readConversion 31 (.iconst 0) 1 32 := ⟨by decide +kernel, rfl⟩
theorem dX4_readConversion_32 : zD cX4_readConversion 32 (.ireturn) 1 33 := ⟨by decide +kernel, rfl⟩
theorem dX4_readConversion_33 : zD cX4_readConversion 33 (.aload_n 0) 1 34 := ⟨by decide +kernel, rfl⟩
theorem dX4_readConversion_34 : zD cX4_readConversion 34 (.dup) 1 35 := ⟨by decide +kernel, rfl⟩
theorem dX4_readConversion_35 : zD cX4_readConversion 35 (.getfield 23) 3 38 := ⟨by decide +kernel, rfl⟩
theorem dX4_readConversion_38 : zD cX4_readConversion 38 (.iconst 1) 1 39 := ⟨by decide +kernel, rfl⟩
theorem dX4_readConversion_39 : zD cX4_readConversion 39 (.iadd) 1 40 := ⟨by decide +kernel, rfl⟩
theorem dX4_readConversion_40 : zD cX4_readConversion 40 (.putfield 23) 3 43 := ⟨by decide +kernel, rfl⟩
theorem dX4_readConversion_43 : zD cX4_readConversion 43 (.aload_n 0) 1 44 := ⟨by decide +kernel, rfl⟩
theorem dX4_readConversion_44 : zD cX4_readConversion 44 (.invokevirtual 61) 3 47 := ⟨by decide +kernel, rfl⟩
theorem dX4_readConversion_47 : zD cX4_readConversion 47 (.istore_n 3) 1 48 := ⟨by decide +kernel, rfl⟩
theorem dX4_readConversion_48 : zD cX4_readConversion 48 (.aload_n 1) 1 49 := ⟨by decide +kernel, rfl⟩
theorem dX4_readConversion_49 : zD cX4_readConversion 49 (.iload_n 2) 1 50 := ⟨by decide +kernel, rfl⟩
theorem dX4_readConversion_50 : zD cX4_readConversion 50 (.iload_n 3) 1 51 := ⟨by decide +kernel, rfl⟩
theorem dX4_readConversion_51 : zD cX4_readConversion 51 (.invokevirtual 67) 3 54 := ⟨by decide +kernel, rfl⟩
theorem dX4_readConversion_54 : zD cX4_readConversion 54 (.ifCond .ne 5) 3 57 := ⟨by decide +kernel, rfl⟩
theorem dX4_readConversion_57 : zD cX4_readConversion 57 (.iconst 0) 1 58 := ⟨by decide +kernel, rfl⟩
theorem dX4_readConversion_58 : zD cX4_readConversion 58 (.ireturn) 1 59 := ⟨by decide +kernel, rfl⟩
theorem dX4_readConversion_59 : zD cX4_readConversion 59 (.aload_n 0) 1 60 := ⟨by decide +kernel, rfl⟩
theorem dX4_readConversion_60 : zD cX4_readConversion 60 (.dup) 1 61 := ⟨by decide +kernel, rfl⟩
theorem dX4_readConversion_61 : zD cX4_readConversion 61 (.getfield 23) 3 64 := ⟨by decide +kernel, rfl⟩
theorem dX4_readConversion_64 : zD cX4_readConversion 64 (.iconst 1) 1 65 := ⟨by decide +kernel, rfl⟩
theorem dX4_readConversion_65 : zD cX4_readConversion 65 (.iadd) 1 66 := ⟨by decide +kernel, rfl⟩
theorem dX4_readConversion_66 : zD cX4_readConversion 66 (.putfield 23) 3 69 := ⟨by decide +kernel, rfl⟩
theorem dX4_readConversion_69 : zD cX4_readConversion 69 (.aload_n 0) 1 70 := ⟨by decide +kernel, rfl⟩
theorem dX4_readConversion_70 : zD cX4_readConversion 70 (.iconst 2) 1 71 := ⟨by decide +kernel, rfl⟩
theorem dX4_readConversion_71 : zD cX4_readConversion 71 (.invokevirtual 48) 3 74 := ⟨by decide +kernel, rfl⟩
theorem dX4_readConversion_74 : zD cX4_readConversion 74 (.istore 4) 2 76 := ⟨by decide +kernel, rfl⟩
theorem dX4_readConversion_76 : zD cX4_readConversion 76 (.iload 4) 2 78 := ⟨by decide +kernel, rfl⟩
theorem dX4_readConversion_78 : zD cX4_readConversion 78 (.iconst (-1)) 1 79 := ⟨by decide +kernel, rfl⟩
theorem dX4_readConversion_79 : zD cX4_readConversion 79 (.if_icmp .ne 5) 3 82 := ⟨by decide +kernel, rfl⟩
theorem dX4_readConversion_82 : zD cX4_readConversion 82 (.iconst 0) 1 83 := ⟨by decide +kernel, rfl⟩
theorem dX4_readConversion_83 : zD cX4_readConversion 83 (.ireturn) 1 84 := ⟨by decide +kernel, rfl⟩
theorem dX4_readConversion_84 : zD cX4_readConversion 84 (.aload_n 0) 1 85 := ⟨by decide +kernel, rfl⟩
theorem dX4_readConversion_85 : zD cX4_readConversion 85 (.iconst 2) 1 86 := ⟨by decide +kernel, rfl⟩
theorem dX4_readConversion_86 : zD cX4_readConversion 86 (.invokevirtual 48) 3 89 := ⟨by decide +kernel, rfl⟩
theorem dX4_readConversion_89 : zD cX4_readConversion 89 (.istore 5) 2 91 := ⟨by decide +kernel, rfl⟩
theorem dX4_readConversion_91 : zD cX4_readConversion 91 (.iload 5) 2 93 := ⟨by decide +kernel, rfl⟩
theorem dX4_readConversion_93 : zD cX4_readConversion 93 (.iconst (-1)) 1 94 := ⟨by decide +kernel, rfl⟩
theorem dX4_readConversion_94 : zD cX4_readConversion 94 (.if_icmp .ne 5) 3 97 := ⟨by decide +kernel, rfl⟩
theorem dX4_readConversion_97 : zD cX4_readConversion 97 (.iconst 0) 1 98 := ⟨by decide +kernel, rfl⟩
theorem dX4_readConversion_98 : zD cX4_readConversion 98 (.ireturn) 1 99 := ⟨by decide +kernel, rfl⟩
theorem dX4_readConversion_99 : zD cX4_readConversion 99 (.aload_n 0) 1 100 := ⟨by decide +kernel, rfl⟩
theorem dX4_readConversion_100 : zD cX4_readConversion 100 (.iconst 0) 1 101 := ⟨by decide +kernel, rfl⟩
theorem dX4_readConversion_101 : zD cX4_readConversion 101 (.bipush 9) 2 103 := ⟨by decide +kernel, rfl⟩
theorem dX4_readConversion_103 : zD cX4_readConversion 103 (.invokevirtual 44) 3 106 := ⟨by decide +kernel, rfl⟩
theorem dX4_readConversion_106 : zD cX4_readConversion 106 (.istore 6) 2 108 := ⟨by decide +kernel, rfl⟩
theorem dX4_readConversion_108 : zD cX4_readConversion 108 (.iload 6) 2 110 := ⟨by decide +kernel, rfl⟩
theorem dX4_readConversion_110 : zD cX4_readConversion 110 (.iconst (-1)) 1 111 := ⟨by decide +kernel, rfl⟩
theorem dX4_readConversion_111 : zD cX4_readConversion 111 (.if_icmp .ne 5) 3 114 := ⟨by decide +kernel, rfl⟩
theorem dX4_readConversion_114 : zD cX4_readConversion 114 (.iconst 0) 1 115 := ⟨by decide +kernel, rfl⟩
theorem dX4_readConversion_115 : zD cX4_readConversion 115 (.ireturn) 1 116 := ⟨by decide +kernel, rfl⟩
theorem dX4_readConversion_116 : zD cX4_readConversion 116 (.aload_n 1) 1 117 := ⟨by decide +kernel, rfl⟩
theorem dX4_readConversion_117 : zD cX4_readConversion 117 (.iload_n 2) 1 118 := ⟨by decide +kernel, rfl⟩
theorem dX4_readConversion_118 : zD cX4_readConversion 118 (.iload_n 3) 1 119 := ⟨by decide +kernel, rfl⟩
theorem dX4_readConversion_119 : zD cX4_readConversion 119 (.iload 4) 2 121 := ⟨by decide +kernel, rfl⟩
theorem dX4_readConversion_121 : zD cX4_readConversion 121 (.iload 5) 2 123 := ⟨by decide +kernel, rfl⟩
theorem dX4_readConversion_123 : zD cX4_readConversion 123 (.iload 6) 2 125 := ⟨by decide +kernel, rfl⟩
theorem dX4_readConversion_125 : zD cX4_readConversion 125 (.invokevirtual 71) 3 128 := ⟨by decide +kernel, rfl⟩
theorem dX4_readConversion_128 : zD cX4_readConversion 128 (.iconst 1) 1 129 := ⟨by decide +kernel, rfl⟩
theorem dX4_readConversion_129 : zD cX4_readConversion 129 (.ireturn) 1 130 := ⟨by decide +kernel, rfl⟩
theorem dX0_canAddPlace_0 : zD cX0_canAddPlace 0 (.aload_n 0) 1 1 := ⟨by decide +kernel, rfl⟩
theorem dX0_canAddPlace_1 : zD cX0_canAddPlace 1 (.getfield 60) 3 4 := ⟨by decide +kernel, rfl⟩
theorem dX0_canAddPlace_4 : zD cX0_canAddPlace 4 (.bipush 6) 2 6 := ⟨by decide +kernel, rfl⟩
theorem dX0_canAddPlace_6 : zD cX0_canAddPlace 6 (.if_icmp .ge 7) 3 9 := ⟨by decide +kernel, rfl⟩
theorem dX0_canAddPlace_9 : zD cX0_canAddPlace 9 (.iconst 1) 1 10 := ⟨by decide +kernel, rfl⟩
theorem dX0_canAddPlace_10 : zD cX0_canAddPlace 10 (.goto 4) 3 13 := ⟨by decide +kernel, rfl⟩
theorem dX0_canAddPlace_13 : zD cX0_canAddPlace 13 (.iconst 0) 1 14 := ⟨by decide +kernel, rfl⟩
theorem dX0_canAddPlace_14 : zD cX0_canAddPlace 14 (.ireturn) 1 15 := ⟨by decide +kernel, rfl⟩
theorem dX0_addPlace_0 : zD cX0_addPlace 0 (.aload_n 0) 1 1 := ⟨by decide +kernel, rfl⟩
theorem dX0_addPlace_1 : zD cX0_addPlace 1 (.invokevirtual 75) 3 4 := ⟨by decide +kernel, rfl⟩
theorem dX0_addPlace_4 : zD cX0_addPlace 4 (.ifCond .ne 4) 3 7 := ⟨by decide +kernel, rfl⟩
theorem dX0_addPlace_7 : zD cX0_addPlace 7 (.return_) 1 8 := ⟨by decide +kernel, rfl⟩
theorem dX0_addPlace_8 : zD cX0_addPlace 8 (.aload_n 0) 1 9 := ⟨by decide +kernel, rfl⟩
theorem dX0_addPlace_9 : zD cX0_addPlace 9 (.getfield 27) 3 12 := ⟨by decide +kernel, rfl⟩
theorem dX0_addPlace_12 : zD cX0_addPlace 12 (.aload_n 0) 1 13 := ⟨by decide +kernel, rfl⟩
theorem dX0_addPlace_13 : zD cX0_addPlace 13 (.getfield 60) 3 16 := ⟨by decide +kernel, rfl⟩
theorem dX0_addPlace_16 : zD cX0_addPlace 16 (.iload_n 1) 1 17 := ⟨by decide +kernel, rfl⟩
theorem dX0_addPlace_17 : zD cX0_addPlace 17 (.iastore) 1 18 := ⟨by decide +kernel, rfl⟩
theorem dX0_addPlace_18 : zD cX0_addPlace 18 (.aload_n 0) 1 19 := ⟨by decide +kernel, rfl⟩
theorem dX0_addPlace_19 : zD cX0_addPlace 19 (.getfield 30) 3 22 := ⟨by decide +kernel, rfl⟩
theorem dX0_addPlace_22 : zD cX0_addPlace 22 (.aload_n 0) 1 23 := ⟨by decide +kernel, rfl⟩
theorem dX0_addPlace_23 : zD cX0_addPlace 23 (.getfield 60) 3 26 := ⟨by decide +kernel, rfl⟩
theorem dX0_addPlace_26 : zD cX0_addPlace 26 (.iload_n 2) 1 27 := ⟨by decide +kernel, rfl⟩
theorem dX0_addPlace_27 : zD cX0_addPlace 27 (.iastore) 1 28 := ⟨by decide +kernel, rfl⟩
theorem dX0_addPlace_28 : zD cX0_addPlace 28 (.aload_n 0) 1 29 := ⟨by decide +kernel, rfl⟩
theorem dX0_addPlace_29 : zD cX0_addPlace 29 (.dup) 1 30 := ⟨by decide +kernel, rfl⟩
theorem dX0_addPlace_30 : zD cX0_addPlace 30 (.getfield 60) 3 33 := ⟨by decide +kernel, rfl⟩
theorem dX0_addPlace_33 : zD cX0_addPlace 33 (.iconst 1) 1 34 := ⟨by decide +kernel, rfl⟩
theorem dX0_addPlace_34 : zD cX0_addPlace 34 (.iadd) 1 35 := ⟨by decide +kernel, rfl⟩
theorem dX0_addPlace_35 : zD cX0_addPlace 35 (.putfield 60) 3 38 := ⟨by decide +kernel, rfl⟩
theorem dX0_addPlace_38 : zD cX0_addPlace 38 (.return_) 1 39 := ⟨by decide +kernel, rfl⟩
theorem dX4_readPlace_0 : zD cX4_readPlace 0 (.aload_n 1) 1 1 := ⟨by decide +kernel, rfl⟩
theorem dX4_readPlace_1 : zD cX4_readPlace 1 (.invokevirtual 75) 3 4 := ⟨by decide +kernel, rfl⟩
theorem dX4_readPlace_4 : zD cX4_readPlace 4 (.ifCond .eq 12) 3 7 := ⟨by decide +kernel, rfl⟩
theorem dX4_readPlace_7 : zD cX4_readPlace 7 (.aload_n 0) 1 8 := ⟨by decide +kernel, rfl⟩
theorem dX4_readPlace_8 : zD cX4_readPlace 8 (.bipush 112) 2 10 := ⟨by decide +kernel, rfl⟩
theorem dX4_readPlace_10 : zD cX4_readPlace 10 (.invokevirtual 40) 3 13 := ⟨by decide +kernel, rfl⟩
theorem dX4_readPlace_13 : zD cX4_readPlace 13 (.ifCond .ne 5) 3 16 := ⟨by decide +kernel, rfl⟩
theorem dX4_readPlace_16 : zD cX4_readPlace 16 (.iconst 0) 1 17 := ⟨by decide +kernel, rfl⟩
theorem dX4_readPlace_17 : zD cX4_readPlace 17 (.ireturn) 1 18 := ⟨by decide +kernel, rfl⟩
theorem dX4_readPlace_18 : zD cX4_readPlace 18 (.iconst 0) 1 19 := ⟨by decide +kernel, rfl⟩
theorem dX4_readPlace_19 : zD cX4_readPlace 19 (.istore_n 2) 1 20 := ⟨by decide +kernel, rfl⟩
theorem dX4_readPlace_20 : zD cX4_readPlace 20 (.iconst 0) 1 21 := ⟨by decide +kernel, rfl⟩
theorem dX4_readPlace_21 : zD cX4_readPlace 21 (.istore_n 3) 1 22 := ⟨by decide +kernel, rfl⟩
theorem dX4_readPlace_22 : zD cX4_readPlace 22 (.iconst 0) 1 23 := ⟨by decide +kernel, rfl⟩
theorem dX4_readPlace_23 : zD cX4_readPlace 23 (.istore 4) 2 25 := ⟨by decide +kernel, rfl⟩
theorem dX4_readPlace_25 : zD cX4_readPlace 25 (.iload 4) 2 27 := ⟨by decide +kernel, rfl⟩
theorem dX4_readPlace_27 : zD cX4_readPlace 27 (.bipush 8) 2 29 := ⟨by decide +kernel, rfl⟩
theorem dX4_readPlace_29 : zD cX4_readPlace 29 (.if_icmp .ge 43) 3 32 := ⟨by decide +kernel, rfl⟩
theorem dX4_readPlace_32 : zD cX4_readPlace 32 (.aload_n 0) 1 33 := ⟨by decide +kernel, rfl⟩
theorem dX4_readPlace_33 : zD cX4_readPlace 33 (.iload_n 3) 1 34 := ⟨by decide +kernel, rfl⟩
theorem dX4_readPlace_34 : zD cX4_readPlace 34 (.aload_n 1) 1 35 := ⟨by decide +kernel, rfl⟩
theorem dX4_readPlace_35 : zD cX4_readPlace 35 (.getfield 78) 3 38 := ⟨by decide +kernel, rfl⟩
theorem dX4_readPlace_38 : zD cX4_readPlace 38 (.iconst 1) 1 39 := ⟨by decide +kernel, rfl⟩
theorem dX4_readPlace_39 : zD cX4_readPlace 39 (.isub) 1 40 := ⟨by decide +kernel, rfl⟩
theorem dX4_readPlace_40 : zD cX4_readPlace 40 (.invokevirtual 44) 3 43 := ⟨by decide +kernel, rfl⟩
theorem dX4_readPlace_43 : zD cX4_readPlace 43 (.istore 5) 2 45 := ⟨by decide +kernel, rfl⟩
theorem dX4_readPlace_45 : zD cX4_readPlace 45 (.iload 5) 2 47 := ⟨by decide +kernel, rfl⟩
theorem dX4_readPlace_47 : zD cX4_readPlace 47 (.iconst (-1)) 1 48 := ⟨by decide +kernel, rfl⟩
theorem dX4_readPlace_48 : zD cX4_readPlace 48 (.if_icmp .ne 6) 3 51 := ⟨by decide +kernel, rfl⟩
theorem dX4_readPlace_51 : zD cX4_readPlace 51 (.goto 21) 3 54 := ⟨by decide +kernel, rfl⟩
theorem dX4_readPlace_54 : zD cX4_readPlace 54 (.iload_n 2) 1 55 := ⟨by decide +kernel, rfl⟩
theorem dX4_readPlace_55 : zD cX4_readPlace 55 (.iconst 1) 1 56 := ⟨by decide +kernel, rfl⟩
theorem dX4_readPlace_56 : zD cX4_readPlace 56 (.iload 5) 2 58 := ⟨by decide +kernel, rfl⟩
theorem dX4_readPlace_58 : zD cX4_readPlace 58 (.ishl) 1 59 := ⟨by decide +kernel, rfl⟩
theorem dX4_readPlace_59 : zD cX4_readPlace 59 (.ior) 1 60 := ⟨by decide +kernel, rfl⟩
theorem dX4_readPlace_60 : zD cX4_readPlace 60 (.istore_n 2) 1 61 := ⟨by decide +kernel, rfl⟩
theorem dX4_readPlace_61 : zD cX4_readPlace 61 (.iload 5) 2 63 := ⟨by decide +kernel, rfl⟩
theorem dX4_readPlace_63 : zD cX4_readPlace 63 (.iconst 1) 1 64 := ⟨by decide +kernel, rfl⟩
theorem dX4_readPlace_64 : zD cX4_readPlace 64 (.iadd) 1 65 := ⟨by decide +kernel, rfl⟩
theorem dX4_readPlace_65 : zD cX4_readPlace 65 (.istore_n 3) 1 66 := ⟨by decide +kernel, rfl⟩
theorem dX4_readPlace_66 : zD cX4_readPlace 66 (.iinc 4 1) 3 69 := ⟨by decide +kernel, rfl⟩
theorem dX4_readPlace_69 : zD cX4_readPlace 69 (.goto (-44)) 3 72 := ⟨by decide +kernel, rfl⟩
theorem dX4_readPlace_72 : zD cX4_readPlace 72 (.iload_n 2) 1 73 := ⟨by decide +kernel, rfl⟩
theorem dX4_readPlace_73 : zD cX4_readPlace 73 (.ifCond .eq 12) 3 76 := ⟨by decide +kernel, rfl⟩
theorem dX4_readPlace_76 : zD cX4_readPlace 76 (.aload_n 0) 1 77 := ⟨by decide +kernel, rfl⟩
theorem dX4_readPlace_77 : zD cX4_readPlace 77 (.bipush 58) 2 79 := ⟨by decide +kernel, rfl⟩
theorem dX4_readPlace_79 : zD cX4_readPlace 79 (.invokevirtual 40) 3 82 := ⟨by decide +kernel, rfl⟩
theorem dX4_readPlace_82 : zD cX4_readPlace 82 (.ifCond .ne 5) 3 85 := ⟨by decide +kernel, rfl⟩
theorem dX4_readPlace_85 : zD cX4_readPlace 85 (.iconst 0) 1 86 := ⟨by decide +kernel, rfl⟩
theorem dX4_readPlace_86 : zD cX4_readPlace 86 (.ireturn) 1 87 := ⟨by decide +kernel, rfl⟩
theorem dX4_readPlace_87 : zD cX4_readPlace 87 (.aload_n 0) 1 88 := ⟨by decide +kernel, rfl⟩
theorem dX4_readPlace_88 : zD cX4_readPlace 88 (.iconst 5) 1 89 := ⟨by decide +kernel, rfl⟩
theorem dX4_readPlace_89 : zD cX4_readPlace 89 (.invokevirtual 48) 3 92 := ⟨by decide +kernel, rfl⟩
theorem dX4_readPlace_92 : zD cX4_readPlace 92 (.istore 4) 2 94 := ⟨by decide +kernel, rfl⟩
theorem dX4_readPlace_94 : zD cX4_readPlace 94 (.iload 4) 2 96 := ⟨by decide +kernel, rfl⟩
theorem dX4_readPlace_96 : zD cX4_readPlace 96 (.iconst (-1)) 1 97 := ⟨by decide +kernel, rfl⟩
theorem dX4_readPlace_97 : zD cX4_readPlace 97 (.if_icmp .ne 5) 3 100 := ⟨by decide +kernel, rfl⟩
theorem dX4_readPlace_100 : zD cX4_readPlace 100 (.iconst 0) 1 101 := ⟨by decide +kernel, rfl⟩
theorem dX4_readPlace_101 : zD cX4_readPlace 101 (.ireturn) 1 102 := ⟨by decide +kernel, rfl⟩
theorem dX4_readPlace_102 : zD cX4_readPlace 102 (.aload_n 1) 1 103 := ⟨by decide +kernel, rfl⟩
theorem dX4_readPlace_103 : zD cX4_readPlace 103 (.iload_n 2) 1 104 := ⟨by decide +kernel, rfl⟩
theorem dX4_readPlace_104 : zD cX4_readPlace 104 (.iload 4) 2 106 := ⟨by decide +kernel, rfl⟩
theorem dX4_readPlace_106 : zD cX4_readPlace 106 (.invokevirtual 81) 3 109 := ⟨by decide +kernel, rfl⟩
theorem dX4_readPlace_109 : zD cX4_readPlace 109 (.iconst 1) 1 110 := ⟨by decide +kernel, rfl⟩
theorem dX4_readPlace_110 : zD cX4_readPlace 110 (.ireturn) 1 111 := ⟨by decide +kernel, rfl⟩
def fX4_init (h : zH) (a0 : Nat) : Option (zH) :=
    if zkd h a0 = 5 then
    (zmk h 9 160).bind fun h1 =>
    (zpP h1 4 a0 0 (zn h)).bind fun h2 =>
    some h2
    else none
theorem kfX4_init {h : zH} {a0 : Nat} {r : zH} (hf : fX4_init h a0 = some r) : zkd h a0 = 5 := by
  unfold fX4_init at hf
  exact (zck hf).1
def fX2_init (h : zH) (a0 : Nat) : Option (zH) :=
    if zkd h a0 = 3 then
    (zmk2 h 8 8).bind fun h1 =>
    (zpP h1 2 a0 0 (zn h)).bind fun h2 =>
    (zmk2 h2 8 8).bind fun h3 =>
    (zpP h3 2 a0 1 (zn h2)).bind fun h4 =>
    (zmk2 h4 8 8).bind fun h5 =>
    (zpP h5 2 a0 2 (zn h4)).bind fun h6 =>
    (zmk2 h6 8 8).bind fun h7 =>
    (zpP h7 2 a0 3 (zn h6)).bind fun h8 =>
    some h8
    else none
theorem kfX2_init {h : zH} {a0 : Nat} {r : zH} (hf : fX2_init h a0 = some r) : zkd h a0 = 3 := by
  unfold fX2_init at hf
  exact (zck hf).1
def fX5_init (h : zH) (a0 : Nat) : Option (zH) :=
    if zkd h a0 = 6 then
    some h
    else none
theorem kfX5_init {h : zH} {a0 : Nat} {r : zH} (hf : fX5_init h a0 = some r) : zkd h a0 = 6 := by
  unfold fX5_init at hf
  exact (zck hf).1
def fX1_init (h : zH) (a0 : Nat) : Option (zH) :=
    if zkd h a0 = 2 then
    (zmk h 9 8).bind fun h1 =>
    (zpP h1 1 a0 0 (zn h)).bind fun h2 =>
    (zmk h2 9 8).bind fun h3 =>
    (zpP h3 1 a0 1 (zn h2)).bind fun h4 =>
    some h4
    else none
theorem kfX1_init {h : zH} {a0 : Nat} {r : zH} (hf : fX1_init h a0 = some r) : zkd h a0 = 2 := by
  unfold fX1_init at hf
  exact (zck hf).1
def fX3_init_L23 (k : zH → Int32 → Option (zH)) (u0 : Nat) : Nat → zH → Int32 → Option (zH)
  | 0, _, _ => none
  | n + 1, h, v1 => (zgP h 3 u0 0).bind fun w1 =>
    (zle h w1).bind fun w2 =>
    if (w2 : Int32) ≤ v1 then
    k h (v1)
    else
    (zgP h 3 u0 0).bind fun w4 =>
    (zmk h 2 0).bind fun h5 =>
    (fX1_init h5 ((zn h))).bind fun h6 =>
    (zbP h6 w4 (v1) ((zn h))).bind fun h7 =>
    fX3_init_L23 k u0 n h7 ((v1 + 1))
def fX3_init (h : zH) (a0 : Nat) : Option (zH) :=
    if zkd h a0 = 4 then
    (zmk h 12 12).bind fun h1 =>
    (zpP h1 3 a0 0 (zn h)).bind fun h2 =>
    (zmk h2 9 20).bind fun h3 =>
    (zpP h3 3 a0 1 (zn h2)).bind fun h4 =>
    fX3_init_L23 (fun h5 y6 =>
    some h5) (a0) 13 h4 (0)
    else none
theorem kfX3_init {h : zH} {a0 : Nat} {r : zH} (hf : fX3_init h a0 = some r) : zkd h a0 = 4 := by
  unfold fX3_init at hf
  exact (zck hf).1
def fX0_begin_L31 (k : zH → Int32 → Option (zH)) (u0 : Nat) (u1 : Int32) (u2 : Int32) : Nat → zH → Int32 → Option (zH)
  | 0, _, _ => none
  | n + 1, h, v3 => (zgP h 0 u0 7).bind fun w1 =>
    (zle h w1).bind fun w2 =>
    if (w2 : Int32) ≤ v3 then
    k h (v3)
    else
    (zgP h 0 u0 7).bind fun w4 =>
    (zbZ h w4 (v3) (0)).bind fun h5 =>
    fX0_begin_L31 k u0 u1 u2 n h5 ((v3 + 1))
def fX0_begin (h : zH) (a0 : Nat) (a1 : Int32) (a2 : Int32) : Option (zH) :=
    if zkd h a0 = 1 then
    (zpI h 0 a0 8 (if (1 : Int32) < (if (8 : Int32) < a1 then 8 else a1) then (if (8 : Int32) < a1 then 8 else a1) else 1)).bind fun h1 =>
    (zpI h1 0 a0 11 a2).bind fun h2 =>
    (zpI h2 0 a0 9 0).bind fun h3 =>
    (zpI h3 0 a0 10 0).bind fun h4 =>
    fX0_begin_L31 (fun h5 y6 =>
    some h5) (a0) (a1) (a2) zF h4 (0)
    else none
theorem kfX0_begin {h : zH} {a0 : Nat} {a1 : Int32} {a2 : Int32} {r : zH} (hf : fX0_begin h a0 a1 a2 = some r) : zkd h a0 = 1 := by
  unfold fX0_begin at hf
  exact (zck hf).1
def fX0_init (h : zH) (a0 : Nat) : Option (zH) :=
    if zkd h a0 = 1 then
    (zmk h 9 20).bind fun h1 =>
    (zpP h1 0 a0 0 (zn h)).bind fun h2 =>
    (zmk h2 9 20).bind fun h3 =>
    (zpP h3 0 a0 1 (zn h2)).bind fun h4 =>
    (zmk h4 9 20).bind fun h5 =>
    (zpP h5 0 a0 2 (zn h4)).bind fun h6 =>
    (zmk h6 9 20).bind fun h7 =>
    (zpP h7 0 a0 3 (zn h6)).bind fun h8 =>
    (zmk h8 9 20).bind fun h9 =>
    (zpP h9 0 a0 4 (zn h8)).bind fun h10 =>
    (zmk h10 9 6).bind fun h11 =>
    (zpP h11 0 a0 5 (zn h10)).bind fun h12 =>
    (zmk h12 9 6).bind fun h13 =>
    (zpP h13 0 a0 6 (zn h12)).bind fun h14 =>
    (zmk h14 11 64).bind fun h15 =>
    (zpP h15 0 a0 7 (zn h14)).bind fun h16 =>
    (fX0_begin h16 (a0) (1) (1000)).bind fun h17 =>
    some h17
    else none
theorem kfX0_init {h : zH} {a0 : Nat} {r : zH} (hf : fX0_init h a0 = some r) : zkd h a0 = 1 := by
  unfold fX0_init at hf
  exact (zck hf).1
def fX3_begin (h : zH) (a0 : Nat) (a1 : Nat) : Option (zH) :=
    if zkd h a0 = 4 then
    (zpI h 3 a0 2 0).bind fun h1 =>
    (zpI h1 3 a0 3 0).bind fun h2 =>
    (zpI h2 3 a0 4 0).bind fun h3 =>
    (zgI h3 0 a1 11).bind fun w4 =>
    (zpI h3 3 a0 5 w4).bind fun h5 =>
    (zgP h5 0 a1 2).bind fun w6 =>
    (zgP h5 3 a0 1).bind fun w7 =>
    (zcp h5 w6 (0) w7 (0) (20)).bind fun h8 =>
    some h8
    else none
theorem kfX3_begin {h : zH} {a0 : Nat} {a1 : Nat} {r : zH} (hf : fX3_begin h a0 a1 = some r) : zkd h a0 = 4 := by
  unfold fX3_begin at hf
  exact (zck hf).1
def fX2_clearSteps_L10 (k : zH → Int32 → Option (zH)) (u0 : Nat) (u1 : Int32) : Nat → zH → Int32 → Option (zH)
  | 0, _, _ => none
  | n + 1, h, v2 => if (8 : Int32) ≤ v2 then
    k h (v2)
    else
    (zgP h 2 u0 0).bind fun w2 =>
    (zaP h w2 (u1)).bind fun w3 =>
    (zbI h w3 (v2) (1000000)).bind fun h4 =>
    (zgP h4 2 u0 1).bind fun w5 =>
    (zaP h4 w5 (u1)).bind fun w6 =>
    (zbI h4 w6 (v2) ((-1))).bind fun h7 =>
    (zgP h7 2 u0 2).bind fun w8 =>
    (zaP h7 w8 (u1)).bind fun w9 =>
    if (u1 : Int32) = v2 then
    (zbI h7 w9 (v2) (0)).bind fun h11 =>
    (zgP h11 2 u0 3).bind fun w12 =>
    (zaP h11 w12 (u1)).bind fun w13 =>
    (zbI h11 w13 (v2) ((-1))).bind fun h14 =>
    fX2_clearSteps_L10 k u0 u1 n h14 ((v2 + 1))
    else
    (zbI h7 w9 (v2) (1000000)).bind fun h15 =>
    (zgP h15 2 u0 3).bind fun w16 =>
    (zaP h15 w16 (u1)).bind fun w17 =>
    (zbI h15 w17 (v2) ((-1))).bind fun h18 =>
    fX2_clearSteps_L10 k u0 u1 n h18 ((v2 + 1))
def fX2_clearSteps_L2 (k : zH → Int32 → Option (zH)) (u0 : Nat) : Nat → zH → Int32 → Option (zH)
  | 0, _, _ => none
  | n + 1, h, v1 => if (8 : Int32) ≤ v1 then
    k h (v1)
    else
    fX2_clearSteps_L10 (fun h2 y3 =>
    fX2_clearSteps_L2 k u0 n h2 ((v1 + 1))) (u0) (v1) zF h (0)
def fX2_clearSteps (h : zH) (a0 : Nat) : Option (zH) :=
    if zkd h a0 = 3 then
    fX2_clearSteps_L2 (fun h1 y2 =>
    some h1) (a0) zF h (0)
    else none
theorem kfX2_clearSteps {h : zH} {a0 : Nat} {r : zH} (hf : fX2_clearSteps h a0 = some r) : zkd h a0 = 3 := by
  unfold fX2_clearSteps at hf
  exact (zck hf).1
def fX2_shortenBy_L10 (k : zH → Int32 → Option (zH)) (u0 : Nat) (u1 : Int32) (u2 : Int32) : Nat → zH → Int32 → Option (zH)
  | 0, _, _ => none
  | n + 1, h, v3 => if (8 : Int32) ≤ v3 then
    k h (v3)
    else
    (zgP h 2 u0 2).bind fun w2 =>
    (zaP h w2 (u2)).bind fun w3 =>
    (zgP h 2 u0 2).bind fun w4 =>
    (zaP h w4 (u2)).bind fun w5 =>
    (zaI h w5 (v3)).bind fun w6 =>
    (zgP h 2 u0 2).bind fun w7 =>
    (zaP h w7 (u2)).bind fun w8 =>
    (zaI h w8 (u1)).bind fun w9 =>
    (zgP h 2 u0 2).bind fun w10 =>
    (zaP h w10 (u1)).bind fun w11 =>
    (zaI h w11 (v3)).bind fun w12 =>
    (zbI h w3 (v3) ((if (((w9 : Int32) + w12) : Int32) < w6 then ((w9 : Int32) + w12) else w6))).bind fun h13 =>
    fX2_shortenBy_L10 k u0 u1 u2 n h13 ((v3 + 1))
def fX2_shortenBy_L2 (k : zH → Int32 → Option (zH)) (u0 : Nat) (u1 : Int32) : Nat → zH → Int32 → Option (zH)
  | 0, _, _ => none
  | n + 1, h, v2 => if (8 : Int32) ≤ v2 then
    k h (v2)
    else
    fX2_shortenBy_L10 (fun h2 y3 =>
    fX2_shortenBy_L2 k u0 u1 n h2 ((v2 + 1))) (u0) (u1) (v2) zF h (0)
def fX2_shortenBy (h : zH) (a0 : Nat) (a1 : Int32) : Option (zH) :=
    if zkd h a0 = 3 then
    fX2_shortenBy_L2 (fun h1 y2 =>
    some h1) (a0) (a1) zF h (0)
    else none
theorem kfX2_shortenBy {h : zH} {a0 : Nat} {a1 : Int32} {r : zH} (hf : fX2_shortenBy h a0 a1 = some r) : zkd h a0 = 3 := by
  unfold fX2_shortenBy at hf
  exact (zck hf).1
def fX2_connects (h : zH) (a0 : Nat) (a1 : Int32) (a2 : Int32) : Option (Int32 × zH) :=
    if zkd h a0 = 3 then
    (zgP h 2 a0 2).bind fun w1 =>
    (zaP h w1 (a1)).bind fun w2 =>
    (zaI h w2 (a2)).bind fun w3 =>
    if (1000000 : Int32) ≤ w3 then
    some (0, h)
    else
    some (1, h)
    else none
theorem kfX2_connects {h : zH} {a0 : Nat} {a1 : Int32} {a2 : Int32} {r : Int32 × zH} (hf : fX2_connects h a0 a1 a2 = some r) : zkd h a0 = 3 := by
  unfold fX2_connects at hf
  exact (zck hf).1
def fX2_lowestFirstStep_L2 (k : zH → Int32 → Option (Int32 × zH)) (u0 : Nat) (u1 : Int32) (u2 : Int32) : Nat → zH → Int32 → Option (Int32 × zH)
  | 0, _, _ => none
  | n + 1, h, v3 => if (8 : Int32) ≤ v3 then
    k h (v3)
    else
    (zgP h 2 u0 0).bind fun w2 =>
    (zaP h w2 (u1)).bind fun w3 =>
    (zaI h w3 (v3)).bind fun w4 =>
    (zgP h 2 u0 2).bind fun w5 =>
    (zaP h w5 (v3)).bind fun w6 =>
    (zaI h w6 (u2)).bind fun w7 =>
    (zgP h 2 u0 2).bind fun w8 =>
    (zaP h w8 (u1)).bind fun w9 =>
    (zaI h w9 (u2)).bind fun w10 =>
    if (((w4 : Int32) + w7) : Int32) = w10 then
    (zgP h 2 u0 1).bind fun w12 =>
    (zaP h w12 (u1)).bind fun w13 =>
    (zaI h w13 (v3)).bind fun w14 =>
    some (w14, h)
    else
    fX2_lowestFirstStep_L2 k u0 u1 u2 n h ((v3 + 1))
def fX2_lowestFirstStep (h : zH) (a0 : Nat) (a1 : Int32) (a2 : Int32) : Option (Int32 × zH) :=
    if zkd h a0 = 3 then
    fX2_lowestFirstStep_L2 (fun h1 y2 =>
    some ((-1), h1)) (a0) (a1) (a2) zF h (0)
    else none
theorem kfX2_lowestFirstStep {h : zH} {a0 : Nat} {a1 : Int32} {a2 : Int32} {r : Int32 × zH} (hf : fX2_lowestFirstStep h a0 a1 a2 = some r) : zkd h a0 = 3 := by
  unfold fX2_lowestFirstStep at hf
  exact (zck hf).1
def fX2_chooseFirstSteps_L10 (k : zH → Int32 → Option (zH)) (u0 : Nat) (u1 : Int32) : Nat → zH → Int32 → Option (zH)
  | 0, _, _ => none
  | n + 1, h, v2 => if (8 : Int32) ≤ v2 then
    k h (v2)
    else
    if (u1 : Int32) = v2 then
    fX2_chooseFirstSteps_L10 k u0 u1 n h ((v2 + 1))
    else
    zb2 (fX2_connects h (u0) (u1) (v2)) fun w3 h4 =>
    if (w3 : Int32) = 0 then
    fX2_chooseFirstSteps_L10 k u0 u1 n h4 ((v2 + 1))
    else
    (zgP h4 2 u0 3).bind fun w6 =>
    (zaP h4 w6 (u1)).bind fun w7 =>
    zb2 (fX2_lowestFirstStep h4 (u0) (u1) (v2)) fun w8 h9 =>
    (zbI h9 w7 (v2) (w8)).bind fun h10 =>
    fX2_chooseFirstSteps_L10 k u0 u1 n h10 ((v2 + 1))
def fX2_chooseFirstSteps_L2 (k : zH → Int32 → Option (zH)) (u0 : Nat) : Nat → zH → Int32 → Option (zH)
  | 0, _, _ => none
  | n + 1, h, v1 => if (8 : Int32) ≤ v1 then
    k h (v1)
    else
    fX2_chooseFirstSteps_L10 (fun h2 y3 =>
    fX2_chooseFirstSteps_L2 k u0 n h2 ((v1 + 1))) (u0) (v1) zF h (0)
def fX2_chooseFirstSteps (h : zH) (a0 : Nat) : Option (zH) :=
    if zkd h a0 = 3 then
    fX2_chooseFirstSteps_L2 (fun h1 y2 =>
    some h1) (a0) zF h (0)
    else none
theorem kfX2_chooseFirstSteps {h : zH} {a0 : Nat} {r : zH} (hf : fX2_chooseFirstSteps h a0 = some r) : zkd h a0 = 3 := by
  unfold fX2_chooseFirstSteps at hf
  exact (zck hf).1
def fX2_find_L7 (k : zH → Int32 → Option (zH)) (u0 : Nat) (u1 : Nat) (u2 : Nat) (u3 : Int32) : Nat → zH → Int32 → Option (zH)
  | 0, _, _ => none
  | n + 1, h, v4 => (zgI h 0 u1 9).bind fun w1 =>
    if (w1 : Int32) ≤ v4 then
    k h (v4)
    else
    (zle h u2).bind fun w3 =>
    if (w3 : Int32) ≤ v4 then
    k h (v4)
    else
    if (v4 : Int32) = u3 then
    fX2_find_L7 k u0 u1 u2 u3 n h ((v4 + 1))
    else
    (zgP h 0 u1 0).bind fun w6 =>
    (zaI h w6 (v4)).bind fun w7 =>
    (zgP h 0 u1 1).bind fun w8 =>
    (zaI h w8 (v4)).bind fun w9 =>
    (zgP h 2 u0 0).bind fun w10 =>
    (zaP h w10 (w7)).bind fun w11 =>
    (zaI h u2 (v4)).bind fun w12 =>
    (zbI h w11 (w9) (((((w12 : Int32) * 8) : Int32) + 1))).bind fun h13 =>
    (zgP h13 2 u0 1).bind fun w14 =>
    (zaP h13 w14 (w7)).bind fun w15 =>
    (zbI h13 w15 (w9) (v4)).bind fun h16 =>
    (zgP h16 2 u0 2).bind fun w17 =>
    (zaP h16 w17 (w7)).bind fun w18 =>
    (zgP h16 2 u0 0).bind fun w19 =>
    (zaP h16 w19 (w7)).bind fun w20 =>
    (zaI h16 w20 (w9)).bind fun w21 =>
    (zbI h16 w18 (w9) (w21)).bind fun h22 =>
    fX2_find_L7 k u0 u1 u2 u3 n h22 ((v4 + 1))
def fX2_find_L107 (k : zH → Int32 → Option (zH)) (u0 : Nat) (u1 : Nat) (u2 : Nat) (u3 : Int32) : Nat → zH → Int32 → Option (zH)
  | 0, _, _ => none
  | n + 1, h, v4 => if (8 : Int32) ≤ v4 then
    k h (v4)
    else
    (fX2_shortenBy h (u0) (v4)).bind fun h2 =>
    fX2_find_L107 k u0 u1 u2 u3 n h2 ((v4 + 1))
def fX2_find (h : zH) (a0 : Nat) (a1 : Nat) (a2 : Nat) (a3 : Int32) : Option (zH) :=
    if zkd h a0 = 3 then
    (fX2_clearSteps h (a0)).bind fun h1 =>
    fX2_find_L7 (fun h2 y3 =>
    fX2_find_L107 (fun h4 y5 =>
    (fX2_chooseFirstSteps h4 (a0)).bind fun h6 =>
    some h6) (a0) (a1) (a2) (a3) zF h2 (0)) (a0) (a1) (a2) (a3) zF h1 (0)
    else none
theorem kfX2_find {h : zH} {a0 : Nat} {a1 : Nat} {a2 : Nat} {a3 : Int32} {r : zH} (hf : fX2_find h a0 a1 a2 a3 = some r) : zkd h a0 = 3 := by
  unfold fX2_find at hf
  exact (zck hf).1
def fX6_findPaths (h : zH) (a0 : Nat) : Option (zH) :=
    if zkd h a0 = 7 then
    (zgP h 6 a0 1).bind fun w1 =>
    (zgP h 6 a0 9).bind fun w2 =>
    (zgP h 6 a0 4).bind fun w3 =>
    (zgP h 3 w3 1).bind fun w4 =>
    (fX2_find h (w1) (w2) (w4) ((-1))).bind fun h5 =>
    some h5
    else none
theorem kfX6_findPaths {h : zH} {a0 : Nat} {r : zH} (hf : fX6_findPaths h a0 = some r) : zkd h a0 = 7 := by
  unfold fX6_findPaths at hf
  exact (zck hf).1
def fX6_startOver_L18 (k : zH → Int32 → Option (zH)) (u0 : Nat) : Nat → zH → Int32 → Option (zH)
  | 0, _, _ => none
  | n + 1, h, v1 => (zgP h 6 u0 8).bind fun w1 =>
    (zle h w1).bind fun w2 =>
    if (w2 : Int32) ≤ v1 then
    k h (v1)
    else
    (zgP h 6 u0 8).bind fun w4 =>
    (zbZ h w4 (v1) (0)).bind fun h5 =>
    fX6_startOver_L18 k u0 n h5 ((v1 + 1))
def fX6_startOver (h : zH) (a0 : Nat) : Option (zH) :=
    if zkd h a0 = 7 then
    (zgP h 6 a0 4).bind fun w1 =>
    (zgP h 6 a0 9).bind fun w2 =>
    (fX3_begin h (w1) (w2)).bind fun h3 =>
    (zpI h3 6 a0 11 0).bind fun h4 =>
    fX6_startOver_L18 (fun h5 y6 =>
    (fX6_findPaths h5 (a0)).bind fun h7 =>
    some h7) (a0) zF h4 (0)
    else none
theorem kfX6_startOver {h : zH} {a0 : Nat} {r : zH} (hf : fX6_startOver h a0 = some r) : zkd h a0 = 7 := by
  unfold fX6_startOver at hf
  exact (zck hf).1
def fX6_init_L118 (k : zH → Int32 → Option (zH)) (u0 : Nat) : Nat → zH → Int32 → Option (zH)
  | 0, _, _ => none
  | n + 1, h, v1 => (zgP h 6 u0 6).bind fun w1 =>
    (zle h w1).bind fun w2 =>
    if (w2 : Int32) ≤ v1 then
    k h (v1)
    else
    (zgP h 6 u0 6).bind fun w4 =>
    (zmk h 4 0).bind fun h5 =>
    (fX3_init h5 ((zn h))).bind fun h6 =>
    (zbP h6 w4 (v1) ((zn h))).bind fun h7 =>
    fX6_init_L118 k u0 n h7 ((v1 + 1))
def fX6_init_L148 (k : zH → Int32 → Option (zH)) (u0 : Nat) : Nat → zH → Int32 → Option (zH)
  | 0, _, _ => none
  | n + 1, h, v1 => (zgP h 6 u0 7).bind fun w1 =>
    (zle h w1).bind fun w2 =>
    if (w2 : Int32) ≤ v1 then
    k h (v1)
    else
    (zgP h 6 u0 7).bind fun w4 =>
    (zmk h 4 0).bind fun h5 =>
    (fX3_init h5 ((zn h))).bind fun h6 =>
    (zbP h6 w4 (v1) ((zn h))).bind fun h7 =>
    fX6_init_L148 k u0 n h7 ((v1 + 1))
def fX6_init (h : zH) (a0 : Nat) : Option (zH) :=
    if zkd h a0 = 7 then
    (zmk h 5 0).bind fun h1 =>
    (fX4_init h1 ((zn h))).bind fun h2 =>
    (zpP h2 6 a0 0 (zn h)).bind fun h3 =>
    (zmk h3 3 0).bind fun h4 =>
    (fX2_init h4 ((zn h3))).bind fun h5 =>
    (zpP h5 6 a0 1 (zn h3)).bind fun h6 =>
    (zmk h6 3 0).bind fun h7 =>
    (fX2_init h7 ((zn h6))).bind fun h8 =>
    (zpP h8 6 a0 2 (zn h6)).bind fun h9 =>
    (zmk h9 6 0).bind fun h10 =>
    (fX5_init h10 ((zn h9))).bind fun h11 =>
    (zpP h11 6 a0 3 (zn h9)).bind fun h12 =>
    (zmk h12 4 0).bind fun h13 =>
    (fX3_init h13 ((zn h12))).bind fun h14 =>
    (zpP h14 6 a0 4 (zn h12)).bind fun h15 =>
    (zmk h15 4 0).bind fun h16 =>
    (fX3_init h16 ((zn h15))).bind fun h17 =>
    (zpP h17 6 a0 5 (zn h15)).bind fun h18 =>
    (zmk h18 13 14).bind fun h19 =>
    (zpP h19 6 a0 6 (zn h18)).bind fun h20 =>
    (zmk h20 13 2).bind fun h21 =>
    (zpP h21 6 a0 7 (zn h20)).bind fun h22 =>
    (zmk h22 11 2).bind fun h23 =>
    (zpP h23 6 a0 8 (zn h22)).bind fun h24 =>
    (zmk h24 1 0).bind fun h25 =>
    (fX0_init h25 ((zn h24))).bind fun h26 =>
    (zpP h26 6 a0 9 (zn h24)).bind fun h27 =>
    (zmk h27 1 0).bind fun h28 =>
    (fX0_init h28 ((zn h27))).bind fun h29 =>
    (zpP h29 6 a0 10 (zn h27)).bind fun h30 =>
    fX6_init_L118 (fun h31 y32 =>
    fX6_init_L148 (fun h33 y34 =>
    (fX6_startOver h33 (a0)).bind fun h35 =>
    some h35) (a0) 3 h31 (0)) (a0) 15 h30 (0)
    else none
theorem kfX6_init {h : zH} {a0 : Nat} {r : zH} (hf : fX6_init h a0 = some r) : zkd h a0 = 7 := by
  unfold fX6_init at hf
  exact (zck hf).1
def fX4_isFull (h : zH) (a0 : Nat) : Option (Int32 × zH) :=
    if zkd h a0 = 5 then
    (zgI h 4 a0 1).bind fun w1 =>
    if (w1 : Int32) < 160 then
    some (0, h)
    else
    some (1, h)
    else none
theorem kfX4_isFull {h : zH} {a0 : Nat} {r : Int32 × zH} (hf : fX4_isFull h a0 = some r) : zkd h a0 = 5 := by
  unfold fX4_isFull at hf
  exact (zck hf).1
def fX4_addSign (h : zH) (a0 : Nat) (a1 : Int32) : Option (zH) :=
    if zkd h a0 = 5 then
    zb2 (fX4_isFull h (a0)) fun w1 h2 =>
    if (w1 : Int32) = 0 then
    (zgP h2 4 a0 0).bind fun w4 =>
    (zgI h2 4 a0 1).bind fun w5 =>
    (zbI h2 w4 (w5) (a1)).bind fun h6 =>
    (zgI h6 4 a0 1).bind fun w7 =>
    (zpI h6 4 a0 1 ((w7 : Int32) + 1)).bind fun h8 =>
    some h8
    else
    some h2
    else none
theorem kfX4_addSign {h : zH} {a0 : Nat} {a1 : Int32} {r : zH} (hf : fX4_addSign h a0 a1 = some r) : zkd h a0 = 5 := by
  unfold fX4_addSign at hf
  exact (zck hf).1
def fX6_append (h : zH) (a0 : Nat) (a1 : Int32) : Option ((Int32 ⊕ String) × zH) :=
    if zkd h a0 = 7 then
    if (a1 : Int32) < 0 then
    some (.inr "java/lang/IllegalArgumentException", zoff h)
    else
    if (a1 : Int32) ≤ 255 then
    (zgP h 6 a0 0).bind fun w3 =>
    zb2 (fX4_isFull h (w3)) fun w4 h5 =>
    if (w4 : Int32) = 0 then
    (zgP h5 6 a0 0).bind fun w7 =>
    (fX4_addSign h5 (w7) (a1)).bind fun h8 =>
    (zgP h8 6 a0 0).bind fun w9 =>
    (zgI h8 4 w9 1).bind fun w10 =>
    some (.inl w10, h8)
    else
    some (.inr "java/lang/IllegalStateException", zoff h5)
    else
    some (.inr "java/lang/IllegalArgumentException", zoff h)
    else none
theorem kfX6_append {h : zH} {a0 : Nat} {a1 : Int32} {r : (Int32 ⊕ String) × zH} (hf : fX6_append h a0 a1 = some r) : zkd h a0 = 7 := by
  unfold fX6_append at hf
  exact (zck hf).1
def fX6_clearText (h : zH) (a0 : Nat) : Option (Int32 × zH) :=
    if zkd h a0 = 7 then
    (zgP h 6 a0 0).bind fun w1 =>
    (zgI h 4 w1 1).bind fun w2 =>
    (zgP h 6 a0 0).bind fun w3 =>
    (zpI h 4 w3 1 0).bind fun h4 =>
    some (w2, h4)
    else none
theorem kfX6_clearText {h : zH} {a0 : Nat} {r : Int32 × zH} (hf : fX6_clearText h a0 = some r) : zkd h a0 = 7 := by
  unfold fX6_clearText at hf
  exact (zck hf).1
def fX4_shownSign (h : zH) (a0 : Nat) : Option (Int32 × zH) :=
    if zkd h a0 = 5 then
    (zgI h 4 a0 2).bind fun w1 =>
    if (w1 : Int32) < 0 then
    some ((-1), h)
    else
    (zgI h 4 a0 2).bind fun w3 =>
    (zgI h 4 a0 1).bind fun w4 =>
    if (w4 : Int32) ≤ w3 then
    some ((-1), h)
    else
    (zgI h 4 a0 2).bind fun w6 =>
    if (160 : Int32) ≤ w6 then
    some ((-1), h)
    else
    (zgP h 4 a0 0).bind fun w8 =>
    (zgI h 4 a0 2).bind fun w9 =>
    (zaI h w8 (w9)).bind fun w10 =>
    some (w10, h)
    else none
theorem kfX4_shownSign {h : zH} {a0 : Nat} {r : Int32 × zH} (hf : fX4_shownSign h a0 = some r) : zkd h a0 = 5 := by
  unfold fX4_shownSign at hf
  exact (zck hf).1
def fX4_readSign (h : zH) (a0 : Nat) (a1 : Int32) : Option (Int32 × zH) :=
    if zkd h a0 = 5 then
    zb2 (fX4_shownSign h (a0)) fun w1 h2 =>
    if (w1 : Int32) = a1 then
    (zgI h2 4 a0 2).bind fun w4 =>
    (zpI h2 4 a0 2 ((w4 : Int32) + 1)).bind fun h5 =>
    some (1, h5)
    else
    some (0, h2)
    else none
theorem kfX4_readSign {h : zH} {a0 : Nat} {a1 : Int32} {r : Int32 × zH} (hf : fX4_readSign h a0 a1 = some r) : zkd h a0 = 5 := by
  unfold fX4_readSign at hf
  exact (zck hf).1
def fX4_shownDigit (h : zH) (a0 : Nat) : Option (Int32 × zH) :=
    if zkd h a0 = 5 then
    zb2 (fX4_shownSign h (a0)) fun w1 h2 =>
    if (w1 : Int32) < 48 then
    some ((-1), h2)
    else
    if (57 : Int32) < w1 then
    some ((-1), h2)
    else
    some (((w1 : Int32) - 48), h2)
    else none
theorem kfX4_shownDigit {h : zH} {a0 : Nat} {r : Int32 × zH} (hf : fX4_shownDigit h a0 = some r) : zkd h a0 = 5 := by
  unfold fX4_shownDigit at hf
  exact (zck hf).1
def fX4_readDigit (h : zH) (a0 : Nat) (a1 : Int32) (a2 : Int32) : Option (Int32 × zH) :=
    if zkd h a0 = 5 then
    zb2 (fX4_shownDigit h (a0)) fun w1 h2 =>
    if (w1 : Int32) = (-1) then
    some ((-1), h2)
    else
    if (w1 : Int32) < a1 then
    some ((-1), h2)
    else
    if (w1 : Int32) ≤ a2 then
    (zgI h2 4 a0 2).bind fun w6 =>
    (zpI h2 4 a0 2 ((w6 : Int32) + 1)).bind fun h7 =>
    some (w1, h7)
    else
    some ((-1), h2)
    else none
theorem kfX4_readDigit {h : zH} {a0 : Nat} {a1 : Int32} {a2 : Int32} {r : Int32 × zH} (hf : fX4_readDigit h a0 a1 a2 = some r) : zkd h a0 = 5 := by
  unfold fX4_readDigit at hf
  exact (zck hf).1
def fX4_readNumber_L4 (k : zH → Int32 → Int32 → Option (Int32 × zH)) (u0 : Nat) (u1 : Int32) : Nat → zH → Int32 → Int32 → Option (Int32 × zH)
  | 0, _, _, _ => none
  | n + 1, h, v2, v3 => if (u1 : Int32) ≤ v3 then
    k h (v2) (v3)
    else
    if (v3 : Int32) = ((u1 : Int32) - 1) then
    if (v2 : Int32) = 0 then
    zb2 (fX4_readDigit h (u0) (1) (9)) fun w4 h5 =>
    if (w4 : Int32) = (-1) then
    some ((-1), h5)
    else
    fX4_readNumber_L4 k u0 u1 n h5 (((((v2 : Int32) * 10) : Int32) + w4)) ((v3 + 1))
    else
    zb2 (fX4_readDigit h (u0) (0) (9)) fun w7 h8 =>
    if (w7 : Int32) = (-1) then
    some ((-1), h8)
    else
    fX4_readNumber_L4 k u0 u1 n h8 (((((v2 : Int32) * 10) : Int32) + w7)) ((v3 + 1))
    else
    zb2 (fX4_readDigit h (u0) (0) (9)) fun w10 h11 =>
    if (w10 : Int32) = (-1) then
    some ((-1), h11)
    else
    fX4_readNumber_L4 k u0 u1 n h11 (((((v2 : Int32) * 10) : Int32) + w10)) ((v3 + 1))
def fX4_readNumber (h : zH) (a0 : Nat) (a1 : Int32) : Option (Int32 × zH) :=
    if zkd h a0 = 5 then
    fX4_readNumber_L4 (fun h1 y2 y3 =>
    some (y2, h1)) (a0) (a1) zF h (0) (0)
    else none
theorem kfX4_readNumber {h : zH} {a0 : Nat} {a1 : Int32} {r : Int32 × zH} (hf : fX4_readNumber h a0 a1 = some r) : zkd h a0 = 5 := by
  unfold fX4_readNumber at hf
  exact (zck hf).1
def fX4_readHead (h : zH) (a0 : Nat) (a1 : Nat) : Option (Int32 × zH) :=
    if zkd h a0 = 5 then
    zb2 (fX4_readSign h (a0) (75)) fun w1 h2 =>
    if (w1 : Int32) = 0 then
    some (0, h2)
    else
    zb2 (fX4_readDigit h2 (a0) (1) (8)) fun w4 h5 =>
    if (w4 : Int32) = (-1) then
    some (0, h5)
    else
    zb2 (fX4_readNumber h5 (a0) (5)) fun w7 h8 =>
    if (w7 : Int32) = (-1) then
    some (0, h8)
    else
    (fX0_begin h8 (a1) (w4) (w7)).bind fun h10 =>
    some (1, h10)
    else none
theorem kfX4_readHead {h : zH} {a0 : Nat} {a1 : Nat} {r : Int32 × zH} (hf : fX4_readHead h a0 a1 = some r) : zkd h a0 = 5 := by
  unfold fX4_readHead at hf
  exact (zck hf).1
def fX0_canAddConversion (h : zH) (a0 : Nat) : Option (Int32 × zH) :=
    if zkd h a0 = 1 then
    (zgI h 0 a0 9).bind fun w1 =>
    if (20 : Int32) ≤ w1 then
    some (0, h)
    else
    (zgI h 0 a0 9).bind fun w3 =>
    (zgI h 0 a0 8).bind fun w4 =>
    (zgI h 0 a0 8).bind fun w5 =>
    if (((w4 : Int32) * ((w5 : Int32) - 1)) : Int32) ≤ w3 then
    some (0, h)
    else
    some (1, h)
    else none
theorem kfX0_canAddConversion {h : zH} {a0 : Nat} {r : Int32 × zH} (hf : fX0_canAddConversion h a0 = some r) : zkd h a0 = 1 := by
  unfold fX0_canAddConversion at hf
  exact (zck hf).1
def fX0_hasFormat (h : zH) (a0 : Nat) (a1 : Int32) : Option (Int32 × zH) :=
    if zkd h a0 = 1 then
    if (a1 : Int32) < 0 then
    some (0, h)
    else
    (zgI h 0 a0 8).bind fun w2 =>
    if (w2 : Int32) ≤ a1 then
    some (0, h)
    else
    some (1, h)
    else none
theorem kfX0_hasFormat {h : zH} {a0 : Nat} {a1 : Int32} {r : Int32 × zH} (hf : fX0_hasFormat h a0 a1 = some r) : zkd h a0 = 1 := by
  unfold fX0_hasFormat at hf
  exact (zck hf).1
def fX0_canLink (h : zH) (a0 : Nat) (a1 : Int32) (a2 : Int32) : Option (Int32 × zH) :=
    if zkd h a0 = 1 then
    zb2 (fX0_hasFormat h (a0) (a1)) fun w1 h2 =>
    if (w1 : Int32) = 0 then
    some (0, h2)
    else
    zb2 (fX0_hasFormat h2 (a0) (a2)) fun w4 h5 =>
    if (w4 : Int32) = 0 then
    some (0, h5)
    else
    if (a1 : Int32) = a2 then
    some (0, h5)
    else
    (zgP h5 0 a0 7).bind fun w8 =>
    (zaZ h5 w8 (((((a1 : Int32) * 8) : Int32) + a2))).bind fun w9 =>
    if (w9 : Int32) = 0 then
    some (1, h5)
    else
    some (0, h5)
    else none
theorem kfX0_canLink {h : zH} {a0 : Nat} {a1 : Int32} {a2 : Int32} {r : Int32 × zH} (hf : fX0_canLink h a0 a1 a2 = some r) : zkd h a0 = 1 := by
  unfold fX0_canLink at hf
  exact (zck hf).1
def fX0_canAddConversionFrom_L2 (k : zH → Int32 → Option (Int32 × zH)) (u0 : Nat) (u1 : Int32) : Nat → zH → Int32 → Option (Int32 × zH)
  | 0, _, _ => none
  | n + 1, h, v2 => (zgI h 0 u0 8).bind fun w1 =>
    if (w1 : Int32) ≤ v2 then
    k h (v2)
    else
    zb2 (fX0_canLink h (u0) (u1) (v2)) fun w3 h4 =>
    if (w3 : Int32) = 0 then
    fX0_canAddConversionFrom_L2 k u0 u1 n h4 ((v2 + 1))
    else
    some (1, h4)
def fX0_canAddConversionFrom (h : zH) (a0 : Nat) (a1 : Int32) : Option (Int32 × zH) :=
    if zkd h a0 = 1 then
    fX0_canAddConversionFrom_L2 (fun h1 y2 =>
    some (0, h1)) (a0) (a1) zF h (0)
    else none
theorem kfX0_canAddConversionFrom {h : zH} {a0 : Nat} {a1 : Int32} {r : Int32 × zH} (hf : fX0_canAddConversionFrom h a0 a1 = some r) : zkd h a0 = 1 := by
  unfold fX0_canAddConversionFrom at hf
  exact (zck hf).1
def fX0_addConversion (h : zH) (a0 : Nat) (a1 : Int32) (a2 : Int32) (a3 : Int32) (a4 : Int32) (a5 : Int32) : Option (zH) :=
    if zkd h a0 = 1 then
    zb2 (fX0_canAddConversion h (a0)) fun w1 h2 =>
    if (w1 : Int32) = 0 then
    some h2
    else
    zb2 (fX0_canLink h2 (a0) (a1) (a2)) fun w4 h5 =>
    if (w4 : Int32) = 0 then
    some h5
    else
    (zgP h5 0 a0 0).bind fun w7 =>
    (zgI h5 0 a0 9).bind fun w8 =>
    (zbI h5 w7 (w8) (a1)).bind fun h9 =>
    (zgP h9 0 a0 1).bind fun w10 =>
    (zgI h9 0 a0 9).bind fun w11 =>
    (zbI h9 w10 (w11) (a2)).bind fun h12 =>
    (zgP h12 0 a0 2).bind fun w13 =>
    (zgI h12 0 a0 9).bind fun w14 =>
    (zbI h12 w13 (w14) (a3)).bind fun h15 =>
    (zgP h15 0 a0 3).bind fun w16 =>
    (zgI h15 0 a0 9).bind fun w17 =>
    (zbI h15 w16 (w17) (a4)).bind fun h18 =>
    (zgP h18 0 a0 4).bind fun w19 =>
    (zgI h18 0 a0 9).bind fun w20 =>
    (zbI h18 w19 (w20) (a5)).bind fun h21 =>
    (zgP h21 0 a0 7).bind fun w22 =>
    (zbZ h21 w22 (((((a1 : Int32) * 8) : Int32) + a2)) (1)).bind fun h23 =>
    (zgI h23 0 a0 9).bind fun w24 =>
    (zpI h23 0 a0 9 ((w24 : Int32) + 1)).bind fun h25 =>
    some h25
    else none
theorem kfX0_addConversion {h : zH} {a0 : Nat} {a1 : Int32} {a2 : Int32} {a3 : Int32} {a4 : Int32} {a5 : Int32} {r : zH} (hf : fX0_addConversion h a0 a1 a2 a3 a4 a5 = some r) : zkd h a0 = 1 := by
  unfold fX0_addConversion at hf
  exact (zck hf).1
def fX4_readConversion (h : zH) (a0 : Nat) (a1 : Nat) : Option (Int32 × zH) :=
    if zkd h a0 = 5 then
    zb2 (fX0_canAddConversion h (a1)) fun w1 h2 =>
    if (w1 : Int32) = 0 then
    some (0, h2)
    else
    zb2 (fX4_readSign h2 (a0) (99)) fun w4 h5 =>
    if (w4 : Int32) = 0 then
    some (0, h5)
    else
    zb2 (fX4_shownDigit h5 (a0)) fun w7 h8 =>
    zb2 (fX0_canAddConversionFrom h8 (a1) (w7)) fun w9 h10 =>
    if (w9 : Int32) = 0 then
    some (0, h10)
    else
    (zgI h10 4 a0 2).bind fun w12 =>
    (zpI h10 4 a0 2 ((w12 : Int32) + 1)).bind fun h13 =>
    zb2 (fX4_shownDigit h13 (a0)) fun w14 h15 =>
    zb2 (fX0_canLink h15 (a1) (w7) (w14)) fun w16 h17 =>
    if (w16 : Int32) = 0 then
    some (0, h17)
    else
    (zgI h17 4 a0 2).bind fun w19 =>
    (zpI h17 4 a0 2 ((w19 : Int32) + 1)).bind fun h20 =>
    zb2 (fX4_readNumber h20 (a0) (2)) fun w21 h22 =>
    if (w21 : Int32) = (-1) then
    some (0, h22)
    else
    zb2 (fX4_readNumber h22 (a0) (2)) fun w24 h25 =>
    if (w24 : Int32) = (-1) then
    some (0, h25)
    else
    zb2 (fX4_readDigit h25 (a0) (0) (9)) fun w27 h28 =>
    if (w27 : Int32) = (-1) then
    some (0, h28)
    else
    (fX0_addConversion h28 (a1) (w7) (w14) (w21) (w24) (w27)).bind fun h30 =>
    some (1, h30)
    else none
theorem kfX4_readConversion {h : zH} {a0 : Nat} {a1 : Nat} {r : Int32 × zH} (hf : fX4_readConversion h a0 a1 = some r) : zkd h a0 = 5 := by
  unfold fX4_readConversion at hf
  exact (zck hf).1
def fX0_canAddPlace (h : zH) (a0 : Nat) : Option (Int32 × zH) :=
    if zkd h a0 = 1 then
    (zgI h 0 a0 10).bind fun w1 =>
    if (6 : Int32) ≤ w1 then
    some (0, h)
    else
    some (1, h)
    else none
theorem kfX0_canAddPlace {h : zH} {a0 : Nat} {r : Int32 × zH} (hf : fX0_canAddPlace h a0 = some r) : zkd h a0 = 1 := by
  unfold fX0_canAddPlace at hf
  exact (zck hf).1
def fX0_addPlace (h : zH) (a0 : Nat) (a1 : Int32) (a2 : Int32) : Option (zH) :=
    if zkd h a0 = 1 then
    zb2 (fX0_canAddPlace h (a0)) fun w1 h2 =>
    if (w1 : Int32) = 0 then
    some h2
    else
    (zgP h2 0 a0 5).bind fun w4 =>
    (zgI h2 0 a0 10).bind fun w5 =>
    (zbI h2 w4 (w5) (a1)).bind fun h6 =>
    (zgP h6 0 a0 6).bind fun w7 =>
    (zgI h6 0 a0 10).bind fun w8 =>
    (zbI h6 w7 (w8) (a2)).bind fun h9 =>
    (zgI h9 0 a0 10).bind fun w10 =>
    (zpI h9 0 a0 10 ((w10 : Int32) + 1)).bind fun h11 =>
    some h11
    else none
theorem kfX0_addPlace {h : zH} {a0 : Nat} {a1 : Int32} {a2 : Int32} {r : zH} (hf : fX0_addPlace h a0 a1 a2 = some r) : zkd h a0 = 1 := by
  unfold fX0_addPlace at hf
  exact (zck hf).1
def fX4_readPlace_L25 (k : zH → Int32 → Int32 → Int32 → Option (Int32 × zH)) (u0 : Nat) (u1 : Nat) : Nat → zH → Int32 → Int32 → Int32 → Option (Int32 × zH)
  | 0, _, _, _, _ => none
  | n + 1, h, v2, v3, v4 => if (8 : Int32) ≤ v4 then
    k h (v2) (v3) (v4)
    else
    (zgI h 0 u1 8).bind fun w2 =>
    zb2 (fX4_readDigit h (u0) (v3) (((w2 : Int32) - 1))) fun w3 h4 =>
    if (w3 : Int32) = (-1) then
    k h4 (v2) (v3) (v4)
    else
    fX4_readPlace_L25 k u0 u1 n h4 (((v2 : Int32) ||| ((1 : Int32) <<< (w3 &&& 31)))) (((w3 : Int32) + 1)) ((v4 + 1))
def fX4_readPlace (h : zH) (a0 : Nat) (a1 : Nat) : Option (Int32 × zH) :=
    if zkd h a0 = 5 then
    zb2 (fX0_canAddPlace h (a1)) fun w1 h2 =>
    if (w1 : Int32) = 0 then
    some (0, h2)
    else
    zb2 (fX4_readSign h2 (a0) (112)) fun w4 h5 =>
    if (w4 : Int32) = 0 then
    some (0, h5)
    else
    fX4_readPlace_L25 (fun h7 y8 y9 y10 =>
    if (y8 : Int32) = 0 then
    some (0, h7)
    else
    zb2 (fX4_readSign h7 (a0) (58)) fun w12 h13 =>
    if (w12 : Int32) = 0 then
    some (0, h13)
    else
    zb2 (fX4_readNumber h13 (a0) (5)) fun w15 h16 =>
    if (w15 : Int32) = (-1) then
    some (0, h16)
    else
    (fX0_addPlace h16 (a1) (y8) (w15)).bind fun h18 =>
    some (1, h18)) (a0) (a1) zF h5 (0) (0) (0)
    else none
theorem kfX4_readPlace {h : zH} {a0 : Nat} {a1 : Nat} {r : Int32 × zH} (hf : fX4_readPlace h a0 a1 = some r) : zkd h a0 = 5 := by
  unfold fX4_readPlace at hf
  exact (zck hf).1
abbrev rm_X4_init : Room := { frames := 1, cells := 1, slots := 160, locals := 12 }
set_option maxRecDepth 100000 in
set_option maxHeartbeats 4000000 in
theorem tX4_init {l : Launch} {G : zG} (hst : l.stackTraces = false) {h : zH} {a0 : Nat} {r : zH} (hf : fX4_init h a0 = some r) : zMet l G yX4_init (.code yX4_init cX4_init 1 none) rm_X4_init 1 160 [.ref a0] h (zov r) := by
  unfold fX4_init at hf
  obtain ⟨-, hf⟩ := zck hf
  refine z_enter (by decide) (Nat.le_of_ble_eq_true rfl) hst (fun x hx B hE => ?_)
  subst hx
  have B : zB G x cX4_init 1 RX4 "<init>" rm_X4_init none := B
  show zV G x 1 (zQ G x (zov r) 1 160) h 0 0 0 [(0, .ref a0)] []
  refine z_aload_n B dX4_init_0 rfl 0 rfl ?_
  refine z_oinit B oi_RX4_3 kw_o1 kw_o2 dX4_init_1 (Nat.le_of_ble_eq_true rfl) (Nat.le_of_ble_eq_true rfl) ?_
  refine z_aload_n B dX4_init_4 rfl 0 rfl ?_
  refine z_sipush (v := 160) B dX4_init_5 (by decide) ?_
  obtain ⟨h1, eh1, hf⟩ := zbs hf
  refine z_newaIS (N := 160) B kw_ai eh1 (by decide) rfl (Nat.le_of_ble_eq_true rfl) dX4_init_8 (Nat.le_of_ble_eq_true rfl) (Nat.le_of_ble_eq_true rfl) ?_
  obtain ⟨h2, eh2, hf⟩ := zbs hf
  refine z_pP B fl_RX4_9 eh2 (Or.inr rfl) rfl rfl rfl dX4_init_10 ?_
  cases hf
  exact z_vret B dX4_init_13 (Nat.le_of_ble_eq_true rfl) (Nat.le_of_ble_eq_true rfl)
abbrev rm_X2_init : Room := { frames := 1, cells := 36, slots := 288, locals := 12 }
set_option maxRecDepth 100000 in
set_option maxHeartbeats 4000000 in
theorem tX2_init {l : Launch} {G : zG} (hst : l.stackTraces = false) {h : zH} {a0 : Nat} {r : zH} (hf : fX2_init h a0 = some r) : zMet l G yX2_init (.code yX2_init cX2_init 1 none) rm_X2_init 36 288 [.ref a0] h (zov r) := by
  unfold fX2_init at hf
  obtain ⟨-, hf⟩ := zck hf
  refine z_enter (by decide) (Nat.le_of_ble_eq_true rfl) hst (fun x hx B hE => ?_)
  subst hx
  have B : zB G x cX2_init 1 RX2 "<init>" rm_X2_init none := B
  show zV G x 1 (zQ G x (zov r) 36 288) h 0 0 0 [(0, .ref a0)] []
  refine z_aload_n B dX2_init_0 rfl 0 rfl ?_
  refine z_oinit B oi_RX2_3 kw_o1 kw_o2 dX2_init_1 (Nat.le_of_ble_eq_true rfl) (Nat.le_of_ble_eq_true rfl) ?_
  refine z_aload_n B dX2_init_4 rfl 0 rfl ?_
  refine z_bipush (v := 8) B dX2_init_5 (by decide) ?_
  refine z_bipush (v := 8) B dX2_init_7 (by decide) ?_
  obtain ⟨h1, eh1, hf⟩ := zbs hf
  refine z_multiS (N := 8) (K := 8) B km_RX2_9 kw_ai eh1 (by decide) (by decide) rfl rfl (Nat.le_of_ble_eq_true rfl) (Nat.le_of_ble_eq_true rfl) (Nat.le_of_ble_eq_true rfl) dX2_init_9 (Nat.le_of_ble_eq_true rfl) (Nat.le_of_ble_eq_true rfl) ?_
  obtain ⟨h2, eh2, hf⟩ := zbs hf
  refine z_pP B fl_RX2_11 eh2 (Or.inr rfl) rfl rfl rfl dX2_init_13 ?_
  refine z_aload_n B dX2_init_16 rfl 0 rfl ?_
  refine z_bipush (v := 8) B dX2_init_17 (by decide) ?_
  refine z_bipush (v := 8) B dX2_init_19 (by decide) ?_
  obtain ⟨h3, eh3, hf⟩ := zbs hf
  refine z_multiS (N := 8) (K := 8) B km_RX2_9 kw_ai eh3 (by decide) (by decide) rfl rfl (Nat.le_of_ble_eq_true rfl) (Nat.le_of_ble_eq_true rfl) (Nat.le_of_ble_eq_true rfl) dX2_init_21 (Nat.le_of_ble_eq_true rfl) (Nat.le_of_ble_eq_true rfl) ?_
  obtain ⟨h4, eh4, hf⟩ := zbs hf
  refine z_pP B fl_RX2_16 eh4 (Or.inr rfl) rfl rfl rfl dX2_init_25 ?_
  refine z_aload_n B dX2_init_28 rfl 0 rfl ?_
  refine z_bipush (v := 8) B dX2_init_29 (by decide) ?_
  refine z_bipush (v := 8) B dX2_init_31 (by decide) ?_
  obtain ⟨h5, eh5, hf⟩ := zbs hf
  refine z_multiS (N := 8) (K := 8) B km_RX2_9 kw_ai eh5 (by decide) (by decide) rfl rfl (Nat.le_of_ble_eq_true rfl) (Nat.le_of_ble_eq_true rfl) (Nat.le_of_ble_eq_true rfl) dX2_init_33 (Nat.le_of_ble_eq_true rfl) (Nat.le_of_ble_eq_true rfl) ?_
  obtain ⟨h6, eh6, hf⟩ := zbs hf
  refine z_pP B fl_RX2_19 eh6 (Or.inr rfl) rfl rfl rfl dX2_init_37 ?_
  refine z_aload_n B dX2_init_40 rfl 0 rfl ?_
  refine z_bipush (v := 8) B dX2_init_41 (by decide) ?_
  refine z_bipush (v := 8) B dX2_init_43 (by decide) ?_
  obtain ⟨h7, eh7, hf⟩ := zbs hf
  refine z_multiS (N := 8) (K := 8) B km_RX2_9 kw_ai eh7 (by decide) (by decide) rfl rfl (Nat.le_of_ble_eq_true rfl) (Nat.le_of_ble_eq_true rfl) (Nat.le_of_ble_eq_true rfl) dX2_init_45 (Nat.le_of_ble_eq_true rfl) (Nat.le_of_ble_eq_true rfl) ?_
  obtain ⟨h8, eh8, hf⟩ := zbs hf
  refine z_pP B fl_RX2_22 eh8 (Or.inr rfl) rfl rfl rfl dX2_init_49 ?_
  cases hf
  exact z_vret B dX2_init_52 (Nat.le_of_ble_eq_true rfl) (Nat.le_of_ble_eq_true rfl)
abbrev rm_X5_init : Room := { frames := 1, cells := 0, slots := 0, locals := 12 }
set_option maxRecDepth 100000 in
set_option maxHeartbeats 4000000 in
theorem tX5_init {l : Launch} {G : zG} (hst : l.stackTraces = false) {h : zH} {a0 : Nat} {r : zH} (hf : fX5_init h a0 = some r) : zMet l G yX5_init (.code yX5_init cX5_init 1 none) rm_X5_init 0 0 [.ref a0] h (zov r) := by
  unfold fX5_init at hf
  obtain ⟨-, hf⟩ := zck hf
  refine z_enter (by decide) (Nat.le_of_ble_eq_true rfl) hst (fun x hx B hE => ?_)
  subst hx
  have B : zB G x cX5_init 1 RX5 "<init>" rm_X5_init none := B
  show zV G x 1 (zQ G x (zov r) 0 0) h 0 0 0 [(0, .ref a0)] []
  refine z_aload_n B dX5_init_0 rfl 0 rfl ?_
  refine z_oinit B oi_RX5_1 kw_o1 kw_o2 dX5_init_1 (Nat.le_of_ble_eq_true rfl) (Nat.le_of_ble_eq_true rfl) ?_
  cases hf
  exact z_vret B dX5_init_4 (Nat.le_of_ble_eq_true rfl) (Nat.le_of_ble_eq_true rfl)
abbrev rm_X1_init : Room := { frames := 1, cells := 2, slots := 16, locals := 12 }
set_option maxRecDepth 100000 in
set_option maxHeartbeats 4000000 in
theorem tX1_init {l : Launch} {G : zG} (hst : l.stackTraces = false) {h : zH} {a0 : Nat} {r : zH} (hf : fX1_init h a0 = some r) : zMet l G yX1_init (.code yX1_init cX1_init 1 none) rm_X1_init 2 16 [.ref a0] h (zov r) := by
  unfold fX1_init at hf
  obtain ⟨-, hf⟩ := zck hf
  refine z_enter (by decide) (Nat.le_of_ble_eq_true rfl) hst (fun x hx B hE => ?_)
  subst hx
  have B : zB G x cX1_init 1 RX1 "<init>" rm_X1_init none := B
  show zV G x 1 (zQ G x (zov r) 2 16) h 0 0 0 [(0, .ref a0)] []
  refine z_aload_n B dX1_init_0 rfl 0 rfl ?_
  refine z_oinit B oi_RX1_3 kw_o1 kw_o2 dX1_init_1 (Nat.le_of_ble_eq_true rfl) (Nat.le_of_ble_eq_true rfl) ?_
  refine z_aload_n B dX1_init_4 rfl 0 rfl ?_
  refine z_bipush (v := 8) B dX1_init_5 (by decide) ?_
  obtain ⟨h1, eh1, hf⟩ := zbs hf
  refine z_newaIS (N := 8) B kw_ai eh1 (by decide) rfl (Nat.le_of_ble_eq_true rfl) dX1_init_7 (Nat.le_of_ble_eq_true rfl) (Nat.le_of_ble_eq_true rfl) ?_
  obtain ⟨h2, eh2, hf⟩ := zbs hf
  refine z_pP B fl_RX1_9 eh2 (Or.inr rfl) rfl rfl rfl dX1_init_9 ?_
  refine z_aload_n B dX1_init_12 rfl 0 rfl ?_
  refine z_bipush (v := 8) B dX1_init_13 (by decide) ?_
  obtain ⟨h3, eh3, hf⟩ := zbs hf
  refine z_newaIS (N := 8) B kw_ai eh3 (by decide) rfl (Nat.le_of_ble_eq_true rfl) dX1_init_15 (Nat.le_of_ble_eq_true rfl) (Nat.le_of_ble_eq_true rfl) ?_
  obtain ⟨h4, eh4, hf⟩ := zbs hf
  refine z_pP B fl_RX1_15 eh4 (Or.inr rfl) rfl rfl rfl dX1_init_17 ?_
  cases hf
  exact z_vret B dX1_init_20 (Nat.le_of_ble_eq_true rfl) (Nat.le_of_ble_eq_true rfl)
abbrev rm_X3_init : Room := { frames := 2, cells := 41, slots := 357, locals := 32 }
set_option maxRecDepth 100000 in
set_option maxHeartbeats 4000000 in
theorem fX3_init_L23_ok {G : zG} {x : zX} (B : zB G x cX3_init 2 RX3 "<init>" rm_X3_init none) (hst : (zl x).stackTraces = false) (hE : ∀ e ∈ (zc x).exceptionTable.toList, False) {r : zH} {k : zH → Int32 → Option (zH)} {u0 : Nat} (hk : ∀ h v1, k h v1 = some r → zV G x 2 (zQ G x (zov r) 41 357) h 41 357 51 [(0, .ref u0), (1, .int v1)] []) : ∀ (n : Nat) (h : zH) v1 (cs ss : Nat), cs + n * 3 ≤ 41 → ss + n * 25 ≤ 357 → fX3_init_L23 k u0 n h v1 = some r → zV G x 2 (zQ G x (zov r) 41 357) h cs ss 23 [(0, .ref u0), (1, .int v1)] [] := by
  intro n
  induction n with
  | zero =>
    intro h v1 cs ss hc1 hs1 hf
    have hf : (none : Option (zH)) = some r := hf
    cases hf
  | succ n ih =>
    intro h v1 cs ss hc1 hs1 hf
    rw [fX3_init_L23] at hf
    refine z_iload_n B dX3_init_23 rfl 1 rfl ?_
    refine z_aload_n B dX3_init_24 rfl 0 rfl ?_
    obtain ⟨w1, ew1, hf⟩ := zbs hf
    refine z_gP B fl_RX3_11 ew1 rfl dX3_init_25 ?_
    obtain ⟨w2, ew2, hf⟩ := zbs hf
    refine z_len B ew2 dX3_init_28 ?_
    rcases zite hf with ⟨c3, hf⟩ | ⟨c3, hf⟩
    · refine z_icmp_ge B 51 dX3_init_29 (by decide) (fun _ => ?_) (fun e => absurd c3 e)
      refine zV.wid (show cs ≤ 41 by omega) (show ss ≤ 357 by omega) ?_
      exact hk _ _ hf
    refine z_icmp_ge B 51 dX3_init_29 (by decide) (fun e => absurd e c3) (fun _ => ?_)
    refine z_aload_n B dX3_init_32 rfl 0 rfl ?_
    obtain ⟨w4, ew4, hf⟩ := zbs hf
    refine z_gP B fl_RX3_11 ew4 rfl dX3_init_33 ?_
    refine z_iload_n B dX3_init_36 rfl 1 rfl ?_
    obtain ⟨h5, eh5, hf⟩ := zbs hf
    refine z_newS B nw_RX3_9 eh5 dX3_init_37 (show cs + 1 ≤ 41 by omega) (show ss + 9 ≤ 357 by omega) ?_
    refine z_dup B dX3_init_40 rfl ?_
    obtain ⟨h6, eh6, hf⟩ := zbs hf
    refine z_callN B [] [.ref (zn h), .int v1, .ref w4] cw_X1_init mn_RX3_21 (tX1_init hst eh6) ⟨rfl, rfl, (Nat.le_of_ble_eq_true rfl), (Nat.le_of_ble_eq_true rfl), (show cs + 3 ≤ 41 by omega), (show ss + 25 ≤ 357 by omega)⟩ rfl rfl (Nat.le_of_ble_eq_true rfl) dX3_init_41 ?_
    obtain ⟨h7, eh7, hf⟩ := zbs hf
    refine z_bP B eh7 dX3_init_44 ?_
    refine z_iinc (v' := (v1 + 1)) (lv' := [(1, .int (v1 + 1)), (0, .ref u0)]) B dX3_init_45 1 rfl rfl (by decide) rfl ?_
    refine z_goto B 23 dX3_init_48 (by decide) ?_
    refine zV.sub [1, 0] rfl ?_
    exact ih _ _ _ _ (show cs + 3 + n * 3 ≤ 41 by omega) (show ss + 25 + n * 25 ≤ 357 by omega) hf
set_option maxRecDepth 100000 in
set_option maxHeartbeats 4000000 in
theorem tX3_init {l : Launch} {G : zG} (hst : l.stackTraces = false) {h : zH} {a0 : Nat} {r : zH} (hf : fX3_init h a0 = some r) : zMet l G yX3_init (.code yX3_init cX3_init 2 none) rm_X3_init 41 357 [.ref a0] h (zov r) := by
  unfold fX3_init at hf
  obtain ⟨-, hf⟩ := zck hf
  refine z_enter (by decide) (Nat.le_of_ble_eq_true rfl) hst (fun x hx B hE => ?_)
  subst hx
  have B : zB G x cX3_init 2 RX3 "<init>" rm_X3_init none := B
  show zV G x 2 (zQ G x (zov r) 41 357) h 0 0 0 [(0, .ref a0)] []
  refine z_aload_n B dX3_init_0 rfl 0 rfl ?_
  refine z_oinit B oi_RX3_3 kw_o1 kw_o2 dX3_init_1 (Nat.le_of_ble_eq_true rfl) (Nat.le_of_ble_eq_true rfl) ?_
  refine z_aload_n B dX3_init_4 rfl 0 rfl ?_
  refine z_bipush (v := 12) B dX3_init_5 (by decide) ?_
  obtain ⟨h1, eh1, hf⟩ := zbs hf
  refine z_newqS (N := 12) (k := 3) B (by decide) kq_RX3_9 (fun s hs => hs.2.2.1.1) (fun _ => rfl) eh1 (by decide) rfl (Nat.le_of_ble_eq_true rfl) dX3_init_7 (Nat.le_of_ble_eq_true rfl) (Nat.le_of_ble_eq_true rfl) ?_
  obtain ⟨h2, eh2, hf⟩ := zbs hf
  refine z_pP B fl_RX3_11 eh2 (Or.inr rfl) rfl rfl rfl dX3_init_10 ?_
  refine z_aload_n B dX3_init_13 rfl 0 rfl ?_
  refine z_bipush (v := 20) B dX3_init_14 (by decide) ?_
  obtain ⟨h3, eh3, hf⟩ := zbs hf
  refine z_newaIS (N := 20) B kw_ai eh3 (by decide) rfl (Nat.le_of_ble_eq_true rfl) dX3_init_16 (Nat.le_of_ble_eq_true rfl) (Nat.le_of_ble_eq_true rfl) ?_
  obtain ⟨h4, eh4, hf⟩ := zbs hf
  refine z_pP B fl_RX3_17 eh4 (Or.inr rfl) rfl rfl rfl dX3_init_18 ?_
  refine z_iconst (v := 0) B dX3_init_21 (by decide) ?_
  refine z_istore_n (lv' := [(1, .int 0), (0, .ref a0)]) B dX3_init_22 rfl (by decide) rfl ?_
  refine zV.sub [1, 0] rfl ?_
  refine fX3_init_L23_ok B hst hE (fun h5 y6 hf => ?_) _ _ _ _ _ (Nat.le_of_ble_eq_true rfl) (Nat.le_of_ble_eq_true rfl) hf
  cases hf
  exact z_vret B dX3_init_51 (Nat.le_of_ble_eq_true rfl) (Nat.le_of_ble_eq_true rfl)
abbrev rm_X0_begin : Room := { frames := 1, cells := 0, slots := 0, locals := 15 }
set_option maxRecDepth 100000 in
set_option maxHeartbeats 4000000 in
theorem fX0_begin_L31_ok {G : zG} {x : zX} (B : zB G x cX0_begin 4 RX0 "begin" rm_X0_begin none) (hst : (zl x).stackTraces = false) (hE : ∀ e ∈ (zc x).exceptionTable.toList, False) {r : zH} {k : zH → Int32 → Option (zH)} {u0 : Nat} {u1 : Int32} {u2 : Int32} (hk : ∀ h v3, k h v3 = some r → zV G x 4 (zQ G x (zov r) 0 0) h 0 0 53 [(0, .ref u0), (1, .int u1), (2, .int u2), (3, .int v3)] []) : ∀ n h v3, fX0_begin_L31 k u0 u1 u2 n h v3 = some r → zV G x 4 (zQ G x (zov r) 0 0) h 0 0 31 [(0, .ref u0), (1, .int u1), (2, .int u2), (3, .int v3)] [] := by
  intro n
  induction n with
  | zero =>
    intro h v3 hf
    have hf : (none : Option (zH)) = some r := hf
    cases hf
  | succ n ih =>
    intro h v3 hf
    rw [fX0_begin_L31] at hf
    refine z_iload_n B dX0_begin_31 rfl 3 rfl ?_
    refine z_aload_n B dX0_begin_32 rfl 0 rfl ?_
    obtain ⟨w1, ew1, hf⟩ := zbs hf
    refine z_gP B fl_RX0_33 ew1 rfl dX0_begin_33 ?_
    obtain ⟨w2, ew2, hf⟩ := zbs hf
    refine z_len B ew2 dX0_begin_36 ?_
    rcases zite hf with ⟨c3, hf⟩ | ⟨c3, hf⟩
    · refine z_icmp_ge B 53 dX0_begin_37 (by decide) (fun _ => ?_) (fun e => absurd c3 e)
      exact hk _ _ hf
    refine z_icmp_ge B 53 dX0_begin_37 (by decide) (fun e => absurd e c3) (fun _ => ?_)
    refine z_aload_n B dX0_begin_40 rfl 0 rfl ?_
    obtain ⟨w4, ew4, hf⟩ := zbs hf
    refine z_gP B fl_RX0_33 ew4 rfl dX0_begin_41 ?_
    refine z_iload_n B dX0_begin_44 rfl 3 rfl ?_
    refine z_iconst (v := 0) B dX0_begin_45 (by decide) ?_
    obtain ⟨h5, eh5, hf⟩ := zbs hf
    refine z_bZ B eh5 dX0_begin_46 ?_
    refine z_iinc (v' := (v3 + 1)) (lv' := [(3, .int (v3 + 1)), (0, .ref u0), (1, .int u1), (2, .int u2)]) B dX0_begin_47 3 rfl rfl (by decide) rfl ?_
    refine z_goto B 31 dX0_begin_50 (by decide) ?_
    refine zV.sub [1, 2, 3, 0] rfl ?_
    exact ih _ _ hf
set_option maxRecDepth 100000 in
set_option maxHeartbeats 4000000 in
theorem tX0_begin {l : Launch} {G : zG} (hst : l.stackTraces = false) {h : zH} {a0 : Nat} {a1 : Int32} {a2 : Int32} {r : zH} (hf : fX0_begin h a0 a1 a2 = some r) : zMet l G yX0_begin (.code yX0_begin cX0_begin 4 none) rm_X0_begin 0 0 [.ref a0, .int a1, .int a2] h (zov r) := by
  unfold fX0_begin at hf
  obtain ⟨-, hf⟩ := zck hf
  refine z_enter (by decide) (Nat.le_of_ble_eq_true rfl) hst (fun x hx B hE => ?_)
  subst hx
  have B : zB G x cX0_begin 4 RX0 "begin" rm_X0_begin none := B
  show zV G x 4 (zQ G x (zov r) 0 0) h 0 0 0 [(0, .ref a0), (1, .int a1), (2, .int a2)] []
  refine z_aload_n B dX0_begin_0 rfl 0 rfl ?_
  refine z_iconst (v := 1) B dX0_begin_1 (by decide) ?_
  refine z_iload_n B dX0_begin_2 rfl 1 rfl ?_
  refine z_bipush (v := 8) B dX0_begin_3 (by decide) ?_
  refine z_min B mm_RX0_41 kw_min1 kw_m kw_min2 dX0_begin_5 (Nat.le_of_ble_eq_true rfl) (Nat.le_of_ble_eq_true rfl) (Nat.le_of_ble_eq_true rfl) (Nat.le_of_ble_eq_true rfl) ?_
  refine z_max B mm_RX0_47 kw_max1 kw_m kw_max2 dX0_begin_8 (Nat.le_of_ble_eq_true rfl) (Nat.le_of_ble_eq_true rfl) (Nat.le_of_ble_eq_true rfl) (Nat.le_of_ble_eq_true rfl) ?_
  obtain ⟨h1, eh1, hf⟩ := zbs hf
  refine z_pI B fl_RX0_50 eh1 rfl dX0_begin_11 ?_
  refine z_aload_n B dX0_begin_14 rfl 0 rfl ?_
  refine z_iload_n B dX0_begin_15 rfl 2 rfl ?_
  obtain ⟨h2, eh2, hf⟩ := zbs hf
  refine z_pI B fl_RX0_54 eh2 rfl dX0_begin_16 ?_
  refine z_aload_n B dX0_begin_19 rfl 0 rfl ?_
  refine z_iconst (v := 0) B dX0_begin_20 (by decide) ?_
  obtain ⟨h3, eh3, hf⟩ := zbs hf
  refine z_pI B fl_RX0_57 eh3 rfl dX0_begin_21 ?_
  refine z_aload_n B dX0_begin_24 rfl 0 rfl ?_
  refine z_iconst (v := 0) B dX0_begin_25 (by decide) ?_
  obtain ⟨h4, eh4, hf⟩ := zbs hf
  refine z_pI B fl_RX0_60 eh4 rfl dX0_begin_26 ?_
  refine z_iconst (v := 0) B dX0_begin_29 (by decide) ?_
  refine z_istore_n (lv' := [(3, .int 0), (0, .ref a0), (1, .int a1), (2, .int a2)]) B dX0_begin_30 rfl (by decide) rfl ?_
  refine zV.sub [1, 2, 3, 0] rfl ?_
  refine fX0_begin_L31_ok B hst hE (fun h5 y6 hf => ?_) _ _ _ hf
  cases hf
  exact z_vret B dX0_begin_53 (Nat.le_of_ble_eq_true rfl) (Nat.le_of_ble_eq_true rfl)
abbrev rm_X0_init : Room := { frames := 2, cells := 8, slots := 176, locals := 38 }
set_option maxRecDepth 100000 in
set_option maxHeartbeats 4000000 in
theorem tX0_init {l : Launch} {G : zG} (hst : l.stackTraces = false) {h : zH} {a0 : Nat} {r : zH} (hf : fX0_init h a0 = some r) : zMet l G yX0_init (.code yX0_init cX0_init 1 none) rm_X0_init 8 176 [.ref a0] h (zov r) := by
  unfold fX0_init at hf
  obtain ⟨-, hf⟩ := zck hf
  refine z_enter (by decide) (Nat.le_of_ble_eq_true rfl) hst (fun x hx B hE => ?_)
  subst hx
  have B : zB G x cX0_init 1 RX0 "<init>" rm_X0_init none := B
  show zV G x 1 (zQ G x (zov r) 8 176) h 0 0 0 [(0, .ref a0)] []
  refine z_aload_n B dX0_init_0 rfl 0 rfl ?_
  refine z_oinit B oi_RX0_3 kw_o1 kw_o2 dX0_init_1 (Nat.le_of_ble_eq_true rfl) (Nat.le_of_ble_eq_true rfl) ?_
  refine z_aload_n B dX0_init_4 rfl 0 rfl ?_
  refine z_bipush (v := 20) B dX0_init_5 (by decide) ?_
  obtain ⟨h1, eh1, hf⟩ := zbs hf
  refine z_newaIS (N := 20) B kw_ai eh1 (by decide) rfl (Nat.le_of_ble_eq_true rfl) dX0_init_7 (Nat.le_of_ble_eq_true rfl) (Nat.le_of_ble_eq_true rfl) ?_
  obtain ⟨h2, eh2, hf⟩ := zbs hf
  refine z_pP B fl_RX0_9 eh2 (Or.inr rfl) rfl rfl rfl dX0_init_9 ?_
  refine z_aload_n B dX0_init_12 rfl 0 rfl ?_
  refine z_bipush (v := 20) B dX0_init_13 (by decide) ?_
  obtain ⟨h3, eh3, hf⟩ := zbs hf
  refine z_newaIS (N := 20) B kw_ai eh3 (by decide) rfl (Nat.le_of_ble_eq_true rfl) dX0_init_15 (Nat.le_of_ble_eq_true rfl) (Nat.le_of_ble_eq_true rfl) ?_
  obtain ⟨h4, eh4, hf⟩ := zbs hf
  refine z_pP B fl_RX0_15 eh4 (Or.inr rfl) rfl rfl rfl dX0_init_17 ?_
  refine z_aload_n B dX0_init_20 rfl 0 rfl ?_
  refine z_bipush (v := 20) B dX0_init_21 (by decide) ?_
  obtain ⟨h5, eh5, hf⟩ := zbs hf
  refine z_newaIS (N := 20) B kw_ai eh5 (by decide) rfl (Nat.le_of_ble_eq_true rfl) dX0_init_23 (Nat.le_of_ble_eq_true rfl) (Nat.le_of_ble_eq_true rfl) ?_
  obtain ⟨h6, eh6, hf⟩ := zbs hf
  refine z_pP B fl_RX0_18 eh6 (Or.inr rfl) rfl rfl rfl dX0_init_25 ?_
  refine z_aload_n B dX0_init_28 rfl 0 rfl ?_
  refine z_bipush (v := 20) B dX0_init_29 (by decide) ?_
  obtain ⟨h7, eh7, hf⟩ := zbs hf
  refine z_newaIS (N := 20) B kw_ai eh7 (by decide) rfl (Nat.le_of_ble_eq_true rfl) dX0_init_31 (Nat.le_of_ble_eq_true rfl) (Nat.le_of_ble_eq_true rfl) ?_
  obtain ⟨h8, eh8, hf⟩ := zbs hf
  refine z_pP B fl_RX0_21 eh8 (Or.inr rfl) rfl rfl rfl dX0_init_33 ?_
  refine z_aload_n B dX0_init_36 rfl 0 rfl ?_
  refine z_bipush (v := 20) B dX0_init_37 (by decide) ?_
  obtain ⟨h9, eh9, hf⟩ := zbs hf
  refine z_newaIS (N := 20) B kw_ai eh9 (by decide) rfl (Nat.le_of_ble_eq_true rfl) dX0_init_39 (Nat.le_of_ble_eq_true rfl) (Nat.le_of_ble_eq_true rfl) ?_
  obtain ⟨h10, eh10, hf⟩ := zbs hf
  refine z_pP B fl_RX0_24 eh10 (Or.inr rfl) rfl rfl rfl dX0_init_41 ?_
  refine z_aload_n B dX0_init_44 rfl 0 rfl ?_
  refine z_bipush (v := 6) B dX0_init_45 (by decide) ?_
  obtain ⟨h11, eh11, hf⟩ := zbs hf
  refine z_newaIS (N := 6) B kw_ai eh11 (by decide) rfl (Nat.le_of_ble_eq_true rfl) dX0_init_47 (Nat.le_of_ble_eq_true rfl) (Nat.le_of_ble_eq_true rfl) ?_
  obtain ⟨h12, eh12, hf⟩ := zbs hf
  refine z_pP B fl_RX0_27 eh12 (Or.inr rfl) rfl rfl rfl dX0_init_49 ?_
  refine z_aload_n B dX0_init_52 rfl 0 rfl ?_
  refine z_bipush (v := 6) B dX0_init_53 (by decide) ?_
  obtain ⟨h13, eh13, hf⟩ := zbs hf
  refine z_newaIS (N := 6) B kw_ai eh13 (by decide) rfl (Nat.le_of_ble_eq_true rfl) dX0_init_55 (Nat.le_of_ble_eq_true rfl) (Nat.le_of_ble_eq_true rfl) ?_
  obtain ⟨h14, eh14, hf⟩ := zbs hf
  refine z_pP B fl_RX0_30 eh14 (Or.inr rfl) rfl rfl rfl dX0_init_57 ?_
  refine z_aload_n B dX0_init_60 rfl 0 rfl ?_
  refine z_bipush (v := 64) B dX0_init_61 (by decide) ?_
  obtain ⟨h15, eh15, hf⟩ := zbs hf
  refine z_newaZS (N := 64) B kw_az eh15 (by decide) rfl (Nat.le_of_ble_eq_true rfl) dX0_init_63 (Nat.le_of_ble_eq_true rfl) (Nat.le_of_ble_eq_true rfl) ?_
  obtain ⟨h16, eh16, hf⟩ := zbs hf
  refine z_pP B fl_RX0_33 eh16 (Or.inr rfl) rfl rfl rfl dX0_init_65 ?_
  refine z_aload_n B dX0_init_68 rfl 0 rfl ?_
  refine z_iconst (v := 1) B dX0_init_69 (by decide) ?_
  refine z_sipush (v := 1000) B dX0_init_70 (by decide) ?_
  obtain ⟨h17, eh17, hf⟩ := zbs hf
  refine z_callVv B [.int 1, .int 1000] [] cw_X0_begin mv_RX0_37 (tX0_begin hst eh17) rfl (by decide) (kfX0_begin eh17) ⟨rfl, rfl, (Nat.le_of_ble_eq_true rfl), (Nat.le_of_ble_eq_true rfl), (Nat.le_of_ble_eq_true rfl), (Nat.le_of_ble_eq_true rfl)⟩ rfl rfl (Nat.le_of_ble_eq_true rfl) dX0_init_73 ?_
  cases hf
  exact z_vret B dX0_init_76 (Nat.le_of_ble_eq_true rfl) (Nat.le_of_ble_eq_true rfl)
abbrev rm_X3_begin : Room := { frames := 1, cells := 0, slots := 0, locals := 18 }
set_option maxRecDepth 100000 in
set_option maxHeartbeats 4000000 in
theorem tX3_begin {l : Launch} {G : zG} (hst : l.stackTraces = false) {h : zH} {a0 : Nat} {a1 : Nat} {r : zH} (hf : fX3_begin h a0 a1 = some r) : zMet l G yX3_begin (.code yX3_begin cX3_begin 2 none) rm_X3_begin 0 0 [.ref a0, .ref a1] h (zov r) := by
  unfold fX3_begin at hf
  obtain ⟨-, hf⟩ := zck hf
  refine z_enter (by decide) (Nat.le_of_ble_eq_true rfl) hst (fun x hx B hE => ?_)
  subst hx
  have B : zB G x cX3_begin 2 RX3 "begin" rm_X3_begin none := B
  show zV G x 2 (zQ G x (zov r) 0 0) h 0 0 0 [(0, .ref a0), (1, .ref a1)] []
  refine z_aload_n B dX3_begin_0 rfl 0 rfl ?_
  refine z_iconst (v := 0) B dX3_begin_1 (by decide) ?_
  obtain ⟨h1, eh1, hf⟩ := zbs hf
  refine z_pI B fl_RX3_22 eh1 rfl dX3_begin_2 ?_
  refine z_aload_n B dX3_begin_5 rfl 0 rfl ?_
  refine z_iconst (v := 0) B dX3_begin_6 (by decide) ?_
  obtain ⟨h2, eh2, hf⟩ := zbs hf
  refine z_pI B fl_RX3_26 eh2 rfl dX3_begin_7 ?_
  refine z_aload_n B dX3_begin_10 rfl 0 rfl ?_
  refine z_iconst (v := 0) B dX3_begin_11 (by decide) ?_
  obtain ⟨h3, eh3, hf⟩ := zbs hf
  refine z_pI B fl_RX3_29 eh3 rfl dX3_begin_12 ?_
  refine z_aload_n B dX3_begin_15 rfl 0 rfl ?_
  refine z_aload_n B dX3_begin_16 rfl 1 rfl ?_
  obtain ⟨w4, ew4, hf⟩ := zbs hf
  refine z_gI B fl_RX3_32 ew4 rfl dX3_begin_17 ?_
  obtain ⟨h5, eh5, hf⟩ := zbs hf
  refine z_pI B fl_RX3_37 eh5 rfl dX3_begin_20 ?_
  refine z_aload_n B dX3_begin_23 rfl 1 rfl ?_
  obtain ⟨w6, ew6, hf⟩ := zbs hf
  refine z_gPR B fr_RX3_38 ew6 rfl dX3_begin_24 ?_
  refine z_iconst (v := 0) B dX3_begin_27 (by decide) ?_
  refine z_aload_n B dX3_begin_28 rfl 0 rfl ?_
  obtain ⟨w7, ew7, hf⟩ := zbs hf
  refine z_gP B fl_RX3_17 ew7 rfl dX3_begin_29 ?_
  refine z_iconst (v := 0) B dX3_begin_32 (by decide) ?_
  refine z_bipush (v := 20) B dX3_begin_33 (by decide) ?_
  obtain ⟨h8, eh8, hf⟩ := zbs hf
  refine z_cp B eh8 ac_RX3_41 kw_c1 kw_c2 kw_c3 dX3_begin_35 (Nat.le_of_ble_eq_true rfl) (Nat.le_of_ble_eq_true rfl) ?_
  cases hf
  exact z_vret B dX3_begin_38 (Nat.le_of_ble_eq_true rfl) (Nat.le_of_ble_eq_true rfl)
abbrev rm_X2_clearSteps : Room := { frames := 0, cells := 0, slots := 0, locals := 0 }
set_option maxRecDepth 100000 in
set_option maxHeartbeats 4000000 in
theorem fX2_clearSteps_L10_ok {G : zG} {x : zX} (B : zB G x cX2_clearSteps 3 RX2 "clearSteps" rm_X2_clearSteps none) (hst : (zl x).stackTraces = false) (hE : ∀ e ∈ (zc x).exceptionTable.toList, False) {r : zH} {k : zH → Int32 → Option (zH)} {u0 : Nat} {u1 : Int32} (hk : ∀ h v2, k h v2 = some r → zV G x 3 (zQ G x (zov r) 0 0) h 0 0 69 [(0, .ref u0), (1, .int u1), (2, .int v2)] []) : ∀ n h v2, fX2_clearSteps_L10 k u0 u1 n h v2 = some r → zV G x 3 (zQ G x (zov r) 0 0) h 0 0 10 [(0, .ref u0), (1, .int u1), (2, .int v2)] [] := by
  intro n
  induction n with
  | zero =>
    intro h v2 hf
    have hf : (none : Option (zH)) = some r := hf
    cases hf
  | succ n ih =>
    intro h v2 hf
    rw [fX2_clearSteps_L10] at hf
    refine z_iload_n B dX2_clearSteps_10 rfl 2 rfl ?_
    refine z_bipush (v := 8) B dX2_clearSteps_11 (by decide) ?_
    rcases zite hf with ⟨c1, hf⟩ | ⟨c1, hf⟩
    · refine z_icmp_ge B 69 dX2_clearSteps_13 (by decide) (fun _ => ?_) (fun e => absurd c1 e)
      exact hk _ _ hf
    refine z_icmp_ge B 69 dX2_clearSteps_13 (by decide) (fun e => absurd e c1) (fun _ => ?_)
    refine z_aload_n B dX2_clearSteps_16 rfl 0 rfl ?_
    obtain ⟨w2, ew2, hf⟩ := zbs hf
    refine z_gP B fl_RX2_11 ew2 rfl dX2_clearSteps_17 ?_
    refine z_iload_n B dX2_clearSteps_20 rfl 1 rfl ?_
    obtain ⟨w3, ew3, hf⟩ := zbs hf
    refine z_aP B ew3 dX2_clearSteps_21 ?_
    refine z_iload_n B dX2_clearSteps_22 rfl 2 rfl ?_
    refine z_ldc B dX2_clearSteps_23 kc_RX2_48 ?_
    obtain ⟨h4, eh4, hf⟩ := zbs hf
    refine z_bI B eh4 dX2_clearSteps_25 ?_
    refine z_aload_n B dX2_clearSteps_26 rfl 0 rfl ?_
    obtain ⟨w5, ew5, hf⟩ := zbs hf
    refine z_gP B fl_RX2_16 ew5 rfl dX2_clearSteps_27 ?_
    refine z_iload_n B dX2_clearSteps_30 rfl 1 rfl ?_
    obtain ⟨w6, ew6, hf⟩ := zbs hf
    refine z_aP B ew6 dX2_clearSteps_31 ?_
    refine z_iload_n B dX2_clearSteps_32 rfl 2 rfl ?_
    refine z_iconst (v := (-1)) B dX2_clearSteps_33 (by decide) ?_
    obtain ⟨h7, eh7, hf⟩ := zbs hf
    refine z_bI B eh7 dX2_clearSteps_34 ?_
    refine z_aload_n B dX2_clearSteps_35 rfl 0 rfl ?_
    obtain ⟨w8, ew8, hf⟩ := zbs hf
    refine z_gP B fl_RX2_19 ew8 rfl dX2_clearSteps_36 ?_
    refine z_iload_n B dX2_clearSteps_39 rfl 1 rfl ?_
    obtain ⟨w9, ew9, hf⟩ := zbs hf
    refine z_aP B ew9 dX2_clearSteps_40 ?_
    refine z_iload_n B dX2_clearSteps_41 rfl 2 rfl ?_
    refine z_iload_n B dX2_clearSteps_42 rfl 1 rfl ?_
    refine z_iload_n B dX2_clearSteps_43 rfl 2 rfl ?_
    rcases zite hf with ⟨c10, hf⟩ | ⟨c10, hf⟩
    · refine z_icmp_ne B 51 dX2_clearSteps_44 (by decide) (fun e => absurd c10 e) (fun _ => ?_)
      refine z_iconst (v := 0) B dX2_clearSteps_47 (by decide) ?_
      refine z_goto B 53 dX2_clearSteps_48 (by decide) ?_
      obtain ⟨h11, eh11, hf⟩ := zbs hf
      refine z_bI B eh11 dX2_clearSteps_53 ?_
      refine z_aload_n B dX2_clearSteps_54 rfl 0 rfl ?_
      obtain ⟨w12, ew12, hf⟩ := zbs hf
      refine z_gP B fl_RX2_22 ew12 rfl dX2_clearSteps_55 ?_
      refine z_iload_n B dX2_clearSteps_58 rfl 1 rfl ?_
      obtain ⟨w13, ew13, hf⟩ := zbs hf
      refine z_aP B ew13 dX2_clearSteps_59 ?_
      refine z_iload_n B dX2_clearSteps_60 rfl 2 rfl ?_
      refine z_iconst (v := (-1)) B dX2_clearSteps_61 (by decide) ?_
      obtain ⟨h14, eh14, hf⟩ := zbs hf
      refine z_bI B eh14 dX2_clearSteps_62 ?_
      refine z_iinc (v' := (v2 + 1)) (lv' := [(2, .int (v2 + 1)), (0, .ref u0), (1, .int u1)]) B dX2_clearSteps_63 2 rfl rfl (by decide) rfl ?_
      refine z_goto B 10 dX2_clearSteps_66 (by decide) ?_
      refine zV.sub [1, 2, 0] rfl ?_
      exact ih _ _ hf
    refine z_icmp_ne B 51 dX2_clearSteps_44 (by decide) (fun _ => ?_) (fun e => absurd e c10)
    refine z_ldc B dX2_clearSteps_51 kc_RX2_48 ?_
    obtain ⟨h15, eh15, hf⟩ := zbs hf
    refine z_bI B eh15 dX2_clearSteps_53 ?_
    refine z_aload_n B dX2_clearSteps_54 rfl 0 rfl ?_
    obtain ⟨w16, ew16, hf⟩ := zbs hf
    refine z_gP B fl_RX2_22 ew16 rfl dX2_clearSteps_55 ?_
    refine z_iload_n B dX2_clearSteps_58 rfl 1 rfl ?_
    obtain ⟨w17, ew17, hf⟩ := zbs hf
    refine z_aP B ew17 dX2_clearSteps_59 ?_
    refine z_iload_n B dX2_clearSteps_60 rfl 2 rfl ?_
    refine z_iconst (v := (-1)) B dX2_clearSteps_61 (by decide) ?_
    obtain ⟨h18, eh18, hf⟩ := zbs hf
    refine z_bI B eh18 dX2_clearSteps_62 ?_
    refine z_iinc (v' := (v2 + 1)) (lv' := [(2, .int (v2 + 1)), (0, .ref u0), (1, .int u1)]) B dX2_clearSteps_63 2 rfl rfl (by decide) rfl ?_
    refine z_goto B 10 dX2_clearSteps_66 (by decide) ?_
    refine zV.sub [1, 2, 0] rfl ?_
    exact ih _ _ hf
set_option maxRecDepth 100000 in
set_option maxHeartbeats 4000000 in
theorem fX2_clearSteps_L2_ok {G : zG} {x : zX} (B : zB G x cX2_clearSteps 3 RX2 "clearSteps" rm_X2_clearSteps none) (hst : (zl x).stackTraces = false) (hE : ∀ e ∈ (zc x).exceptionTable.toList, False) {r : zH} {k : zH → Int32 → Option (zH)} {u0 : Nat} (hk : ∀ h v1, k h v1 = some r → zV G x 3 (zQ G x (zov r) 0 0) h 0 0 75 [(0, .ref u0), (1, .int v1)] []) : ∀ n h v1, fX2_clearSteps_L2 k u0 n h v1 = some r → zV G x 3 (zQ G x (zov r) 0 0) h 0 0 2 [(0, .ref u0), (1, .int v1)] [] := by
  intro n
  induction n with
  | zero =>
    intro h v1 hf
    have hf : (none : Option (zH)) = some r := hf
    cases hf
  | succ n ih =>
    intro h v1 hf
    rw [fX2_clearSteps_L2] at hf
    refine z_iload_n B dX2_clearSteps_2 rfl 1 rfl ?_
    refine z_bipush (v := 8) B dX2_clearSteps_3 (by decide) ?_
    rcases zite hf with ⟨c1, hf⟩ | ⟨c1, hf⟩
    · refine z_icmp_ge B 75 dX2_clearSteps_5 (by decide) (fun _ => ?_) (fun e => absurd c1 e)
      exact hk _ _ hf
    refine z_icmp_ge B 75 dX2_clearSteps_5 (by decide) (fun e => absurd e c1) (fun _ => ?_)
    refine z_iconst (v := 0) B dX2_clearSteps_8 (by decide) ?_
    refine z_istore_n (lv' := [(2, .int 0), (0, .ref u0), (1, .int v1)]) B dX2_clearSteps_9 rfl (by decide) rfl ?_
    refine zV.sub [1, 2, 0] rfl ?_
    refine fX2_clearSteps_L10_ok B hst hE (fun h2 y3 hf => ?_) _ _ _ hf
    refine z_iinc (v' := (v1 + 1)) (lv' := [(1, .int (v1 + 1)), (0, .ref u0), (2, .int y3)]) B dX2_clearSteps_69 1 rfl rfl (by decide) rfl ?_
    refine z_goto B 2 dX2_clearSteps_72 (by decide) ?_
    refine zV.sub [1, 0] rfl ?_
    exact ih _ _ hf
set_option maxRecDepth 100000 in
set_option maxHeartbeats 4000000 in
theorem tX2_clearSteps {l : Launch} {G : zG} (hst : l.stackTraces = false) {h : zH} {a0 : Nat} {r : zH} (hf : fX2_clearSteps h a0 = some r) : zMet l G yX2_clearSteps (.code yX2_clearSteps cX2_clearSteps 3 none) rm_X2_clearSteps 0 0 [.ref a0] h (zov r) := by
  unfold fX2_clearSteps at hf
  obtain ⟨-, hf⟩ := zck hf
  refine z_enter (by decide) (Nat.le_of_ble_eq_true rfl) hst (fun x hx B hE => ?_)
  subst hx
  have B : zB G x cX2_clearSteps 3 RX2 "clearSteps" rm_X2_clearSteps none := B
  show zV G x 3 (zQ G x (zov r) 0 0) h 0 0 0 [(0, .ref a0)] []
  refine z_iconst (v := 0) B dX2_clearSteps_0 (by decide) ?_
  refine z_istore_n (lv' := [(1, .int 0), (0, .ref a0)]) B dX2_clearSteps_1 rfl (by decide) rfl ?_
  refine zV.sub [1, 0] rfl ?_
  refine fX2_clearSteps_L2_ok B hst hE (fun h1 y2 hf => ?_) _ _ _ hf
  cases hf
  exact z_vret B dX2_clearSteps_75 (Nat.le_of_ble_eq_true rfl) (Nat.le_of_ble_eq_true rfl)
abbrev rm_X2_shortenBy : Room := { frames := 1, cells := 0, slots := 0, locals := 15 }
set_option maxRecDepth 100000 in
set_option maxHeartbeats 4000000 in
theorem fX2_shortenBy_L10_ok {G : zG} {x : zX} (B : zB G x cX2_shortenBy 4 RX2 "shortenBy" rm_X2_shortenBy none) (hst : (zl x).stackTraces = false) (hE : ∀ e ∈ (zc x).exceptionTable.toList, False) {r : zH} {k : zH → Int32 → Option (zH)} {u0 : Nat} {u1 : Int32} {u2 : Int32} (hk : ∀ h v3, k h v3 = some r → zV G x 4 (zQ G x (zov r) 0 0) h 0 0 58 [(0, .ref u0), (1, .int u1), (2, .int u2), (3, .int v3)] []) : ∀ n h v3, fX2_shortenBy_L10 k u0 u1 u2 n h v3 = some r → zV G x 4 (zQ G x (zov r) 0 0) h 0 0 10 [(0, .ref u0), (1, .int u1), (2, .int u2), (3, .int v3)] [] := by
  intro n
  induction n with
  | zero =>
    intro h v3 hf
    have hf : (none : Option (zH)) = some r := hf
    cases hf
  | succ n ih =>
    intro h v3 hf
    rw [fX2_shortenBy_L10] at hf
    refine z_iload_n B dX2_shortenBy_10 rfl 3 rfl ?_
    refine z_bipush (v := 8) B dX2_shortenBy_11 (by decide) ?_
    rcases zite hf with ⟨c1, hf⟩ | ⟨c1, hf⟩
    · refine z_icmp_ge B 58 dX2_shortenBy_13 (by decide) (fun _ => ?_) (fun e => absurd c1 e)
      exact hk _ _ hf
    refine z_icmp_ge B 58 dX2_shortenBy_13 (by decide) (fun e => absurd e c1) (fun _ => ?_)
    refine z_aload_n B dX2_shortenBy_16 rfl 0 rfl ?_
    obtain ⟨w2, ew2, hf⟩ := zbs hf
    refine z_gP B fl_RX2_19 ew2 rfl dX2_shortenBy_17 ?_
    refine z_iload_n B dX2_shortenBy_20 rfl 2 rfl ?_
    obtain ⟨w3, ew3, hf⟩ := zbs hf
    refine z_aP B ew3 dX2_shortenBy_21 ?_
    refine z_iload_n B dX2_shortenBy_22 rfl 3 rfl ?_
    refine z_aload_n B dX2_shortenBy_23 rfl 0 rfl ?_
    obtain ⟨w4, ew4, hf⟩ := zbs hf
    refine z_gP B fl_RX2_19 ew4 rfl dX2_shortenBy_24 ?_
    refine z_iload_n B dX2_shortenBy_27 rfl 2 rfl ?_
    obtain ⟨w5, ew5, hf⟩ := zbs hf
    refine z_aP B ew5 dX2_shortenBy_28 ?_
    refine z_iload_n B dX2_shortenBy_29 rfl 3 rfl ?_
    obtain ⟨w6, ew6, hf⟩ := zbs hf
    refine z_aI B ew6 dX2_shortenBy_30 ?_
    refine z_aload_n B dX2_shortenBy_31 rfl 0 rfl ?_
    obtain ⟨w7, ew7, hf⟩ := zbs hf
    refine z_gP B fl_RX2_19 ew7 rfl dX2_shortenBy_32 ?_
    refine z_iload_n B dX2_shortenBy_35 rfl 2 rfl ?_
    obtain ⟨w8, ew8, hf⟩ := zbs hf
    refine z_aP B ew8 dX2_shortenBy_36 ?_
    refine z_iload_n B dX2_shortenBy_37 rfl 1 rfl ?_
    obtain ⟨w9, ew9, hf⟩ := zbs hf
    refine z_aI B ew9 dX2_shortenBy_38 ?_
    refine z_aload_n B dX2_shortenBy_39 rfl 0 rfl ?_
    obtain ⟨w10, ew10, hf⟩ := zbs hf
    refine z_gP B fl_RX2_19 ew10 rfl dX2_shortenBy_40 ?_
    refine z_iload_n B dX2_shortenBy_43 rfl 1 rfl ?_
    obtain ⟨w11, ew11, hf⟩ := zbs hf
    refine z_aP B ew11 dX2_shortenBy_44 ?_
    refine z_iload_n B dX2_shortenBy_45 rfl 3 rfl ?_
    obtain ⟨w12, ew12, hf⟩ := zbs hf
    refine z_aI B ew12 dX2_shortenBy_46 ?_
    refine z_iadd B dX2_shortenBy_47 ?_
    refine z_min B mm_RX2_49 kw_min1 kw_m kw_min2 dX2_shortenBy_48 (Nat.le_of_ble_eq_true rfl) (Nat.le_of_ble_eq_true rfl) (Nat.le_of_ble_eq_true rfl) (Nat.le_of_ble_eq_true rfl) ?_
    obtain ⟨h13, eh13, hf⟩ := zbs hf
    refine z_bI B eh13 dX2_shortenBy_51 ?_
    refine z_iinc (v' := (v3 + 1)) (lv' := [(3, .int (v3 + 1)), (0, .ref u0), (1, .int u1), (2, .int u2)]) B dX2_shortenBy_52 3 rfl rfl (by decide) rfl ?_
    refine z_goto B 10 dX2_shortenBy_55 (by decide) ?_
    refine zV.sub [1, 2, 3, 0] rfl ?_
    exact ih _ _ hf
set_option maxRecDepth 100000 in
set_option maxHeartbeats 4000000 in
theorem fX2_shortenBy_L2_ok {G : zG} {x : zX} (B : zB G x cX2_shortenBy 4 RX2 "shortenBy" rm_X2_shortenBy none) (hst : (zl x).stackTraces = false) (hE : ∀ e ∈ (zc x).exceptionTable.toList, False) {r : zH} {k : zH → Int32 → Option (zH)} {u0 : Nat} {u1 : Int32} (hk : ∀ h v2, k h v2 = some r → zV G x 4 (zQ G x (zov r) 0 0) h 0 0 64 [(0, .ref u0), (1, .int u1), (2, .int v2)] []) : ∀ n h v2, fX2_shortenBy_L2 k u0 u1 n h v2 = some r → zV G x 4 (zQ G x (zov r) 0 0) h 0 0 2 [(0, .ref u0), (1, .int u1), (2, .int v2)] [] := by
  intro n
  induction n with
  | zero =>
    intro h v2 hf
    have hf : (none : Option (zH)) = some r := hf
    cases hf
  | succ n ih =>
    intro h v2 hf
    rw [fX2_shortenBy_L2] at hf
    refine z_iload_n B dX2_shortenBy_2 rfl 2 rfl ?_
    refine z_bipush (v := 8) B dX2_shortenBy_3 (by decide) ?_
    rcases zite hf with ⟨c1, hf⟩ | ⟨c1, hf⟩
    · refine z_icmp_ge B 64 dX2_shortenBy_5 (by decide) (fun _ => ?_) (fun e => absurd c1 e)
      exact hk _ _ hf
    refine z_icmp_ge B 64 dX2_shortenBy_5 (by decide) (fun e => absurd e c1) (fun _ => ?_)
    refine z_iconst (v := 0) B dX2_shortenBy_8 (by decide) ?_
    refine z_istore_n (lv' := [(3, .int 0), (0, .ref u0), (1, .int u1), (2, .int v2)]) B dX2_shortenBy_9 rfl (by decide) rfl ?_
    refine zV.sub [1, 2, 3, 0] rfl ?_
    refine fX2_shortenBy_L10_ok B hst hE (fun h2 y3 hf => ?_) _ _ _ hf
    refine z_iinc (v' := (v2 + 1)) (lv' := [(2, .int (v2 + 1)), (0, .ref u0), (1, .int u1), (3, .int y3)]) B dX2_shortenBy_58 2 rfl rfl (by decide) rfl ?_
    refine z_goto B 2 dX2_shortenBy_61 (by decide) ?_
    refine zV.sub [1, 2, 0] rfl ?_
    exact ih _ _ hf
set_option maxRecDepth 100000 in
set_option maxHeartbeats 4000000 in
theorem tX2_shortenBy {l : Launch} {G : zG} (hst : l.stackTraces = false) {h : zH} {a0 : Nat} {a1 : Int32} {r : zH} (hf : fX2_shortenBy h a0 a1 = some r) : zMet l G yX2_shortenBy (.code yX2_shortenBy cX2_shortenBy 4 none) rm_X2_shortenBy 0 0 [.ref a0, .int a1] h (zov r) := by
  unfold fX2_shortenBy at hf
  obtain ⟨-, hf⟩ := zck hf
  refine z_enter (by decide) (Nat.le_of_ble_eq_true rfl) hst (fun x hx B hE => ?_)
  subst hx
  have B : zB G x cX2_shortenBy 4 RX2 "shortenBy" rm_X2_shortenBy none := B
  show zV G x 4 (zQ G x (zov r) 0 0) h 0 0 0 [(0, .ref a0), (1, .int a1)] []
  refine z_iconst (v := 0) B dX2_shortenBy_0 (by decide) ?_
  refine z_istore_n (lv' := [(2, .int 0), (0, .ref a0), (1, .int a1)]) B dX2_shortenBy_1 rfl (by decide) rfl ?_
  refine zV.sub [1, 2, 0] rfl ?_
  refine fX2_shortenBy_L2_ok B hst hE (fun h1 y2 hf => ?_) _ _ _ hf
  cases hf
  exact z_vret B dX2_shortenBy_64 (Nat.le_of_ble_eq_true rfl) (Nat.le_of_ble_eq_true rfl)
abbrev rm_X2_connects : Room := { frames := 0, cells := 0, slots := 0, locals := 0 }
set_option maxRecDepth 100000 in
set_option maxHeartbeats 4000000 in
theorem tX2_connects {l : Launch} {G : zG} (hst : l.stackTraces = false) {h : zH} {a0 : Nat} {a1 : Int32} {a2 : Int32} {r : Int32 × zH} (hf : fX2_connects h a0 a1 a2 = some r) : zMet l G yX2_connects (.code yX2_connects cX2_connects 3 (some .boolean)) rm_X2_connects 0 0 [.ref a0, .int a1, .int a2] h (zoi r) := by
  unfold fX2_connects at hf
  obtain ⟨-, hf⟩ := zck hf
  refine z_enter (by decide) (Nat.le_of_ble_eq_true rfl) hst (fun x hx B hE => ?_)
  subst hx
  have B : zB G x cX2_connects 3 RX2 "connects" rm_X2_connects (some .boolean) := B
  show zV G x 3 (zQ G x (zoi r) 0 0) h 0 0 0 [(0, .ref a0), (1, .int a1), (2, .int a2)] []
  refine z_aload_n B dX2_connects_0 rfl 0 rfl ?_
  obtain ⟨w1, ew1, hf⟩ := zbs hf
  refine z_gP B fl_RX2_19 ew1 rfl dX2_connects_1 ?_
  refine z_iload_n B dX2_connects_4 rfl 1 rfl ?_
  obtain ⟨w2, ew2, hf⟩ := zbs hf
  refine z_aP B ew2 dX2_connects_5 ?_
  refine z_iload_n B dX2_connects_6 rfl 2 rfl ?_
  obtain ⟨w3, ew3, hf⟩ := zbs hf
  refine z_aI B ew3 dX2_connects_7 ?_
  refine z_ldc B dX2_connects_8 kc_RX2_48 ?_
  rcases zite hf with ⟨c4, hf⟩ | ⟨c4, hf⟩
  · refine z_icmp_ge B 17 dX2_connects_10 (by decide) (fun _ => ?_) (fun e => absurd c4 e)
    refine z_iconst (v := 0) B dX2_connects_17 (by decide) ?_
    cases hf
    exact z_zret B dX2_connects_18 (Or.inl rfl) (Nat.le_of_ble_eq_true rfl) (Nat.le_of_ble_eq_true rfl)
  refine z_icmp_ge B 17 dX2_connects_10 (by decide) (fun e => absurd e c4) (fun _ => ?_)
  refine z_iconst (v := 1) B dX2_connects_13 (by decide) ?_
  refine z_goto B 18 dX2_connects_14 (by decide) ?_
  cases hf
  exact z_zret B dX2_connects_18 (Or.inr rfl) (Nat.le_of_ble_eq_true rfl) (Nat.le_of_ble_eq_true rfl)
abbrev rm_X2_lowestFirstStep : Room := { frames := 0, cells := 0, slots := 0, locals := 0 }
set_option maxRecDepth 100000 in
set_option maxHeartbeats 4000000 in
theorem fX2_lowestFirstStep_L2_ok {G : zG} {x : zX} (B : zB G x cX2_lowestFirstStep 4 RX2 "lowestFirstStep" rm_X2_lowestFirstStep (some .int)) (hst : (zl x).stackTraces = false) (hE : ∀ e ∈ (zc x).exceptionTable.toList, False) {r : Int32 × zH} {k : zH → Int32 → Option (Int32 × zH)} {u0 : Nat} {u1 : Int32} {u2 : Int32} (hk : ∀ h v3, k h v3 = some r → zV G x 4 (zQ G x (zoi r) 0 0) h 0 0 51 [(0, .ref u0), (1, .int u1), (2, .int u2), (3, .int v3)] []) : ∀ n h v3, fX2_lowestFirstStep_L2 k u0 u1 u2 n h v3 = some r → zV G x 4 (zQ G x (zoi r) 0 0) h 0 0 2 [(0, .ref u0), (1, .int u1), (2, .int u2), (3, .int v3)] [] := by
  intro n
  induction n with
  | zero =>
    intro h v3 hf
    have hf : (none : Option (Int32 × zH)) = some r := hf
    cases hf
  | succ n ih =>
    intro h v3 hf
    rw [fX2_lowestFirstStep_L2] at hf
    refine z_iload_n B dX2_lowestFirstStep_2 rfl 3 rfl ?_
    refine z_bipush (v := 8) B dX2_lowestFirstStep_3 (by decide) ?_
    rcases zite hf with ⟨c1, hf⟩ | ⟨c1, hf⟩
    · refine z_icmp_ge B 51 dX2_lowestFirstStep_5 (by decide) (fun _ => ?_) (fun e => absurd c1 e)
      exact hk _ _ hf
    refine z_icmp_ge B 51 dX2_lowestFirstStep_5 (by decide) (fun e => absurd e c1) (fun _ => ?_)
    refine z_aload_n B dX2_lowestFirstStep_8 rfl 0 rfl ?_
    obtain ⟨w2, ew2, hf⟩ := zbs hf
    refine z_gP B fl_RX2_11 ew2 rfl dX2_lowestFirstStep_9 ?_
    refine z_iload_n B dX2_lowestFirstStep_12 rfl 1 rfl ?_
    obtain ⟨w3, ew3, hf⟩ := zbs hf
    refine z_aP B ew3 dX2_lowestFirstStep_13 ?_
    refine z_iload_n B dX2_lowestFirstStep_14 rfl 3 rfl ?_
    obtain ⟨w4, ew4, hf⟩ := zbs hf
    refine z_aI B ew4 dX2_lowestFirstStep_15 ?_
    refine z_aload_n B dX2_lowestFirstStep_16 rfl 0 rfl ?_
    obtain ⟨w5, ew5, hf⟩ := zbs hf
    refine z_gP B fl_RX2_19 ew5 rfl dX2_lowestFirstStep_17 ?_
    refine z_iload_n B dX2_lowestFirstStep_20 rfl 3 rfl ?_
    obtain ⟨w6, ew6, hf⟩ := zbs hf
    refine z_aP B ew6 dX2_lowestFirstStep_21 ?_
    refine z_iload_n B dX2_lowestFirstStep_22 rfl 2 rfl ?_
    obtain ⟨w7, ew7, hf⟩ := zbs hf
    refine z_aI B ew7 dX2_lowestFirstStep_23 ?_
    refine z_iadd B dX2_lowestFirstStep_24 ?_
    refine z_aload_n B dX2_lowestFirstStep_25 rfl 0 rfl ?_
    obtain ⟨w8, ew8, hf⟩ := zbs hf
    refine z_gP B fl_RX2_19 ew8 rfl dX2_lowestFirstStep_26 ?_
    refine z_iload_n B dX2_lowestFirstStep_29 rfl 1 rfl ?_
    obtain ⟨w9, ew9, hf⟩ := zbs hf
    refine z_aP B ew9 dX2_lowestFirstStep_30 ?_
    refine z_iload_n B dX2_lowestFirstStep_31 rfl 2 rfl ?_
    obtain ⟨w10, ew10, hf⟩ := zbs hf
    refine z_aI B ew10 dX2_lowestFirstStep_32 ?_
    rcases zite hf with ⟨c11, hf⟩ | ⟨c11, hf⟩
    · refine z_icmp_ne B 45 dX2_lowestFirstStep_33 (by decide) (fun e => absurd c11 e) (fun _ => ?_)
      refine z_aload_n B dX2_lowestFirstStep_36 rfl 0 rfl ?_
      obtain ⟨w12, ew12, hf⟩ := zbs hf
      refine z_gP B fl_RX2_16 ew12 rfl dX2_lowestFirstStep_37 ?_
      refine z_iload_n B dX2_lowestFirstStep_40 rfl 1 rfl ?_
      obtain ⟨w13, ew13, hf⟩ := zbs hf
      refine z_aP B ew13 dX2_lowestFirstStep_41 ?_
      refine z_iload_n B dX2_lowestFirstStep_42 rfl 3 rfl ?_
      obtain ⟨w14, ew14, hf⟩ := zbs hf
      refine z_aI B ew14 dX2_lowestFirstStep_43 ?_
      cases hf
      exact z_iret B dX2_lowestFirstStep_44 (Nat.le_of_ble_eq_true rfl) (Nat.le_of_ble_eq_true rfl)
    refine z_icmp_ne B 45 dX2_lowestFirstStep_33 (by decide) (fun _ => ?_) (fun e => absurd e c11)
    refine z_iinc (v' := (v3 + 1)) (lv' := [(3, .int (v3 + 1)), (0, .ref u0), (1, .int u1), (2, .int u2)]) B dX2_lowestFirstStep_45 3 rfl rfl (by decide) rfl ?_
    refine z_goto B 2 dX2_lowestFirstStep_48 (by decide) ?_
    refine zV.sub [1, 2, 3, 0] rfl ?_
    exact ih _ _ hf
set_option maxRecDepth 100000 in
set_option maxHeartbeats 4000000 in
theorem tX2_lowestFirstStep {l : Launch} {G : zG} (hst : l.stackTraces = false) {h : zH} {a0 : Nat} {a1 : Int32} {a2 : Int32} {r : Int32 × zH} (hf : fX2_lowestFirstStep h a0 a1 a2 = some r) : zMet l G yX2_lowestFirstStep (.code yX2_lowestFirstStep cX2_lowestFirstStep 4 (some .int)) rm_X2_lowestFirstStep 0 0 [.ref a0, .int a1, .int a2] h (zoi r) := by
  unfold fX2_lowestFirstStep at hf
  obtain ⟨-, hf⟩ := zck hf
  refine z_enter (by decide) (Nat.le_of_ble_eq_true rfl) hst (fun x hx B hE => ?_)
  subst hx
  have B : zB G x cX2_lowestFirstStep 4 RX2 "lowestFirstStep" rm_X2_lowestFirstStep (some .int) := B
  show zV G x 4 (zQ G x (zoi r) 0 0) h 0 0 0 [(0, .ref a0), (1, .int a1), (2, .int a2)] []
  refine z_iconst (v := 0) B dX2_lowestFirstStep_0 (by decide) ?_
  refine z_istore_n (lv' := [(3, .int 0), (0, .ref a0), (1, .int a1), (2, .int a2)]) B dX2_lowestFirstStep_1 rfl (by decide) rfl ?_
  refine zV.sub [1, 2, 3, 0] rfl ?_
  refine fX2_lowestFirstStep_L2_ok B hst hE (fun h1 y2 hf => ?_) _ _ _ hf
  refine z_iconst (v := (-1)) B dX2_lowestFirstStep_51 (by decide) ?_
  cases hf
  exact z_iret B dX2_lowestFirstStep_52 (Nat.le_of_ble_eq_true rfl) (Nat.le_of_ble_eq_true rfl)
abbrev rm_X2_chooseFirstSteps : Room := { frames := 1, cells := 0, slots := 0, locals := 23 }
set_option maxRecDepth 100000 in
set_option maxHeartbeats 4000000 in
theorem fX2_chooseFirstSteps_L10_ok {G : zG} {x : zX} (B : zB G x cX2_chooseFirstSteps 3 RX2 "chooseFirstSteps" rm_X2_chooseFirstSteps none) (hst : (zl x).stackTraces = false) (hE : ∀ e ∈ (zc x).exceptionTable.toList, False) {r : zH} {k : zH → Int32 → Option (zH)} {u0 : Nat} {u1 : Int32} (hk : ∀ h v2, k h v2 = some r → zV G x 3 (zQ G x (zov r) 0 0) h 0 0 50 [(0, .ref u0), (1, .int u1), (2, .int v2)] []) : ∀ n h v2, fX2_chooseFirstSteps_L10 k u0 u1 n h v2 = some r → zV G x 3 (zQ G x (zov r) 0 0) h 0 0 10 [(0, .ref u0), (1, .int u1), (2, .int v2)] [] := by
  intro n
  induction n with
  | zero =>
    intro h v2 hf
    have hf : (none : Option (zH)) = some r := hf
    cases hf
  | succ n ih =>
    intro h v2 hf
    rw [fX2_chooseFirstSteps_L10] at hf
    refine z_iload_n B dX2_chooseFirstSteps_10 rfl 2 rfl ?_
    refine z_bipush (v := 8) B dX2_chooseFirstSteps_11 (by decide) ?_
    rcases zite hf with ⟨c1, hf⟩ | ⟨c1, hf⟩
    · refine z_icmp_ge B 50 dX2_chooseFirstSteps_13 (by decide) (fun _ => ?_) (fun e => absurd c1 e)
      exact hk _ _ hf
    refine z_icmp_ge B 50 dX2_chooseFirstSteps_13 (by decide) (fun e => absurd e c1) (fun _ => ?_)
    refine z_iload_n B dX2_chooseFirstSteps_16 rfl 1 rfl ?_
    refine z_iload_n B dX2_chooseFirstSteps_17 rfl 2 rfl ?_
    rcases zite hf with ⟨c2, hf⟩ | ⟨c2, hf⟩
    · refine z_icmp_eq B 44 dX2_chooseFirstSteps_18 (by decide) (fun _ => ?_) (fun e => absurd c2 e)
      refine z_iinc (v' := (v2 + 1)) (lv' := [(2, .int (v2 + 1)), (0, .ref u0), (1, .int u1)]) B dX2_chooseFirstSteps_44 2 rfl rfl (by decide) rfl ?_
      refine z_goto B 10 dX2_chooseFirstSteps_47 (by decide) ?_
      refine zV.sub [1, 2, 0] rfl ?_
      exact ih _ _ hf
    refine z_icmp_eq B 44 dX2_chooseFirstSteps_18 (by decide) (fun e => absurd e c2) (fun _ => ?_)
    refine z_aload_n B dX2_chooseFirstSteps_21 rfl 0 rfl ?_
    refine z_iload_n B dX2_chooseFirstSteps_22 rfl 1 rfl ?_
    refine z_iload_n B dX2_chooseFirstSteps_23 rfl 2 rfl ?_
    obtain ⟨w3, h4, ew3, hf⟩ := zb2s hf
    refine z_callVi B [.int u1, .int v2] [] cw_X2_connects mv_RX2_55 (tX2_connects hst ew3) rfl (by decide) (kfX2_connects ew3) ⟨rfl, rfl, (Nat.le_of_ble_eq_true rfl), (Nat.le_of_ble_eq_true rfl), (Nat.le_of_ble_eq_true rfl), (Nat.le_of_ble_eq_true rfl)⟩ rfl rfl (Nat.le_of_ble_eq_true rfl) dX2_chooseFirstSteps_24 ?_
    rcases zite hf with ⟨c5, hf⟩ | ⟨c5, hf⟩
    · refine z_if_eq B 44 dX2_chooseFirstSteps_27 (by decide) (fun _ => ?_) (fun e => absurd c5 e)
      refine z_iinc (v' := (v2 + 1)) (lv' := [(2, .int (v2 + 1)), (0, .ref u0), (1, .int u1)]) B dX2_chooseFirstSteps_44 2 rfl rfl (by decide) rfl ?_
      refine z_goto B 10 dX2_chooseFirstSteps_47 (by decide) ?_
      refine zV.sub [1, 2, 0] rfl ?_
      exact ih _ _ hf
    refine z_if_eq B 44 dX2_chooseFirstSteps_27 (by decide) (fun e => absurd e c5) (fun _ => ?_)
    refine z_aload_n B dX2_chooseFirstSteps_30 rfl 0 rfl ?_
    obtain ⟨w6, ew6, hf⟩ := zbs hf
    refine z_gP B fl_RX2_22 ew6 rfl dX2_chooseFirstSteps_31 ?_
    refine z_iload_n B dX2_chooseFirstSteps_34 rfl 1 rfl ?_
    obtain ⟨w7, ew7, hf⟩ := zbs hf
    refine z_aP B ew7 dX2_chooseFirstSteps_35 ?_
    refine z_iload_n B dX2_chooseFirstSteps_36 rfl 2 rfl ?_
    refine z_aload_n B dX2_chooseFirstSteps_37 rfl 0 rfl ?_
    refine z_iload_n B dX2_chooseFirstSteps_38 rfl 1 rfl ?_
    refine z_iload_n B dX2_chooseFirstSteps_39 rfl 2 rfl ?_
    obtain ⟨w8, h9, ew8, hf⟩ := zb2s hf
    refine z_callVi B [.int u1, .int v2] [.int v2, .ref w7] cw_X2_lowestFirstStep mv_RX2_59 (tX2_lowestFirstStep hst ew8) rfl (by decide) (kfX2_lowestFirstStep ew8) ⟨rfl, rfl, (Nat.le_of_ble_eq_true rfl), (Nat.le_of_ble_eq_true rfl), (Nat.le_of_ble_eq_true rfl), (Nat.le_of_ble_eq_true rfl)⟩ rfl rfl (Nat.le_of_ble_eq_true rfl) dX2_chooseFirstSteps_40 ?_
    obtain ⟨h10, eh10, hf⟩ := zbs hf
    refine z_bI B eh10 dX2_chooseFirstSteps_43 ?_
    refine z_iinc (v' := (v2 + 1)) (lv' := [(2, .int (v2 + 1)), (0, .ref u0), (1, .int u1)]) B dX2_chooseFirstSteps_44 2 rfl rfl (by decide) rfl ?_
    refine z_goto B 10 dX2_chooseFirstSteps_47 (by decide) ?_
    refine zV.sub [1, 2, 0] rfl ?_
    exact ih _ _ hf
set_option maxRecDepth 100000 in
set_option maxHeartbeats 4000000 in
theorem fX2_chooseFirstSteps_L2_ok {G : zG} {x : zX} (B : zB G x cX2_chooseFirstSteps 3 RX2 "chooseFirstSteps" rm_X2_chooseFirstSteps none) (hst : (zl x).stackTraces = false) (hE : ∀ e ∈ (zc x).exceptionTable.toList, False) {r : zH} {k : zH → Int32 → Option (zH)} {u0 : Nat} (hk : ∀ h v1, k h v1 = some r → zV G x 3 (zQ G x (zov r) 0 0) h 0 0 56 [(0, .ref u0), (1, .int v1)] []) : ∀ n h v1, fX2_chooseFirstSteps_L2 k u0 n h v1 = some r → zV G x 3 (zQ G x (zov r) 0 0) h 0 0 2 [(0, .ref u0), (1, .int v1)] [] := by
  intro n
  induction n with
  | zero =>
    intro h v1 hf
    have hf : (none : Option (zH)) = some r := hf
    cases hf
  | succ n ih =>
    intro h v1 hf
    rw [fX2_chooseFirstSteps_L2] at hf
    refine z_iload_n B dX2_chooseFirstSteps_2 rfl 1 rfl ?_
    refine z_bipush (v := 8) B dX2_chooseFirstSteps_3 (by decide) ?_
    rcases zite hf with ⟨c1, hf⟩ | ⟨c1, hf⟩
    · refine z_icmp_ge B 56 dX2_chooseFirstSteps_5 (by decide) (fun _ => ?_) (fun e => absurd c1 e)
      exact hk _ _ hf
    refine z_icmp_ge B 56 dX2_chooseFirstSteps_5 (by decide) (fun e => absurd e c1) (fun _ => ?_)
    refine z_iconst (v := 0) B dX2_chooseFirstSteps_8 (by decide) ?_
    refine z_istore_n (lv' := [(2, .int 0), (0, .ref u0), (1, .int v1)]) B dX2_chooseFirstSteps_9 rfl (by decide) rfl ?_
    refine zV.sub [1, 2, 0] rfl ?_
    refine fX2_chooseFirstSteps_L10_ok B hst hE (fun h2 y3 hf => ?_) _ _ _ hf
    refine z_iinc (v' := (v1 + 1)) (lv' := [(1, .int (v1 + 1)), (0, .ref u0), (2, .int y3)]) B dX2_chooseFirstSteps_50 1 rfl rfl (by decide) rfl ?_
    refine z_goto B 2 dX2_chooseFirstSteps_53 (by decide) ?_
    refine zV.sub [1, 0] rfl ?_
    exact ih _ _ hf
set_option maxRecDepth 100000 in
set_option maxHeartbeats 4000000 in
theorem tX2_chooseFirstSteps {l : Launch} {G : zG} (hst : l.stackTraces = false) {h : zH} {a0 : Nat} {r : zH} (hf : fX2_chooseFirstSteps h a0 = some r) : zMet l G yX2_chooseFirstSteps (.code yX2_chooseFirstSteps cX2_chooseFirstSteps 3 none) rm_X2_chooseFirstSteps 0 0 [.ref a0] h (zov r) := by
  unfold fX2_chooseFirstSteps at hf
  obtain ⟨-, hf⟩ := zck hf
  refine z_enter (by decide) (Nat.le_of_ble_eq_true rfl) hst (fun x hx B hE => ?_)
  subst hx
  have B : zB G x cX2_chooseFirstSteps 3 RX2 "chooseFirstSteps" rm_X2_chooseFirstSteps none := B
  show zV G x 3 (zQ G x (zov r) 0 0) h 0 0 0 [(0, .ref a0)] []
  refine z_iconst (v := 0) B dX2_chooseFirstSteps_0 (by decide) ?_
  refine z_istore_n (lv' := [(1, .int 0), (0, .ref a0)]) B dX2_chooseFirstSteps_1 rfl (by decide) rfl ?_
  refine zV.sub [1, 0] rfl ?_
  refine fX2_chooseFirstSteps_L2_ok B hst hE (fun h1 y2 hf => ?_) _ _ _ hf
  cases hf
  exact z_vret B dX2_chooseFirstSteps_56 (Nat.le_of_ble_eq_true rfl) (Nat.le_of_ble_eq_true rfl)
abbrev rm_X2_find : Room := { frames := 2, cells := 0, slots := 0, locals := 45 }
set_option maxRecDepth 100000 in
set_option maxHeartbeats 4000000 in
theorem fX2_find_L7_ok {G : zG} {x : zX} (B : zB G x cX2_find 7 RX2 "find" rm_X2_find none) (hst : (zl x).stackTraces = false) (hE : ∀ e ∈ (zc x).exceptionTable.toList, False) {r : zH} {k : zH → Int32 → Option (zH)} {u0 : Nat} {u1 : Nat} {u2 : Nat} {u3 : Int32} (hk : ∀ h v4, k h v4 = some r → zV G x 7 (zQ G x (zov r) 0 0) h 0 0 104 [(0, .ref u0), (1, .ref u1), (2, .ref u2), (3, .int u3), (4, .int v4)] []) : ∀ n h v4, fX2_find_L7 k u0 u1 u2 u3 n h v4 = some r → zV G x 7 (zQ G x (zov r) 0 0) h 0 0 7 [(0, .ref u0), (1, .ref u1), (2, .ref u2), (3, .int u3), (4, .int v4)] [] := by
  intro n
  induction n with
  | zero =>
    intro h v4 hf
    have hf : (none : Option (zH)) = some r := hf
    cases hf
  | succ n ih =>
    intro h v4 hf
    rw [fX2_find_L7] at hf
    refine z_iload B dX2_find_7 4 rfl ?_
    refine z_aload_n B dX2_find_9 rfl 1 rfl ?_
    obtain ⟨w1, ew1, hf⟩ := zbs hf
    refine z_gI B fl_RX2_28 ew1 rfl dX2_find_10 ?_
    rcases zite hf with ⟨c2, hf⟩ | ⟨c2, hf⟩
    · refine z_icmp_ge B 104 dX2_find_13 (by decide) (fun _ => ?_) (fun e => absurd c2 e)
      exact hk _ _ hf
    refine z_icmp_ge B 104 dX2_find_13 (by decide) (fun e => absurd e c2) (fun _ => ?_)
    refine z_iload B dX2_find_16 4 rfl ?_
    refine z_aload_n B dX2_find_18 rfl 2 rfl ?_
    obtain ⟨w3, ew3, hf⟩ := zbs hf
    refine z_len B ew3 dX2_find_19 ?_
    rcases zite hf with ⟨c4, hf⟩ | ⟨c4, hf⟩
    · refine z_icmp_ge B 104 dX2_find_20 (by decide) (fun _ => ?_) (fun e => absurd c4 e)
      exact hk _ _ hf
    refine z_icmp_ge B 104 dX2_find_20 (by decide) (fun e => absurd e c4) (fun _ => ?_)
    refine z_iload B dX2_find_23 4 rfl ?_
    refine z_iload_n B dX2_find_25 rfl 3 rfl ?_
    rcases zite hf with ⟨c5, hf⟩ | ⟨c5, hf⟩
    · refine z_icmp_eq B 98 dX2_find_26 (by decide) (fun _ => ?_) (fun e => absurd c5 e)
      refine z_iinc (v' := (v4 + 1)) (lv' := [(4, .int (v4 + 1)), (0, .ref u0), (1, .ref u1), (2, .ref u2), (3, .int u3)]) B dX2_find_98 4 rfl rfl (by decide) rfl ?_
      refine z_goto B 7 dX2_find_101 (by decide) ?_
      refine zV.sub [1, 2, 3, 4, 0] rfl ?_
      exact ih _ _ hf
    refine z_icmp_eq B 98 dX2_find_26 (by decide) (fun e => absurd e c5) (fun _ => ?_)
    refine z_aload_n B dX2_find_29 rfl 1 rfl ?_
    obtain ⟨w6, ew6, hf⟩ := zbs hf
    refine z_gPR B fr_RX2_34 ew6 rfl dX2_find_30 ?_
    refine z_iload B dX2_find_33 4 rfl ?_
    obtain ⟨w7, ew7, hf⟩ := zbs hf
    refine z_aI B ew7 dX2_find_35 ?_
    refine z_istore (lv' := [(5, .int w7), (0, .ref u0), (1, .ref u1), (2, .ref u2), (3, .int u3), (4, .int v4)]) B dX2_find_36 (by decide) rfl ?_
    refine z_aload_n B dX2_find_38 rfl 2 rfl ?_
    obtain ⟨w8, ew8, hf⟩ := zbs hf
    refine z_gPR B fr_RX2_38 ew8 rfl dX2_find_39 ?_
    refine z_iload B dX2_find_42 5 rfl ?_
    obtain ⟨w9, ew9, hf⟩ := zbs hf
    refine z_aI B ew9 dX2_find_44 ?_
    refine z_istore (lv' := [(6, .int w9), (5, .int w7), (0, .ref u0), (1, .ref u1), (2, .ref u2), (3, .int u3), (4, .int v4)]) B dX2_find_45 (by decide) rfl ?_
    refine z_aload_n B dX2_find_47 rfl 2 rfl ?_
    obtain ⟨w10, ew10, hf⟩ := zbs hf
    refine z_gP B fl_RX2_11 ew10 rfl dX2_find_48 ?_
    refine z_iload B dX2_find_51 1 rfl ?_
    obtain ⟨w11, ew11, hf⟩ := zbs hf
    refine z_aP B ew11 dX2_find_53 ?_
    refine z_iload B dX2_find_54 0 rfl ?_
    refine z_aload_n B dX2_find_56 rfl 4 rfl ?_
    refine z_iload B dX2_find_57 6 rfl ?_
    obtain ⟨w12, ew12, hf⟩ := zbs hf
    refine z_aI B ew12 dX2_find_59 ?_
    refine z_bipush (v := 8) B dX2_find_60 (by decide) ?_
    refine z_imul B dX2_find_62 ?_
    refine z_iconst (v := 1) B dX2_find_63 (by decide) ?_
    refine z_iadd B dX2_find_64 ?_
    obtain ⟨h13, eh13, hf⟩ := zbs hf
    refine z_bI B eh13 dX2_find_65 ?_
    refine z_aload_n B dX2_find_66 rfl 2 rfl ?_
    obtain ⟨w14, ew14, hf⟩ := zbs hf
    refine z_gP B fl_RX2_16 ew14 rfl dX2_find_67 ?_
    refine z_iload B dX2_find_70 1 rfl ?_
    obtain ⟨w15, ew15, hf⟩ := zbs hf
    refine z_aP B ew15 dX2_find_72 ?_
    refine z_iload B dX2_find_73 0 rfl ?_
    refine z_iload B dX2_find_75 6 rfl ?_
    obtain ⟨h16, eh16, hf⟩ := zbs hf
    refine z_bI B eh16 dX2_find_77 ?_
    refine z_aload_n B dX2_find_78 rfl 2 rfl ?_
    obtain ⟨w17, ew17, hf⟩ := zbs hf
    refine z_gP B fl_RX2_19 ew17 rfl dX2_find_79 ?_
    refine z_iload B dX2_find_82 1 rfl ?_
    obtain ⟨w18, ew18, hf⟩ := zbs hf
    refine z_aP B ew18 dX2_find_84 ?_
    refine z_iload B dX2_find_85 0 rfl ?_
    refine z_aload_n B dX2_find_87 rfl 2 rfl ?_
    obtain ⟨w19, ew19, hf⟩ := zbs hf
    refine z_gP B fl_RX2_11 ew19 rfl dX2_find_88 ?_
    refine z_iload B dX2_find_91 1 rfl ?_
    obtain ⟨w20, ew20, hf⟩ := zbs hf
    refine z_aP B ew20 dX2_find_93 ?_
    refine z_iload B dX2_find_94 0 rfl ?_
    obtain ⟨w21, ew21, hf⟩ := zbs hf
    refine z_aI B ew21 dX2_find_96 ?_
    obtain ⟨h22, eh22, hf⟩ := zbs hf
    refine z_bI B eh22 dX2_find_97 ?_
    refine z_iinc (v' := (v4 + 1)) (lv' := [(4, .int (v4 + 1)), (6, .int w9), (5, .int w7), (0, .ref u0), (1, .ref u1), (2, .ref u2), (3, .int u3)]) B dX2_find_98 6 rfl rfl (by decide) rfl ?_
    refine z_goto B 7 dX2_find_101 (by decide) ?_
    refine zV.sub [3, 4, 5, 6, 0] rfl ?_
    exact ih _ _ hf
set_option maxRecDepth 100000 in
set_option maxHeartbeats 4000000 in
theorem fX2_find_L107_ok {G : zG} {x : zX} (B : zB G x cX2_find 7 RX2 "find" rm_X2_find none) (hst : (zl x).stackTraces = false) (hE : ∀ e ∈ (zc x).exceptionTable.toList, False) {r : zH} {k : zH → Int32 → Option (zH)} {u0 : Nat} {u1 : Nat} {u2 : Nat} {u3 : Int32} (hk : ∀ h v4, k h v4 = some r → zV G x 7 (zQ G x (zov r) 0 0) h 0 0 126 [(0, .ref u0), (1, .ref u1), (2, .ref u2), (3, .int u3), (4, .int v4)] []) : ∀ n h v4, fX2_find_L107 k u0 u1 u2 u3 n h v4 = some r → zV G x 7 (zQ G x (zov r) 0 0) h 0 0 107 [(0, .ref u0), (1, .ref u1), (2, .ref u2), (3, .int u3), (4, .int v4)] [] := by
  intro n
  induction n with
  | zero =>
    intro h v4 hf
    have hf : (none : Option (zH)) = some r := hf
    cases hf
  | succ n ih =>
    intro h v4 hf
    rw [fX2_find_L107] at hf
    refine z_iload B dX2_find_107 4 rfl ?_
    refine z_bipush (v := 8) B dX2_find_109 (by decide) ?_
    rcases zite hf with ⟨c1, hf⟩ | ⟨c1, hf⟩
    · refine z_icmp_ge B 126 dX2_find_111 (by decide) (fun _ => ?_) (fun e => absurd c1 e)
      exact hk _ _ hf
    refine z_icmp_ge B 126 dX2_find_111 (by decide) (fun e => absurd e c1) (fun _ => ?_)
    refine z_aload_n B dX2_find_114 rfl 0 rfl ?_
    refine z_iload B dX2_find_115 4 rfl ?_
    obtain ⟨h2, eh2, hf⟩ := zbs hf
    refine z_callVv B [.int v4] [] cw_X2_shortenBy mv_RX2_41 (tX2_shortenBy hst eh2) rfl (by decide) (kfX2_shortenBy eh2) ⟨rfl, rfl, (Nat.le_of_ble_eq_true rfl), (Nat.le_of_ble_eq_true rfl), (Nat.le_of_ble_eq_true rfl), (Nat.le_of_ble_eq_true rfl)⟩ rfl rfl (Nat.le_of_ble_eq_true rfl) dX2_find_117 ?_
    refine z_iinc (v' := (v4 + 1)) (lv' := [(4, .int (v4 + 1)), (0, .ref u0), (1, .ref u1), (2, .ref u2), (3, .int u3)]) B dX2_find_120 4 rfl rfl (by decide) rfl ?_
    refine z_goto B 107 dX2_find_123 (by decide) ?_
    refine zV.sub [1, 2, 3, 4, 0] rfl ?_
    exact ih _ _ hf
set_option maxRecDepth 100000 in
set_option maxHeartbeats 4000000 in
theorem tX2_find {l : Launch} {G : zG} (hst : l.stackTraces = false) {h : zH} {a0 : Nat} {a1 : Nat} {a2 : Nat} {a3 : Int32} {r : zH} (hf : fX2_find h a0 a1 a2 a3 = some r) : zMet l G yX2_find (.code yX2_find cX2_find 7 none) rm_X2_find 0 0 [.ref a0, .ref a1, .ref a2, .int a3] h (zov r) := by
  unfold fX2_find at hf
  obtain ⟨-, hf⟩ := zck hf
  refine z_enter (by decide) (Nat.le_of_ble_eq_true rfl) hst (fun x hx B hE => ?_)
  subst hx
  have B : zB G x cX2_find 7 RX2 "find" rm_X2_find none := B
  show zV G x 7 (zQ G x (zov r) 0 0) h 0 0 0 [(0, .ref a0), (1, .ref a1), (2, .ref a2), (3, .int a3)] []
  refine z_aload_n B dX2_find_0 rfl 0 rfl ?_
  obtain ⟨h1, eh1, hf⟩ := zbs hf
  refine z_callVv B [] [] cw_X2_clearSteps mv_RX2_25 (tX2_clearSteps hst eh1) rfl (by decide) (kfX2_clearSteps eh1) ⟨rfl, rfl, (Nat.le_of_ble_eq_true rfl), (Nat.le_of_ble_eq_true rfl), (Nat.le_of_ble_eq_true rfl), (Nat.le_of_ble_eq_true rfl)⟩ rfl rfl (Nat.le_of_ble_eq_true rfl) dX2_find_1 ?_
  refine z_iconst (v := 0) B dX2_find_4 (by decide) ?_
  refine z_istore (lv' := [(4, .int 0), (0, .ref a0), (1, .ref a1), (2, .ref a2), (3, .int a3)]) B dX2_find_5 (by decide) rfl ?_
  refine zV.sub [1, 2, 3, 4, 0] rfl ?_
  refine fX2_find_L7_ok B hst hE (fun h2 y3 hf => ?_) _ _ _ hf
  refine z_iconst (v := 0) B dX2_find_104 (by decide) ?_
  refine z_istore (lv' := [(4, .int 0), (0, .ref a0), (1, .ref a1), (2, .ref a2), (3, .int a3)]) B dX2_find_105 (by decide) rfl ?_
  refine zV.sub [1, 2, 3, 4, 0] rfl ?_
  refine fX2_find_L107_ok B hst hE (fun h4 y5 hf => ?_) _ _ _ hf
  refine z_aload_n B dX2_find_126 rfl 0 rfl ?_
  obtain ⟨h6, eh6, hf⟩ := zbs hf
  refine z_callVv B [] [] cw_X2_chooseFirstSteps mv_RX2_45 (tX2_chooseFirstSteps hst eh6) rfl (by decide) (kfX2_chooseFirstSteps eh6) ⟨rfl, rfl, (Nat.le_of_ble_eq_true rfl), (Nat.le_of_ble_eq_true rfl), (Nat.le_of_ble_eq_true rfl), (Nat.le_of_ble_eq_true rfl)⟩ rfl rfl (Nat.le_of_ble_eq_true rfl) dX2_find_127 ?_
  cases hf
  exact z_vret B dX2_find_130 (Nat.le_of_ble_eq_true rfl) (Nat.le_of_ble_eq_true rfl)
abbrev rm_X6_findPaths : Room := { frames := 3, cells := 0, slots := 0, locals := 71 }
set_option maxRecDepth 100000 in
set_option maxHeartbeats 4000000 in
theorem tX6_findPaths {l : Launch} {G : zG} (hst : l.stackTraces = false) {h : zH} {a0 : Nat} {r : zH} (hf : fX6_findPaths h a0 = some r) : zMet l G yX6_findPaths (.code yX6_findPaths cX6_findPaths 1 none) rm_X6_findPaths 0 0 [.ref a0] h (zov r) := by
  unfold fX6_findPaths at hf
  obtain ⟨-, hf⟩ := zck hf
  refine z_enter (by decide) (Nat.le_of_ble_eq_true rfl) hst (fun x hx B hE => ?_)
  subst hx
  have B : zB G x cX6_findPaths 1 RX6 "findPaths" rm_X6_findPaths none := B
  show zV G x 1 (zQ G x (zov r) 0 0) h 0 0 0 [(0, .ref a0)] []
  refine z_aload_n B dX6_findPaths_0 rfl 0 rfl ?_
  obtain ⟨w1, ew1, hf⟩ := zbs hf
  refine z_gP B fl_RX6_19 ew1 rfl dX6_findPaths_1 ?_
  refine z_aload_n B dX6_findPaths_4 rfl 0 rfl ?_
  obtain ⟨w2, ew2, hf⟩ := zbs hf
  refine z_gP B fl_RX6_57 ew2 rfl dX6_findPaths_5 ?_
  refine z_aload_n B dX6_findPaths_8 rfl 0 rfl ?_
  obtain ⟨w3, ew3, hf⟩ := zbs hf
  refine z_gP B fl_RX6_36 ew3 rfl dX6_findPaths_9 ?_
  obtain ⟨w4, ew4, hf⟩ := zbs hf
  refine z_gPR B fr_RX6_134 ew4 rfl dX6_findPaths_12 ?_
  refine z_iconst (v := (-1)) B dX6_findPaths_15 (by decide) ?_
  obtain ⟨h5, eh5, hf⟩ := zbs hf
  refine z_callVv B [.ref w2, .ref w4, .int (-1)] [] cw_X2_find mv_RX6_302 (tX2_find hst eh5) rfl (by decide) (kfX2_find eh5) ⟨rfl, rfl, (Nat.le_of_ble_eq_true rfl), (Nat.le_of_ble_eq_true rfl), (Nat.le_of_ble_eq_true rfl), (Nat.le_of_ble_eq_true rfl)⟩ rfl rfl (Nat.le_of_ble_eq_true rfl) dX6_findPaths_16 ?_
  cases hf
  exact z_vret B dX6_findPaths_19 (Nat.le_of_ble_eq_true rfl) (Nat.le_of_ble_eq_true rfl)
abbrev rm_X6_startOver : Room := { frames := 4, cells := 0, slots := 0, locals := 91 }
set_option maxRecDepth 100000 in
set_option maxHeartbeats 4000000 in
theorem fX6_startOver_L18_ok {G : zG} {x : zX} (B : zB G x cX6_startOver 2 RX6 "startOver" rm_X6_startOver none) (hst : (zl x).stackTraces = false) (hE : ∀ e ∈ (zc x).exceptionTable.toList, False) {r : zH} {k : zH → Int32 → Option (zH)} {u0 : Nat} (hk : ∀ h v1, k h v1 = some r → zV G x 2 (zQ G x (zov r) 0 0) h 0 0 40 [(0, .ref u0), (1, .int v1)] []) : ∀ n h v1, fX6_startOver_L18 k u0 n h v1 = some r → zV G x 2 (zQ G x (zov r) 0 0) h 0 0 18 [(0, .ref u0), (1, .int v1)] [] := by
  intro n
  induction n with
  | zero =>
    intro h v1 hf
    have hf : (none : Option (zH)) = some r := hf
    cases hf
  | succ n ih =>
    intro h v1 hf
    rw [fX6_startOver_L18] at hf
    refine z_iload_n B dX6_startOver_18 rfl 1 rfl ?_
    refine z_aload_n B dX6_startOver_19 rfl 0 rfl ?_
    obtain ⟨w1, ew1, hf⟩ := zbs hf
    refine z_gP B fl_RX6_50 ew1 rfl dX6_startOver_20 ?_
    obtain ⟨w2, ew2, hf⟩ := zbs hf
    refine z_len B ew2 dX6_startOver_23 ?_
    rcases zite hf with ⟨c3, hf⟩ | ⟨c3, hf⟩
    · refine z_icmp_ge B 40 dX6_startOver_24 (by decide) (fun _ => ?_) (fun e => absurd c3 e)
      exact hk _ _ hf
    refine z_icmp_ge B 40 dX6_startOver_24 (by decide) (fun e => absurd e c3) (fun _ => ?_)
    refine z_aload_n B dX6_startOver_27 rfl 0 rfl ?_
    obtain ⟨w4, ew4, hf⟩ := zbs hf
    refine z_gP B fl_RX6_50 ew4 rfl dX6_startOver_28 ?_
    refine z_iload_n B dX6_startOver_31 rfl 1 rfl ?_
    refine z_iconst (v := 0) B dX6_startOver_32 (by decide) ?_
    obtain ⟨h5, eh5, hf⟩ := zbs hf
    refine z_bZ B eh5 dX6_startOver_33 ?_
    refine z_iinc (v' := (v1 + 1)) (lv' := [(1, .int (v1 + 1)), (0, .ref u0)]) B dX6_startOver_34 1 rfl rfl (by decide) rfl ?_
    refine z_goto B 18 dX6_startOver_37 (by decide) ?_
    refine zV.sub [1, 0] rfl ?_
    exact ih _ _ hf
set_option maxRecDepth 100000 in
set_option maxHeartbeats 4000000 in
theorem tX6_startOver {l : Launch} {G : zG} (hst : l.stackTraces = false) {h : zH} {a0 : Nat} {r : zH} (hf : fX6_startOver h a0 = some r) : zMet l G yX6_startOver (.code yX6_startOver cX6_startOver 2 none) rm_X6_startOver 0 0 [.ref a0] h (zov r) := by
  unfold fX6_startOver at hf
  obtain ⟨-, hf⟩ := zck hf
  refine z_enter (by decide) (Nat.le_of_ble_eq_true rfl) hst (fun x hx B hE => ?_)
  subst hx
  have B : zB G x cX6_startOver 2 RX6 "startOver" rm_X6_startOver none := B
  show zV G x 2 (zQ G x (zov r) 0 0) h 0 0 0 [(0, .ref a0)] []
  refine z_aload_n B dX6_startOver_0 rfl 0 rfl ?_
  obtain ⟨w1, ew1, hf⟩ := zbs hf
  refine z_gP B fl_RX6_36 ew1 rfl dX6_startOver_1 ?_
  refine z_aload_n B dX6_startOver_4 rfl 0 rfl ?_
  obtain ⟨w2, ew2, hf⟩ := zbs hf
  refine z_gP B fl_RX6_57 ew2 rfl dX6_startOver_5 ?_
  obtain ⟨h3, eh3, hf⟩ := zbs hf
  refine z_callVv B [.ref w2] [] cw_X3_begin mv_RX6_374 (tX3_begin hst eh3) rfl (by decide) (kfX3_begin eh3) ⟨rfl, rfl, (Nat.le_of_ble_eq_true rfl), (Nat.le_of_ble_eq_true rfl), (Nat.le_of_ble_eq_true rfl), (Nat.le_of_ble_eq_true rfl)⟩ rfl rfl (Nat.le_of_ble_eq_true rfl) dX6_startOver_8 ?_
  refine z_aload_n B dX6_startOver_11 rfl 0 rfl ?_
  refine z_iconst (v := 0) B dX6_startOver_12 (by decide) ?_
  obtain ⟨h4, eh4, hf⟩ := zbs hf
  refine z_pI B fl_RX6_266 eh4 rfl dX6_startOver_13 ?_
  refine z_iconst (v := 0) B dX6_startOver_16 (by decide) ?_
  refine z_istore_n (lv' := [(1, .int 0), (0, .ref a0)]) B dX6_startOver_17 rfl (by decide) rfl ?_
  refine zV.sub [1, 0] rfl ?_
  refine fX6_startOver_L18_ok B hst hE (fun h5 y6 hf => ?_) _ _ _ hf
  refine z_aload_n B dX6_startOver_40 rfl 0 rfl ?_
  obtain ⟨h7, eh7, hf⟩ := zbs hf
  refine z_callVv B [] [] cw_X6_findPaths mv_RX6_263 (tX6_findPaths hst eh7) rfl (by decide) (kfX6_findPaths eh7) ⟨rfl, rfl, (Nat.le_of_ble_eq_true rfl), (Nat.le_of_ble_eq_true rfl), (Nat.le_of_ble_eq_true rfl), (Nat.le_of_ble_eq_true rfl)⟩ rfl rfl (Nat.le_of_ble_eq_true rfl) dX6_startOver_41 ?_
  cases hf
  exact z_vret B dX6_startOver_44 (Nat.le_of_ble_eq_true rfl) (Nat.le_of_ble_eq_true rfl)
abbrev rm_X6_init : Room := { frames := 5, cells := 938, slots := 8406, locals := 112 }
set_option maxRecDepth 100000 in
set_option maxHeartbeats 4000000 in
theorem fX6_init_L118_ok {G : zG} {x : zX} (B : zB G x cX6_init 2 RX6 "<init>" rm_X6_init none) (hst : (zl x).stackTraces = false) (hE : ∀ e ∈ (zc x).exceptionTable.toList, False) {r : zH} {k : zH → Int32 → Option (zH)} {u0 : Nat} (hk : ∀ h v1, k h v1 = some r → zV G x 2 (zQ G x (zov r) 938 8406) h 812 7317 146 [(0, .ref u0), (1, .int v1)] []) : ∀ (n : Nat) (h : zH) v1 (cs ss : Nat), cs + n * 42 ≤ 812 → ss + n * 363 ≤ 7317 → fX6_init_L118 k u0 n h v1 = some r → zV G x 2 (zQ G x (zov r) 938 8406) h cs ss 118 [(0, .ref u0), (1, .int v1)] [] := by
  intro n
  induction n with
  | zero =>
    intro h v1 cs ss hc1 hs1 hf
    have hf : (none : Option (zH)) = some r := hf
    cases hf
  | succ n ih =>
    intro h v1 cs ss hc1 hs1 hf
    rw [fX6_init_L118] at hf
    refine z_iload_n B dX6_init_118 rfl 1 rfl ?_
    refine z_aload_n B dX6_init_119 rfl 0 rfl ?_
    obtain ⟨w1, ew1, hf⟩ := zbs hf
    refine z_gP B fl_RX6_43 ew1 rfl dX6_init_120 ?_
    obtain ⟨w2, ew2, hf⟩ := zbs hf
    refine z_len B ew2 dX6_init_123 ?_
    rcases zite hf with ⟨c3, hf⟩ | ⟨c3, hf⟩
    · refine z_icmp_ge B 146 dX6_init_124 (by decide) (fun _ => ?_) (fun e => absurd c3 e)
      refine zV.wid (show cs ≤ 812 by omega) (show ss ≤ 7317 by omega) ?_
      exact hk _ _ hf
    refine z_icmp_ge B 146 dX6_init_124 (by decide) (fun e => absurd e c3) (fun _ => ?_)
    refine z_aload_n B dX6_init_127 rfl 0 rfl ?_
    obtain ⟨w4, ew4, hf⟩ := zbs hf
    refine z_gP B fl_RX6_43 ew4 rfl dX6_init_128 ?_
    refine z_iload_n B dX6_init_131 rfl 1 rfl ?_
    obtain ⟨h5, eh5, hf⟩ := zbs hf
    refine z_newS B nw_RX6_33 eh5 dX6_init_132 (show cs + 1 ≤ 938 by omega) (show ss + 6 ≤ 8406 by omega) ?_
    refine z_dup B dX6_init_135 rfl ?_
    obtain ⟨h6, eh6, hf⟩ := zbs hf
    refine z_callI B [] [.ref (zn h), .int v1, .ref w4] cw_X3_init mi_RX6_35 (tX3_init hst eh6) ⟨rfl, rfl, (Nat.le_of_ble_eq_true rfl), (Nat.le_of_ble_eq_true rfl), (show cs + 42 ≤ 938 by omega), (show ss + 363 ≤ 8406 by omega)⟩ rfl rfl (Nat.le_of_ble_eq_true rfl) dX6_init_136 ?_
    obtain ⟨h7, eh7, hf⟩ := zbs hf
    refine z_bP B eh7 dX6_init_139 ?_
    refine z_iinc (v' := (v1 + 1)) (lv' := [(1, .int (v1 + 1)), (0, .ref u0)]) B dX6_init_140 1 rfl rfl (by decide) rfl ?_
    refine z_goto B 118 dX6_init_143 (by decide) ?_
    refine zV.sub [1, 0] rfl ?_
    exact ih _ _ _ _ (show cs + 42 + n * 42 ≤ 812 by omega) (show ss + 363 + n * 363 ≤ 7317 by omega) hf
set_option maxRecDepth 100000 in
set_option maxHeartbeats 4000000 in
theorem fX6_init_L148_ok {G : zG} {x : zX} (B : zB G x cX6_init 2 RX6 "<init>" rm_X6_init none) (hst : (zl x).stackTraces = false) (hE : ∀ e ∈ (zc x).exceptionTable.toList, False) {r : zH} {k : zH → Int32 → Option (zH)} {u0 : Nat} (hk : ∀ h v1, k h v1 = some r → zV G x 2 (zQ G x (zov r) 938 8406) h 938 8406 176 [(0, .ref u0), (1, .int v1)] []) : ∀ (n : Nat) (h : zH) v1 (cs ss : Nat), cs + n * 42 ≤ 938 → ss + n * 363 ≤ 8406 → fX6_init_L148 k u0 n h v1 = some r → zV G x 2 (zQ G x (zov r) 938 8406) h cs ss 148 [(0, .ref u0), (1, .int v1)] [] := by
  intro n
  induction n with
  | zero =>
    intro h v1 cs ss hc1 hs1 hf
    have hf : (none : Option (zH)) = some r := hf
    cases hf
  | succ n ih =>
    intro h v1 cs ss hc1 hs1 hf
    rw [fX6_init_L148] at hf
    refine z_iload_n B dX6_init_148 rfl 1 rfl ?_
    refine z_aload_n B dX6_init_149 rfl 0 rfl ?_
    obtain ⟨w1, ew1, hf⟩ := zbs hf
    refine z_gP B fl_RX6_47 ew1 rfl dX6_init_150 ?_
    obtain ⟨w2, ew2, hf⟩ := zbs hf
    refine z_len B ew2 dX6_init_153 ?_
    rcases zite hf with ⟨c3, hf⟩ | ⟨c3, hf⟩
    · refine z_icmp_ge B 176 dX6_init_154 (by decide) (fun _ => ?_) (fun e => absurd c3 e)
      refine zV.wid (show cs ≤ 938 by omega) (show ss ≤ 8406 by omega) ?_
      exact hk _ _ hf
    refine z_icmp_ge B 176 dX6_init_154 (by decide) (fun e => absurd e c3) (fun _ => ?_)
    refine z_aload_n B dX6_init_157 rfl 0 rfl ?_
    obtain ⟨w4, ew4, hf⟩ := zbs hf
    refine z_gP B fl_RX6_47 ew4 rfl dX6_init_158 ?_
    refine z_iload_n B dX6_init_161 rfl 1 rfl ?_
    obtain ⟨h5, eh5, hf⟩ := zbs hf
    refine z_newS B nw_RX6_33 eh5 dX6_init_162 (show cs + 1 ≤ 938 by omega) (show ss + 6 ≤ 8406 by omega) ?_
    refine z_dup B dX6_init_165 rfl ?_
    obtain ⟨h6, eh6, hf⟩ := zbs hf
    refine z_callI B [] [.ref (zn h), .int v1, .ref w4] cw_X3_init mi_RX6_35 (tX3_init hst eh6) ⟨rfl, rfl, (Nat.le_of_ble_eq_true rfl), (Nat.le_of_ble_eq_true rfl), (show cs + 42 ≤ 938 by omega), (show ss + 363 ≤ 8406 by omega)⟩ rfl rfl (Nat.le_of_ble_eq_true rfl) dX6_init_166 ?_
    obtain ⟨h7, eh7, hf⟩ := zbs hf
    refine z_bP B eh7 dX6_init_169 ?_
    refine z_iinc (v' := (v1 + 1)) (lv' := [(1, .int (v1 + 1)), (0, .ref u0)]) B dX6_init_170 1 rfl rfl (by decide) rfl ?_
    refine z_goto B 148 dX6_init_173 (by decide) ?_
    refine zV.sub [1, 0] rfl ?_
    exact ih _ _ _ _ (show cs + 42 + n * 42 ≤ 938 by omega) (show ss + 363 + n * 363 ≤ 8406 by omega) hf
set_option maxRecDepth 100000 in
set_option maxHeartbeats 4000000 in
theorem tX6_init {l : Launch} {G : zG} (hst : l.stackTraces = false) {h : zH} {a0 : Nat} {r : zH} (hf : fX6_init h a0 = some r) : zMet l G yX6_init (.code yX6_init cX6_init 2 none) rm_X6_init 938 8406 [.ref a0] h (zov r) := by
  unfold fX6_init at hf
  obtain ⟨-, hf⟩ := zck hf
  refine z_enter (by decide) (Nat.le_of_ble_eq_true rfl) hst (fun x hx B hE => ?_)
  subst hx
  have B : zB G x cX6_init 2 RX6 "<init>" rm_X6_init none := B
  show zV G x 2 (zQ G x (zov r) 938 8406) h 0 0 0 [(0, .ref a0)] []
  refine z_aload_n B dX6_init_0 rfl 0 rfl ?_
  refine z_oinit B oi_RX6_1 kw_o1 kw_o2 dX6_init_1 (Nat.le_of_ble_eq_true rfl) (Nat.le_of_ble_eq_true rfl) ?_
  refine z_aload_n B dX6_init_4 rfl 0 rfl ?_
  obtain ⟨h1, eh1, hf⟩ := zbs hf
  refine z_newS B nw_RX6_7 eh1 dX6_init_5 (Nat.le_of_ble_eq_true rfl) (Nat.le_of_ble_eq_true rfl) ?_
  refine z_dup B dX6_init_8 rfl ?_
  obtain ⟨h2, eh2, hf⟩ := zbs hf
  refine z_callN B [] [.ref (zn h), .ref a0] cw_X4_init mn_RX6_9 (tX4_init hst eh2) ⟨rfl, rfl, (Nat.le_of_ble_eq_true rfl), (Nat.le_of_ble_eq_true rfl), (Nat.le_of_ble_eq_true rfl), (Nat.le_of_ble_eq_true rfl)⟩ rfl rfl (Nat.le_of_ble_eq_true rfl) dX6_init_9 ?_
  obtain ⟨h3, eh3, hf⟩ := zbs hf
  refine z_pP B fl_RX6_10 eh3 (Or.inr rfl) rfl rfl rfl dX6_init_12 ?_
  refine z_aload_n B dX6_init_15 rfl 0 rfl ?_
  obtain ⟨h4, eh4, hf⟩ := zbs hf
  refine z_newS B nw_RX6_16 eh4 dX6_init_16 (Nat.le_of_ble_eq_true rfl) (Nat.le_of_ble_eq_true rfl) ?_
  refine z_dup B dX6_init_19 rfl ?_
  obtain ⟨h5, eh5, hf⟩ := zbs hf
  refine z_callN B [] [.ref (zn h3), .ref a0] cw_X2_init mn_RX6_18 (tX2_init hst eh5) ⟨rfl, rfl, (Nat.le_of_ble_eq_true rfl), (Nat.le_of_ble_eq_true rfl), (Nat.le_of_ble_eq_true rfl), (Nat.le_of_ble_eq_true rfl)⟩ rfl rfl (Nat.le_of_ble_eq_true rfl) dX6_init_20 ?_
  obtain ⟨h6, eh6, hf⟩ := zbs hf
  refine z_pP B fl_RX6_19 eh6 (Or.inr rfl) rfl rfl rfl dX6_init_23 ?_
  refine z_aload_n B dX6_init_26 rfl 0 rfl ?_
  obtain ⟨h7, eh7, hf⟩ := zbs hf
  refine z_newS B nw_RX6_16 eh7 dX6_init_27 (Nat.le_of_ble_eq_true rfl) (Nat.le_of_ble_eq_true rfl) ?_
  refine z_dup B dX6_init_30 rfl ?_
  obtain ⟨h8, eh8, hf⟩ := zbs hf
  refine z_callN B [] [.ref (zn h6), .ref a0] cw_X2_init mn_RX6_18 (tX2_init hst eh8) ⟨rfl, rfl, (Nat.le_of_ble_eq_true rfl), (Nat.le_of_ble_eq_true rfl), (Nat.le_of_ble_eq_true rfl), (Nat.le_of_ble_eq_true rfl)⟩ rfl rfl (Nat.le_of_ble_eq_true rfl) dX6_init_31 ?_
  obtain ⟨h9, eh9, hf⟩ := zbs hf
  refine z_pP B fl_RX6_23 eh9 (Or.inr rfl) rfl rfl rfl dX6_init_34 ?_
  refine z_aload_n B dX6_init_37 rfl 0 rfl ?_
  obtain ⟨h10, eh10, hf⟩ := zbs hf
  refine z_newS B nw_RX6_26 eh10 dX6_init_38 (Nat.le_of_ble_eq_true rfl) (Nat.le_of_ble_eq_true rfl) ?_
  refine z_dup B dX6_init_41 rfl ?_
  obtain ⟨h11, eh11, hf⟩ := zbs hf
  refine z_callN B [] [.ref (zn h9), .ref a0] cw_X5_init mn_RX6_28 (tX5_init hst eh11) ⟨rfl, rfl, (Nat.le_of_ble_eq_true rfl), (Nat.le_of_ble_eq_true rfl), (Nat.le_of_ble_eq_true rfl), (Nat.le_of_ble_eq_true rfl)⟩ rfl rfl (Nat.le_of_ble_eq_true rfl) dX6_init_42 ?_
  obtain ⟨h12, eh12, hf⟩ := zbs hf
  refine z_pP B fl_RX6_29 eh12 (Or.inr rfl) rfl rfl rfl dX6_init_45 ?_
  refine z_aload_n B dX6_init_48 rfl 0 rfl ?_
  obtain ⟨h13, eh13, hf⟩ := zbs hf
  refine z_newS B nw_RX6_33 eh13 dX6_init_49 (Nat.le_of_ble_eq_true rfl) (Nat.le_of_ble_eq_true rfl) ?_
  refine z_dup B dX6_init_52 rfl ?_
  obtain ⟨h14, eh14, hf⟩ := zbs hf
  refine z_callI B [] [.ref (zn h12), .ref a0] cw_X3_init mi_RX6_35 (tX3_init hst eh14) ⟨rfl, rfl, (Nat.le_of_ble_eq_true rfl), (Nat.le_of_ble_eq_true rfl), (Nat.le_of_ble_eq_true rfl), (Nat.le_of_ble_eq_true rfl)⟩ rfl rfl (Nat.le_of_ble_eq_true rfl) dX6_init_53 ?_
  obtain ⟨h15, eh15, hf⟩ := zbs hf
  refine z_pP B fl_RX6_36 eh15 (Or.inr rfl) rfl rfl rfl dX6_init_56 ?_
  refine z_aload_n B dX6_init_59 rfl 0 rfl ?_
  obtain ⟨h16, eh16, hf⟩ := zbs hf
  refine z_newS B nw_RX6_33 eh16 dX6_init_60 (Nat.le_of_ble_eq_true rfl) (Nat.le_of_ble_eq_true rfl) ?_
  refine z_dup B dX6_init_63 rfl ?_
  obtain ⟨h17, eh17, hf⟩ := zbs hf
  refine z_callI B [] [.ref (zn h15), .ref a0] cw_X3_init mi_RX6_35 (tX3_init hst eh17) ⟨rfl, rfl, (Nat.le_of_ble_eq_true rfl), (Nat.le_of_ble_eq_true rfl), (Nat.le_of_ble_eq_true rfl), (Nat.le_of_ble_eq_true rfl)⟩ rfl rfl (Nat.le_of_ble_eq_true rfl) dX6_init_64 ?_
  obtain ⟨h18, eh18, hf⟩ := zbs hf
  refine z_pP B fl_RX6_40 eh18 (Or.inr rfl) rfl rfl rfl dX6_init_67 ?_
  refine z_aload_n B dX6_init_70 rfl 0 rfl ?_
  refine z_bipush (v := 14) B dX6_init_71 (by decide) ?_
  obtain ⟨h19, eh19, hf⟩ := zbs hf
  refine z_newqS (N := 14) (k := 4) B (by decide) kq_RX6_33 (fun s hs => hs.2.2.1.2.1) (fun _ => rfl) eh19 (by decide) rfl (Nat.le_of_ble_eq_true rfl) dX6_init_73 (Nat.le_of_ble_eq_true rfl) (Nat.le_of_ble_eq_true rfl) ?_
  obtain ⟨h20, eh20, hf⟩ := zbs hf
  refine z_pP B fl_RX6_43 eh20 (Or.inr rfl) rfl rfl rfl dX6_init_76 ?_
  refine z_aload_n B dX6_init_79 rfl 0 rfl ?_
  refine z_iconst (v := 2) B dX6_init_80 (by decide) ?_
  obtain ⟨h21, eh21, hf⟩ := zbs hf
  refine z_newqS (N := 2) (k := 4) B (by decide) kq_RX6_33 (fun s hs => hs.2.2.1.2.1) (fun _ => rfl) eh21 (by decide) rfl (Nat.le_of_ble_eq_true rfl) dX6_init_81 (Nat.le_of_ble_eq_true rfl) (Nat.le_of_ble_eq_true rfl) ?_
  obtain ⟨h22, eh22, hf⟩ := zbs hf
  refine z_pP B fl_RX6_47 eh22 (Or.inr rfl) rfl rfl rfl dX6_init_84 ?_
  refine z_aload_n B dX6_init_87 rfl 0 rfl ?_
  refine z_iconst (v := 2) B dX6_init_88 (by decide) ?_
  obtain ⟨h23, eh23, hf⟩ := zbs hf
  refine z_newaZS (N := 2) B kw_az eh23 (by decide) rfl (Nat.le_of_ble_eq_true rfl) dX6_init_89 (Nat.le_of_ble_eq_true rfl) (Nat.le_of_ble_eq_true rfl) ?_
  obtain ⟨h24, eh24, hf⟩ := zbs hf
  refine z_pP B fl_RX6_50 eh24 (Or.inr rfl) rfl rfl rfl dX6_init_91 ?_
  refine z_aload_n B dX6_init_94 rfl 0 rfl ?_
  obtain ⟨h25, eh25, hf⟩ := zbs hf
  refine z_newS B nw_RX6_54 eh25 dX6_init_95 (Nat.le_of_ble_eq_true rfl) (Nat.le_of_ble_eq_true rfl) ?_
  refine z_dup B dX6_init_98 rfl ?_
  obtain ⟨h26, eh26, hf⟩ := zbs hf
  refine z_callI B [] [.ref (zn h24), .ref a0] cw_X0_init mi_RX6_56 (tX0_init hst eh26) ⟨rfl, rfl, (Nat.le_of_ble_eq_true rfl), (Nat.le_of_ble_eq_true rfl), (Nat.le_of_ble_eq_true rfl), (Nat.le_of_ble_eq_true rfl)⟩ rfl rfl (Nat.le_of_ble_eq_true rfl) dX6_init_99 ?_
  obtain ⟨h27, eh27, hf⟩ := zbs hf
  refine z_pP B fl_RX6_57 eh27 (Or.inl rfl) rfl rfl rfl dX6_init_102 ?_
  refine z_aload_n B dX6_init_105 rfl 0 rfl ?_
  obtain ⟨h28, eh28, hf⟩ := zbs hf
  refine z_newS B nw_RX6_54 eh28 dX6_init_106 (Nat.le_of_ble_eq_true rfl) (Nat.le_of_ble_eq_true rfl) ?_
  refine z_dup B dX6_init_109 rfl ?_
  obtain ⟨h29, eh29, hf⟩ := zbs hf
  refine z_callI B [] [.ref (zn h27), .ref a0] cw_X0_init mi_RX6_56 (tX0_init hst eh29) ⟨rfl, rfl, (Nat.le_of_ble_eq_true rfl), (Nat.le_of_ble_eq_true rfl), (Nat.le_of_ble_eq_true rfl), (Nat.le_of_ble_eq_true rfl)⟩ rfl rfl (Nat.le_of_ble_eq_true rfl) dX6_init_110 ?_
  obtain ⟨h30, eh30, hf⟩ := zbs hf
  refine z_pP B fl_RX6_61 eh30 (Or.inl rfl) rfl rfl rfl dX6_init_113 ?_
  refine z_iconst (v := 0) B dX6_init_116 (by decide) ?_
  refine z_istore_n (lv' := [(1, .int 0), (0, .ref a0)]) B dX6_init_117 rfl (by decide) rfl ?_
  refine zV.sub [1, 0] rfl ?_
  refine fX6_init_L118_ok B hst hE (fun h31 y32 hf => ?_) _ _ _ _ _ (Nat.le_of_ble_eq_true rfl) (Nat.le_of_ble_eq_true rfl) hf
  refine z_iconst (v := 0) B dX6_init_146 (by decide) ?_
  refine z_istore_n (lv' := [(1, .int 0), (0, .ref a0)]) B dX6_init_147 rfl (by decide) rfl ?_
  refine zV.sub [1, 0] rfl ?_
  refine fX6_init_L148_ok B hst hE (fun h33 y34 hf => ?_) _ _ _ _ _ (Nat.le_of_ble_eq_true rfl) (Nat.le_of_ble_eq_true rfl) hf
  refine z_aload_n B dX6_init_176 rfl 0 rfl ?_
  obtain ⟨h35, eh35, hf⟩ := zbs hf
  refine z_callVv B [] [] cw_X6_startOver mv_RX6_64 (tX6_startOver hst eh35) rfl (by decide) (kfX6_startOver eh35) ⟨rfl, rfl, (Nat.le_of_ble_eq_true rfl), (Nat.le_of_ble_eq_true rfl), (Nat.le_of_ble_eq_true rfl), (Nat.le_of_ble_eq_true rfl)⟩ rfl rfl (Nat.le_of_ble_eq_true rfl) dX6_init_177 ?_
  cases hf
  exact z_vret B dX6_init_180 (Nat.le_of_ble_eq_true rfl) (Nat.le_of_ble_eq_true rfl)
abbrev rm_X4_isFull : Room := { frames := 0, cells := 0, slots := 0, locals := 0 }
set_option maxRecDepth 100000 in
set_option maxHeartbeats 4000000 in
theorem tX4_isFull {l : Launch} {G : zG} (hst : l.stackTraces = false) {h : zH} {a0 : Nat} {r : Int32 × zH} (hf : fX4_isFull h a0 = some r) : zMet l G yX4_isFull (.code yX4_isFull cX4_isFull 1 (some .boolean)) rm_X4_isFull 0 0 [.ref a0] h (zoi r) := by
  unfold fX4_isFull at hf
  obtain ⟨-, hf⟩ := zck hf
  refine z_enter (by decide) (Nat.le_of_ble_eq_true rfl) hst (fun x hx B hE => ?_)
  subst hx
  have B : zB G x cX4_isFull 1 RX4 "isFull" rm_X4_isFull (some .boolean) := B
  show zV G x 1 (zQ G x (zoi r) 0 0) h 0 0 0 [(0, .ref a0)] []
  refine z_aload_n B dX4_isFull_0 rfl 0 rfl ?_
  obtain ⟨w1, ew1, hf⟩ := zbs hf
  refine z_gI B fl_RX4_15 ew1 rfl dX4_isFull_1 ?_
  refine z_sipush (v := 160) B dX4_isFull_4 (by decide) ?_
  rcases zite hf with ⟨c2, hf⟩ | ⟨c2, hf⟩
  · refine z_icmp_lt B 14 dX4_isFull_7 (by decide) (fun _ => ?_) (fun e => absurd c2 e)
    refine z_iconst (v := 0) B dX4_isFull_14 (by decide) ?_
    cases hf
    exact z_zret B dX4_isFull_15 (Or.inl rfl) (Nat.le_of_ble_eq_true rfl) (Nat.le_of_ble_eq_true rfl)
  refine z_icmp_lt B 14 dX4_isFull_7 (by decide) (fun e => absurd e c2) (fun _ => ?_)
  refine z_iconst (v := 1) B dX4_isFull_10 (by decide) ?_
  refine z_goto B 15 dX4_isFull_11 (by decide) ?_
  cases hf
  exact z_zret B dX4_isFull_15 (Or.inr rfl) (Nat.le_of_ble_eq_true rfl) (Nat.le_of_ble_eq_true rfl)
abbrev rm_X4_addSign : Room := { frames := 1, cells := 0, slots := 0, locals := 20 }
set_option maxRecDepth 100000 in
set_option maxHeartbeats 4000000 in
theorem tX4_addSign {l : Launch} {G : zG} (hst : l.stackTraces = false) {h : zH} {a0 : Nat} {a1 : Int32} {r : zH} (hf : fX4_addSign h a0 a1 = some r) : zMet l G yX4_addSign (.code yX4_addSign cX4_addSign 2 none) rm_X4_addSign 0 0 [.ref a0, .int a1] h (zov r) := by
  unfold fX4_addSign at hf
  obtain ⟨-, hf⟩ := zck hf
  refine z_enter (by decide) (Nat.le_of_ble_eq_true rfl) hst (fun x hx B hE => ?_)
  subst hx
  have B : zB G x cX4_addSign 2 RX4 "addSign" rm_X4_addSign none := B
  show zV G x 2 (zQ G x (zov r) 0 0) h 0 0 0 [(0, .ref a0), (1, .int a1)] []
  refine z_aload_n B dX4_addSign_0 rfl 0 rfl ?_
  obtain ⟨w1, h2, ew1, hf⟩ := zb2s hf
  refine z_callVi B [] [] cw_X4_isFull mv_RX4_19 (tX4_isFull hst ew1) rfl (by decide) (kfX4_isFull ew1) ⟨rfl, rfl, (Nat.le_of_ble_eq_true rfl), (Nat.le_of_ble_eq_true rfl), (Nat.le_of_ble_eq_true rfl), (Nat.le_of_ble_eq_true rfl)⟩ rfl rfl (Nat.le_of_ble_eq_true rfl) dX4_addSign_1 ?_
  rcases zite hf with ⟨c3, hf⟩ | ⟨c3, hf⟩
  · refine z_if_ne B 27 dX4_addSign_4 (by decide) (fun e => absurd c3 e) (fun _ => ?_)
    refine z_aload_n B dX4_addSign_7 rfl 0 rfl ?_
    obtain ⟨w4, ew4, hf⟩ := zbs hf
    refine z_gP B fl_RX4_9 ew4 rfl dX4_addSign_8 ?_
    refine z_aload_n B dX4_addSign_11 rfl 0 rfl ?_
    obtain ⟨w5, ew5, hf⟩ := zbs hf
    refine z_gI B fl_RX4_15 ew5 rfl dX4_addSign_12 ?_
    refine z_iload_n B dX4_addSign_15 rfl 1 rfl ?_
    obtain ⟨h6, eh6, hf⟩ := zbs hf
    refine z_bI B eh6 dX4_addSign_16 ?_
    refine z_aload_n B dX4_addSign_17 rfl 0 rfl ?_
    refine z_dup B dX4_addSign_18 rfl ?_
    obtain ⟨w7, ew7, hf⟩ := zbs hf
    refine z_gI B fl_RX4_15 ew7 rfl dX4_addSign_19 ?_
    refine z_iconst (v := 1) B dX4_addSign_22 (by decide) ?_
    refine z_iadd B dX4_addSign_23 ?_
    obtain ⟨h8, eh8, hf⟩ := zbs hf
    refine z_pI B fl_RX4_15 eh8 rfl dX4_addSign_24 ?_
    cases hf
    exact z_vret B dX4_addSign_27 (Nat.le_of_ble_eq_true rfl) (Nat.le_of_ble_eq_true rfl)
  refine z_if_ne B 27 dX4_addSign_4 (by decide) (fun _ => ?_) (fun e => absurd e c3)
  cases hf
  exact z_vret B dX4_addSign_27 (Nat.le_of_ble_eq_true rfl) (Nat.le_of_ble_eq_true rfl)
abbrev rm_X6_append : Room := { frames := 6, cells := 1, slots := 6, locals := 82 }
set_option maxRecDepth 100000 in
set_option maxHeartbeats 4000000 in
theorem tX6_append {l : Launch} {G : zG} (hst : l.stackTraces = false) {h : zH} {a0 : Nat} {a1 : Int32} {r : (Int32 ⊕ String) × zH} (hf : fX6_append h a0 a1 = some r) : zMet l G yX6_append (.code yX6_append cX6_append 2 (some .int)) rm_X6_append 1 6 [.ref a0, .int a1] h (zoxi r) := by
  unfold fX6_append at hf
  obtain ⟨-, hf⟩ := zck hf
  refine z_enter (by decide) (Nat.le_of_ble_eq_true rfl) hst (fun x hx B hE => ?_)
  subst hx
  have B : zB G x cX6_append 2 RX6 "append" rm_X6_append (some .int) := B
  show zV G x 2 (zQ G x (zoxi r) 1 6) h 0 0 0 [(0, .ref a0), (1, .int a1)] []
  refine z_iload_n B dX6_append_0 rfl 1 rfl ?_
  rcases zite hf with ⟨c1, hf⟩ | ⟨c1, hf⟩
  · refine z_if_lt B 11 dX6_append_1 (by decide) (fun _ => ?_) (fun e => absurd c1 e)
    cases hf
    exact z_throw B hE rfl th_RX6_67_71 sl_69 dX6_append_11 dX6_append_14 dX6_append_15 dX6_append_17 dX6_append_20 (Nat.le_of_ble_eq_true rfl) (Nat.le_of_ble_eq_true rfl) (Nat.le_of_ble_eq_true rfl) (Nat.le_of_ble_eq_true rfl) (Nat.le_of_ble_eq_true rfl) (Nat.le_of_ble_eq_true rfl)
  refine z_if_lt B 11 dX6_append_1 (by decide) (fun e => absurd e c1) (fun _ => ?_)
  refine z_iload_n B dX6_append_4 rfl 1 rfl ?_
  refine z_sipush (v := 255) B dX6_append_5 (by decide) ?_
  rcases zite hf with ⟨c2, hf⟩ | ⟨c2, hf⟩
  · refine z_icmp_le B 21 dX6_append_8 (by decide) (fun _ => ?_) (fun e => absurd c2 e)
    refine z_aload_n B dX6_append_21 rfl 0 rfl ?_
    obtain ⟨w3, ew3, hf⟩ := zbs hf
    refine z_gP B fl_RX6_10 ew3 rfl dX6_append_22 ?_
    obtain ⟨w4, h5, ew4, hf⟩ := zb2s hf
    refine z_callVi B [] [] cw_X4_isFull mv_RX6_74 (tX4_isFull hst ew4) rfl (by decide) (kfX4_isFull ew4) ⟨rfl, rfl, (Nat.le_of_ble_eq_true rfl), (Nat.le_of_ble_eq_true rfl), (Nat.le_of_ble_eq_true rfl), (Nat.le_of_ble_eq_true rfl)⟩ rfl rfl (Nat.le_of_ble_eq_true rfl) dX6_append_25 ?_
    rcases zite hf with ⟨c6, hf⟩ | ⟨c6, hf⟩
    · refine z_if_eq B 41 dX6_append_28 (by decide) (fun _ => ?_) (fun e => absurd c6 e)
      refine z_aload_n B dX6_append_41 rfl 0 rfl ?_
      obtain ⟨w7, ew7, hf⟩ := zbs hf
      refine z_gP B fl_RX6_10 ew7 rfl dX6_append_42 ?_
      refine z_iload_n B dX6_append_45 rfl 1 rfl ?_
      obtain ⟨h8, eh8, hf⟩ := zbs hf
      refine z_callVv B [.int a1] [] cw_X4_addSign mv_RX6_83 (tX4_addSign hst eh8) rfl (by decide) (kfX4_addSign eh8) ⟨rfl, rfl, (Nat.le_of_ble_eq_true rfl), (Nat.le_of_ble_eq_true rfl), (Nat.le_of_ble_eq_true rfl), (Nat.le_of_ble_eq_true rfl)⟩ rfl rfl (Nat.le_of_ble_eq_true rfl) dX6_append_46 ?_
      refine z_aload_n B dX6_append_49 rfl 0 rfl ?_
      obtain ⟨w9, ew9, hf⟩ := zbs hf
      refine z_gP B fl_RX6_10 ew9 rfl dX6_append_50 ?_
      obtain ⟨w10, ew10, hf⟩ := zbs hf
      refine z_gI B fl_RX6_87 ew10 rfl dX6_append_53 ?_
      cases hf
      exact z_iret B dX6_append_56 (Nat.le_of_ble_eq_true rfl) (Nat.le_of_ble_eq_true rfl)
    refine z_if_eq B 41 dX6_append_28 (by decide) (fun e => absurd e c6) (fun _ => ?_)
    cases hf
    exact z_throw B hE rfl th_RX6_78_82 sl_80 dX6_append_31 dX6_append_34 dX6_append_35 dX6_append_37 dX6_append_40 (Nat.le_of_ble_eq_true rfl) (Nat.le_of_ble_eq_true rfl) (Nat.le_of_ble_eq_true rfl) (Nat.le_of_ble_eq_true rfl) (Nat.le_of_ble_eq_true rfl) (Nat.le_of_ble_eq_true rfl)
  refine z_icmp_le B 21 dX6_append_8 (by decide) (fun e => absurd e c2) (fun _ => ?_)
  cases hf
  exact z_throw B hE rfl th_RX6_67_71 sl_69 dX6_append_11 dX6_append_14 dX6_append_15 dX6_append_17 dX6_append_20 (Nat.le_of_ble_eq_true rfl) (Nat.le_of_ble_eq_true rfl) (Nat.le_of_ble_eq_true rfl) (Nat.le_of_ble_eq_true rfl) (Nat.le_of_ble_eq_true rfl) (Nat.le_of_ble_eq_true rfl)
abbrev rm_X6_clearText : Room := { frames := 0, cells := 0, slots := 0, locals := 0 }
set_option maxRecDepth 100000 in
set_option maxHeartbeats 4000000 in
theorem tX6_clearText {l : Launch} {G : zG} (hst : l.stackTraces = false) {h : zH} {a0 : Nat} {r : Int32 × zH} (hf : fX6_clearText h a0 = some r) : zMet l G yX6_clearText (.code yX6_clearText cX6_clearText 2 (some .int)) rm_X6_clearText 0 0 [.ref a0] h (zoi r) := by
  unfold fX6_clearText at hf
  obtain ⟨-, hf⟩ := zck hf
  refine z_enter (by decide) (Nat.le_of_ble_eq_true rfl) hst (fun x hx B hE => ?_)
  subst hx
  have B : zB G x cX6_clearText 2 RX6 "clearText" rm_X6_clearText (some .int) := B
  show zV G x 2 (zQ G x (zoi r) 0 0) h 0 0 0 [(0, .ref a0)] []
  refine z_aload_n B dX6_clearText_0 rfl 0 rfl ?_
  obtain ⟨w1, ew1, hf⟩ := zbs hf
  refine z_gP B fl_RX6_10 ew1 rfl dX6_clearText_1 ?_
  obtain ⟨w2, ew2, hf⟩ := zbs hf
  refine z_gI B fl_RX6_87 ew2 rfl dX6_clearText_4 ?_
  refine z_istore_n (lv' := [(1, .int w2), (0, .ref a0)]) B dX6_clearText_7 rfl (by decide) rfl ?_
  refine z_aload_n B dX6_clearText_8 rfl 1 rfl ?_
  obtain ⟨w3, ew3, hf⟩ := zbs hf
  refine z_gP B fl_RX6_10 ew3 rfl dX6_clearText_9 ?_
  refine z_iconst (v := 0) B dX6_clearText_12 (by decide) ?_
  obtain ⟨h4, eh4, hf⟩ := zbs hf
  refine z_pI B fl_RX6_87 eh4 rfl dX6_clearText_13 ?_
  refine z_iload_n B dX6_clearText_16 rfl 0 rfl ?_
  cases hf
  exact z_iret B dX6_clearText_17 (Nat.le_of_ble_eq_true rfl) (Nat.le_of_ble_eq_true rfl)
abbrev rm_X4_shownSign : Room := { frames := 0, cells := 0, slots := 0, locals := 0 }
set_option maxRecDepth 100000 in
set_option maxHeartbeats 4000000 in
theorem tX4_shownSign {l : Launch} {G : zG} (hst : l.stackTraces = false) {h : zH} {a0 : Nat} {r : Int32 × zH} (hf : fX4_shownSign h a0 = some r) : zMet l G yX4_shownSign (.code yX4_shownSign cX4_shownSign 1 (some .int)) rm_X4_shownSign 0 0 [.ref a0] h (zoi r) := by
  unfold fX4_shownSign at hf
  obtain ⟨-, hf⟩ := zck hf
  refine z_enter (by decide) (Nat.le_of_ble_eq_true rfl) hst (fun x hx B hE => ?_)
  subst hx
  have B : zB G x cX4_shownSign 1 RX4 "shownSign" rm_X4_shownSign (some .int) := B
  show zV G x 1 (zQ G x (zoi r) 0 0) h 0 0 0 [(0, .ref a0)] []
  refine z_aload_n B dX4_shownSign_0 rfl 0 rfl ?_
  obtain ⟨w1, ew1, hf⟩ := zbs hf
  refine z_gI B fl_RX4_23 ew1 rfl dX4_shownSign_1 ?_
  rcases zite hf with ⟨c2, hf⟩ | ⟨c2, hf⟩
  · refine z_if_lt B 40 dX4_shownSign_4 (by decide) (fun _ => ?_) (fun e => absurd c2 e)
    refine z_iconst (v := (-1)) B dX4_shownSign_40 (by decide) ?_
    cases hf
    exact z_iret B dX4_shownSign_41 (Nat.le_of_ble_eq_true rfl) (Nat.le_of_ble_eq_true rfl)
  refine z_if_lt B 40 dX4_shownSign_4 (by decide) (fun e => absurd e c2) (fun _ => ?_)
  refine z_aload_n B dX4_shownSign_7 rfl 0 rfl ?_
  obtain ⟨w3, ew3, hf⟩ := zbs hf
  refine z_gI B fl_RX4_23 ew3 rfl dX4_shownSign_8 ?_
  refine z_aload_n B dX4_shownSign_11 rfl 0 rfl ?_
  obtain ⟨w4, ew4, hf⟩ := zbs hf
  refine z_gI B fl_RX4_15 ew4 rfl dX4_shownSign_12 ?_
  rcases zite hf with ⟨c5, hf⟩ | ⟨c5, hf⟩
  · refine z_icmp_ge B 40 dX4_shownSign_15 (by decide) (fun _ => ?_) (fun e => absurd c5 e)
    refine z_iconst (v := (-1)) B dX4_shownSign_40 (by decide) ?_
    cases hf
    exact z_iret B dX4_shownSign_41 (Nat.le_of_ble_eq_true rfl) (Nat.le_of_ble_eq_true rfl)
  refine z_icmp_ge B 40 dX4_shownSign_15 (by decide) (fun e => absurd e c5) (fun _ => ?_)
  refine z_aload_n B dX4_shownSign_18 rfl 0 rfl ?_
  obtain ⟨w6, ew6, hf⟩ := zbs hf
  refine z_gI B fl_RX4_23 ew6 rfl dX4_shownSign_19 ?_
  refine z_sipush (v := 160) B dX4_shownSign_22 (by decide) ?_
  rcases zite hf with ⟨c7, hf⟩ | ⟨c7, hf⟩
  · refine z_icmp_ge B 40 dX4_shownSign_25 (by decide) (fun _ => ?_) (fun e => absurd c7 e)
    refine z_iconst (v := (-1)) B dX4_shownSign_40 (by decide) ?_
    cases hf
    exact z_iret B dX4_shownSign_41 (Nat.le_of_ble_eq_true rfl) (Nat.le_of_ble_eq_true rfl)
  refine z_icmp_ge B 40 dX4_shownSign_25 (by decide) (fun e => absurd e c7) (fun _ => ?_)
  refine z_aload_n B dX4_shownSign_28 rfl 0 rfl ?_
  obtain ⟨w8, ew8, hf⟩ := zbs hf
  refine z_gP B fl_RX4_9 ew8 rfl dX4_shownSign_29 ?_
  refine z_aload_n B dX4_shownSign_32 rfl 0 rfl ?_
  obtain ⟨w9, ew9, hf⟩ := zbs hf
  refine z_gI B fl_RX4_23 ew9 rfl dX4_shownSign_33 ?_
  obtain ⟨w10, ew10, hf⟩ := zbs hf
  refine z_aI B ew10 dX4_shownSign_36 ?_
  refine z_goto B 41 dX4_shownSign_37 (by decide) ?_
  cases hf
  exact z_iret B dX4_shownSign_41 (Nat.le_of_ble_eq_true rfl) (Nat.le_of_ble_eq_true rfl)
abbrev rm_X4_readSign : Room := { frames := 1, cells := 0, slots := 0, locals := 20 }
set_option maxRecDepth 100000 in
set_option maxHeartbeats 4000000 in
theorem tX4_readSign {l : Launch} {G : zG} (hst : l.stackTraces = false) {h : zH} {a0 : Nat} {a1 : Int32} {r : Int32 × zH} (hf : fX4_readSign h a0 a1 = some r) : zMet l G yX4_readSign (.code yX4_readSign cX4_readSign 2 (some .boolean)) rm_X4_readSign 0 0 [.ref a0, .int a1] h (zoi r) := by
  unfold fX4_readSign at hf
  obtain ⟨-, hf⟩ := zck hf
  refine z_enter (by decide) (Nat.le_of_ble_eq_true rfl) hst (fun x hx B hE => ?_)
  subst hx
  have B : zB G x cX4_readSign 2 RX4 "readSign" rm_X4_readSign (some .boolean) := B
  show zV G x 2 (zQ G x (zoi r) 0 0) h 0 0 0 [(0, .ref a0), (1, .int a1)] []
  refine z_aload_n B dX4_readSign_0 rfl 0 rfl ?_
  obtain ⟨w1, h2, ew1, hf⟩ := zb2s hf
  refine z_callVi B [] [] cw_X4_shownSign mv_RX4_30 (tX4_shownSign hst ew1) rfl (by decide) (kfX4_shownSign ew1) ⟨rfl, rfl, (Nat.le_of_ble_eq_true rfl), (Nat.le_of_ble_eq_true rfl), (Nat.le_of_ble_eq_true rfl), (Nat.le_of_ble_eq_true rfl)⟩ rfl rfl (Nat.le_of_ble_eq_true rfl) dX4_readSign_1 ?_
  refine z_iload_n B dX4_readSign_4 rfl 1 rfl ?_
  rcases zite hf with ⟨c3, hf⟩ | ⟨c3, hf⟩
  · refine z_icmp_eq B 10 dX4_readSign_5 (by decide) (fun _ => ?_) (fun e => absurd c3 e)
    refine z_aload_n B dX4_readSign_10 rfl 0 rfl ?_
    refine z_dup B dX4_readSign_11 rfl ?_
    obtain ⟨w4, ew4, hf⟩ := zbs hf
    refine z_gI B fl_RX4_23 ew4 rfl dX4_readSign_12 ?_
    refine z_iconst (v := 1) B dX4_readSign_15 (by decide) ?_
    refine z_iadd B dX4_readSign_16 ?_
    obtain ⟨h5, eh5, hf⟩ := zbs hf
    refine z_pI B fl_RX4_23 eh5 rfl dX4_readSign_17 ?_
    refine z_iconst (v := 1) B dX4_readSign_20 (by decide) ?_
    cases hf
    exact z_zret B dX4_readSign_21 (Or.inr rfl) (Nat.le_of_ble_eq_true rfl) (Nat.le_of_ble_eq_true rfl)
  refine z_icmp_eq B 10 dX4_readSign_5 (by decide) (fun e => absurd e c3) (fun _ => ?_)
  refine z_iconst (v := 0) B dX4_readSign_8 (by decide) ?_
  cases hf
  exact z_zret B dX4_readSign_9 (Or.inl rfl) (Nat.le_of_ble_eq_true rfl) (Nat.le_of_ble_eq_true rfl)
abbrev rm_X4_shownDigit : Room := { frames := 1, cells := 0, slots := 0, locals := 20 }
set_option maxRecDepth 100000 in
set_option maxHeartbeats 4000000 in
theorem tX4_shownDigit {l : Launch} {G : zG} (hst : l.stackTraces = false) {h : zH} {a0 : Nat} {r : Int32 × zH} (hf : fX4_shownDigit h a0 = some r) : zMet l G yX4_shownDigit (.code yX4_shownDigit cX4_shownDigit 2 (some .int)) rm_X4_shownDigit 0 0 [.ref a0] h (zoi r) := by
  unfold fX4_shownDigit at hf
  obtain ⟨-, hf⟩ := zck hf
  refine z_enter (by decide) (Nat.le_of_ble_eq_true rfl) hst (fun x hx B hE => ?_)
  subst hx
  have B : zB G x cX4_shownDigit 2 RX4 "shownDigit" rm_X4_shownDigit (some .int) := B
  show zV G x 2 (zQ G x (zoi r) 0 0) h 0 0 0 [(0, .ref a0)] []
  refine z_aload_n B dX4_shownDigit_0 rfl 0 rfl ?_
  obtain ⟨w1, h2, ew1, hf⟩ := zb2s hf
  refine z_callVi B [] [] cw_X4_shownSign mv_RX4_30 (tX4_shownSign hst ew1) rfl (by decide) (kfX4_shownSign ew1) ⟨rfl, rfl, (Nat.le_of_ble_eq_true rfl), (Nat.le_of_ble_eq_true rfl), (Nat.le_of_ble_eq_true rfl), (Nat.le_of_ble_eq_true rfl)⟩ rfl rfl (Nat.le_of_ble_eq_true rfl) dX4_shownDigit_1 ?_
  refine z_istore_n (lv' := [(1, .int w1), (0, .ref a0)]) B dX4_shownDigit_4 rfl (by decide) rfl ?_
  refine z_iload_n B dX4_shownDigit_5 rfl 0 rfl ?_
  refine z_bipush (v := 48) B dX4_shownDigit_6 (by decide) ?_
  rcases zite hf with ⟨c3, hf⟩ | ⟨c3, hf⟩
  · refine z_icmp_lt B 24 dX4_shownDigit_8 (by decide) (fun _ => ?_) (fun e => absurd c3 e)
    refine z_iconst (v := (-1)) B dX4_shownDigit_24 (by decide) ?_
    cases hf
    exact z_iret B dX4_shownDigit_25 (Nat.le_of_ble_eq_true rfl) (Nat.le_of_ble_eq_true rfl)
  refine z_icmp_lt B 24 dX4_shownDigit_8 (by decide) (fun e => absurd e c3) (fun _ => ?_)
  refine z_iload_n B dX4_shownDigit_11 rfl 0 rfl ?_
  refine z_bipush (v := 57) B dX4_shownDigit_12 (by decide) ?_
  rcases zite hf with ⟨c4, hf⟩ | ⟨c4, hf⟩
  · refine z_icmp_gt B 24 dX4_shownDigit_14 (by decide) (fun _ => ?_) (fun e => absurd c4 e)
    refine z_iconst (v := (-1)) B dX4_shownDigit_24 (by decide) ?_
    cases hf
    exact z_iret B dX4_shownDigit_25 (Nat.le_of_ble_eq_true rfl) (Nat.le_of_ble_eq_true rfl)
  refine z_icmp_gt B 24 dX4_shownDigit_14 (by decide) (fun e => absurd e c4) (fun _ => ?_)
  refine z_iload_n B dX4_shownDigit_17 rfl 0 rfl ?_
  refine z_bipush (v := 48) B dX4_shownDigit_18 (by decide) ?_
  refine z_isub B dX4_shownDigit_20 ?_
  refine z_goto B 25 dX4_shownDigit_21 (by decide) ?_
  cases hf
  exact z_iret B dX4_shownDigit_25 (Nat.le_of_ble_eq_true rfl) (Nat.le_of_ble_eq_true rfl)
abbrev rm_X4_readDigit : Room := { frames := 2, cells := 0, slots := 0, locals := 41 }
set_option maxRecDepth 100000 in
set_option maxHeartbeats 4000000 in
theorem tX4_readDigit {l : Launch} {G : zG} (hst : l.stackTraces = false) {h : zH} {a0 : Nat} {a1 : Int32} {a2 : Int32} {r : Int32 × zH} (hf : fX4_readDigit h a0 a1 a2 = some r) : zMet l G yX4_readDigit (.code yX4_readDigit cX4_readDigit 4 (some .int)) rm_X4_readDigit 0 0 [.ref a0, .int a1, .int a2] h (zoi r) := by
  unfold fX4_readDigit at hf
  obtain ⟨-, hf⟩ := zck hf
  refine z_enter (by decide) (Nat.le_of_ble_eq_true rfl) hst (fun x hx B hE => ?_)
  subst hx
  have B : zB G x cX4_readDigit 4 RX4 "readDigit" rm_X4_readDigit (some .int) := B
  show zV G x 4 (zQ G x (zoi r) 0 0) h 0 0 0 [(0, .ref a0), (1, .int a1), (2, .int a2)] []
  refine z_aload_n B dX4_readDigit_0 rfl 0 rfl ?_
  obtain ⟨w1, h2, ew1, hf⟩ := zb2s hf
  refine z_callVi B [] [] cw_X4_shownDigit mv_RX4_61 (tX4_shownDigit hst ew1) rfl (by decide) (kfX4_shownDigit ew1) ⟨rfl, rfl, (Nat.le_of_ble_eq_true rfl), (Nat.le_of_ble_eq_true rfl), (Nat.le_of_ble_eq_true rfl), (Nat.le_of_ble_eq_true rfl)⟩ rfl rfl (Nat.le_of_ble_eq_true rfl) dX4_readDigit_1 ?_
  refine z_istore_n (lv' := [(3, .int w1), (0, .ref a0), (1, .int a1), (2, .int a2)]) B dX4_readDigit_4 rfl (by decide) rfl ?_
  refine z_iload_n B dX4_readDigit_5 rfl 0 rfl ?_
  refine z_iconst (v := (-1)) B dX4_readDigit_6 (by decide) ?_
  rcases zite hf with ⟨c3, hf⟩ | ⟨c3, hf⟩
  · refine z_icmp_eq B 20 dX4_readDigit_7 (by decide) (fun _ => ?_) (fun e => absurd c3 e)
    refine z_iconst (v := (-1)) B dX4_readDigit_20 (by decide) ?_
    cases hf
    exact z_iret B dX4_readDigit_21 (Nat.le_of_ble_eq_true rfl) (Nat.le_of_ble_eq_true rfl)
  refine z_icmp_eq B 20 dX4_readDigit_7 (by decide) (fun e => absurd e c3) (fun _ => ?_)
  refine z_iload_n B dX4_readDigit_10 rfl 0 rfl ?_
  refine z_iload_n B dX4_readDigit_11 rfl 2 rfl ?_
  rcases zite hf with ⟨c4, hf⟩ | ⟨c4, hf⟩
  · refine z_icmp_lt B 20 dX4_readDigit_12 (by decide) (fun _ => ?_) (fun e => absurd c4 e)
    refine z_iconst (v := (-1)) B dX4_readDigit_20 (by decide) ?_
    cases hf
    exact z_iret B dX4_readDigit_21 (Nat.le_of_ble_eq_true rfl) (Nat.le_of_ble_eq_true rfl)
  refine z_icmp_lt B 20 dX4_readDigit_12 (by decide) (fun e => absurd e c4) (fun _ => ?_)
  refine z_iload_n B dX4_readDigit_15 rfl 0 rfl ?_
  refine z_iload_n B dX4_readDigit_16 rfl 3 rfl ?_
  rcases zite hf with ⟨c5, hf⟩ | ⟨c5, hf⟩
  · refine z_icmp_le B 22 dX4_readDigit_17 (by decide) (fun _ => ?_) (fun e => absurd c5 e)
    refine z_aload_n B dX4_readDigit_22 rfl 1 rfl ?_
    refine z_dup B dX4_readDigit_23 rfl ?_
    obtain ⟨w6, ew6, hf⟩ := zbs hf
    refine z_gI B fl_RX4_23 ew6 rfl dX4_readDigit_24 ?_
    refine z_iconst (v := 1) B dX4_readDigit_27 (by decide) ?_
    refine z_iadd B dX4_readDigit_28 ?_
    obtain ⟨h7, eh7, hf⟩ := zbs hf
    refine z_pI B fl_RX4_23 eh7 rfl dX4_readDigit_29 ?_
    refine z_iload_n B dX4_readDigit_32 rfl 0 rfl ?_
    cases hf
    exact z_iret B dX4_readDigit_33 (Nat.le_of_ble_eq_true rfl) (Nat.le_of_ble_eq_true rfl)
  refine z_icmp_le B 22 dX4_readDigit_17 (by decide) (fun e => absurd e c5) (fun _ => ?_)
  refine z_iconst (v := (-1)) B dX4_readDigit_20 (by decide) ?_
  cases hf
  exact z_iret B dX4_readDigit_21 (Nat.le_of_ble_eq_true rfl) (Nat.le_of_ble_eq_true rfl)
abbrev rm_X4_readNumber : Room := { frames := 3, cells := 0, slots := 0, locals := 64 }
set_option maxRecDepth 100000 in
set_option maxHeartbeats 4000000 in
theorem fX4_readNumber_L4_ok {G : zG} {x : zX} (B : zB G x cX4_readNumber 6 RX4 "readNumber" rm_X4_readNumber (some .int)) (hst : (zl x).stackTraces = false) (hE : ∀ e ∈ (zc x).exceptionTable.toList, False) {r : Int32 × zH} {k : zH → Int32 → Int32 → Option (Int32 × zH)} {u0 : Nat} {u1 : Int32} (hk : ∀ h v2 v3, k h v2 v3 = some r → zV G x 6 (zQ G x (zoi r) 0 0) h 0 0 67 [(0, .ref u0), (1, .int u1), (2, .int v2), (3, .int v3)] []) : ∀ n h v2 v3, fX4_readNumber_L4 k u0 u1 n h v2 v3 = some r → zV G x 6 (zQ G x (zoi r) 0 0) h 0 0 4 [(0, .ref u0), (1, .int u1), (2, .int v2), (3, .int v3)] [] := by
  intro n
  induction n with
  | zero =>
    intro h v2 v3 hf
    have hf : (none : Option (Int32 × zH)) = some r := hf
    cases hf
  | succ n ih =>
    intro h v2 v3 hf
    rw [fX4_readNumber_L4] at hf
    refine z_iload_n B dX4_readNumber_4 rfl 3 rfl ?_
    refine z_iload_n B dX4_readNumber_5 rfl 1 rfl ?_
    rcases zite hf with ⟨c1, hf⟩ | ⟨c1, hf⟩
    · refine z_icmp_ge B 67 dX4_readNumber_6 (by decide) (fun _ => ?_) (fun e => absurd c1 e)
      exact hk _ _ _ hf
    refine z_icmp_ge B 67 dX4_readNumber_6 (by decide) (fun e => absurd e c1) (fun _ => ?_)
    refine z_iload_n B dX4_readNumber_9 rfl 3 rfl ?_
    refine z_iload_n B dX4_readNumber_10 rfl 1 rfl ?_
    refine z_iconst (v := 1) B dX4_readNumber_11 (by decide) ?_
    refine z_isub B dX4_readNumber_12 ?_
    rcases zite hf with ⟨c2, hf⟩ | ⟨c2, hf⟩
    · refine z_icmp_ne B 24 dX4_readNumber_13 (by decide) (fun e => absurd c2 e) (fun _ => ?_)
      refine z_iload_n B dX4_readNumber_16 rfl 2 rfl ?_
      rcases zite hf with ⟨c3, hf⟩ | ⟨c3, hf⟩
      · refine z_if_ne B 24 dX4_readNumber_17 (by decide) (fun e => absurd c3 e) (fun _ => ?_)
        refine z_iconst (v := 1) B dX4_readNumber_20 (by decide) ?_
        refine z_goto B 25 dX4_readNumber_21 (by decide) ?_
        refine z_istore (lv' := [(4, .int 1), (0, .ref u0), (1, .int u1), (2, .int v2), (3, .int v3)]) B dX4_readNumber_25 (by decide) rfl ?_
        refine z_aload_n B dX4_readNumber_27 rfl 1 rfl ?_
        refine z_iload B dX4_readNumber_28 0 rfl ?_
        refine z_if_eq B 37 dX4_readNumber_30 (by decide) (fun e => absurd e (by decide)) (fun _ => ?_)
        refine z_iconst (v := 1) B dX4_readNumber_33 (by decide) ?_
        refine z_goto B 38 dX4_readNumber_34 (by decide) ?_
        refine z_bipush (v := 9) B dX4_readNumber_38 (by decide) ?_
        obtain ⟨w4, h5, ew4, hf⟩ := zb2s hf
        refine z_callVi B [.int 1, .int 9] [] cw_X4_readDigit mv_RX4_44 (tX4_readDigit hst ew4) rfl (by decide) (kfX4_readDigit ew4) ⟨rfl, rfl, (Nat.le_of_ble_eq_true rfl), (Nat.le_of_ble_eq_true rfl), (Nat.le_of_ble_eq_true rfl), (Nat.le_of_ble_eq_true rfl)⟩ rfl rfl (Nat.le_of_ble_eq_true rfl) dX4_readNumber_40 ?_
        refine z_istore (lv' := [(5, .int w4), (4, .int 1), (0, .ref u0), (1, .int u1), (2, .int v2), (3, .int v3)]) B dX4_readNumber_43 (by decide) rfl ?_
        refine z_iload B dX4_readNumber_45 0 rfl ?_
        refine z_iconst (v := (-1)) B dX4_readNumber_47 (by decide) ?_
        rcases zite hf with ⟨c6, hf⟩ | ⟨c6, hf⟩
        · refine z_icmp_ne B 53 dX4_readNumber_48 (by decide) (fun e => absurd c6 e) (fun _ => ?_)
          refine z_iconst (v := (-1)) B dX4_readNumber_51 (by decide) ?_
          cases hf
          exact z_iret B dX4_readNumber_52 (Nat.le_of_ble_eq_true rfl) (Nat.le_of_ble_eq_true rfl)
        refine z_icmp_ne B 53 dX4_readNumber_48 (by decide) (fun _ => ?_) (fun e => absurd e c6)
        refine z_iload_n B dX4_readNumber_53 rfl 4 rfl ?_
        refine z_bipush (v := 10) B dX4_readNumber_54 (by decide) ?_
        refine z_imul B dX4_readNumber_56 ?_
        refine z_iload B dX4_readNumber_57 0 rfl ?_
        refine z_iadd B dX4_readNumber_59 ?_
        refine z_istore_n (lv' := [(2, .int ((((v2 : Int32) * 10) : Int32) + w4)), (5, .int w4), (4, .int 1), (0, .ref u0), (1, .int u1), (3, .int v3)]) B dX4_readNumber_60 rfl (by decide) rfl ?_
        refine z_iinc (v' := (v3 + 1)) (lv' := [(3, .int (v3 + 1)), (2, .int ((((v2 : Int32) * 10) : Int32) + w4)), (5, .int w4), (4, .int 1), (0, .ref u0), (1, .int u1)]) B dX4_readNumber_61 5 rfl rfl (by decide) rfl ?_
        refine z_goto B 4 dX4_readNumber_64 (by decide) ?_
        refine zV.sub [4, 5, 1, 0] rfl ?_
        exact ih _ _ _ hf
      refine z_if_ne B 24 dX4_readNumber_17 (by decide) (fun _ => ?_) (fun e => absurd e c3)
      refine z_iconst (v := 0) B dX4_readNumber_24 (by decide) ?_
      refine z_istore (lv' := [(4, .int 0), (0, .ref u0), (1, .int u1), (2, .int v2), (3, .int v3)]) B dX4_readNumber_25 (by decide) rfl ?_
      refine z_aload_n B dX4_readNumber_27 rfl 1 rfl ?_
      refine z_iload B dX4_readNumber_28 0 rfl ?_
      refine z_if_eq B 37 dX4_readNumber_30 (by decide) (fun _ => ?_) (fun e => absurd e (by decide))
      refine z_iconst (v := 0) B dX4_readNumber_37 (by decide) ?_
      refine z_bipush (v := 9) B dX4_readNumber_38 (by decide) ?_
      obtain ⟨w7, h8, ew7, hf⟩ := zb2s hf
      refine z_callVi B [.int 0, .int 9] [] cw_X4_readDigit mv_RX4_44 (tX4_readDigit hst ew7) rfl (by decide) (kfX4_readDigit ew7) ⟨rfl, rfl, (Nat.le_of_ble_eq_true rfl), (Nat.le_of_ble_eq_true rfl), (Nat.le_of_ble_eq_true rfl), (Nat.le_of_ble_eq_true rfl)⟩ rfl rfl (Nat.le_of_ble_eq_true rfl) dX4_readNumber_40 ?_
      refine z_istore (lv' := [(5, .int w7), (4, .int 0), (0, .ref u0), (1, .int u1), (2, .int v2), (3, .int v3)]) B dX4_readNumber_43 (by decide) rfl ?_
      refine z_iload B dX4_readNumber_45 0 rfl ?_
      refine z_iconst (v := (-1)) B dX4_readNumber_47 (by decide) ?_
      rcases zite hf with ⟨c9, hf⟩ | ⟨c9, hf⟩
      · refine z_icmp_ne B 53 dX4_readNumber_48 (by decide) (fun e => absurd c9 e) (fun _ => ?_)
        refine z_iconst (v := (-1)) B dX4_readNumber_51 (by decide) ?_
        cases hf
        exact z_iret B dX4_readNumber_52 (Nat.le_of_ble_eq_true rfl) (Nat.le_of_ble_eq_true rfl)
      refine z_icmp_ne B 53 dX4_readNumber_48 (by decide) (fun _ => ?_) (fun e => absurd e c9)
      refine z_iload_n B dX4_readNumber_53 rfl 4 rfl ?_
      refine z_bipush (v := 10) B dX4_readNumber_54 (by decide) ?_
      refine z_imul B dX4_readNumber_56 ?_
      refine z_iload B dX4_readNumber_57 0 rfl ?_
      refine z_iadd B dX4_readNumber_59 ?_
      refine z_istore_n (lv' := [(2, .int ((((v2 : Int32) * 10) : Int32) + w7)), (5, .int w7), (4, .int 0), (0, .ref u0), (1, .int u1), (3, .int v3)]) B dX4_readNumber_60 rfl (by decide) rfl ?_
      refine z_iinc (v' := (v3 + 1)) (lv' := [(3, .int (v3 + 1)), (2, .int ((((v2 : Int32) * 10) : Int32) + w7)), (5, .int w7), (4, .int 0), (0, .ref u0), (1, .int u1)]) B dX4_readNumber_61 5 rfl rfl (by decide) rfl ?_
      refine z_goto B 4 dX4_readNumber_64 (by decide) ?_
      refine zV.sub [4, 5, 1, 0] rfl ?_
      exact ih _ _ _ hf
    refine z_icmp_ne B 24 dX4_readNumber_13 (by decide) (fun _ => ?_) (fun e => absurd e c2)
    refine z_iconst (v := 0) B dX4_readNumber_24 (by decide) ?_
    refine z_istore (lv' := [(4, .int 0), (0, .ref u0), (1, .int u1), (2, .int v2), (3, .int v3)]) B dX4_readNumber_25 (by decide) rfl ?_
    refine z_aload_n B dX4_readNumber_27 rfl 1 rfl ?_
    refine z_iload B dX4_readNumber_28 0 rfl ?_
    refine z_if_eq B 37 dX4_readNumber_30 (by decide) (fun _ => ?_) (fun e => absurd e (by decide))
    refine z_iconst (v := 0) B dX4_readNumber_37 (by decide) ?_
    refine z_bipush (v := 9) B dX4_readNumber_38 (by decide) ?_
    obtain ⟨w10, h11, ew10, hf⟩ := zb2s hf
    refine z_callVi B [.int 0, .int 9] [] cw_X4_readDigit mv_RX4_44 (tX4_readDigit hst ew10) rfl (by decide) (kfX4_readDigit ew10) ⟨rfl, rfl, (Nat.le_of_ble_eq_true rfl), (Nat.le_of_ble_eq_true rfl), (Nat.le_of_ble_eq_true rfl), (Nat.le_of_ble_eq_true rfl)⟩ rfl rfl (Nat.le_of_ble_eq_true rfl) dX4_readNumber_40 ?_
    refine z_istore (lv' := [(5, .int w10), (4, .int 0), (0, .ref u0), (1, .int u1), (2, .int v2), (3, .int v3)]) B dX4_readNumber_43 (by decide) rfl ?_
    refine z_iload B dX4_readNumber_45 0 rfl ?_
    refine z_iconst (v := (-1)) B dX4_readNumber_47 (by decide) ?_
    rcases zite hf with ⟨c12, hf⟩ | ⟨c12, hf⟩
    · refine z_icmp_ne B 53 dX4_readNumber_48 (by decide) (fun e => absurd c12 e) (fun _ => ?_)
      refine z_iconst (v := (-1)) B dX4_readNumber_51 (by decide) ?_
      cases hf
      exact z_iret B dX4_readNumber_52 (Nat.le_of_ble_eq_true rfl) (Nat.le_of_ble_eq_true rfl)
    refine z_icmp_ne B 53 dX4_readNumber_48 (by decide) (fun _ => ?_) (fun e => absurd e c12)
    refine z_iload_n B dX4_readNumber_53 rfl 4 rfl ?_
    refine z_bipush (v := 10) B dX4_readNumber_54 (by decide) ?_
    refine z_imul B dX4_readNumber_56 ?_
    refine z_iload B dX4_readNumber_57 0 rfl ?_
    refine z_iadd B dX4_readNumber_59 ?_
    refine z_istore_n (lv' := [(2, .int ((((v2 : Int32) * 10) : Int32) + w10)), (5, .int w10), (4, .int 0), (0, .ref u0), (1, .int u1), (3, .int v3)]) B dX4_readNumber_60 rfl (by decide) rfl ?_
    refine z_iinc (v' := (v3 + 1)) (lv' := [(3, .int (v3 + 1)), (2, .int ((((v2 : Int32) * 10) : Int32) + w10)), (5, .int w10), (4, .int 0), (0, .ref u0), (1, .int u1)]) B dX4_readNumber_61 5 rfl rfl (by decide) rfl ?_
    refine z_goto B 4 dX4_readNumber_64 (by decide) ?_
    refine zV.sub [4, 5, 1, 0] rfl ?_
    exact ih _ _ _ hf
set_option maxRecDepth 100000 in
set_option maxHeartbeats 4000000 in
theorem tX4_readNumber {l : Launch} {G : zG} (hst : l.stackTraces = false) {h : zH} {a0 : Nat} {a1 : Int32} {r : Int32 × zH} (hf : fX4_readNumber h a0 a1 = some r) : zMet l G yX4_readNumber (.code yX4_readNumber cX4_readNumber 6 (some .int)) rm_X4_readNumber 0 0 [.ref a0, .int a1] h (zoi r) := by
  unfold fX4_readNumber at hf
  obtain ⟨-, hf⟩ := zck hf
  refine z_enter (by decide) (Nat.le_of_ble_eq_true rfl) hst (fun x hx B hE => ?_)
  subst hx
  have B : zB G x cX4_readNumber 6 RX4 "readNumber" rm_X4_readNumber (some .int) := B
  show zV G x 6 (zQ G x (zoi r) 0 0) h 0 0 0 [(0, .ref a0), (1, .int a1)] []
  refine z_iconst (v := 0) B dX4_readNumber_0 (by decide) ?_
  refine z_istore_n (lv' := [(2, .int 0), (0, .ref a0), (1, .int a1)]) B dX4_readNumber_1 rfl (by decide) rfl ?_
  refine z_iconst (v := 0) B dX4_readNumber_2 (by decide) ?_
  refine z_istore_n (lv' := [(3, .int 0), (2, .int 0), (0, .ref a0), (1, .int a1)]) B dX4_readNumber_3 rfl (by decide) rfl ?_
  refine zV.sub [2, 3, 1, 0] rfl ?_
  refine fX4_readNumber_L4_ok B hst hE (fun h1 y2 y3 hf => ?_) _ _ _ _ hf
  refine z_iload_n B dX4_readNumber_67 rfl 2 rfl ?_
  cases hf
  exact z_iret B dX4_readNumber_68 (Nat.le_of_ble_eq_true rfl) (Nat.le_of_ble_eq_true rfl)
abbrev rm_X4_readHead : Room := { frames := 4, cells := 0, slots := 0, locals := 89 }
set_option maxRecDepth 100000 in
set_option maxHeartbeats 4000000 in
theorem tX4_readHead {l : Launch} {G : zG} (hst : l.stackTraces = false) {h : zH} {a0 : Nat} {a1 : Nat} {r : Int32 × zH} (hf : fX4_readHead h a0 a1 = some r) : zMet l G yX4_readHead (.code yX4_readHead cX4_readHead 4 (some .boolean)) rm_X4_readHead 0 0 [.ref a0, .ref a1] h (zoi r) := by
  unfold fX4_readHead at hf
  obtain ⟨-, hf⟩ := zck hf
  refine z_enter (by decide) (Nat.le_of_ble_eq_true rfl) hst (fun x hx B hE => ?_)
  subst hx
  have B : zB G x cX4_readHead 4 RX4 "readHead" rm_X4_readHead (some .boolean) := B
  show zV G x 4 (zQ G x (zoi r) 0 0) h 0 0 0 [(0, .ref a0), (1, .ref a1)] []
  refine z_aload_n B dX4_readHead_0 rfl 0 rfl ?_
  refine z_bipush (v := 75) B dX4_readHead_1 (by decide) ?_
  obtain ⟨w1, h2, ew1, hf⟩ := zb2s hf
  refine z_callVi B [.int 75] [] cw_X4_readSign mv_RX4_40 (tX4_readSign hst ew1) rfl (by decide) (kfX4_readSign ew1) ⟨rfl, rfl, (Nat.le_of_ble_eq_true rfl), (Nat.le_of_ble_eq_true rfl), (Nat.le_of_ble_eq_true rfl), (Nat.le_of_ble_eq_true rfl)⟩ rfl rfl (Nat.le_of_ble_eq_true rfl) dX4_readHead_3 ?_
  rcases zite hf with ⟨c3, hf⟩ | ⟨c3, hf⟩
  · refine z_if_ne B 11 dX4_readHead_6 (by decide) (fun e => absurd c3 e) (fun _ => ?_)
    refine z_iconst (v := 0) B dX4_readHead_9 (by decide) ?_
    cases hf
    exact z_zret B dX4_readHead_10 (Or.inl rfl) (Nat.le_of_ble_eq_true rfl) (Nat.le_of_ble_eq_true rfl)
  refine z_if_ne B 11 dX4_readHead_6 (by decide) (fun _ => ?_) (fun e => absurd e c3)
  refine z_aload_n B dX4_readHead_11 rfl 0 rfl ?_
  refine z_iconst (v := 1) B dX4_readHead_12 (by decide) ?_
  refine z_bipush (v := 8) B dX4_readHead_13 (by decide) ?_
  obtain ⟨w4, h5, ew4, hf⟩ := zb2s hf
  refine z_callVi B [.int 1, .int 8] [] cw_X4_readDigit mv_RX4_44 (tX4_readDigit hst ew4) rfl (by decide) (kfX4_readDigit ew4) ⟨rfl, rfl, (Nat.le_of_ble_eq_true rfl), (Nat.le_of_ble_eq_true rfl), (Nat.le_of_ble_eq_true rfl), (Nat.le_of_ble_eq_true rfl)⟩ rfl rfl (Nat.le_of_ble_eq_true rfl) dX4_readHead_15 ?_
  refine z_istore_n (lv' := [(2, .int w4), (0, .ref a0), (1, .ref a1)]) B dX4_readHead_18 rfl (by decide) rfl ?_
  refine z_iload_n B dX4_readHead_19 rfl 0 rfl ?_
  refine z_iconst (v := (-1)) B dX4_readHead_20 (by decide) ?_
  rcases zite hf with ⟨c6, hf⟩ | ⟨c6, hf⟩
  · refine z_icmp_ne B 26 dX4_readHead_21 (by decide) (fun e => absurd c6 e) (fun _ => ?_)
    refine z_iconst (v := 0) B dX4_readHead_24 (by decide) ?_
    cases hf
    exact z_zret B dX4_readHead_25 (Or.inl rfl) (Nat.le_of_ble_eq_true rfl) (Nat.le_of_ble_eq_true rfl)
  refine z_icmp_ne B 26 dX4_readHead_21 (by decide) (fun _ => ?_) (fun e => absurd e c6)
  refine z_aload_n B dX4_readHead_26 rfl 1 rfl ?_
  refine z_iconst (v := 5) B dX4_readHead_27 (by decide) ?_
  obtain ⟨w7, h8, ew7, hf⟩ := zb2s hf
  refine z_callVi B [.int 5] [] cw_X4_readNumber mv_RX4_48 (tX4_readNumber hst ew7) rfl (by decide) (kfX4_readNumber ew7) ⟨rfl, rfl, (Nat.le_of_ble_eq_true rfl), (Nat.le_of_ble_eq_true rfl), (Nat.le_of_ble_eq_true rfl), (Nat.le_of_ble_eq_true rfl)⟩ rfl rfl (Nat.le_of_ble_eq_true rfl) dX4_readHead_28 ?_
  refine z_istore_n (lv' := [(3, .int w7), (2, .int w4), (0, .ref a0), (1, .ref a1)]) B dX4_readHead_31 rfl (by decide) rfl ?_
  refine z_iload_n B dX4_readHead_32 rfl 0 rfl ?_
  refine z_iconst (v := (-1)) B dX4_readHead_33 (by decide) ?_
  rcases zite hf with ⟨c9, hf⟩ | ⟨c9, hf⟩
  · refine z_icmp_ne B 39 dX4_readHead_34 (by decide) (fun e => absurd c9 e) (fun _ => ?_)
    refine z_iconst (v := 0) B dX4_readHead_37 (by decide) ?_
    cases hf
    exact z_zret B dX4_readHead_38 (Or.inl rfl) (Nat.le_of_ble_eq_true rfl) (Nat.le_of_ble_eq_true rfl)
  refine z_icmp_ne B 39 dX4_readHead_34 (by decide) (fun _ => ?_) (fun e => absurd e c9)
  refine z_aload_n B dX4_readHead_39 rfl 3 rfl ?_
  refine z_iload_n B dX4_readHead_40 rfl 1 rfl ?_
  refine z_iload_n B dX4_readHead_41 rfl 0 rfl ?_
  obtain ⟨h10, eh10, hf⟩ := zbs hf
  refine z_callVv B [.int w4, .int w7] [] cw_X0_begin mv_RX4_52 (tX0_begin hst eh10) rfl (by decide) (kfX0_begin eh10) ⟨rfl, rfl, (Nat.le_of_ble_eq_true rfl), (Nat.le_of_ble_eq_true rfl), (Nat.le_of_ble_eq_true rfl), (Nat.le_of_ble_eq_true rfl)⟩ rfl rfl (Nat.le_of_ble_eq_true rfl) dX4_readHead_42 ?_
  refine z_iconst (v := 1) B dX4_readHead_45 (by decide) ?_
  cases hf
  exact z_zret B dX4_readHead_46 (Or.inr rfl) (Nat.le_of_ble_eq_true rfl) (Nat.le_of_ble_eq_true rfl)
abbrev rm_X0_canAddConversion : Room := { frames := 0, cells := 0, slots := 0, locals := 0 }
set_option maxRecDepth 100000 in
set_option maxHeartbeats 4000000 in
theorem tX0_canAddConversion {l : Launch} {G : zG} (hst : l.stackTraces = false) {h : zH} {a0 : Nat} {r : Int32 × zH} (hf : fX0_canAddConversion h a0 = some r) : zMet l G yX0_canAddConversion (.code yX0_canAddConversion cX0_canAddConversion 1 (some .boolean)) rm_X0_canAddConversion 0 0 [.ref a0] h (zoi r) := by
  unfold fX0_canAddConversion at hf
  obtain ⟨-, hf⟩ := zck hf
  refine z_enter (by decide) (Nat.le_of_ble_eq_true rfl) hst (fun x hx B hE => ?_)
  subst hx
  have B : zB G x cX0_canAddConversion 1 RX0 "canAddConversion" rm_X0_canAddConversion (some .boolean) := B
  show zV G x 1 (zQ G x (zoi r) 0 0) h 0 0 0 [(0, .ref a0)] []
  refine z_aload_n B dX0_canAddConversion_0 rfl 0 rfl ?_
  obtain ⟨w1, ew1, hf⟩ := zbs hf
  refine z_gI B fl_RX0_57 ew1 rfl dX0_canAddConversion_1 ?_
  refine z_bipush (v := 20) B dX0_canAddConversion_4 (by decide) ?_
  rcases zite hf with ⟨c2, hf⟩ | ⟨c2, hf⟩
  · refine z_icmp_ge B 31 dX0_canAddConversion_6 (by decide) (fun _ => ?_) (fun e => absurd c2 e)
    refine z_iconst (v := 0) B dX0_canAddConversion_31 (by decide) ?_
    cases hf
    exact z_zret B dX0_canAddConversion_32 (Or.inl rfl) (Nat.le_of_ble_eq_true rfl) (Nat.le_of_ble_eq_true rfl)
  refine z_icmp_ge B 31 dX0_canAddConversion_6 (by decide) (fun e => absurd e c2) (fun _ => ?_)
  refine z_aload_n B dX0_canAddConversion_9 rfl 0 rfl ?_
  obtain ⟨w3, ew3, hf⟩ := zbs hf
  refine z_gI B fl_RX0_57 ew3 rfl dX0_canAddConversion_10 ?_
  refine z_aload_n B dX0_canAddConversion_13 rfl 0 rfl ?_
  obtain ⟨w4, ew4, hf⟩ := zbs hf
  refine z_gI B fl_RX0_50 ew4 rfl dX0_canAddConversion_14 ?_
  refine z_aload_n B dX0_canAddConversion_17 rfl 0 rfl ?_
  obtain ⟨w5, ew5, hf⟩ := zbs hf
  refine z_gI B fl_RX0_50 ew5 rfl dX0_canAddConversion_18 ?_
  refine z_iconst (v := 1) B dX0_canAddConversion_21 (by decide) ?_
  refine z_isub B dX0_canAddConversion_22 ?_
  refine z_imul B dX0_canAddConversion_23 ?_
  rcases zite hf with ⟨c6, hf⟩ | ⟨c6, hf⟩
  · refine z_icmp_ge B 31 dX0_canAddConversion_24 (by decide) (fun _ => ?_) (fun e => absurd c6 e)
    refine z_iconst (v := 0) B dX0_canAddConversion_31 (by decide) ?_
    cases hf
    exact z_zret B dX0_canAddConversion_32 (Or.inl rfl) (Nat.le_of_ble_eq_true rfl) (Nat.le_of_ble_eq_true rfl)
  refine z_icmp_ge B 31 dX0_canAddConversion_24 (by decide) (fun e => absurd e c6) (fun _ => ?_)
  refine z_iconst (v := 1) B dX0_canAddConversion_27 (by decide) ?_
  refine z_goto B 32 dX0_canAddConversion_28 (by decide) ?_
  cases hf
  exact z_zret B dX0_canAddConversion_32 (Or.inr rfl) (Nat.le_of_ble_eq_true rfl) (Nat.le_of_ble_eq_true rfl)
abbrev rm_X0_hasFormat : Room := { frames := 0, cells := 0, slots := 0, locals := 0 }
set_option maxRecDepth 100000 in
set_option maxHeartbeats 4000000 in
theorem tX0_hasFormat {l : Launch} {G : zG} (hst : l.stackTraces = false) {h : zH} {a0 : Nat} {a1 : Int32} {r : Int32 × zH} (hf : fX0_hasFormat h a0 a1 = some r) : zMet l G yX0_hasFormat (.code yX0_hasFormat cX0_hasFormat 2 (some .boolean)) rm_X0_hasFormat 0 0 [.ref a0, .int a1] h (zoi r) := by
  unfold fX0_hasFormat at hf
  obtain ⟨-, hf⟩ := zck hf
  refine z_enter (by decide) (Nat.le_of_ble_eq_true rfl) hst (fun x hx B hE => ?_)
  subst hx
  have B : zB G x cX0_hasFormat 2 RX0 "hasFormat" rm_X0_hasFormat (some .boolean) := B
  show zV G x 2 (zQ G x (zoi r) 0 0) h 0 0 0 [(0, .ref a0), (1, .int a1)] []
  refine z_iload_n B dX0_hasFormat_0 rfl 1 rfl ?_
  rcases zite hf with ⟨c1, hf⟩ | ⟨c1, hf⟩
  · refine z_if_lt B 16 dX0_hasFormat_1 (by decide) (fun _ => ?_) (fun e => absurd c1 e)
    refine z_iconst (v := 0) B dX0_hasFormat_16 (by decide) ?_
    cases hf
    exact z_zret B dX0_hasFormat_17 (Or.inl rfl) (Nat.le_of_ble_eq_true rfl) (Nat.le_of_ble_eq_true rfl)
  refine z_if_lt B 16 dX0_hasFormat_1 (by decide) (fun e => absurd e c1) (fun _ => ?_)
  refine z_iload_n B dX0_hasFormat_4 rfl 1 rfl ?_
  refine z_aload_n B dX0_hasFormat_5 rfl 0 rfl ?_
  obtain ⟨w2, ew2, hf⟩ := zbs hf
  refine z_gI B fl_RX0_50 ew2 rfl dX0_hasFormat_6 ?_
  rcases zite hf with ⟨c3, hf⟩ | ⟨c3, hf⟩
  · refine z_icmp_ge B 16 dX0_hasFormat_9 (by decide) (fun _ => ?_) (fun e => absurd c3 e)
    refine z_iconst (v := 0) B dX0_hasFormat_16 (by decide) ?_
    cases hf
    exact z_zret B dX0_hasFormat_17 (Or.inl rfl) (Nat.le_of_ble_eq_true rfl) (Nat.le_of_ble_eq_true rfl)
  refine z_icmp_ge B 16 dX0_hasFormat_9 (by decide) (fun e => absurd e c3) (fun _ => ?_)
  refine z_iconst (v := 1) B dX0_hasFormat_12 (by decide) ?_
  refine z_goto B 17 dX0_hasFormat_13 (by decide) ?_
  cases hf
  exact z_zret B dX0_hasFormat_17 (Or.inr rfl) (Nat.le_of_ble_eq_true rfl) (Nat.le_of_ble_eq_true rfl)
abbrev rm_X0_canLink : Room := { frames := 1, cells := 0, slots := 0, locals := 21 }
set_option maxRecDepth 100000 in
set_option maxHeartbeats 4000000 in
theorem tX0_canLink {l : Launch} {G : zG} (hst : l.stackTraces = false) {h : zH} {a0 : Nat} {a1 : Int32} {a2 : Int32} {r : Int32 × zH} (hf : fX0_canLink h a0 a1 a2 = some r) : zMet l G yX0_canLink (.code yX0_canLink cX0_canLink 3 (some .boolean)) rm_X0_canLink 0 0 [.ref a0, .int a1, .int a2] h (zoi r) := by
  unfold fX0_canLink at hf
  obtain ⟨-, hf⟩ := zck hf
  refine z_enter (by decide) (Nat.le_of_ble_eq_true rfl) hst (fun x hx B hE => ?_)
  subst hx
  have B : zB G x cX0_canLink 3 RX0 "canLink" rm_X0_canLink (some .boolean) := B
  show zV G x 3 (zQ G x (zoi r) 0 0) h 0 0 0 [(0, .ref a0), (1, .int a1), (2, .int a2)] []
  refine z_aload_n B dX0_canLink_0 rfl 0 rfl ?_
  refine z_iload_n B dX0_canLink_1 rfl 1 rfl ?_
  obtain ⟨w1, h2, ew1, hf⟩ := zb2s hf
  refine z_callVi B [.int a1] [] cw_X0_hasFormat mv_RX0_67 (tX0_hasFormat hst ew1) rfl (by decide) (kfX0_hasFormat ew1) ⟨rfl, rfl, (Nat.le_of_ble_eq_true rfl), (Nat.le_of_ble_eq_true rfl), (Nat.le_of_ble_eq_true rfl), (Nat.le_of_ble_eq_true rfl)⟩ rfl rfl (Nat.le_of_ble_eq_true rfl) dX0_canLink_2 ?_
  rcases zite hf with ⟨c3, hf⟩ | ⟨c3, hf⟩
  · refine z_if_eq B 39 dX0_canLink_5 (by decide) (fun _ => ?_) (fun e => absurd c3 e)
    refine z_iconst (v := 0) B dX0_canLink_39 (by decide) ?_
    cases hf
    exact z_zret B dX0_canLink_40 (Or.inl rfl) (Nat.le_of_ble_eq_true rfl) (Nat.le_of_ble_eq_true rfl)
  refine z_if_eq B 39 dX0_canLink_5 (by decide) (fun e => absurd e c3) (fun _ => ?_)
  refine z_aload_n B dX0_canLink_8 rfl 0 rfl ?_
  refine z_iload_n B dX0_canLink_9 rfl 2 rfl ?_
  obtain ⟨w4, h5, ew4, hf⟩ := zb2s hf
  refine z_callVi B [.int a2] [] cw_X0_hasFormat mv_RX0_67 (tX0_hasFormat hst ew4) rfl (by decide) (kfX0_hasFormat ew4) ⟨rfl, rfl, (Nat.le_of_ble_eq_true rfl), (Nat.le_of_ble_eq_true rfl), (Nat.le_of_ble_eq_true rfl), (Nat.le_of_ble_eq_true rfl)⟩ rfl rfl (Nat.le_of_ble_eq_true rfl) dX0_canLink_10 ?_
  rcases zite hf with ⟨c6, hf⟩ | ⟨c6, hf⟩
  · refine z_if_eq B 39 dX0_canLink_13 (by decide) (fun _ => ?_) (fun e => absurd c6 e)
    refine z_iconst (v := 0) B dX0_canLink_39 (by decide) ?_
    cases hf
    exact z_zret B dX0_canLink_40 (Or.inl rfl) (Nat.le_of_ble_eq_true rfl) (Nat.le_of_ble_eq_true rfl)
  refine z_if_eq B 39 dX0_canLink_13 (by decide) (fun e => absurd e c6) (fun _ => ?_)
  refine z_iload_n B dX0_canLink_16 rfl 1 rfl ?_
  refine z_iload_n B dX0_canLink_17 rfl 2 rfl ?_
  rcases zite hf with ⟨c7, hf⟩ | ⟨c7, hf⟩
  · refine z_icmp_eq B 39 dX0_canLink_18 (by decide) (fun _ => ?_) (fun e => absurd c7 e)
    refine z_iconst (v := 0) B dX0_canLink_39 (by decide) ?_
    cases hf
    exact z_zret B dX0_canLink_40 (Or.inl rfl) (Nat.le_of_ble_eq_true rfl) (Nat.le_of_ble_eq_true rfl)
  refine z_icmp_eq B 39 dX0_canLink_18 (by decide) (fun e => absurd e c7) (fun _ => ?_)
  refine z_aload_n B dX0_canLink_21 rfl 0 rfl ?_
  obtain ⟨w8, ew8, hf⟩ := zbs hf
  refine z_gP B fl_RX0_33 ew8 rfl dX0_canLink_22 ?_
  refine z_iload_n B dX0_canLink_25 rfl 1 rfl ?_
  refine z_bipush (v := 8) B dX0_canLink_26 (by decide) ?_
  refine z_imul B dX0_canLink_28 ?_
  refine z_iload_n B dX0_canLink_29 rfl 2 rfl ?_
  refine z_iadd B dX0_canLink_30 ?_
  obtain ⟨w9, ew9, hf⟩ := zbs hf
  refine z_aZ B ew9 dX0_canLink_31 ?_
  rcases zite hf with ⟨c10, hf⟩ | ⟨c10, hf⟩
  · refine z_if_ne B 39 dX0_canLink_32 (by decide) (fun e => absurd c10 e) (fun _ => ?_)
    refine z_iconst (v := 1) B dX0_canLink_35 (by decide) ?_
    refine z_goto B 40 dX0_canLink_36 (by decide) ?_
    cases hf
    exact z_zret B dX0_canLink_40 (Or.inr rfl) (Nat.le_of_ble_eq_true rfl) (Nat.le_of_ble_eq_true rfl)
  refine z_if_ne B 39 dX0_canLink_32 (by decide) (fun _ => ?_) (fun e => absurd e c10)
  refine z_iconst (v := 0) B dX0_canLink_39 (by decide) ?_
  cases hf
  exact z_zret B dX0_canLink_40 (Or.inl rfl) (Nat.le_of_ble_eq_true rfl) (Nat.le_of_ble_eq_true rfl)
abbrev rm_X0_canAddConversionFrom : Room := { frames := 2, cells := 0, slots := 0, locals := 43 }
set_option maxRecDepth 100000 in
set_option maxHeartbeats 4000000 in
theorem fX0_canAddConversionFrom_L2_ok {G : zG} {x : zX} (B : zB G x cX0_canAddConversionFrom 3 RX0 "canAddConversionFrom" rm_X0_canAddConversionFrom (some .boolean)) (hst : (zl x).stackTraces = false) (hE : ∀ e ∈ (zc x).exceptionTable.toList, False) {r : Int32 × zH} {k : zH → Int32 → Option (Int32 × zH)} {u0 : Nat} {u1 : Int32} (hk : ∀ h v2, k h v2 = some r → zV G x 3 (zQ G x (zoi r) 0 0) h 0 0 27 [(0, .ref u0), (1, .int u1), (2, .int v2)] []) : ∀ n h v2, fX0_canAddConversionFrom_L2 k u0 u1 n h v2 = some r → zV G x 3 (zQ G x (zoi r) 0 0) h 0 0 2 [(0, .ref u0), (1, .int u1), (2, .int v2)] [] := by
  intro n
  induction n with
  | zero =>
    intro h v2 hf
    have hf : (none : Option (Int32 × zH)) = some r := hf
    cases hf
  | succ n ih =>
    intro h v2 hf
    rw [fX0_canAddConversionFrom_L2] at hf
    refine z_iload_n B dX0_canAddConversionFrom_2 rfl 2 rfl ?_
    refine z_aload_n B dX0_canAddConversionFrom_3 rfl 0 rfl ?_
    obtain ⟨w1, ew1, hf⟩ := zbs hf
    refine z_gI B fl_RX0_50 ew1 rfl dX0_canAddConversionFrom_4 ?_
    rcases zite hf with ⟨c2, hf⟩ | ⟨c2, hf⟩
    · refine z_icmp_ge B 27 dX0_canAddConversionFrom_7 (by decide) (fun _ => ?_) (fun e => absurd c2 e)
      exact hk _ _ hf
    refine z_icmp_ge B 27 dX0_canAddConversionFrom_7 (by decide) (fun e => absurd e c2) (fun _ => ?_)
    refine z_aload_n B dX0_canAddConversionFrom_10 rfl 0 rfl ?_
    refine z_iload_n B dX0_canAddConversionFrom_11 rfl 1 rfl ?_
    refine z_iload_n B dX0_canAddConversionFrom_12 rfl 2 rfl ?_
    obtain ⟨w3, h4, ew3, hf⟩ := zb2s hf
    refine z_callVi B [.int u1, .int v2] [] cw_X0_canLink mv_RX0_63 (tX0_canLink hst ew3) rfl (by decide) (kfX0_canLink ew3) ⟨rfl, rfl, (Nat.le_of_ble_eq_true rfl), (Nat.le_of_ble_eq_true rfl), (Nat.le_of_ble_eq_true rfl), (Nat.le_of_ble_eq_true rfl)⟩ rfl rfl (Nat.le_of_ble_eq_true rfl) dX0_canAddConversionFrom_13 ?_
    rcases zite hf with ⟨c5, hf⟩ | ⟨c5, hf⟩
    · refine z_if_eq B 21 dX0_canAddConversionFrom_16 (by decide) (fun _ => ?_) (fun e => absurd c5 e)
      refine z_iinc (v' := (v2 + 1)) (lv' := [(2, .int (v2 + 1)), (0, .ref u0), (1, .int u1)]) B dX0_canAddConversionFrom_21 2 rfl rfl (by decide) rfl ?_
      refine z_goto B 2 dX0_canAddConversionFrom_24 (by decide) ?_
      refine zV.sub [1, 2, 0] rfl ?_
      exact ih _ _ hf
    refine z_if_eq B 21 dX0_canAddConversionFrom_16 (by decide) (fun e => absurd e c5) (fun _ => ?_)
    refine z_iconst (v := 1) B dX0_canAddConversionFrom_19 (by decide) ?_
    cases hf
    exact z_zret B dX0_canAddConversionFrom_20 (Or.inr rfl) (Nat.le_of_ble_eq_true rfl) (Nat.le_of_ble_eq_true rfl)
set_option maxRecDepth 100000 in
set_option maxHeartbeats 4000000 in
theorem tX0_canAddConversionFrom {l : Launch} {G : zG} (hst : l.stackTraces = false) {h : zH} {a0 : Nat} {a1 : Int32} {r : Int32 × zH} (hf : fX0_canAddConversionFrom h a0 a1 = some r) : zMet l G yX0_canAddConversionFrom (.code yX0_canAddConversionFrom cX0_canAddConversionFrom 3 (some .boolean)) rm_X0_canAddConversionFrom 0 0 [.ref a0, .int a1] h (zoi r) := by
  unfold fX0_canAddConversionFrom at hf
  obtain ⟨-, hf⟩ := zck hf
  refine z_enter (by decide) (Nat.le_of_ble_eq_true rfl) hst (fun x hx B hE => ?_)
  subst hx
  have B : zB G x cX0_canAddConversionFrom 3 RX0 "canAddConversionFrom" rm_X0_canAddConversionFrom (some .boolean) := B
  show zV G x 3 (zQ G x (zoi r) 0 0) h 0 0 0 [(0, .ref a0), (1, .int a1)] []
  refine z_iconst (v := 0) B dX0_canAddConversionFrom_0 (by decide) ?_
  refine z_istore_n (lv' := [(2, .int 0), (0, .ref a0), (1, .int a1)]) B dX0_canAddConversionFrom_1 rfl (by decide) rfl ?_
  refine zV.sub [1, 2, 0] rfl ?_
  refine fX0_canAddConversionFrom_L2_ok B hst hE (fun h1 y2 hf => ?_) _ _ _ hf
  refine z_iconst (v := 0) B dX0_canAddConversionFrom_27 (by decide) ?_
  cases hf
  exact z_zret B dX0_canAddConversionFrom_28 (Or.inl rfl) (Nat.le_of_ble_eq_true rfl) (Nat.le_of_ble_eq_true rfl)
abbrev rm_X0_addConversion : Room := { frames := 2, cells := 0, slots := 0, locals := 43 }
set_option maxRecDepth 100000 in
set_option maxHeartbeats 4000000 in
theorem tX0_addConversion {l : Launch} {G : zG} (hst : l.stackTraces = false) {h : zH} {a0 : Nat} {a1 : Int32} {a2 : Int32} {a3 : Int32} {a4 : Int32} {a5 : Int32} {r : zH} (hf : fX0_addConversion h a0 a1 a2 a3 a4 a5 = some r) : zMet l G yX0_addConversion (.code yX0_addConversion cX0_addConversion 6 none) rm_X0_addConversion 0 0 [.ref a0, .int a1, .int a2, .int a3, .int a4, .int a5] h (zov r) := by
  unfold fX0_addConversion at hf
  obtain ⟨-, hf⟩ := zck hf
  refine z_enter (by decide) (Nat.le_of_ble_eq_true rfl) hst (fun x hx B hE => ?_)
  subst hx
  have B : zB G x cX0_addConversion 6 RX0 "addConversion" rm_X0_addConversion none := B
  show zV G x 6 (zQ G x (zov r) 0 0) h 0 0 0 [(0, .ref a0), (1, .int a1), (2, .int a2), (3, .int a3), (4, .int a4), (5, .int a5)] []
  refine z_aload_n B dX0_addConversion_0 rfl 0 rfl ?_
  obtain ⟨w1, h2, ew1, hf⟩ := zb2s hf
  refine z_callVi B [] [] cw_X0_canAddConversion mv_RX0_71 (tX0_canAddConversion hst ew1) rfl (by decide) (kfX0_canAddConversion ew1) ⟨rfl, rfl, (Nat.le_of_ble_eq_true rfl), (Nat.le_of_ble_eq_true rfl), (Nat.le_of_ble_eq_true rfl), (Nat.le_of_ble_eq_true rfl)⟩ rfl rfl (Nat.le_of_ble_eq_true rfl) dX0_addConversion_1 ?_
  rcases zite hf with ⟨c3, hf⟩ | ⟨c3, hf⟩
  · refine z_if_eq B 16 dX0_addConversion_4 (by decide) (fun _ => ?_) (fun e => absurd c3 e)
    cases hf
    exact z_vret B dX0_addConversion_16 (Nat.le_of_ble_eq_true rfl) (Nat.le_of_ble_eq_true rfl)
  refine z_if_eq B 16 dX0_addConversion_4 (by decide) (fun e => absurd e c3) (fun _ => ?_)
  refine z_aload_n B dX0_addConversion_7 rfl 0 rfl ?_
  refine z_iload_n B dX0_addConversion_8 rfl 1 rfl ?_
  refine z_iload_n B dX0_addConversion_9 rfl 2 rfl ?_
  obtain ⟨w4, h5, ew4, hf⟩ := zb2s hf
  refine z_callVi B [.int a1, .int a2] [] cw_X0_canLink mv_RX0_63 (tX0_canLink hst ew4) rfl (by decide) (kfX0_canLink ew4) ⟨rfl, rfl, (Nat.le_of_ble_eq_true rfl), (Nat.le_of_ble_eq_true rfl), (Nat.le_of_ble_eq_true rfl), (Nat.le_of_ble_eq_true rfl)⟩ rfl rfl (Nat.le_of_ble_eq_true rfl) dX0_addConversion_10 ?_
  rcases zite hf with ⟨c6, hf⟩ | ⟨c6, hf⟩
  · refine z_if_ne B 17 dX0_addConversion_13 (by decide) (fun e => absurd c6 e) (fun _ => ?_)
    cases hf
    exact z_vret B dX0_addConversion_16 (Nat.le_of_ble_eq_true rfl) (Nat.le_of_ble_eq_true rfl)
  refine z_if_ne B 17 dX0_addConversion_13 (by decide) (fun _ => ?_) (fun e => absurd e c6)
  refine z_aload_n B dX0_addConversion_17 rfl 0 rfl ?_
  obtain ⟨w7, ew7, hf⟩ := zbs hf
  refine z_gP B fl_RX0_9 ew7 rfl dX0_addConversion_18 ?_
  refine z_aload_n B dX0_addConversion_21 rfl 0 rfl ?_
  obtain ⟨w8, ew8, hf⟩ := zbs hf
  refine z_gI B fl_RX0_57 ew8 rfl dX0_addConversion_22 ?_
  refine z_iload_n B dX0_addConversion_25 rfl 1 rfl ?_
  obtain ⟨h9, eh9, hf⟩ := zbs hf
  refine z_bI B eh9 dX0_addConversion_26 ?_
  refine z_aload_n B dX0_addConversion_27 rfl 0 rfl ?_
  obtain ⟨w10, ew10, hf⟩ := zbs hf
  refine z_gP B fl_RX0_15 ew10 rfl dX0_addConversion_28 ?_
  refine z_aload_n B dX0_addConversion_31 rfl 0 rfl ?_
  obtain ⟨w11, ew11, hf⟩ := zbs hf
  refine z_gI B fl_RX0_57 ew11 rfl dX0_addConversion_32 ?_
  refine z_iload_n B dX0_addConversion_35 rfl 2 rfl ?_
  obtain ⟨h12, eh12, hf⟩ := zbs hf
  refine z_bI B eh12 dX0_addConversion_36 ?_
  refine z_aload_n B dX0_addConversion_37 rfl 0 rfl ?_
  obtain ⟨w13, ew13, hf⟩ := zbs hf
  refine z_gP B fl_RX0_18 ew13 rfl dX0_addConversion_38 ?_
  refine z_aload_n B dX0_addConversion_41 rfl 0 rfl ?_
  obtain ⟨w14, ew14, hf⟩ := zbs hf
  refine z_gI B fl_RX0_57 ew14 rfl dX0_addConversion_42 ?_
  refine z_iload_n B dX0_addConversion_45 rfl 3 rfl ?_
  obtain ⟨h15, eh15, hf⟩ := zbs hf
  refine z_bI B eh15 dX0_addConversion_46 ?_
  refine z_aload_n B dX0_addConversion_47 rfl 0 rfl ?_
  obtain ⟨w16, ew16, hf⟩ := zbs hf
  refine z_gP B fl_RX0_21 ew16 rfl dX0_addConversion_48 ?_
  refine z_aload_n B dX0_addConversion_51 rfl 0 rfl ?_
  obtain ⟨w17, ew17, hf⟩ := zbs hf
  refine z_gI B fl_RX0_57 ew17 rfl dX0_addConversion_52 ?_
  refine z_iload B dX0_addConversion_55 4 rfl ?_
  obtain ⟨h18, eh18, hf⟩ := zbs hf
  refine z_bI B eh18 dX0_addConversion_57 ?_
  refine z_aload_n B dX0_addConversion_58 rfl 0 rfl ?_
  obtain ⟨w19, ew19, hf⟩ := zbs hf
  refine z_gP B fl_RX0_24 ew19 rfl dX0_addConversion_59 ?_
  refine z_aload_n B dX0_addConversion_62 rfl 0 rfl ?_
  obtain ⟨w20, ew20, hf⟩ := zbs hf
  refine z_gI B fl_RX0_57 ew20 rfl dX0_addConversion_63 ?_
  refine z_iload B dX0_addConversion_66 5 rfl ?_
  obtain ⟨h21, eh21, hf⟩ := zbs hf
  refine z_bI B eh21 dX0_addConversion_68 ?_
  refine z_aload_n B dX0_addConversion_69 rfl 0 rfl ?_
  obtain ⟨w22, ew22, hf⟩ := zbs hf
  refine z_gP B fl_RX0_33 ew22 rfl dX0_addConversion_70 ?_
  refine z_iload_n B dX0_addConversion_73 rfl 1 rfl ?_
  refine z_bipush (v := 8) B dX0_addConversion_74 (by decide) ?_
  refine z_imul B dX0_addConversion_76 ?_
  refine z_iload_n B dX0_addConversion_77 rfl 2 rfl ?_
  refine z_iadd B dX0_addConversion_78 ?_
  refine z_iconst (v := 1) B dX0_addConversion_79 (by decide) ?_
  obtain ⟨h23, eh23, hf⟩ := zbs hf
  refine z_bZ B eh23 dX0_addConversion_80 ?_
  refine z_aload_n B dX0_addConversion_81 rfl 0 rfl ?_
  refine z_dup B dX0_addConversion_82 rfl ?_
  obtain ⟨w24, ew24, hf⟩ := zbs hf
  refine z_gI B fl_RX0_57 ew24 rfl dX0_addConversion_83 ?_
  refine z_iconst (v := 1) B dX0_addConversion_86 (by decide) ?_
  refine z_iadd B dX0_addConversion_87 ?_
  obtain ⟨h25, eh25, hf⟩ := zbs hf
  refine z_pI B fl_RX0_57 eh25 rfl dX0_addConversion_88 ?_
  cases hf
  exact z_vret B dX0_addConversion_91 (Nat.le_of_ble_eq_true rfl) (Nat.le_of_ble_eq_true rfl)
abbrev rm_X4_readConversion : Room := { frames := 4, cells := 0, slots := 0, locals := 89 }
set_option maxRecDepth 100000 in
set_option maxHeartbeats 4000000 in
theorem tX4_readConversion {l : Launch} {G : zG} (hst : l.stackTraces = false) {h : zH} {a0 : Nat} {a1 : Nat} {r : Int32 × zH} (hf : fX4_readConversion h a0 a1 = some r) : zMet l G yX4_readConversion (.code yX4_readConversion cX4_readConversion 7 (some .boolean)) rm_X4_readConversion 0 0 [.ref a0, .ref a1] h (zoi r) := by
  unfold fX4_readConversion at hf
  obtain ⟨-, hf⟩ := zck hf
  refine z_enter (by decide) (Nat.le_of_ble_eq_true rfl) hst (fun x hx B hE => ?_)
  subst hx
  have B : zB G x cX4_readConversion 7 RX4 "readConversion" rm_X4_readConversion (some .boolean) := B
  show zV G x 7 (zQ G x (zoi r) 0 0) h 0 0 0 [(0, .ref a0), (1, .ref a1)] []
  refine z_aload_n B dX4_readConversion_0 rfl 1 rfl ?_
  obtain ⟨w1, h2, ew1, hf⟩ := zb2s hf
  refine z_callVi B [] [] cw_X0_canAddConversion mv_RX4_58 (tX0_canAddConversion hst ew1) rfl (by decide) (kfX0_canAddConversion ew1) ⟨rfl, rfl, (Nat.le_of_ble_eq_true rfl), (Nat.le_of_ble_eq_true rfl), (Nat.le_of_ble_eq_true rfl), (Nat.le_of_ble_eq_true rfl)⟩ rfl rfl (Nat.le_of_ble_eq_true rfl) dX4_readConversion_1 ?_
  rcases zite hf with ⟨c3, hf⟩ | ⟨c3, hf⟩
  · refine z_if_eq B 16 dX4_readConversion_4 (by decide) (fun _ => ?_) (fun e => absurd c3 e)
    refine z_iconst (v := 0) B dX4_readConversion_16 (by decide) ?_
    cases hf
    exact z_zret B dX4_readConversion_17 (Or.inl rfl) (Nat.le_of_ble_eq_true rfl) (Nat.le_of_ble_eq_true rfl)
  refine z_if_eq B 16 dX4_readConversion_4 (by decide) (fun e => absurd e c3) (fun _ => ?_)
  refine z_aload_n B dX4_readConversion_7 rfl 0 rfl ?_
  refine z_bipush (v := 99) B dX4_readConversion_8 (by decide) ?_
  obtain ⟨w4, h5, ew4, hf⟩ := zb2s hf
  refine z_callVi B [.int 99] [] cw_X4_readSign mv_RX4_40 (tX4_readSign hst ew4) rfl (by decide) (kfX4_readSign ew4) ⟨rfl, rfl, (Nat.le_of_ble_eq_true rfl), (Nat.le_of_ble_eq_true rfl), (Nat.le_of_ble_eq_true rfl), (Nat.le_of_ble_eq_true rfl)⟩ rfl rfl (Nat.le_of_ble_eq_true rfl) dX4_readConversion_10 ?_
  rcases zite hf with ⟨c6, hf⟩ | ⟨c6, hf⟩
  · refine z_if_ne B 18 dX4_readConversion_13 (by decide) (fun e => absurd c6 e) (fun _ => ?_)
    refine z_iconst (v := 0) B dX4_readConversion_16 (by decide) ?_
    cases hf
    exact z_zret B dX4_readConversion_17 (Or.inl rfl) (Nat.le_of_ble_eq_true rfl) (Nat.le_of_ble_eq_true rfl)
  refine z_if_ne B 18 dX4_readConversion_13 (by decide) (fun _ => ?_) (fun e => absurd e c6)
  refine z_aload_n B dX4_readConversion_18 rfl 0 rfl ?_
  obtain ⟨w7, h8, ew7, hf⟩ := zb2s hf
  refine z_callVi B [] [] cw_X4_shownDigit mv_RX4_61 (tX4_shownDigit hst ew7) rfl (by decide) (kfX4_shownDigit ew7) ⟨rfl, rfl, (Nat.le_of_ble_eq_true rfl), (Nat.le_of_ble_eq_true rfl), (Nat.le_of_ble_eq_true rfl), (Nat.le_of_ble_eq_true rfl)⟩ rfl rfl (Nat.le_of_ble_eq_true rfl) dX4_readConversion_19 ?_
  refine z_istore_n (lv' := [(2, .int w7), (0, .ref a0), (1, .ref a1)]) B dX4_readConversion_22 rfl (by decide) rfl ?_
  refine z_aload_n B dX4_readConversion_23 rfl 2 rfl ?_
  refine z_iload_n B dX4_readConversion_24 rfl 0 rfl ?_
  obtain ⟨w9, h10, ew9, hf⟩ := zb2s hf
  refine z_callVi B [.int w7] [] cw_X0_canAddConversionFrom mv_RX4_64 (tX0_canAddConversionFrom hst ew9) rfl (by decide) (kfX0_canAddConversionFrom ew9) ⟨rfl, rfl, (Nat.le_of_ble_eq_true rfl), (Nat.le_of_ble_eq_true rfl), (Nat.le_of_ble_eq_true rfl), (Nat.le_of_ble_eq_true rfl)⟩ rfl rfl (Nat.le_of_ble_eq_true rfl) dX4_readConversion_25 ?_
  rcases zite hf with ⟨c11, hf⟩ | ⟨c11, hf⟩
  · refine z_if_ne B 33 dX4_readConversion_28 (by decide) (fun e => absurd c11 e) (fun _ => ?_)
    refine z_iconst (v := 0) B dX4_readConversion_31 (by decide) ?_
    cases hf
    exact z_zret B dX4_readConversion_32 (Or.inl rfl) (Nat.le_of_ble_eq_true rfl) (Nat.le_of_ble_eq_true rfl)
  refine z_if_ne B 33 dX4_readConversion_28 (by decide) (fun _ => ?_) (fun e => absurd e c11)
  refine z_aload_n B dX4_readConversion_33 rfl 1 rfl ?_
  refine z_dup B dX4_readConversion_34 rfl ?_
  obtain ⟨w12, ew12, hf⟩ := zbs hf
  refine z_gI B fl_RX4_23 ew12 rfl dX4_readConversion_35 ?_
  refine z_iconst (v := 1) B dX4_readConversion_38 (by decide) ?_
  refine z_iadd B dX4_readConversion_39 ?_
  obtain ⟨h13, eh13, hf⟩ := zbs hf
  refine z_pI B fl_RX4_23 eh13 rfl dX4_readConversion_40 ?_
  refine z_aload_n B dX4_readConversion_43 rfl 1 rfl ?_
  obtain ⟨w14, h15, ew14, hf⟩ := zb2s hf
  refine z_callVi B [] [] cw_X4_shownDigit mv_RX4_61 (tX4_shownDigit hst ew14) rfl (by decide) (kfX4_shownDigit ew14) ⟨rfl, rfl, (Nat.le_of_ble_eq_true rfl), (Nat.le_of_ble_eq_true rfl), (Nat.le_of_ble_eq_true rfl), (Nat.le_of_ble_eq_true rfl)⟩ rfl rfl (Nat.le_of_ble_eq_true rfl) dX4_readConversion_44 ?_
  refine z_istore_n (lv' := [(3, .int w14), (2, .int w7), (0, .ref a0), (1, .ref a1)]) B dX4_readConversion_47 rfl (by decide) rfl ?_
  refine z_aload_n B dX4_readConversion_48 rfl 3 rfl ?_
  refine z_iload_n B dX4_readConversion_49 rfl 1 rfl ?_
  refine z_iload_n B dX4_readConversion_50 rfl 0 rfl ?_
  obtain ⟨w16, h17, ew16, hf⟩ := zb2s hf
  refine z_callVi B [.int w7, .int w14] [] cw_X0_canLink mv_RX4_67 (tX0_canLink hst ew16) rfl (by decide) (kfX0_canLink ew16) ⟨rfl, rfl, (Nat.le_of_ble_eq_true rfl), (Nat.le_of_ble_eq_true rfl), (Nat.le_of_ble_eq_true rfl), (Nat.le_of_ble_eq_true rfl)⟩ rfl rfl (Nat.le_of_ble_eq_true rfl) dX4_readConversion_51 ?_
  rcases zite hf with ⟨c18, hf⟩ | ⟨c18, hf⟩
  · refine z_if_ne B 59 dX4_readConversion_54 (by decide) (fun e => absurd c18 e) (fun _ => ?_)
    refine z_iconst (v := 0) B dX4_readConversion_57 (by decide) ?_
    cases hf
    exact z_zret B dX4_readConversion_58 (Or.inl rfl) (Nat.le_of_ble_eq_true rfl) (Nat.le_of_ble_eq_true rfl)
  refine z_if_ne B 59 dX4_readConversion_54 (by decide) (fun _ => ?_) (fun e => absurd e c18)
  refine z_aload_n B dX4_readConversion_59 rfl 2 rfl ?_
  refine z_dup B dX4_readConversion_60 rfl ?_
  obtain ⟨w19, ew19, hf⟩ := zbs hf
  refine z_gI B fl_RX4_23 ew19 rfl dX4_readConversion_61 ?_
  refine z_iconst (v := 1) B dX4_readConversion_64 (by decide) ?_
  refine z_iadd B dX4_readConversion_65 ?_
  obtain ⟨h20, eh20, hf⟩ := zbs hf
  refine z_pI B fl_RX4_23 eh20 rfl dX4_readConversion_66 ?_
  refine z_aload_n B dX4_readConversion_69 rfl 2 rfl ?_
  refine z_iconst (v := 2) B dX4_readConversion_70 (by decide) ?_
  obtain ⟨w21, h22, ew21, hf⟩ := zb2s hf
  refine z_callVi B [.int 2] [] cw_X4_readNumber mv_RX4_48 (tX4_readNumber hst ew21) rfl (by decide) (kfX4_readNumber ew21) ⟨rfl, rfl, (Nat.le_of_ble_eq_true rfl), (Nat.le_of_ble_eq_true rfl), (Nat.le_of_ble_eq_true rfl), (Nat.le_of_ble_eq_true rfl)⟩ rfl rfl (Nat.le_of_ble_eq_true rfl) dX4_readConversion_71 ?_
  refine z_istore (lv' := [(4, .int w21), (3, .int w14), (2, .int w7), (0, .ref a0), (1, .ref a1)]) B dX4_readConversion_74 (by decide) rfl ?_
  refine z_iload B dX4_readConversion_76 0 rfl ?_
  refine z_iconst (v := (-1)) B dX4_readConversion_78 (by decide) ?_
  rcases zite hf with ⟨c23, hf⟩ | ⟨c23, hf⟩
  · refine z_icmp_ne B 84 dX4_readConversion_79 (by decide) (fun e => absurd c23 e) (fun _ => ?_)
    refine z_iconst (v := 0) B dX4_readConversion_82 (by decide) ?_
    cases hf
    exact z_zret B dX4_readConversion_83 (Or.inl rfl) (Nat.le_of_ble_eq_true rfl) (Nat.le_of_ble_eq_true rfl)
  refine z_icmp_ne B 84 dX4_readConversion_79 (by decide) (fun _ => ?_) (fun e => absurd e c23)
  refine z_aload_n B dX4_readConversion_84 rfl 3 rfl ?_
  refine z_iconst (v := 2) B dX4_readConversion_85 (by decide) ?_
  obtain ⟨w24, h25, ew24, hf⟩ := zb2s hf
  refine z_callVi B [.int 2] [] cw_X4_readNumber mv_RX4_48 (tX4_readNumber hst ew24) rfl (by decide) (kfX4_readNumber ew24) ⟨rfl, rfl, (Nat.le_of_ble_eq_true rfl), (Nat.le_of_ble_eq_true rfl), (Nat.le_of_ble_eq_true rfl), (Nat.le_of_ble_eq_true rfl)⟩ rfl rfl (Nat.le_of_ble_eq_true rfl) dX4_readConversion_86 ?_
  refine z_istore (lv' := [(5, .int w24), (4, .int w21), (3, .int w14), (2, .int w7), (0, .ref a0), (1, .ref a1)]) B dX4_readConversion_89 (by decide) rfl ?_
  refine z_iload B dX4_readConversion_91 0 rfl ?_
  refine z_iconst (v := (-1)) B dX4_readConversion_93 (by decide) ?_
  rcases zite hf with ⟨c26, hf⟩ | ⟨c26, hf⟩
  · refine z_icmp_ne B 99 dX4_readConversion_94 (by decide) (fun e => absurd c26 e) (fun _ => ?_)
    refine z_iconst (v := 0) B dX4_readConversion_97 (by decide) ?_
    cases hf
    exact z_zret B dX4_readConversion_98 (Or.inl rfl) (Nat.le_of_ble_eq_true rfl) (Nat.le_of_ble_eq_true rfl)
  refine z_icmp_ne B 99 dX4_readConversion_94 (by decide) (fun _ => ?_) (fun e => absurd e c26)
  refine z_aload_n B dX4_readConversion_99 rfl 4 rfl ?_
  refine z_iconst (v := 0) B dX4_readConversion_100 (by decide) ?_
  refine z_bipush (v := 9) B dX4_readConversion_101 (by decide) ?_
  obtain ⟨w27, h28, ew27, hf⟩ := zb2s hf
  refine z_callVi B [.int 0, .int 9] [] cw_X4_readDigit mv_RX4_44 (tX4_readDigit hst ew27) rfl (by decide) (kfX4_readDigit ew27) ⟨rfl, rfl, (Nat.le_of_ble_eq_true rfl), (Nat.le_of_ble_eq_true rfl), (Nat.le_of_ble_eq_true rfl), (Nat.le_of_ble_eq_true rfl)⟩ rfl rfl (Nat.le_of_ble_eq_true rfl) dX4_readConversion_103 ?_
  refine z_istore (lv' := [(6, .int w27), (5, .int w24), (4, .int w21), (3, .int w14), (2, .int w7), (0, .ref a0), (1, .ref a1)]) B dX4_readConversion_106 (by decide) rfl ?_
  refine z_iload B dX4_readConversion_108 0 rfl ?_
  refine z_iconst (v := (-1)) B dX4_readConversion_110 (by decide) ?_
  rcases zite hf with ⟨c29, hf⟩ | ⟨c29, hf⟩
  · refine z_icmp_ne B 116 dX4_readConversion_111 (by decide) (fun e => absurd c29 e) (fun _ => ?_)
    refine z_iconst (v := 0) B dX4_readConversion_114 (by decide) ?_
    cases hf
    exact z_zret B dX4_readConversion_115 (Or.inl rfl) (Nat.le_of_ble_eq_true rfl) (Nat.le_of_ble_eq_true rfl)
  refine z_icmp_ne B 116 dX4_readConversion_111 (by decide) (fun _ => ?_) (fun e => absurd e c29)
  refine z_aload_n B dX4_readConversion_116 rfl 6 rfl ?_
  refine z_iload_n B dX4_readConversion_117 rfl 4 rfl ?_
  refine z_iload_n B dX4_readConversion_118 rfl 3 rfl ?_
  refine z_iload B dX4_readConversion_119 2 rfl ?_
  refine z_iload B dX4_readConversion_121 1 rfl ?_
  refine z_iload B dX4_readConversion_123 0 rfl ?_
  obtain ⟨h30, eh30, hf⟩ := zbs hf
  refine z_callVv B [.int w7, .int w14, .int w21, .int w24, .int w27] [] cw_X0_addConversion mv_RX4_71 (tX0_addConversion hst eh30) rfl (by decide) (kfX0_addConversion eh30) ⟨rfl, rfl, (Nat.le_of_ble_eq_true rfl), (Nat.le_of_ble_eq_true rfl), (Nat.le_of_ble_eq_true rfl), (Nat.le_of_ble_eq_true rfl)⟩ rfl rfl (Nat.le_of_ble_eq_true rfl) dX4_readConversion_125 ?_
  refine z_iconst (v := 1) B dX4_readConversion_128 (by decide) ?_
  cases hf
  exact z_zret B dX4_readConversion_129 (Or.inr rfl) (Nat.le_of_ble_eq_true rfl) (Nat.le_of_ble_eq_true rfl)
abbrev rm_X0_canAddPlace : Room := { frames := 0, cells := 0, slots := 0, locals := 0 }
set_option maxRecDepth 100000 in
set_option maxHeartbeats 4000000 in
theorem tX0_canAddPlace {l : Launch} {G : zG} (hst : l.stackTraces = false) {h : zH} {a0 : Nat} {r : Int32 × zH} (hf : fX0_canAddPlace h a0 = some r) : zMet l G yX0_canAddPlace (.code yX0_canAddPlace cX0_canAddPlace 1 (some .boolean)) rm_X0_canAddPlace 0 0 [.ref a0] h (zoi r) := by
  unfold fX0_canAddPlace at hf
  obtain ⟨-, hf⟩ := zck hf
  refine z_enter (by decide) (Nat.le_of_ble_eq_true rfl) hst (fun x hx B hE => ?_)
  subst hx
  have B : zB G x cX0_canAddPlace 1 RX0 "canAddPlace" rm_X0_canAddPlace (some .boolean) := B
  show zV G x 1 (zQ G x (zoi r) 0 0) h 0 0 0 [(0, .ref a0)] []
  refine z_aload_n B dX0_canAddPlace_0 rfl 0 rfl ?_
  obtain ⟨w1, ew1, hf⟩ := zbs hf
  refine z_gI B fl_RX0_60 ew1 rfl dX0_canAddPlace_1 ?_
  refine z_bipush (v := 6) B dX0_canAddPlace_4 (by decide) ?_
  rcases zite hf with ⟨c2, hf⟩ | ⟨c2, hf⟩
  · refine z_icmp_ge B 13 dX0_canAddPlace_6 (by decide) (fun _ => ?_) (fun e => absurd c2 e)
    refine z_iconst (v := 0) B dX0_canAddPlace_13 (by decide) ?_
    cases hf
    exact z_zret B dX0_canAddPlace_14 (Or.inl rfl) (Nat.le_of_ble_eq_true rfl) (Nat.le_of_ble_eq_true rfl)
  refine z_icmp_ge B 13 dX0_canAddPlace_6 (by decide) (fun e => absurd e c2) (fun _ => ?_)
  refine z_iconst (v := 1) B dX0_canAddPlace_9 (by decide) ?_
  refine z_goto B 14 dX0_canAddPlace_10 (by decide) ?_
  cases hf
  exact z_zret B dX0_canAddPlace_14 (Or.inr rfl) (Nat.le_of_ble_eq_true rfl) (Nat.le_of_ble_eq_true rfl)
abbrev rm_X0_addPlace : Room := { frames := 1, cells := 0, slots := 0, locals := 20 }
set_option maxRecDepth 100000 in
set_option maxHeartbeats 4000000 in
theorem tX0_addPlace {l : Launch} {G : zG} (hst : l.stackTraces = false) {h : zH} {a0 : Nat} {a1 : Int32} {a2 : Int32} {r : zH} (hf : fX0_addPlace h a0 a1 a2 = some r) : zMet l G yX0_addPlace (.code yX0_addPlace cX0_addPlace 3 none) rm_X0_addPlace 0 0 [.ref a0, .int a1, .int a2] h (zov r) := by
  unfold fX0_addPlace at hf
  obtain ⟨-, hf⟩ := zck hf
  refine z_enter (by decide) (Nat.le_of_ble_eq_true rfl) hst (fun x hx B hE => ?_)
  subst hx
  have B : zB G x cX0_addPlace 3 RX0 "addPlace" rm_X0_addPlace none := B
  show zV G x 3 (zQ G x (zov r) 0 0) h 0 0 0 [(0, .ref a0), (1, .int a1), (2, .int a2)] []
  refine z_aload_n B dX0_addPlace_0 rfl 0 rfl ?_
  obtain ⟨w1, h2, ew1, hf⟩ := zb2s hf
  refine z_callVi B [] [] cw_X0_canAddPlace mv_RX0_75 (tX0_canAddPlace hst ew1) rfl (by decide) (kfX0_canAddPlace ew1) ⟨rfl, rfl, (Nat.le_of_ble_eq_true rfl), (Nat.le_of_ble_eq_true rfl), (Nat.le_of_ble_eq_true rfl), (Nat.le_of_ble_eq_true rfl)⟩ rfl rfl (Nat.le_of_ble_eq_true rfl) dX0_addPlace_1 ?_
  rcases zite hf with ⟨c3, hf⟩ | ⟨c3, hf⟩
  · refine z_if_ne B 8 dX0_addPlace_4 (by decide) (fun e => absurd c3 e) (fun _ => ?_)
    cases hf
    exact z_vret B dX0_addPlace_7 (Nat.le_of_ble_eq_true rfl) (Nat.le_of_ble_eq_true rfl)
  refine z_if_ne B 8 dX0_addPlace_4 (by decide) (fun _ => ?_) (fun e => absurd e c3)
  refine z_aload_n B dX0_addPlace_8 rfl 0 rfl ?_
  obtain ⟨w4, ew4, hf⟩ := zbs hf
  refine z_gP B fl_RX0_27 ew4 rfl dX0_addPlace_9 ?_
  refine z_aload_n B dX0_addPlace_12 rfl 0 rfl ?_
  obtain ⟨w5, ew5, hf⟩ := zbs hf
  refine z_gI B fl_RX0_60 ew5 rfl dX0_addPlace_13 ?_
  refine z_iload_n B dX0_addPlace_16 rfl 1 rfl ?_
  obtain ⟨h6, eh6, hf⟩ := zbs hf
  refine z_bI B eh6 dX0_addPlace_17 ?_
  refine z_aload_n B dX0_addPlace_18 rfl 0 rfl ?_
  obtain ⟨w7, ew7, hf⟩ := zbs hf
  refine z_gP B fl_RX0_30 ew7 rfl dX0_addPlace_19 ?_
  refine z_aload_n B dX0_addPlace_22 rfl 0 rfl ?_
  obtain ⟨w8, ew8, hf⟩ := zbs hf
  refine z_gI B fl_RX0_60 ew8 rfl dX0_addPlace_23 ?_
  refine z_iload_n B dX0_addPlace_26 rfl 2 rfl ?_
  obtain ⟨h9, eh9, hf⟩ := zbs hf
  refine z_bI B eh9 dX0_addPlace_27 ?_
  refine z_aload_n B dX0_addPlace_28 rfl 0 rfl ?_
  refine z_dup B dX0_addPlace_29 rfl ?_
  obtain ⟨w10, ew10, hf⟩ := zbs hf
  refine z_gI B fl_RX0_60 ew10 rfl dX0_addPlace_30 ?_
  refine z_iconst (v := 1) B dX0_addPlace_33 (by decide) ?_
  refine z_iadd B dX0_addPlace_34 ?_
  obtain ⟨h11, eh11, hf⟩ := zbs hf
  refine z_pI B fl_RX0_60 eh11 rfl dX0_addPlace_35 ?_
  cases hf
  exact z_vret B dX0_addPlace_38 (Nat.le_of_ble_eq_true rfl) (Nat.le_of_ble_eq_true rfl)
abbrev rm_X4_readPlace : Room := { frames := 4, cells := 0, slots := 0, locals := 89 }
set_option maxRecDepth 100000 in
set_option maxHeartbeats 4000000 in
theorem fX4_readPlace_L25_ok {G : zG} {x : zX} (B : zB G x cX4_readPlace 6 RX4 "readPlace" rm_X4_readPlace (some .boolean)) (hst : (zl x).stackTraces = false) (hE : ∀ e ∈ (zc x).exceptionTable.toList, False) {r : Int32 × zH} {k : zH → Int32 → Int32 → Int32 → Option (Int32 × zH)} {u0 : Nat} {u1 : Nat} (hk : ∀ h v2 v3 v4, k h v2 v3 v4 = some r → zV G x 6 (zQ G x (zoi r) 0 0) h 0 0 72 [(0, .ref u0), (1, .ref u1), (2, .int v2), (3, .int v3), (4, .int v4)] []) : ∀ n h v2 v3 v4, fX4_readPlace_L25 k u0 u1 n h v2 v3 v4 = some r → zV G x 6 (zQ G x (zoi r) 0 0) h 0 0 25 [(0, .ref u0), (1, .ref u1), (2, .int v2), (3, .int v3), (4, .int v4)] [] := by
  intro n
  induction n with
  | zero =>
    intro h v2 v3 v4 hf
    have hf : (none : Option (Int32 × zH)) = some r := hf
    cases hf
  | succ n ih =>
    intro h v2 v3 v4 hf
    rw [fX4_readPlace_L25] at hf
    refine z_iload B dX4_readPlace_25 4 rfl ?_
    refine z_bipush (v := 8) B dX4_readPlace_27 (by decide) ?_
    rcases zite hf with ⟨c1, hf⟩ | ⟨c1, hf⟩
    · refine z_icmp_ge B 72 dX4_readPlace_29 (by decide) (fun _ => ?_) (fun e => absurd c1 e)
      exact hk _ _ _ _ hf
    refine z_icmp_ge B 72 dX4_readPlace_29 (by decide) (fun e => absurd e c1) (fun _ => ?_)
    refine z_aload_n B dX4_readPlace_32 rfl 0 rfl ?_
    refine z_iload_n B dX4_readPlace_33 rfl 3 rfl ?_
    refine z_aload_n B dX4_readPlace_34 rfl 1 rfl ?_
    obtain ⟨w2, ew2, hf⟩ := zbs hf
    refine z_gI B fl_RX4_78 ew2 rfl dX4_readPlace_35 ?_
    refine z_iconst (v := 1) B dX4_readPlace_38 (by decide) ?_
    refine z_isub B dX4_readPlace_39 ?_
    obtain ⟨w3, h4, ew3, hf⟩ := zb2s hf
    refine z_callVi B [.int v3, .int ((w2 : Int32) - 1)] [] cw_X4_readDigit mv_RX4_44 (tX4_readDigit hst ew3) rfl (by decide) (kfX4_readDigit ew3) ⟨rfl, rfl, (Nat.le_of_ble_eq_true rfl), (Nat.le_of_ble_eq_true rfl), (Nat.le_of_ble_eq_true rfl), (Nat.le_of_ble_eq_true rfl)⟩ rfl rfl (Nat.le_of_ble_eq_true rfl) dX4_readPlace_40 ?_
    refine z_istore (lv' := [(5, .int w3), (0, .ref u0), (1, .ref u1), (2, .int v2), (3, .int v3), (4, .int v4)]) B dX4_readPlace_43 (by decide) rfl ?_
    refine z_iload B dX4_readPlace_45 0 rfl ?_
    refine z_iconst (v := (-1)) B dX4_readPlace_47 (by decide) ?_
    rcases zite hf with ⟨c5, hf⟩ | ⟨c5, hf⟩
    · refine z_icmp_ne B 54 dX4_readPlace_48 (by decide) (fun e => absurd c5 e) (fun _ => ?_)
      refine z_goto B 72 dX4_readPlace_51 (by decide) ?_
      refine zV.sub [1, 2, 3, 4, 5] rfl ?_
      exact hk _ _ _ _ hf
    refine z_icmp_ne B 54 dX4_readPlace_48 (by decide) (fun _ => ?_) (fun e => absurd e c5)
    refine z_iload_n B dX4_readPlace_54 rfl 3 rfl ?_
    refine z_iconst (v := 1) B dX4_readPlace_55 (by decide) ?_
    refine z_iload B dX4_readPlace_56 0 rfl ?_
    refine z_ishl B dX4_readPlace_58 ?_
    refine z_ior B dX4_readPlace_59 ?_
    refine z_istore_n (lv' := [(2, .int ((v2 : Int32) ||| ((1 : Int32) <<< (w3 &&& 31)))), (5, .int w3), (0, .ref u0), (1, .ref u1), (3, .int v3), (4, .int v4)]) B dX4_readPlace_60 rfl (by decide) rfl ?_
    refine z_iload B dX4_readPlace_61 1 rfl ?_
    refine z_iconst (v := 1) B dX4_readPlace_63 (by decide) ?_
    refine z_iadd B dX4_readPlace_64 ?_
    refine z_istore_n (lv' := [(3, .int ((w3 : Int32) + 1)), (2, .int ((v2 : Int32) ||| ((1 : Int32) <<< (w3 &&& 31)))), (5, .int w3), (0, .ref u0), (1, .ref u1), (4, .int v4)]) B dX4_readPlace_65 rfl (by decide) rfl ?_
    refine z_iinc (v' := (v4 + 1)) (lv' := [(4, .int (v4 + 1)), (3, .int ((w3 : Int32) + 1)), (2, .int ((v2 : Int32) ||| ((1 : Int32) <<< (w3 &&& 31)))), (5, .int w3), (0, .ref u0), (1, .ref u1)]) B dX4_readPlace_66 5 rfl rfl (by decide) rfl ?_
    refine z_goto B 25 dX4_readPlace_69 (by decide) ?_
    refine zV.sub [4, 5, 2, 1, 0] rfl ?_
    exact ih _ _ _ _ hf
set_option maxRecDepth 100000 in
set_option maxHeartbeats 4000000 in
theorem tX4_readPlace {l : Launch} {G : zG} (hst : l.stackTraces = false) {h : zH} {a0 : Nat} {a1 : Nat} {r : Int32 × zH} (hf : fX4_readPlace h a0 a1 = some r) : zMet l G yX4_readPlace (.code yX4_readPlace cX4_readPlace 6 (some .boolean)) rm_X4_readPlace 0 0 [.ref a0, .ref a1] h (zoi r) := by
  unfold fX4_readPlace at hf
  obtain ⟨-, hf⟩ := zck hf
  refine z_enter (by decide) (Nat.le_of_ble_eq_true rfl) hst (fun x hx B hE => ?_)
  subst hx
  have B : zB G x cX4_readPlace 6 RX4 "readPlace" rm_X4_readPlace (some .boolean) := B
  show zV G x 6 (zQ G x (zoi r) 0 0) h 0 0 0 [(0, .ref a0), (1, .ref a1)] []
  refine z_aload_n B dX4_readPlace_0 rfl 1 rfl ?_
  obtain ⟨w1, h2, ew1, hf⟩ := zb2s hf
  refine z_callVi B [] [] cw_X0_canAddPlace mv_RX4_75 (tX0_canAddPlace hst ew1) rfl (by decide) (kfX0_canAddPlace ew1) ⟨rfl, rfl, (Nat.le_of_ble_eq_true rfl), (Nat.le_of_ble_eq_true rfl), (Nat.le_of_ble_eq_true rfl), (Nat.le_of_ble_eq_true rfl)⟩ rfl rfl (Nat.le_of_ble_eq_true rfl) dX4_readPlace_1 ?_
  rcases zite hf with ⟨c3, hf⟩ | ⟨c3, hf⟩
  · refine z_if_eq B 16 dX4_readPlace_4 (by decide) (fun _ => ?_) (fun e => absurd c3 e)
    refine z_iconst (v := 0) B dX4_readPlace_16 (by decide) ?_
    cases hf
    exact z_zret B dX4_readPlace_17 (Or.inl rfl) (Nat.le_of_ble_eq_true rfl) (Nat.le_of_ble_eq_true rfl)
  refine z_if_eq B 16 dX4_readPlace_4 (by decide) (fun e => absurd e c3) (fun _ => ?_)
  refine z_aload_n B dX4_readPlace_7 rfl 0 rfl ?_
  refine z_bipush (v := 112) B dX4_readPlace_8 (by decide) ?_
  obtain ⟨w4, h5, ew4, hf⟩ := zb2s hf
  refine z_callVi B [.int 112] [] cw_X4_readSign mv_RX4_40 (tX4_readSign hst ew4) rfl (by decide) (kfX4_readSign ew4) ⟨rfl, rfl, (Nat.le_of_ble_eq_true rfl), (Nat.le_of_ble_eq_true rfl), (Nat.le_of_ble_eq_true rfl), (Nat.le_of_ble_eq_true rfl)⟩ rfl rfl (Nat.le_of_ble_eq_true rfl) dX4_readPlace_10 ?_
  rcases zite hf with ⟨c6, hf⟩ | ⟨c6, hf⟩
  · refine z_if_ne B 18 dX4_readPlace_13 (by decide) (fun e => absurd c6 e) (fun _ => ?_)
    refine z_iconst (v := 0) B dX4_readPlace_16 (by decide) ?_
    cases hf
    exact z_zret B dX4_readPlace_17 (Or.inl rfl) (Nat.le_of_ble_eq_true rfl) (Nat.le_of_ble_eq_true rfl)
  refine z_if_ne B 18 dX4_readPlace_13 (by decide) (fun _ => ?_) (fun e => absurd e c6)
  refine z_iconst (v := 0) B dX4_readPlace_18 (by decide) ?_
  refine z_istore_n (lv' := [(2, .int 0), (0, .ref a0), (1, .ref a1)]) B dX4_readPlace_19 rfl (by decide) rfl ?_
  refine z_iconst (v := 0) B dX4_readPlace_20 (by decide) ?_
  refine z_istore_n (lv' := [(3, .int 0), (2, .int 0), (0, .ref a0), (1, .ref a1)]) B dX4_readPlace_21 rfl (by decide) rfl ?_
  refine z_iconst (v := 0) B dX4_readPlace_22 (by decide) ?_
  refine z_istore (lv' := [(4, .int 0), (3, .int 0), (2, .int 0), (0, .ref a0), (1, .ref a1)]) B dX4_readPlace_23 (by decide) rfl ?_
  refine zV.sub [3, 4, 2, 1, 0] rfl ?_
  refine fX4_readPlace_L25_ok B hst hE (fun h7 y8 y9 y10 hf => ?_) _ _ _ _ _ hf
  refine z_iload_n B dX4_readPlace_72 rfl 2 rfl ?_
  rcases zite hf with ⟨c11, hf⟩ | ⟨c11, hf⟩
  · refine z_if_eq B 85 dX4_readPlace_73 (by decide) (fun _ => ?_) (fun e => absurd c11 e)
    refine z_iconst (v := 0) B dX4_readPlace_85 (by decide) ?_
    cases hf
    exact z_zret B dX4_readPlace_86 (Or.inl rfl) (Nat.le_of_ble_eq_true rfl) (Nat.le_of_ble_eq_true rfl)
  refine z_if_eq B 85 dX4_readPlace_73 (by decide) (fun e => absurd e c11) (fun _ => ?_)
  refine z_aload_n B dX4_readPlace_76 rfl 0 rfl ?_
  refine z_bipush (v := 58) B dX4_readPlace_77 (by decide) ?_
  obtain ⟨w12, h13, ew12, hf⟩ := zb2s hf
  refine z_callVi B [.int 58] [] cw_X4_readSign mv_RX4_40 (tX4_readSign hst ew12) rfl (by decide) (kfX4_readSign ew12) ⟨rfl, rfl, (Nat.le_of_ble_eq_true rfl), (Nat.le_of_ble_eq_true rfl), (Nat.le_of_ble_eq_true rfl), (Nat.le_of_ble_eq_true rfl)⟩ rfl rfl (Nat.le_of_ble_eq_true rfl) dX4_readPlace_79 ?_
  rcases zite hf with ⟨c14, hf⟩ | ⟨c14, hf⟩
  · refine z_if_ne B 87 dX4_readPlace_82 (by decide) (fun e => absurd c14 e) (fun _ => ?_)
    refine z_iconst (v := 0) B dX4_readPlace_85 (by decide) ?_
    cases hf
    exact z_zret B dX4_readPlace_86 (Or.inl rfl) (Nat.le_of_ble_eq_true rfl) (Nat.le_of_ble_eq_true rfl)
  refine z_if_ne B 87 dX4_readPlace_82 (by decide) (fun _ => ?_) (fun e => absurd e c14)
  refine z_aload_n B dX4_readPlace_87 rfl 0 rfl ?_
  refine z_iconst (v := 5) B dX4_readPlace_88 (by decide) ?_
  obtain ⟨w15, h16, ew15, hf⟩ := zb2s hf
  refine z_callVi B [.int 5] [] cw_X4_readNumber mv_RX4_48 (tX4_readNumber hst ew15) rfl (by decide) (kfX4_readNumber ew15) ⟨rfl, rfl, (Nat.le_of_ble_eq_true rfl), (Nat.le_of_ble_eq_true rfl), (Nat.le_of_ble_eq_true rfl), (Nat.le_of_ble_eq_true rfl)⟩ rfl rfl (Nat.le_of_ble_eq_true rfl) dX4_readPlace_89 ?_
  refine z_istore (lv' := [(4, .int w15), (0, .ref a0), (1, .ref a1), (2, .int y8), (3, .int y9)]) B dX4_readPlace_92 (by decide) rfl ?_
  refine z_iload B dX4_readPlace_94 0 rfl ?_
  refine z_iconst (v := (-1)) B dX4_readPlace_96 (by decide) ?_
  rcases zite hf with ⟨c17, hf⟩ | ⟨c17, hf⟩
  · refine z_icmp_ne B 102 dX4_readPlace_97 (by decide) (fun e => absurd c17 e) (fun _ => ?_)
    refine z_iconst (v := 0) B dX4_readPlace_100 (by decide) ?_
    cases hf
    exact z_zret B dX4_readPlace_101 (Or.inl rfl) (Nat.le_of_ble_eq_true rfl) (Nat.le_of_ble_eq_true rfl)
  refine z_icmp_ne B 102 dX4_readPlace_97 (by decide) (fun _ => ?_) (fun e => absurd e c17)
  refine z_aload_n B dX4_readPlace_102 rfl 2 rfl ?_
  refine z_iload_n B dX4_readPlace_103 rfl 3 rfl ?_
  refine z_iload B dX4_readPlace_104 0 rfl ?_
  obtain ⟨h18, eh18, hf⟩ := zbs hf
  refine z_callVv B [.int y8, .int w15] [] cw_X0_addPlace mv_RX4_81 (tX0_addPlace hst eh18) rfl (by decide) (kfX0_addPlace eh18) ⟨rfl, rfl, (Nat.le_of_ble_eq_true rfl), (Nat.le_of_ble_eq_true rfl), (Nat.le_of_ble_eq_true rfl), (Nat.le_of_ble_eq_true rfl)⟩ rfl rfl (Nat.le_of_ble_eq_true rfl) dX4_readPlace_106 ?_
  refine z_iconst (v := 1) B dX4_readPlace_109 (by decide) ?_
  cases hf
  exact z_zret B dX4_readPlace_110 (Or.inr rfl) (Nat.le_of_ble_eq_true rfl) (Nat.le_of_ble_eq_true rfl)
