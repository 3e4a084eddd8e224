theorem dX4_shownSign_0 : zD cX4_shownSign 0 (.aload_n 0) 1 1 := ⟨by decide +kernel, rfl⟩
theorem dX4_shownSign_1 : zD cX4_shownSign 1 (.getfield 23) 3 4 := ⟨by decide +kernel, rfl⟩
theorem dX4_shownSign_4 : zD cX4_shownSign 4 (.ifCond .lt 36) 3 7 := ⟨by decide +kernel, rfl⟩
theorem dX4_shownSign_7 : zD cX4_shownSign 7 (.aload_n 0) 1 8 := ⟨by decide +kernel, rfl⟩
theorem dX4_shownSign_8 : zD cX4_shownSign 8 (.getfield 23) 3 11 := ⟨by decide +kernel, rfl⟩
theorem dX4_shownSign_11 : zD cX4_shownSign 11 (.aload_n 0) 1 12 := ⟨by decide +kernel, rfl⟩
theorem dX4_shownSign_12 : zD cX4_shownSign 12 (.getfield 15) 3 15 := ⟨by decide +kernel, rfl⟩
theorem dX4_shownSign_15 : zD cX4_shownSign 15 (.if_icmp .ge 25) 3 18 := ⟨by decide +kernel, rfl⟩
theorem dX4_shownSign_18 : zD cX4_shownSign 18 (.aload_n 0) 1 19 := ⟨by decide +kernel, rfl⟩
theorem dX4_shownSign_19 : zD cX4_shownSign 19 (.getfield 23) 3 22 := ⟨by decide +kernel, rfl⟩
theorem dX4_shownSign_22 : zD cX4_shownSign 22 (.sipush 160) 3 25 := ⟨by decide +kernel, rfl⟩
theorem dX4_shownSign_25 : zD cX4_shownSign 25 (.if_icmp .ge 15) 3 28 := ⟨by decide +kernel, rfl⟩
theorem dX4_shownSign_28 : zD cX4_shownSign 28 (.aload_n 0) 1 29 := ⟨by decide +kernel, rfl⟩
theorem dX4_shownSign_29 : zD cX4_shownSign 29 (.getfield 9) 3 32 := ⟨by decide +kernel, rfl⟩
theorem dX4_shownSign_32 : zD cX4_shownSign 32 (.aload_n 0) 1 33 := ⟨by decide +kernel, rfl⟩
theorem dX4_shownSign_33 : zD cX4_shownSign 33 (.getfield 23) 3 36 := ⟨by decide +kernel, rfl⟩
theorem dX4_shownSign_36 : zD cX4_shownSign 36 (.iaload) 1 37 := ⟨by decide +kernel, rfl⟩
theorem dX4_shownSign_37 : zD cX4_shownSign 37 (.goto 4) 3 40 := ⟨by decide +kernel, rfl⟩
theorem dX4_shownSign_40 : zD cX4_shownSign 40 (.iconst (-1)) 1 41 := ⟨by decide +kernel, rfl⟩
theorem dX4_shownSign_41 : zD cX4_shownSign 41 (.ireturn) 1 42 := ⟨by decide +kernel, rfl⟩
theorem dX4_shownDigit_0 : zD cX4_shownDigit 0 (.aload_n 0) 1 1 := ⟨by decide +kernel, rfl⟩
theorem dX4_shownDigit_1 : zD cX4_shownDigit 1 (.invokevirtual 30) 3 4 := ⟨by decide +kernel, rfl⟩
theorem dX4_shownDigit_4 : zD cX4_shownDigit 4 (.istore_n 1) 1 5 := ⟨by decide +kernel, rfl⟩
theorem dX4_shownDigit_5 : zD cX4_shownDigit 5 (.iload_n 1) 1 6 := ⟨by decide +kernel, rfl⟩
theorem dX4_shownDigit_6 : zD cX4_shownDigit 6 (.bipush 48) 2 8 := ⟨by decide +kernel, rfl⟩
theorem dX4_shownDigit_8 : zD cX4_shownDigit 8 (.if_icmp .lt 16) 3 11 := ⟨by decide +kernel, rfl⟩
theorem dX4_shownDigit_11 : zD cX4_shownDigit 11 (.iload_n 1) 1 12 := ⟨by decide +kernel, rfl⟩
theorem dX4_shownDigit_12 : zD cX4_shownDigit 12 (.bipush 57) 2 14 := ⟨by decide +kernel, rfl⟩
theorem dX4_shownDigit_14 : zD cX4_shownDigit 14 (.if_icmp .gt 10) 3 17 := ⟨by decide +kernel, rfl⟩
theorem dX4_shownDigit_17 : zD cX4_shownDigit 17 (.iload_n 1) 1 18 := ⟨by decide +kernel, rfl⟩
theorem dX4_shownDigit_18 : zD cX4_shownDigit 18 (.bipush 48) 2 20 := ⟨by decide +kernel, rfl⟩
theorem dX4_shownDigit_20 : zD cX4_shownDigit 20 (.isub) 1 21 := ⟨by decide +kernel, rfl⟩
theorem dX4_shownDigit_21 : zD cX4_shownDigit 21 (.goto 4) 3 24 := ⟨by decide +kernel, rfl⟩
theorem dX4_shownDigit_24 : zD cX4_shownDigit 24 (.iconst (-1)) 1 25 := ⟨by decide +kernel, rfl⟩
theorem dX4_shownDigit_25 : zD cX4_shownDigit 25 (.ireturn) 1 26 := ⟨by decide +kernel, rfl⟩
theorem dX4_readDigit_0 : zD cX4_readDigit 0 (.aload_n 0) 1 1 := ⟨by decide +kernel, rfl⟩
theorem dX4_readDigit_1 : zD cX4_readDigit 1 (.invokevirtual 61) 3 4 := ⟨by decide +kernel, rfl⟩
theorem dX4_readDigit_4 : zD cX4_readDigit 4 (.istore_n 3) 1 5 := ⟨by decide +kernel, rfl⟩
theorem dX4_readDigit_5 : zD cX4_readDigit 5 (.iload_n 3) 1 6 := ⟨by decide +kernel, rfl⟩
theorem dX4_readDigit_6 : zD cX4_readDigit 6 (.iconst (-1)) 1 7 := ⟨by decide +kernel, rfl⟩
theorem dX4_readDigit_7 : zD cX4_readDigit 7 (.if_icmp .eq 13) 3 10 := ⟨by decide +kernel, rfl⟩
theorem dX4_readDigit_10 : zD cX4_readDigit 10 (.iload_n 3) 1 11 := ⟨by decide +kernel, rfl⟩
theorem dX4_readDigit_11 : zD cX4_readDigit 11 (.iload_n 1) 1 12 := ⟨by decide +kernel, rfl⟩
theorem dX4_readDigit_12 : zD cX4_readDigit 12 (.if_icmp .lt 8) 3 15 := ⟨by decide +kernel, rfl⟩
theorem dX4_readDigit_15 : zD cX4_readDigit 15 (.iload_n 3) 1 16 := ⟨by decide +kernel, rfl⟩
theorem dX4_readDigit_16 : zD cX4_readDigit 16 (.iload_n 2) 1 17 := ⟨by decide +kernel, rfl⟩
theorem dX4_readDigit_17 : zD cX4_readDigit 17 (.if_icmp .le 5) 3 20 := ⟨by decide +kernel, rfl⟩
theorem dX4_readDigit_20 : zD cX4_readDigit 20 (.iconst (-1)) 1 21 := ⟨by decide +kernel, rfl⟩
theorem dX4_readDigit_21 : zD cX4_readDigit 21 (.ireturn) 1 22 := ⟨by decide +kernel, rfl⟩
theorem dX4_readDigit_22 : zD cX4_readDigit 22 (.aload_n 0) 1 23 := ⟨by decide +kernel, rfl⟩
theorem dX4_readDigit_23 : zD cX4_readDigit 23 (.dup) 1 24 := ⟨by decide +kernel, rfl⟩
theorem dX4_readDigit_24 : zD cX4_readDigit 24 (.getfield 23) 3 27 := ⟨by decide +kernel, rfl⟩
theorem dX4_readDigit_27 : zD cX4_readDigit 27 (.iconst 1) 1 28 := ⟨by decide +kernel, rfl⟩
theorem dX4_readDigit_28 : zD cX4_readDigit 28 (.iadd) 1 29 := ⟨by decide +kernel, rfl⟩
theorem dX4_readDigit_29 : zD cX4_readDigit 29 (.putfield 23) 3 32 := ⟨by decide +kernel, rfl⟩
theorem dX4_readDigit_32 : zD cX4_readDigit 32 (.iload_n 3) 1 33 := ⟨by decide +kernel, rfl⟩
theorem dX4_readDigit_33 : zD cX4_readDigit 33 (.ireturn) 1 34 := ⟨by decide +kernel, rfl⟩
theorem dX4_readNumber_0 : zD cX4_readNumber 0 (.iconst 0) 1 1 := ⟨by decide +kernel, rfl⟩
theorem dX4_readNumber_1 : zD cX4_readNumber 1 (.istore_n 2) 1 2 := ⟨by decide +kernel, rfl⟩
theorem dX4_readNumber_2 : zD cX4_readNumber 2 (.iconst 0) 1 3 := ⟨by decide +kernel, rfl⟩
theorem dX4_readNumber_3 : zD cX4_readNumber 3 (.istore_n 3) 1 4 := ⟨by decide +kernel, rfl⟩
theorem dX4_readNumber_4 : zD cX4_readNumber 4 (.iload_n 3) 1 5 := ⟨by decide +kernel, rfl⟩
theorem dX4_readNumber_5 : zD cX4_readNumber 5 (.iload_n 1) 1 6 := ⟨by decide +kernel, rfl⟩
theorem dX4_readNumber_6 : zD cX4_readNumber 6 (.if_icmp .ge 61) 3 9 := ⟨by decide +kernel, rfl⟩
theorem dX4_readNumber_9 : zD cX4_readNumber 9 (.iload_n 3) 1 10 := ⟨by decide +kernel, rfl⟩
theorem dX4_readNumber_10 : zD cX4_readNumber 10 (.iload_n 1) 1 11 := ⟨by decide +kernel, rfl⟩
theorem dX4_readNumber_11 : zD cX4_readNumber 11 (.iconst 1) 1 12 := ⟨by decide +kernel, rfl⟩
theorem dX4_readNumber_12 : zD cX4_readNumber 12 (.isub) 1 13 := ⟨by decide +kernel, rfl⟩
theorem dX4_readNumber_13 : zD cX4_readNumber 13 (.if_icmp .ne 11) 3 16 := ⟨by decide +kernel, rfl⟩
theorem dX4_readNumber_16 : zD cX4_readNumber 16 (.iload_n 2) 1 17 := ⟨by decide +kernel, rfl⟩
theorem dX4_readNumber_17 : zD cX4_readNumber 17 (.ifCond .ne 7) 3 20 := ⟨by decide +kernel, rfl⟩
theorem dX4_readNumber_20 : zD cX4_readNumber 20 (.iconst 1) 1 21 := ⟨by decide +kernel, rfl⟩
theorem dX4_readNumber_21 : zD cX4_readNumber 21 (.goto 4) 3 24 := ⟨by decide +kernel, rfl⟩
theorem dX4_readNumber_24 : zD cX4_readNumber 24 (.iconst 0) 1 25 := ⟨by decide +kernel, rfl⟩
theorem dX4_readNumber_25 : zD cX4_readNumber 25 (.istore 4) 2 27 := ⟨by decide +kernel, rfl⟩
theorem dX4_readNumber_27 : zD cX4_readNumber 27 (.aload_n 0) 1 28 := ⟨by decide +kernel, rfl⟩
theorem dX4_readNumber_28 : zD cX4_readNumber 28 (.iload 4) 2 30 := ⟨by decide +kernel, rfl⟩
theorem dX4_readNumber_30 : zD cX4_readNumber 30 (.ifCond .eq 7) 3 33 := ⟨by decide +kernel, rfl⟩
theorem dX4_readNumber_33 : zD cX4_readNumber 33 (.iconst 1) 1 34 := ⟨by decide +kernel, rfl⟩
theorem dX4_readNumber_34 : zD cX4_readNumber 34 (.goto 4) 3 37 := ⟨by decide +kernel, rfl⟩
theorem dX4_readNumber_37 : zD cX4_readNumber 37 (.iconst 0) 1 38 := ⟨by decide +kernel, rfl⟩
theorem dX4_readNumber_38 : zD cX4_readNumber 38 (.bipush 9) 2 40 := ⟨by decide +kernel, rfl⟩
theorem dX4_readNumber_40 : zD cX4_readNumber 40 (.invokevirtual 44) 3 43 := ⟨by decide +kernel, rfl⟩
theorem dX4_readNumber_43 : zD cX4_readNumber 43 (.istore 5) 2 45 := ⟨by decide +kernel, rfl⟩
theorem dX4_readNumber_45 : zD cX4_readNumber 45 (.iload 5) 2 47 := ⟨by decide +kernel, rfl⟩
theorem dX4_readNumber_47 : zD cX4_readNumber 47 (.iconst (-1)) 1 48 := ⟨by decide +kernel, rfl⟩
theorem dX4_readNumber_48 : zD cX4_readNumber 48 (.if_icmp .ne 5) 3 51 := ⟨by decide +kernel, rfl⟩
theorem dX4_readNumber_51 : zD cX4_readNumber 51 (.iconst (-1)) 1 52 := ⟨by decide +kernel, rfl⟩
theorem dX4_readNumber_52 : zD cX4_readNumber 52 (.ireturn) 1 53 := ⟨by decide +kernel, rfl⟩
theorem dX4_readNumber_53 : zD cX4_readNumber 53 (.iload_n 2) 1 54 := ⟨by decide +kernel, rfl⟩
theorem dX4_readNumber_54 : zD cX4_readNumber 54 (.bipush 10) 2 56 := ⟨by decide +kernel, rfl⟩
theorem dX4_readNumber_56 : zD cX4_readNumber 56 (.imul) 1 57 := ⟨by decide +kernel, rfl⟩
theorem dX4_readNumber_57 : zD cX4_readNumber 57 (.iload 5) 2 59 := ⟨by decide +kernel, rfl⟩
theorem dX4_readNumber_59 : zD cX4_readNumber 59 (.iadd) 1 60 := ⟨by decide +kernel, rfl⟩
theorem dX4_readNumber_60 : zD cX4_readNumber 60 (.istore_n 2) 1 61 := ⟨by decide +kernel, rfl⟩
theorem dX4_readNumber_61 : zD cX4_readNumber 61 (.iinc 3 1) 3 64 := ⟨by decide +kernel, rfl⟩
theorem dX4_readNumber_64 : zD cX4_readNumber 64 (.goto (-60)) 3 67 := ⟨by decide +kernel, rfl⟩
theorem dX4_readNumber_67 : zD cX4_readNumber 67 (.iload_n 2) 1 68 := ⟨by decide +kernel, rfl⟩
theorem dX4_readNumber_68 : zD cX4_readNumber 68 (.ireturn) 1 69 := ⟨by decide +kernel, rfl⟩
theorem dX0_hasFormat_0 : zD cX0_hasFormat 0 (.iload_n 1) 1 1 := ⟨by decide +kernel, rfl⟩
theorem dX0_hasFormat_1 : zD cX0_hasFormat 1 (.ifCond .lt 15) 3 4 := ⟨by decide +kernel, rfl⟩
theorem dX0_hasFormat_4 : zD cX0_hasFormat 4 (.iload_n 1) 1 5 := ⟨by decide +kernel, rfl⟩
theorem dX0_hasFormat_5 : zD cX0_hasFormat 5 (.aload_n 0) 1 6 := ⟨by decide +kernel, rfl⟩
theorem dX0_hasFormat_6 : zD cX0_hasFormat 6 (.getfield 50) 3 9 := ⟨by decide +kernel, rfl⟩
theorem dX0_hasFormat_9 : zD cX0_hasFormat 9 (.if_icmp .ge 7) 3 12 := ⟨by decide +kernel, rfl⟩
theorem dX0_hasFormat_12 : zD cX0_hasFormat 12 (.iconst 1) 1 13 := ⟨by decide +kernel, rfl⟩
theorem dX0_hasFormat_13 : zD cX0_hasFormat 13 (.goto 4) 3 16 := ⟨by decide +kernel, rfl⟩
theorem dX0_hasFormat_16 : zD cX0_hasFormat 16 (.iconst 0) 1 17 := ⟨by decide +kernel, rfl⟩
theorem dX0_hasFormat_17 : zD cX0_hasFormat 17 (.ireturn) 1 18 := ⟨by decide +kernel, rfl⟩
theorem dX3_usedSize_0 : zD cX3_usedSize 0 (.iconst 0) 1 1 := ⟨by decide +kernel, rfl⟩
theorem dX3_usedSize_1 : zD cX3_usedSize 1 (.istore_n 1) 1 2 := ⟨by decide +kernel, rfl⟩
theorem dX3_usedSize_2 : zD cX3_usedSize 2 (.iconst 0) 1 3 := ⟨by decide +kernel, rfl⟩
theorem dX3_usedSize_3 : zD cX3_usedSize 3 (.istore_n 2) 1 4 := ⟨by decide +kernel, rfl⟩
theorem dX3_usedSize_4 : zD cX3_usedSize 4 (.iload_n 2) 1 5 := ⟨by decide +kernel, rfl⟩
theorem dX3_usedSize_5 : zD cX3_usedSize 5 (.aload_n 0) 1 6 := ⟨by decide +kernel, rfl⟩
theorem dX3_usedSize_6 : zD cX3_usedSize 6 (.getfield 22) 3 9 := ⟨by decide +kernel, rfl⟩
theorem dX3_usedSize_9 : zD cX3_usedSize 9 (.if_icmp .ge 21) 3 12 := ⟨by decide +kernel, rfl⟩
theorem dX3_usedSize_12 : zD cX3_usedSize 12 (.iload_n 1) 1 13 := ⟨by decide +kernel, rfl⟩
theorem dX3_usedSize_13 : zD cX3_usedSize 13 (.aload_n 0) 1 14 := ⟨by decide +kernel, rfl⟩
theorem dX3_usedSize_14 : zD cX3_usedSize 14 (.getfield 11) 3 17 := ⟨by decide +kernel, rfl⟩
theorem dX3_usedSize_17 : zD cX3_usedSize 17 (.iload_n 2) 1 18 := ⟨by decide +kernel, rfl⟩
theorem dX3_usedSize_18 : zD cX3_usedSize 18 (.aaload) 1 19 := ⟨by decide +kernel, rfl⟩
theorem dX3_usedSize_19 : zD cX3_usedSize 19 (.getfield 51) 3 22 := ⟨by decide +kernel, rfl⟩
theorem dX3_usedSize_22 : zD cX3_usedSize 22 (.iadd) 1 23 := ⟨by decide +kernel, rfl⟩
theorem dX3_usedSize_23 : zD cX3_usedSize 23 (.istore_n 1) 1 24 := ⟨by decide +kernel, rfl⟩
theorem dX3_usedSize_24 : zD cX3_usedSize 24 (.iinc 2 1) 3 27 := ⟨by decide +kernel, rfl⟩
theorem dX3_usedSize_27 : zD cX3_usedSize 27 (.goto (-23)) 3 30 := ⟨by decide +kernel, rfl⟩
theorem dX3_usedSize_30 : zD cX3_usedSize 30 (.iload_n 1) 1 31 := ⟨by decide +kernel, rfl⟩
theorem dX3_usedSize_31 : zD cX3_usedSize 31 (.ireturn) 1 32 := ⟨by decide +kernel, rfl⟩
theorem dX6_about_0 : zD cX6_about 0 (.iload_n 1) 1 1 := ⟨by decide +kernel, rfl⟩
theorem dX6_about_1 : zD cX6_about 1 (.tableswitch 111 0 7 #[47, 55, 63, 71, 79, 87, 95, 103]) 47 48 := ⟨by decide +kernel, rfl⟩
theorem dX6_about_48 : zD cX6_about 48 (.aload_n 0) 1 49 := ⟨by decide +kernel, rfl⟩
theorem dX6_about_49 : zD cX6_about 49 (.getfield 57) 3 52 := ⟨by decide +kernel, rfl⟩
theorem dX6_about_52 : zD cX6_about 52 (.getfield 100) 3 55 := ⟨by decide +kernel, rfl⟩
theorem dX6_about_55 : zD cX6_about 55 (.ireturn) 1 56 := ⟨by decide +kernel, rfl⟩
theorem dX6_about_56 : zD cX6_about 56 (.aload_n 0) 1 57 := ⟨by decide +kernel, rfl⟩
theorem dX6_about_57 : zD cX6_about 57 (.getfield 57) 3 60 := ⟨by decide +kernel, rfl⟩
theorem dX6_about_60 : zD cX6_about 60 (.getfield 97) 3 63 := ⟨by decide +kernel, rfl⟩
theorem dX6_about_63 : zD cX6_about 63 (.ireturn) 1 64 := ⟨by decide +kernel, rfl⟩
theorem dX6_about_64 : zD cX6_about 64 (.aload_n 0) 1 65 := ⟨by decide +kernel, rfl⟩
theorem dX6_about_65 : zD cX6_about 65 (.getfield 57) 3 68 := ⟨by decide +kernel, rfl⟩
theorem dX6_about_68 : zD cX6_about 68 (.getfield 103) 3 71 := ⟨by decide +kernel, rfl⟩
theorem dX6_about_71 : zD cX6_about 71 (.ireturn) 1 72 := ⟨by decide +kernel, rfl⟩
theorem dX6_about_72 : zD cX6_about 72 (.aload_n 0) 1 73 := ⟨by decide +kernel, rfl⟩
theorem dX6_about_73 : zD cX6_about 73 (.getfield 36) 3 76 := ⟨by decide +kernel, rfl⟩
theorem dX6_about_76 : zD cX6_about 76 (.getfield 106) 3 79 := ⟨by decide +kernel, rfl⟩
theorem dX6_about_79 : zD cX6_about 79 (.ireturn) 1 80 := ⟨by decide +kernel, rfl⟩
theorem dX6_about_80 : zD cX6_about 80 (.aload_n 0) 1 81 := ⟨by decide +kernel, rfl⟩
theorem dX6_about_81 : zD cX6_about 81 (.getfield 36) 3 84 := ⟨by decide +kernel, rfl⟩
theorem dX6_about_84 : zD cX6_about 84 (.getfield 109) 3 87 := ⟨by decide +kernel, rfl⟩
theorem dX6_about_87 : zD cX6_about 87 (.ireturn) 1 88 := ⟨by decide +kernel, rfl⟩
theorem dX6_about_88 : zD cX6_about 88 (.aload_n 0) 1 89 := ⟨by decide +kernel, rfl⟩
theorem dX6_about_89 : zD cX6_about 89 (.getfield 36) 3 92 := ⟨by decide +kernel, rfl⟩
theorem dX6_about_92 : zD cX6_about 92 (.invokevirtual 112) 3 95 := ⟨by decide +kernel, rfl⟩
theorem dX6_about_95 : zD cX6_about 95 (.ireturn) 1 96 := ⟨by decide +kernel, rfl⟩
theorem dX6_about_96 : zD cX6_about 96 (.aload_n 0) 1 97 := ⟨by decide +kernel, rfl⟩
theorem dX6_about_97 : zD cX6_about 97 (.getfield 36) 3 100 := ⟨by decide +kernel, rfl⟩
theorem dX6_about_100 : zD cX6_about 100 (.getfield 116) 3 103 := ⟨by decide +kernel, rfl⟩
theorem dX6_about_103 : zD cX6_about 103 (.ireturn) 1 104 := ⟨by decide +kernel, rfl⟩
theorem dX6_about_104 : zD cX6_about 104 (.aload_n 0) 1 105 := ⟨by decide +kernel, rfl⟩
theorem dX6_about_105 : zD cX6_about 105 (.getfield 36) 3 108 := ⟨by decide +kernel, rfl⟩
theorem dX6_about_108 : zD cX6_about 108 (.getfield 119) 3 111 := ⟨by decide +kernel, rfl⟩
theorem dX6_about_111 : zD cX6_about 111 (.ireturn) 1 112 := ⟨by decide +kernel, rfl⟩
theorem dX6_about_112 : zD cX6_about 112 (.new 67) 3 115 := ⟨by decide +kernel, rfl⟩
theorem dX6_about_115 : zD cX6_about 115 (.dup) 1 116 := ⟨by decide +kernel, rfl⟩
theorem dX6_about_116 : zD cX6_about 116 (.ldc 122) 2 118 := ⟨by decide +kernel, rfl⟩
theorem dX6_about_118 : zD cX6_about 118 (.invokespecial 71) 3 121 := ⟨by decide +kernel, rfl⟩
theorem dX6_about_121 : zD cX6_about 121 (.athrow) 1 122 := ⟨by decide +kernel, rfl⟩
theorem dX6_requireFormat_0 : zD cX6_requireFormat 0 (.aload_n 0) 1 1 := ⟨by decide +kernel, rfl⟩
theorem dX6_requireFormat_1 : zD cX6_requireFormat 1 (.getfield 57) 3 4 := ⟨by decide +kernel, rfl⟩
theorem dX6_requireFormat_4 : zD cX6_requireFormat 4 (.iload_n 1) 1 5 := ⟨by decide +kernel, rfl⟩
theorem dX6_requireFormat_5 : zD cX6_requireFormat 5 (.invokevirtual 384) 3 8 := ⟨by decide +kernel, rfl⟩
theorem dX6_requireFormat_8 : zD cX6_requireFormat 8 (.ifCond .ne 14) 3 11 := ⟨by decide +kernel, rfl⟩
theorem dX6_requireFormat_11 : zD cX6_requireFormat 11 (.new 337) 3 14 := ⟨by decide +kernel, rfl⟩
theorem dX6_requireFormat_14 : zD cX6_requireFormat 14 (.dup) 1 15 := ⟨by decide +kernel, rfl⟩
theorem dX6_requireFormat_15 : zD cX6_requireFormat 15 (.ldc_w 387) 3 18 := ⟨by decide +kernel, rfl⟩
theorem dX6_requireFormat_18 : zD cX6_requireFormat 18 (.invokespecial 341) 3 21 := ⟨by decide +kernel, rfl⟩
theorem dX6_requireFormat_21 : zD cX6_requireFormat 21 (.athrow) 1 22 := ⟨by decide +kernel, rfl⟩
theorem dX6_requireFormat_22 : zD cX6_requireFormat 22 (.return_) 1 23 := ⟨by decide +kernel, rfl⟩
theorem dX1_holds_0 : zD cX1_holds 0 (.iload_n 1) 1 1 := ⟨by decide +kernel, rfl⟩
theorem dX1_holds_1 : zD cX1_holds 1 (.ifCond .lt 25) 3 4 := ⟨by decide +kernel, rfl⟩
theorem dX1_holds_4 : zD cX1_holds 4 (.iload_n 1) 1 5 := ⟨by decide +kernel, rfl⟩
theorem dX1_holds_5 : zD cX1_holds 5 (.bipush 8) 2 7 := ⟨by decide +kernel, rfl⟩
theorem dX1_holds_7 : zD cX1_holds 7 (.if_icmp .ge 19) 3 10 := ⟨by decide +kernel, rfl⟩
theorem dX1_holds_10 : zD cX1_holds 10 (.aload_n 0) 1 11 := ⟨by decide +kernel, rfl⟩
theorem dX1_holds_11 : zD cX1_holds 11 (.getfield 18) 3 14 := ⟨by decide +kernel, rfl⟩
theorem dX1_holds_14 : zD cX1_holds 14 (.iload_n 1) 1 15 := ⟨by decide +kernel, rfl⟩
theorem dX1_holds_15 : zD cX1_holds 15 (.ishr) 1 16 := ⟨by decide +kernel, rfl⟩
theorem dX1_holds_16 : zD cX1_holds 16 (.iconst 1) 1 17 := ⟨by decide +kernel, rfl⟩
theorem dX1_holds_17 : zD cX1_holds 17 (.iand) 1 18 := ⟨by decide +kernel, rfl⟩
theorem dX1_holds_18 : zD cX1_holds 18 (.iconst 1) 1 19 := ⟨by decide +kernel, rfl⟩
theorem dX1_holds_19 : zD cX1_holds 19 (.if_icmp .ne 7) 3 22 := ⟨by decide +kernel, rfl⟩
theorem dX1_holds_22 : zD cX1_holds 22 (.iconst 1) 1 23 := ⟨by decide +kernel, rfl⟩
theorem dX1_holds_23 : zD cX1_holds 23 (.goto 4) 3 26 := ⟨by decide +kernel, rfl⟩
theorem dX1_holds_26 : zD cX1_holds 26 (.iconst 0) 1 27 := ⟨by decide +kernel, rfl⟩
theorem dX1_holds_27 : zD cX1_holds 27 (.ireturn) 1 28 := ⟨by decide +kernel, rfl⟩
theorem dX1_takeOver_0 : zD cX1_takeOver 0 (.aload_n 1) 1 1 := ⟨by decide +kernel, rfl⟩
theorem dX1_takeOver_1 : zD cX1_takeOver 1 (.getfield 9) 3 4 := ⟨by decide +kernel, rfl⟩
theorem dX1_takeOver_4 : zD cX1_takeOver 4 (.iconst 0) 1 5 := ⟨by decide +kernel, rfl⟩
theorem dX1_takeOver_5 : zD cX1_takeOver 5 (.aload_n 0) 1 6 := ⟨by decide +kernel, rfl⟩
theorem dX1_takeOver_6 : zD cX1_takeOver 6 (.getfield 9) 3 9 := ⟨by decide +kernel, rfl⟩
theorem dX1_takeOver_9 : zD cX1_takeOver 9 (.iconst 0) 1 10 := ⟨by decide +kernel, rfl⟩
theorem dX1_takeOver_10 : zD cX1_takeOver 10 (.bipush 8) 2 12 := ⟨by decide +kernel, rfl⟩
theorem dX1_takeOver_12 : zD cX1_takeOver 12 (.invokestatic 45) 3 15 := ⟨by decide +kernel, rfl⟩
theorem dX1_takeOver_15 : zD cX1_takeOver 15 (.aload_n 1) 1 16 := ⟨by decide +kernel, rfl⟩
theorem dX1_takeOver_16 : zD cX1_takeOver 16 (.getfield 15) 3 19 := ⟨by decide +kernel, rfl⟩
theorem dX1_takeOver_19 : zD cX1_takeOver 19 (.iconst 0) 1 20 := ⟨by decide +kernel, rfl⟩
theorem dX1_takeOver_20 : zD cX1_takeOver 20 (.aload_n 0) 1 21 := ⟨by decide +kernel, rfl⟩
theorem dX1_takeOver_21 : zD cX1_takeOver 21 (.getfield 15) 3 24 := ⟨by decide +kernel, rfl⟩
theorem dX1_takeOver_24 : zD cX1_takeOver 24 (.iconst 0) 1 25 := ⟨by decide +kernel, rfl⟩
theorem dX1_takeOver_25 : zD cX1_takeOver 25 (.bipush 8) 2 27 := ⟨by decide +kernel, rfl⟩
theorem dX1_takeOver_27 : zD cX1_takeOver 27 (.invokestatic 45) 3 30 := ⟨by decide +kernel, rfl⟩
theorem dX1_takeOver_30 : zD cX1_takeOver 30 (.aload_n 0) 1 31 := ⟨by decide +kernel, rfl⟩
theorem dX1_takeOver_31 : zD cX1_takeOver 31 (.aload_n 1) 1 32 := ⟨by decide +kernel, rfl⟩
theorem dX1_takeOver_32 : zD cX1_takeOver 32 (.getfield 18) 3 35 := ⟨by decide +kernel, rfl⟩
theorem dX1_takeOver_35 : zD cX1_takeOver 35 (.putfield 18) 3 38 := ⟨by decide +kernel, rfl⟩
theorem dX1_takeOver_38 : zD cX1_takeOver 38 (.aload_n 0) 1 39 := ⟨by decide +kernel, rfl⟩
theorem dX1_takeOver_39 : zD cX1_takeOver 39 (.aload_n 1) 1 40 := ⟨by decide +kernel, rfl⟩
theorem dX1_takeOver_40 : zD cX1_takeOver 40 (.getfield 22) 3 43 := ⟨by decide +kernel, rfl⟩
theorem dX1_takeOver_43 : zD cX1_takeOver 43 (.putfield 22) 3 46 := ⟨by decide +kernel, rfl⟩
theorem dX1_takeOver_46 : zD cX1_takeOver 46 (.aload_n 0) 1 47 := ⟨by decide +kernel, rfl⟩
theorem dX1_takeOver_47 : zD cX1_takeOver 47 (.aload_n 1) 1 48 := ⟨by decide +kernel, rfl⟩
theorem dX1_takeOver_48 : zD cX1_takeOver 48 (.getfield 25) 3 51 := ⟨by decide +kernel, rfl⟩
theorem dX1_takeOver_51 : zD cX1_takeOver 51 (.putfield 25) 3 54 := ⟨by decide +kernel, rfl⟩
theorem dX1_takeOver_54 : zD cX1_takeOver 54 (.aload_n 0) 1 55 := ⟨by decide +kernel, rfl⟩
theorem dX1_takeOver_55 : zD cX1_takeOver 55 (.aload_n 1) 1 56 := ⟨by decide +kernel, rfl⟩
theorem dX1_takeOver_56 : zD cX1_takeOver 56 (.getfield 28) 3 59 := ⟨by decide +kernel, rfl⟩
theorem dX1_takeOver_59 : zD cX1_takeOver 59 (.putfield 28) 3 62 := ⟨by decide +kernel, rfl⟩
theorem dX1_takeOver_62 : zD cX1_takeOver 62 (.aload_n 0) 1 63 := ⟨by decide +kernel, rfl⟩
theorem dX1_takeOver_63 : zD cX1_takeOver 63 (.aload_n 1) 1 64 := ⟨by decide +kernel, rfl⟩
theorem dX1_takeOver_64 : zD cX1_takeOver 64 (.getfield 32) 3 67 := ⟨by decide +kernel, rfl⟩
theorem dX1_takeOver_67 : zD cX1_takeOver 67 (.putfield 32) 3 70 := ⟨by decide +kernel, rfl⟩
theorem dX1_takeOver_70 : zD cX1_takeOver 70 (.aload_n 0) 1 71 := ⟨by decide +kernel, rfl⟩
theorem dX1_takeOver_71 : zD cX1_takeOver 71 (.aload_n 1) 1 72 := ⟨by decide +kernel, rfl⟩
theorem dX1_takeOver_72 : zD cX1_takeOver 72 (.getfield 35) 3 75 := ⟨by decide +kernel, rfl⟩
theorem dX1_takeOver_75 : zD cX1_takeOver 75 (.putfield 35) 3 78 := ⟨by decide +kernel, rfl⟩
theorem dX1_takeOver_78 : zD cX1_takeOver 78 (.return_) 1 79 := ⟨by decide +kernel, rfl⟩
theorem dX3_takeOver_0 : zD cX3_takeOver 0 (.aload_n 0) 1 1 := ⟨by decide +kernel, rfl⟩
theorem dX3_takeOver_1 : zD cX3_takeOver 1 (.aload_n 1) 1 2 := ⟨by decide +kernel, rfl⟩
theorem dX3_takeOver_2 : zD cX3_takeOver 2 (.getfield 22) 3 5 := ⟨by decide +kernel, rfl⟩
theorem dX3_takeOver_5 : zD cX3_takeOver 5 (.putfield 22) 3 8 := ⟨by decide +kernel, rfl⟩
theorem dX3_takeOver_8 : zD cX3_takeOver 8 (.aload_n 0) 1 9 := ⟨by decide +kernel, rfl⟩
theorem dX3_takeOver_9 : zD cX3_takeOver 9 (.aload_n 1) 1 10 := ⟨by decide +kernel, rfl⟩
theorem dX3_takeOver_10 : zD cX3_takeOver 10 (.getfield 26) 3 13 := ⟨by decide +kernel, rfl⟩
theorem dX3_takeOver_13 : zD cX3_takeOver 13 (.putfield 26) 3 16 := ⟨by decide +kernel, rfl⟩
theorem dX3_takeOver_16 : zD cX3_takeOver 16 (.aload_n 0) 1 17 := ⟨by decide +kernel, rfl⟩
theorem dX3_takeOver_17 : zD cX3_takeOver 17 (.aload_n 1) 1 18 := ⟨by decide +kernel, rfl⟩
theorem dX3_takeOver_18 : zD cX3_takeOver 18 (.getfield 29) 3 21 := ⟨by decide +kernel, rfl⟩
theorem dX3_takeOver_21 : zD cX3_takeOver 21 (.putfield 29) 3 24 := ⟨by decide +kernel, rfl⟩
theorem dX3_takeOver_24 : zD cX3_takeOver 24 (.aload_n 0) 1 25 := ⟨by decide +kernel, rfl⟩
theorem dX3_takeOver_25 : zD cX3_takeOver 25 (.aload_n 1) 1 26 := ⟨by decide +kernel, rfl⟩
theorem dX3_takeOver_26 : zD cX3_takeOver 26 (.getfield 37) 3 29 := ⟨by decide +kernel, rfl⟩
theorem dX3_takeOver_29 : zD cX3_takeOver 29 (.putfield 37) 3 32 := ⟨by decide +kernel, rfl⟩
theorem dX3_takeOver_32 : zD cX3_takeOver 32 (.aload_n 1) 1 33 := ⟨by decide +kernel, rfl⟩
theorem dX3_takeOver_33 : zD cX3_takeOver 33 (.getfield 17) 3 36 := ⟨by decide +kernel, rfl⟩
theorem dX3_takeOver_36 : zD cX3_takeOver 36 (.iconst 0) 1 37 := ⟨by decide +kernel, rfl⟩
theorem dX3_takeOver_37 : zD cX3_takeOver 37 (.aload_n 0) 1 38 := ⟨by decide +kernel, rfl⟩
theorem dX3_takeOver_38 : zD cX3_takeOver 38 (.getfield 17) 3 41 := ⟨by decide +kernel, rfl⟩
theorem dX3_takeOver_41 : zD cX3_takeOver 41 (.iconst 0) 1 42 := ⟨by decide +kernel, rfl⟩
theorem dX3_takeOver_42 : zD cX3_takeOver 42 (.bipush 20) 2 44 := ⟨by decide +kernel, rfl⟩
theorem dX3_takeOver_44 : zD cX3_takeOver 44 (.invokestatic 41) 3 47 := ⟨by decide +kernel, rfl⟩
theorem dX3_takeOver_47 : zD cX3_takeOver 47 (.iconst 0) 1 48 := ⟨by decide +kernel, rfl⟩
theorem dX3_takeOver_48 : zD cX3_takeOver 48 (.istore_n 2) 1 49 := ⟨by decide +kernel, rfl⟩
theorem dX3_takeOver_49 : zD cX3_takeOver 49 (.iload_n 2) 1 50 := ⟨by decide +kernel, rfl⟩
theorem dX3_takeOver_50 : zD cX3_takeOver 50 (.aload_n 0) 1 51 := ⟨by decide +kernel, rfl⟩
theorem dX3_takeOver_51 : zD cX3_takeOver 51 (.getfield 22) 3 54 := ⟨by decide +kernel, rfl⟩
theorem dX3_takeOver_54 : zD cX3_takeOver 54 (.if_icmp .ge 24) 3 57 := ⟨by decide +kernel, rfl⟩
theorem dX3_takeOver_57 : zD cX3_takeOver 57 (.aload_n 0) 1 58 := ⟨by decide +kernel, rfl⟩
theorem dX3_takeOver_58 : zD cX3_takeOver 58 (.getfield 11) 3 61 := ⟨by decide +kernel, rfl⟩
theorem dX3_takeOver_61 : zD cX3_takeOver 61 (.iload_n 2) 1 62 := ⟨by decide +kernel, rfl⟩
theorem dX3_takeOver_62 : zD cX3_takeOver 62 (.aaload) 1 63 := ⟨by decide +kernel, rfl⟩
theorem dX3_takeOver_63 : zD cX3_takeOver 63 (.aload_n 1) 1 64 := ⟨by decide +kernel, rfl⟩
theorem dX3_takeOver_64 : zD cX3_takeOver 64 (.getfield 11) 3 67 := ⟨by decide +kernel, rfl⟩
theorem dX3_takeOver_67 : zD cX3_takeOver 67 (.iload_n 2) 1 68 := ⟨by decide +kernel, rfl⟩
theorem dX3_takeOver_68 : zD cX3_takeOver 68 (.aaload) 1 69 := ⟨by decide +kernel, rfl⟩
theorem dX3_takeOver_69 : zD cX3_takeOver 69 (.invokevirtual 47) 3 72 := ⟨by decide +kernel, rfl⟩
theorem dX3_takeOver_72 : zD cX3_takeOver 72 (.iinc 2 1) 3 75 := ⟨by decide +kernel, rfl⟩
theorem dX3_takeOver_75 : zD cX3_takeOver 75 (.goto (-26)) 3 78 := ⟨by decide +kernel, rfl⟩
theorem dX3_takeOver_78 : zD cX3_takeOver 78 (.return_) 1 79 := ⟨by decide +kernel, rfl⟩
theorem dX7_copyRow_0 : zD cX7_copyRow 0 (.iconst 0) 1 1 := ⟨by decide +kernel, rfl⟩
theorem dX7_copyRow_1 : zD cX7_copyRow 1 (.istore 5) 2 3 := ⟨by decide +kernel, rfl⟩
theorem dX7_copyRow_3 : zD cX7_copyRow 3 (.iload 5) 2 5 := ⟨by decide +kernel, rfl⟩
theorem dX7_copyRow_5 : zD cX7_copyRow 5 (.iload 4) 2 7 := ⟨by decide +kernel, rfl⟩
theorem dX7_copyRow_7 : zD cX7_copyRow 7 (.if_icmp .ge 21) 3 10 := ⟨by decide +kernel, rfl⟩
theorem dX7_copyRow_10 : zD cX7_copyRow 10 (.aload_n 2) 1 11 := ⟨by decide +kernel, rfl⟩
theorem dX7_copyRow_11 : zD cX7_copyRow 11 (.iload_n 3) 1 12 := ⟨by decide +kernel, rfl⟩
theorem dX7_copyRow_12 : zD cX7_copyRow 12 (.iload 5) 2 14 := ⟨by decide +kernel, rfl⟩
theorem dX7_copyRow_14 : zD cX7_copyRow 14 (.iadd) 1 15 := ⟨by decide +kernel, rfl⟩
theorem dX7_copyRow_15 : zD cX7_copyRow 15 (.aload_n 0) 1 16 := ⟨by decide +kernel, rfl⟩
theorem dX7_copyRow_16 : zD cX7_copyRow 16 (.iload_n 1) 1 17 := ⟨by decide +kernel, rfl⟩
theorem dX7_copyRow_17 : zD cX7_copyRow 17 (.iload 5) 2 19 := ⟨by decide +kernel, rfl⟩
theorem dX7_copyRow_19 : zD cX7_copyRow 19 (.iadd) 1 20 := ⟨by decide +kernel, rfl⟩
theorem dX7_copyRow_20 : zD cX7_copyRow 20 (.iaload) 1 21 := ⟨by decide +kernel, rfl⟩
theorem dX7_copyRow_21 : zD cX7_copyRow 21 (.iastore) 1 22 := ⟨by decide +kernel, rfl⟩
theorem dX7_copyRow_22 : zD cX7_copyRow 22 (.iinc 5 1) 3 25 := ⟨by decide +kernel, rfl⟩
theorem dX7_copyRow_25 : zD cX7_copyRow 25 (.goto (-22)) 3 28 := ⟨by decide +kernel, rfl⟩
theorem dX7_copyRow_28 : zD cX7_copyRow 28 (.return_) 1 29 := ⟨by decide +kernel, rfl⟩
theorem dX7_at_0 : zD cX7_at 0 (.bipush 24) 2 2 := ⟨by decide +kernel, rfl⟩
theorem dX7_at_2 : zD cX7_at 2 (.bipush 28) 2 4 := ⟨by decide +kernel, rfl⟩
theorem dX7_at_4 : zD cX7_at 4 (.iload_n 0) 1 5 := ⟨by decide +kernel, rfl⟩
theorem dX7_at_5 : zD cX7_at 5 (.imul) 1 6 := ⟨by decide +kernel, rfl⟩
theorem dX7_at_6 : zD cX7_at 6 (.iadd) 1 7 := ⟨by decide +kernel, rfl⟩
theorem dX7_at_7 : zD cX7_at 7 (.ireturn) 1 8 := ⟨by decide +kernel, rfl⟩
def fX4_shownSign (h : zH) (a0 : Nat) : Option (Int32 × zH) :=
    if zkd h a0 = 5 then
    (zgI h 4 a0 2).bind fun w1 =>
    if (w1 : Int32) < 0 then
    some ((-1), h)
    else
    (zgI h 4 a0 2).bind fun w3 =>
    (zgI h 4 a0 1).bind fun w4 =>
    if (w4 : Int32) ≤ w3 then
    some ((-1), h)
    else
    (zgI h 4 a0 2).bind fun w6 =>
    if (160 : Int32) ≤ w6 then
    some ((-1), h)
    else
    (zgP h 4 a0 0).bind fun w8 =>
    (zgI h 4 a0 2).bind fun w9 =>
    (zaI h w8 (w9)).bind fun w10 =>
    some (w10, h)
    else none
theorem kfX4_shownSign {h : zH} {a0 : Nat} {r : Int32 × zH} (hf : fX4_shownSign h a0 = some r) : zkd h a0 = 5 := by
  unfold fX4_shownSign at hf
  exact (zck hf).1
def fX4_shownDigit (h : zH) (a0 : Nat) : Option (Int32 × zH) :=
    if zkd h a0 = 5 then
    zb2 (fX4_shownSign h (a0)) fun w1 h2 =>
    if (w1 : Int32) < 48 then
    some ((-1), h2)
    else
    if (57 : Int32) < w1 then
    some ((-1), h2)
    else
    some (((w1 : Int32) - 48), h2)
    else none
theorem kfX4_shownDigit {h : zH} {a0 : Nat} {r : Int32 × zH} (hf : fX4_shownDigit h a0 = some r) : zkd h a0 = 5 := by
  unfold fX4_shownDigit at hf
  exact (zck hf).1
def fX4_readDigit (h : zH) (a0 : Nat) (a1 : Int32) (a2 : Int32) : Option (Int32 × zH) :=
    if zkd h a0 = 5 then
    zb2 (fX4_shownDigit h (a0)) fun w1 h2 =>
    if (w1 : Int32) = (-1) then
    some ((-1), h2)
    else
    if (w1 : Int32) < a1 then
    some ((-1), h2)
    else
    if (w1 : Int32) ≤ a2 then
    (zgI h2 4 a0 2).bind fun w6 =>
    (zpI h2 4 a0 2 ((w6 : Int32) + 1)).bind fun h7 =>
    some (w1, h7)
    else
    some ((-1), h2)
    else none
theorem kfX4_readDigit {h : zH} {a0 : Nat} {a1 : Int32} {a2 : Int32} {r : Int32 × zH} (hf : fX4_readDigit h a0 a1 a2 = some r) : zkd h a0 = 5 := by
  unfold fX4_readDigit at hf
  exact (zck hf).1
def fX4_readNumber_L4 (k : zH → Int32 → Int32 → Option (Int32 × zH)) (u0 : Nat) (u1 : Int32) : Nat → zH → Int32 → Int32 → Option (Int32 × zH)
  | 0, _, _, _ => none
  | n + 1, h, v2, v3 => if (u1 : Int32) ≤ v3 then
    k h (v2) (v3)
    else
    if (v3 : Int32) = ((u1 : Int32) - 1) then
    if (v2 : Int32) = 0 then
    zb2 (fX4_readDigit h (u0) (1) (9)) fun w4 h5 =>
    if (w4 : Int32) = (-1) then
    some ((-1), h5)
    else
    fX4_readNumber_L4 k u0 u1 n h5 (((((v2 : Int32) * 10) : Int32) + w4)) ((v3 + 1))
    else
    zb2 (fX4_readDigit h (u0) (0) (9)) fun w7 h8 =>
    if (w7 : Int32) = (-1) then
    some ((-1), h8)
    else
    fX4_readNumber_L4 k u0 u1 n h8 (((((v2 : Int32) * 10) : Int32) + w7)) ((v3 + 1))
    else
    zb2 (fX4_readDigit h (u0) (0) (9)) fun w10 h11 =>
    if (w10 : Int32) = (-1) then
    some ((-1), h11)
    else
    fX4_readNumber_L4 k u0 u1 n h11 (((((v2 : Int32) * 10) : Int32) + w10)) ((v3 + 1))
def fX4_readNumber (h : zH) (a0 : Nat) (a1 : Int32) : Option (Int32 × zH) :=
    if zkd h a0 = 5 then
    fX4_readNumber_L4 (fun h1 v2 v3 =>
    some (v2, h1)) (a0) (a1) zF h (0) (0)
    else none
theorem kfX4_readNumber {h : zH} {a0 : Nat} {a1 : Int32} {r : Int32 × zH} (hf : fX4_readNumber h a0 a1 = some r) : zkd h a0 = 5 := by
  unfold fX4_readNumber at hf
  exact (zck hf).1
def fX0_hasFormat (h : zH) (a0 : Nat) (a1 : Int32) : Option (Int32 × zH) :=
    if zkd h a0 = 1 then
    if (a1 : Int32) < 0 then
    some (0, h)
    else
    (zgI h 0 a0 8).bind fun w2 =>
    if (w2 : Int32) ≤ a1 then
    some (0, h)
    else
    some (1, h)
    else none
theorem kfX0_hasFormat {h : zH} {a0 : Nat} {a1 : Int32} {r : Int32 × zH} (hf : fX0_hasFormat h a0 a1 = some r) : zkd h a0 = 1 := by
  unfold fX0_hasFormat at hf
  exact (zck hf).1
def fX3_usedSize_L4 (k : zH → Int32 → Int32 → Option (Int32 × zH)) (u0 : Nat) : Nat → zH → Int32 → Int32 → Option (Int32 × zH)
  | 0, _, _, _ => none
  | n + 1, h, v1, v2 => (zgI h 3 u0 2).bind fun w1 =>
    if (w1 : Int32) ≤ v2 then
    k h (v1) (v2)
    else
    (zgP h 3 u0 0).bind fun w3 =>
    (zaP h w3 (v2)).bind fun w4 =>
    (zgI h 1 w4 4).bind fun w5 =>
    fX3_usedSize_L4 k u0 n h (((v1 : Int32) + w5)) ((v2 + 1))
def fX3_usedSize (h : zH) (a0 : Nat) : Option (Int32 × zH) :=
    if zkd h a0 = 4 then
    fX3_usedSize_L4 (fun h1 v2 v3 =>
    some (v2, h1)) (a0) zF h (0) (0)
    else none
theorem kfX3_usedSize {h : zH} {a0 : Nat} {r : Int32 × zH} (hf : fX3_usedSize h a0 = some r) : zkd h a0 = 4 := by
  unfold fX3_usedSize at hf
  exact (zck hf).1
def fX6_about (h : zH) (a0 : Nat) (a1 : Int32) : Option ((Int32 ⊕ String) × zH) :=
    if zkd h a0 = 7 then
    if (a1 : Int32) = 0 then
    (zgP h 6 a0 9).bind fun w2 =>
    (zgI h 0 w2 8).bind fun w3 =>
    some (.inl w3, h)
    else
    if (a1 : Int32) = 1 then
    (zgP h 6 a0 9).bind fun w5 =>
    (zgI h 0 w5 9).bind fun w6 =>
    some (.inl w6, h)
    else
    if (a1 : Int32) = 2 then
    (zgP h 6 a0 9).bind fun w8 =>
    (zgI h 0 w8 10).bind fun w9 =>
    some (.inl w9, h)
    else
    if (a1 : Int32) = 3 then
    (zgP h 6 a0 4).bind fun w11 =>
    (zgI h 3 w11 2).bind fun w12 =>
    some (.inl w12, h)
    else
    if (a1 : Int32) = 4 then
    (zgP h 6 a0 4).bind fun w14 =>
    (zgI h 3 w14 5).bind fun w15 =>
    some (.inl w15, h)
    else
    if (a1 : Int32) = 5 then
    (zgP h 6 a0 4).bind fun w17 =>
    zb2 (fX3_usedSize h (w17)) fun w18 h19 =>
    some (.inl w18, h19)
    else
    if (a1 : Int32) = 6 then
    (zgP h 6 a0 4).bind fun w21 =>
    (zgI h 3 w21 3).bind fun w22 =>
    some (.inl w22, h)
    else
    if (a1 : Int32) = 7 then
    (zgP h 6 a0 4).bind fun w24 =>
    (zgI h 3 w24 4).bind fun w25 =>
    some (.inl w25, h)
    else
    some (.inr "java/lang/IllegalArgumentException", zoff h)
    else none
theorem kfX6_about {h : zH} {a0 : Nat} {a1 : Int32} {r : (Int32 ⊕ String) × zH} (hf : fX6_about h a0 a1 = some r) : zkd h a0 = 7 := by
  unfold fX6_about at hf
  exact (zck hf).1
def fX6_requireFormat (h : zH) (a0 : Nat) (a1 : Int32) : Option (Option String × zH) :=
    if zkd h a0 = 7 then
    (zgP h 6 a0 9).bind fun w1 =>
    zb2 (fX0_hasFormat h (w1) (a1)) fun w2 h3 =>
    if (w2 : Int32) = 0 then
    some (some "java/lang/IndexOutOfBoundsException", zoff h3)
    else
    some (none, h3)
    else none
theorem kfX6_requireFormat {h : zH} {a0 : Nat} {a1 : Int32} {r : Option String × zH} (hf : fX6_requireFormat h a0 a1 = some r) : zkd h a0 = 7 := by
  unfold fX6_requireFormat at hf
  exact (zck hf).1
def fX1_holds (h : zH) (a0 : Nat) (a1 : Int32) : Option (Int32 × zH) :=
    if zkd h a0 = 2 then
    if (a1 : Int32) < 0 then
    some (0, h)
    else
    if (8 : Int32) ≤ a1 then
    some (0, h)
    else
    (zgI h 1 a0 2).bind fun w3 =>
    if (((((w3 : Int32) >>> (a1 &&& 31)) : Int32) &&& 1) : Int32) = 1 then
    some (1, h)
    else
    some (0, h)
    else none
theorem kfX1_holds {h : zH} {a0 : Nat} {a1 : Int32} {r : Int32 × zH} (hf : fX1_holds h a0 a1 = some r) : zkd h a0 = 2 := by
  unfold fX1_holds at hf
  exact (zck hf).1
def fX1_takeOver (h : zH) (a0 : Nat) (a1 : Nat) : Option (zH) :=
    if zkd h a0 = 2 then
    (zgP h 1 a1 0).bind fun w1 =>
    (zgP h 1 a0 0).bind fun w2 =>
    (zcp h w1 (0) w2 (0) (8)).bind fun h3 =>
    (zgP h3 1 a1 1).bind fun w4 =>
    (zgP h3 1 a0 1).bind fun w5 =>
    (zcp h3 w4 (0) w5 (0) (8)).bind fun h6 =>
    (zgI h6 1 a1 2).bind fun w7 =>
    (zpI h6 1 a0 2 w7).bind fun h8 =>
    (zgI h8 1 a1 3).bind fun w9 =>
    (zpI h8 1 a0 3 w9).bind fun h10 =>
    (zgI h10 1 a1 4).bind fun w11 =>
    (zpI h10 1 a0 4 w11).bind fun h12 =>
    (zgI h12 1 a1 5).bind fun w13 =>
    (zpZ h12 1 a0 5 w13).bind fun h14 =>
    (zgI h14 1 a1 6).bind fun w15 =>
    (zpI h14 1 a0 6 w15).bind fun h16 =>
    (zgI h16 1 a1 7).bind fun w17 =>
    (zpI h16 1 a0 7 w17).bind fun h18 =>
    some h18
    else none
theorem kfX1_takeOver {h : zH} {a0 : Nat} {a1 : Nat} {r : zH} (hf : fX1_takeOver h a0 a1 = some r) : zkd h a0 = 2 := by
  unfold fX1_takeOver at hf
  exact (zck hf).1
def fX3_takeOver_L49 (k : zH → Int32 → Option (zH)) (u0 : Nat) (u1 : Nat) : Nat → zH → Int32 → Option (zH)
  | 0, _, _ => none
  | n + 1, h, v2 => (zgI h 3 u0 2).bind fun w1 =>
    if (w1 : Int32) ≤ v2 then
    k h (v2)
    else
    (zgP h 3 u0 0).bind fun w3 =>
    (zaP h w3 (v2)).bind fun w4 =>
    (zgP h 3 u1 0).bind fun w5 =>
    (zaP h w5 (v2)).bind fun w6 =>
    (fX1_takeOver h (w4) (w6)).bind fun h7 =>
    fX3_takeOver_L49 k u0 u1 n h7 ((v2 + 1))
def fX3_takeOver (h : zH) (a0 : Nat) (a1 : Nat) : Option (zH) :=
    if zkd h a0 = 4 then
    (zgI h 3 a1 2).bind fun w1 =>
    (zpI h 3 a0 2 w1).bind fun h2 =>
    (zgI h2 3 a1 3).bind fun w3 =>
    (zpI h2 3 a0 3 w3).bind fun h4 =>
    (zgI h4 3 a1 4).bind fun w5 =>
    (zpI h4 3 a0 4 w5).bind fun h6 =>
    (zgI h6 3 a1 5).bind fun w7 =>
    (zpI h6 3 a0 5 w7).bind fun h8 =>
    (zgP h8 3 a1 1).bind fun w9 =>
    (zgP h8 3 a0 1).bind fun w10 =>
    (zcp h8 w9 (0) w10 (0) (20)).bind fun h11 =>
    fX3_takeOver_L49 (fun h12 v13 =>
    some h12) (a0) (a1) zF h11 (0)
    else none
theorem kfX3_takeOver {h : zH} {a0 : Nat} {a1 : Nat} {r : zH} (hf : fX3_takeOver h a0 a1 = some r) : zkd h a0 = 4 := by
  unfold fX3_takeOver at hf
  exact (zck hf).1
def fX7_copyRow_L3 (k : zH → Int32 → Option (zH)) (u0 : Nat) (u1 : Int32) (u2 : Nat) (u3 : Int32) (u4 : Int32) : Nat → zH → Int32 → Option (zH)
  | 0, _, _ => none
  | n + 1, h, v5 => if (u4 : Int32) ≤ v5 then
    k h (v5)
    else
    (zaI h u0 (((u1 : Int32) + v5))).bind fun w2 =>
    (zbI h u2 (((u3 : Int32) + v5)) (w2)).bind fun h3 =>
    fX7_copyRow_L3 k u0 u1 u2 u3 u4 n h3 ((v5 + 1))
def fX7_copyRow (h : zH) (a0 : Nat) (a1 : Int32) (a2 : Nat) (a3 : Int32) (a4 : Int32) : Option (zH) :=
    fX7_copyRow_L3 (fun h1 v2 =>
    some h1) (a0) (a1) (a2) (a3) (a4) zF h (0)
def fX7_at (h : zH) (a0 : Int32) : Option (Int32 × zH) :=
    some (((24 : Int32) + ((28 : Int32) * a0)), h)
abbrev rm_X4_shownSign : Room := { frames := 0, cells := 0, slots := 0, locals := 0 }
set_option maxRecDepth 100000 in
set_option maxHeartbeats 4000000 in
theorem tX4_shownSign {l : Launch} {G : zG} (hst : l.stackTraces = false) {h : zH} {a0 : Nat} {r : Int32 × zH} (hf : fX4_shownSign h a0 = some r) : zMet l G yX4_shownSign (.code yX4_shownSign cX4_shownSign 1 (some .int)) rm_X4_shownSign 0 0 [.ref a0] h (zoi r) := by
  unfold fX4_shownSign at hf
  obtain ⟨-, hf⟩ := zck hf
  refine z_enter (by decide) (Nat.le_of_ble_eq_true rfl) hst (fun x hx B hE => ?_)
  subst hx
  have B : zB G x cX4_shownSign 1 RX4 "shownSign" rm_X4_shownSign (some .int) := B
  show zV G x 1 (zQ G x (zoi r) 0 0) h 0 0 0 [(0, .ref a0)] []
  refine z_aload_n B dX4_shownSign_0 rfl 0 rfl ?_
  obtain ⟨w1, ew1, hf⟩ := zbs hf
  refine z_gI B fl_RX4_23 ew1 rfl dX4_shownSign_1 ?_
  rcases zite hf with ⟨c2, hf⟩ | ⟨c2, hf⟩
  · refine z_if_lt B 40 dX4_shownSign_4 (by decide) (fun _ => ?_) (fun e => absurd c2 e)
    refine z_iconst (v := (-1)) B dX4_shownSign_40 (by decide) ?_
    cases hf
    exact z_iret B dX4_shownSign_41 (Nat.le_of_ble_eq_true rfl) (Nat.le_of_ble_eq_true rfl)
  refine z_if_lt B 40 dX4_shownSign_4 (by decide) (fun e => absurd e c2) (fun _ => ?_)
  refine z_aload_n B dX4_shownSign_7 rfl 0 rfl ?_
  obtain ⟨w3, ew3, hf⟩ := zbs hf
  refine z_gI B fl_RX4_23 ew3 rfl dX4_shownSign_8 ?_
  refine z_aload_n B dX4_shownSign_11 rfl 0 rfl ?_
  obtain ⟨w4, ew4, hf⟩ := zbs hf
  refine z_gI B fl_RX4_15 ew4 rfl dX4_shownSign_12 ?_
  rcases zite hf with ⟨c5, hf⟩ | ⟨c5, hf⟩
  · refine z_icmp_ge B 40 dX4_shownSign_15 (by decide) (fun _ => ?_) (fun e => absurd c5 e)
    refine z_iconst (v := (-1)) B dX4_shownSign_40 (by decide) ?_
    cases hf
    exact z_iret B dX4_shownSign_41 (Nat.le_of_ble_eq_true rfl) (Nat.le_of_ble_eq_true rfl)
  refine z_icmp_ge B 40 dX4_shownSign_15 (by decide) (fun e => absurd e c5) (fun _ => ?_)
  refine z_aload_n B dX4_shownSign_18 rfl 0 rfl ?_
  obtain ⟨w6, ew6, hf⟩ := zbs hf
  refine z_gI B fl_RX4_23 ew6 rfl dX4_shownSign_19 ?_
  refine z_sipush (v := 160) B dX4_shownSign_22 (by decide) ?_
  rcases zite hf with ⟨c7, hf⟩ | ⟨c7, hf⟩
  · refine z_icmp_ge B 40 dX4_shownSign_25 (by decide) (fun _ => ?_) (fun e => absurd c7 e)
    refine z_iconst (v := (-1)) B dX4_shownSign_40 (by decide) ?_
    cases hf
    exact z_iret B dX4_shownSign_41 (Nat.le_of_ble_eq_true rfl) (Nat.le_of_ble_eq_true rfl)
  refine z_icmp_ge B 40 dX4_shownSign_25 (by decide) (fun e => absurd e c7) (fun _ => ?_)
  refine z_aload_n B dX4_shownSign_28 rfl 0 rfl ?_
  obtain ⟨w8, ew8, hf⟩ := zbs hf
  refine z_gP B fl_RX4_9 ew8 rfl dX4_shownSign_29 ?_
  refine z_aload_n B dX4_shownSign_32 rfl 0 rfl ?_
  obtain ⟨w9, ew9, hf⟩ := zbs hf
  refine z_gI B fl_RX4_23 ew9 rfl dX4_shownSign_33 ?_
  obtain ⟨w10, ew10, hf⟩ := zbs hf
  refine z_aI B ew10 dX4_shownSign_36 ?_
  refine z_goto B 41 dX4_shownSign_37 (by decide) ?_
  cases hf
  exact z_iret B dX4_shownSign_41 (Nat.le_of_ble_eq_true rfl) (Nat.le_of_ble_eq_true rfl)
abbrev rm_X4_shownDigit : Room := { frames := 1, cells := 0, slots := 0, locals := 20 }
set_option maxRecDepth 100000 in
set_option maxHeartbeats 4000000 in
theorem tX4_shownDigit {l : Launch} {G : zG} (hst : l.stackTraces = false) {h : zH} {a0 : Nat} {r : Int32 × zH} (hf : fX4_shownDigit h a0 = some r) : zMet l G yX4_shownDigit (.code yX4_shownDigit cX4_shownDigit 2 (some .int)) rm_X4_shownDigit 0 0 [.ref a0] h (zoi r) := by
  unfold fX4_shownDigit at hf
  obtain ⟨-, hf⟩ := zck hf
  refine z_enter (by decide) (Nat.le_of_ble_eq_true rfl) hst (fun x hx B hE => ?_)
  subst hx
  have B : zB G x cX4_shownDigit 2 RX4 "shownDigit" rm_X4_shownDigit (some .int) := B
  show zV G x 2 (zQ G x (zoi r) 0 0) h 0 0 0 [(0, .ref a0)] []
  refine z_aload_n B dX4_shownDigit_0 rfl 0 rfl ?_
  obtain ⟨w1, h2, ew1, hf⟩ := zb2s hf
  refine z_callVi B [] [] cw_X4_shownSign mv_RX4_30 (tX4_shownSign hst ew1) rfl (by decide) (kfX4_shownSign ew1) ⟨rfl, rfl, (Nat.le_of_ble_eq_true rfl), (Nat.le_of_ble_eq_true rfl), (Nat.le_of_ble_eq_true rfl), (Nat.le_of_ble_eq_true rfl)⟩ rfl rfl (Nat.le_of_ble_eq_true rfl) dX4_shownDigit_1 ?_
  refine z_istore_n (lv' := [(1, .int w1), (0, .ref a0)]) B dX4_shownDigit_4 rfl (by decide) rfl ?_
  refine z_iload_n B dX4_shownDigit_5 rfl 0 rfl ?_
  refine z_bipush (v := 48) B dX4_shownDigit_6 (by decide) ?_
  rcases zite hf with ⟨c3, hf⟩ | ⟨c3, hf⟩
  · refine z_icmp_lt B 24 dX4_shownDigit_8 (by decide) (fun _ => ?_) (fun e => absurd c3 e)
    refine z_iconst (v := (-1)) B dX4_shownDigit_24 (by decide) ?_
    cases hf
    exact z_iret B dX4_shownDigit_25 (Nat.le_of_ble_eq_true rfl) (Nat.le_of_ble_eq_true rfl)
  refine z_icmp_lt B 24 dX4_shownDigit_8 (by decide) (fun e => absurd e c3) (fun _ => ?_)
  refine z_iload_n B dX4_shownDigit_11 rfl 0 rfl ?_
  refine z_bipush (v := 57) B dX4_shownDigit_12 (by decide) ?_
  rcases zite hf with ⟨c4, hf⟩ | ⟨c4, hf⟩
  · refine z_icmp_gt B 24 dX4_shownDigit_14 (by decide) (fun _ => ?_) (fun e => absurd c4 e)
    refine z_iconst (v := (-1)) B dX4_shownDigit_24 (by decide) ?_
    cases hf
    exact z_iret B dX4_shownDigit_25 (Nat.le_of_ble_eq_true rfl) (Nat.le_of_ble_eq_true rfl)
  refine z_icmp_gt B 24 dX4_shownDigit_14 (by decide) (fun e => absurd e c4) (fun _ => ?_)
  refine z_iload_n B dX4_shownDigit_17 rfl 0 rfl ?_
  refine z_bipush (v := 48) B dX4_shownDigit_18 (by decide) ?_
  refine z_isub B dX4_shownDigit_20 ?_
  refine z_goto B 25 dX4_shownDigit_21 (by decide) ?_
  cases hf
  exact z_iret B dX4_shownDigit_25 (Nat.le_of_ble_eq_true rfl) (Nat.le_of_ble_eq_true rfl)
abbrev rm_X4_readDigit : Room := { frames := 2, cells := 0, slots := 0, locals := 41 }
set_option maxRecDepth 100000 in
set_option maxHeartbeats 4000000 in
theorem tX4_readDigit {l : Launch} {G : zG} (hst : l.stackTraces = false) {h : zH} {a0 : Nat} {a1 : Int32} {a2 : Int32} {r : Int32 × zH} (hf : fX4_readDigit h a0 a1 a2 = some r) : zMet l G yX4_readDigit (.code yX4_readDigit cX4_readDigit 4 (some .int)) rm_X4_readDigit 0 0 [.ref a0, .int a1, .int a2] h (zoi r) := by
  unfold fX4_readDigit at hf
  obtain ⟨-, hf⟩ := zck hf
  refine z_enter (by decide) (Nat.le_of_ble_eq_true rfl) hst (fun x hx B hE => ?_)
  subst hx
  have B : zB G x cX4_readDigit 4 RX4 "readDigit" rm_X4_readDigit (some .int) := B
  show zV G x 4 (zQ G x (zoi r) 0 0) h 0 0 0 [(0, .ref a0), (1, .int a1), (2, .int a2)] []
  refine z_aload_n B dX4_readDigit_0 rfl 0 rfl ?_
  obtain ⟨w1, h2, ew1, hf⟩ := zb2s hf
  refine z_callVi B [] [] cw_X4_shownDigit mv_RX4_61 (tX4_shownDigit hst ew1) rfl (by decide) (kfX4_shownDigit ew1) ⟨rfl, rfl, (Nat.le_of_ble_eq_true rfl), (Nat.le_of_ble_eq_true rfl), (Nat.le_of_ble_eq_true rfl), (Nat.le_of_ble_eq_true rfl)⟩ rfl rfl (Nat.le_of_ble_eq_true rfl) dX4_readDigit_1 ?_
  refine z_istore_n (lv' := [(3, .int w1), (0, .ref a0), (1, .int a1), (2, .int a2)]) B dX4_readDigit_4 rfl (by decide) rfl ?_
  refine z_iload_n B dX4_readDigit_5 rfl 0 rfl ?_
  refine z_iconst (v := (-1)) B dX4_readDigit_6 (by decide) ?_
  rcases zite hf with ⟨c3, hf⟩ | ⟨c3, hf⟩
  · refine z_icmp_eq B 20 dX4_readDigit_7 (by decide) (fun _ => ?_) (fun e => absurd c3 e)
    refine z_iconst (v := (-1)) B dX4_readDigit_20 (by decide) ?_
    cases hf
    exact z_iret B dX4_readDigit_21 (Nat.le_of_ble_eq_true rfl) (Nat.le_of_ble_eq_true rfl)
  refine z_icmp_eq B 20 dX4_readDigit_7 (by decide) (fun e => absurd e c3) (fun _ => ?_)
  refine z_iload_n B dX4_readDigit_10 rfl 0 rfl ?_
  refine z_iload_n B dX4_readDigit_11 rfl 2 rfl ?_
  rcases zite hf with ⟨c4, hf⟩ | ⟨c4, hf⟩
  · refine z_icmp_lt B 20 dX4_readDigit_12 (by decide) (fun _ => ?_) (fun e => absurd c4 e)
    refine z_iconst (v := (-1)) B dX4_readDigit_20 (by decide) ?_
    cases hf
    exact z_iret B dX4_readDigit_21 (Nat.le_of_ble_eq_true rfl) (Nat.le_of_ble_eq_true rfl)
  refine z_icmp_lt B 20 dX4_readDigit_12 (by decide) (fun e => absurd e c4) (fun _ => ?_)
  refine z_iload_n B dX4_readDigit_15 rfl 0 rfl ?_
  refine z_iload_n B dX4_readDigit_16 rfl 3 rfl ?_
  rcases zite hf with ⟨c5, hf⟩ | ⟨c5, hf⟩
  · refine z_icmp_le B 22 dX4_readDigit_17 (by decide) (fun _ => ?_) (fun e => absurd c5 e)
    refine z_aload_n B dX4_readDigit_22 rfl 1 rfl ?_
    refine z_dup B dX4_readDigit_23 rfl ?_
    obtain ⟨w6, ew6, hf⟩ := zbs hf
    refine z_gI B fl_RX4_23 ew6 rfl dX4_readDigit_24 ?_
    refine z_iconst (v := 1) B dX4_readDigit_27 (by decide) ?_
    refine z_iadd B dX4_readDigit_28 ?_
    obtain ⟨h7, eh7, hf⟩ := zbs hf
    refine z_pI B fl_RX4_23 eh7 rfl dX4_readDigit_29 ?_
    refine z_iload_n B dX4_readDigit_32 rfl 0 rfl ?_
    cases hf
    exact z_iret B dX4_readDigit_33 (Nat.le_of_ble_eq_true rfl) (Nat.le_of_ble_eq_true rfl)
  refine z_icmp_le B 22 dX4_readDigit_17 (by decide) (fun e => absurd e c5) (fun _ => ?_)
  refine z_iconst (v := (-1)) B dX4_readDigit_20 (by decide) ?_
  cases hf
  exact z_iret B dX4_readDigit_21 (Nat.le_of_ble_eq_true rfl) (Nat.le_of_ble_eq_true rfl)
abbrev rm_X4_readNumber : Room := { frames := 3, cells := 0, slots := 0, locals := 64 }
set_option maxRecDepth 100000 in
set_option maxHeartbeats 4000000 in
theorem fX4_readNumber_L4_ok {G : zG} {x : zX} (B : zB G x cX4_readNumber 6 RX4 "readNumber" rm_X4_readNumber (some .int)) (hst : (zl x).stackTraces = false) (hE : ∀ e ∈ (zc x).exceptionTable.toList, False) {r : Int32 × zH} {k : zH → Int32 → Int32 → Option (Int32 × zH)} {u0 : Nat} {u1 : Int32} (hk : ∀ h v2 v3, k h v2 v3 = some r → zV G x 6 (zQ G x (zoi r) 0 0) h 0 0 67 [(0, .ref u0), (1, .int u1), (2, .int v2), (3, .int v3)] []) : ∀ n h v2 v3, fX4_readNumber_L4 k u0 u1 n h v2 v3 = some r → zV G x 6 (zQ G x (zoi r) 0 0) h 0 0 4 [(0, .ref u0), (1, .int u1), (2, .int v2), (3, .int v3)] [] := by
  intro n
  induction n with
  | zero =>
    intro h v2 v3 hf
    have hf : (none : Option (Int32 × zH)) = some r := hf
    cases hf
  | succ n ih =>
    intro h v2 v3 hf
    rw [fX4_readNumber_L4] at hf
    refine z_iload_n B dX4_readNumber_4 rfl 3 rfl ?_
    refine z_iload_n B dX4_readNumber_5 rfl 1 rfl ?_
    rcases zite hf with ⟨c1, hf⟩ | ⟨c1, hf⟩
    · refine z_icmp_ge B 67 dX4_readNumber_6 (by decide) (fun _ => ?_) (fun e => absurd c1 e)
      exact hk _ _ _ hf
    refine z_icmp_ge B 67 dX4_readNumber_6 (by decide) (fun e => absurd e c1) (fun _ => ?_)
    refine z_iload_n B dX4_readNumber_9 rfl 3 rfl ?_
    refine z_iload_n B dX4_readNumber_10 rfl 1 rfl ?_
    refine z_iconst (v := 1) B dX4_readNumber_11 (by decide) ?_
    refine z_isub B dX4_readNumber_12 ?_
    rcases zite hf with ⟨c2, hf⟩ | ⟨c2, hf⟩
    · refine z_icmp_ne B 24 dX4_readNumber_13 (by decide) (fun e => absurd c2 e) (fun _ => ?_)
      refine z_iload_n B dX4_readNumber_16 rfl 2 rfl ?_
      rcases zite hf with ⟨c3, hf⟩ | ⟨c3, hf⟩
      · refine z_if_ne B 24 dX4_readNumber_17 (by decide) (fun e => absurd c3 e) (fun _ => ?_)
        refine z_iconst (v := 1) B dX4_readNumber_20 (by decide) ?_
        refine z_goto B 25 dX4_readNumber_21 (by decide) ?_
        refine z_istore (lv' := [(4, .int 1), (0, .ref u0), (1, .int u1), (2, .int v2), (3, .int v3)]) B dX4_readNumber_25 (by decide) rfl ?_
        refine z_aload_n B dX4_readNumber_27 rfl 1 rfl ?_
        refine z_iload B dX4_readNumber_28 0 rfl ?_
        refine z_if_eq B 37 dX4_readNumber_30 (by decide) (fun e => absurd e (by decide)) (fun _ => ?_)
        refine z_iconst (v := 1) B dX4_readNumber_33 (by decide) ?_
        refine z_goto B 38 dX4_readNumber_34 (by decide) ?_
        refine z_bipush (v := 9) B dX4_readNumber_38 (by decide) ?_
        obtain ⟨w4, h5, ew4, hf⟩ := zb2s hf
        refine z_callVi B [.int 1, .int 9] [] cw_X4_readDigit mv_RX4_44 (tX4_readDigit hst ew4) rfl (by decide) (kfX4_readDigit ew4) ⟨rfl, rfl, (Nat.le_of_ble_eq_true rfl), (Nat.le_of_ble_eq_true rfl), (Nat.le_of_ble_eq_true rfl), (Nat.le_of_ble_eq_true rfl)⟩ rfl rfl (Nat.le_of_ble_eq_true rfl) dX4_readNumber_40 ?_
        refine z_istore (lv' := [(5, .int w4), (4, .int 1), (0, .ref u0), (1, .int u1), (2, .int v2), (3, .int v3)]) B dX4_readNumber_43 (by decide) rfl ?_
        refine z_iload B dX4_readNumber_45 0 rfl ?_
        refine z_iconst (v := (-1)) B dX4_readNumber_47 (by decide) ?_
        rcases zite hf with ⟨c6, hf⟩ | ⟨c6, hf⟩
        · refine z_icmp_ne B 53 dX4_readNumber_48 (by decide) (fun e => absurd c6 e) (fun _ => ?_)
          refine z_iconst (v := (-1)) B dX4_readNumber_51 (by decide) ?_
          cases hf
          exact z_iret B dX4_readNumber_52 (Nat.le_of_ble_eq_true rfl) (Nat.le_of_ble_eq_true rfl)
        refine z_icmp_ne B 53 dX4_readNumber_48 (by decide) (fun _ => ?_) (fun e => absurd e c6)
        refine z_iload_n B dX4_readNumber_53 rfl 4 rfl ?_
        refine z_bipush (v := 10) B dX4_readNumber_54 (by decide) ?_
        refine z_imul B dX4_readNumber_56 ?_
        refine z_iload B dX4_readNumber_57 0 rfl ?_
        refine z_iadd B dX4_readNumber_59 ?_
        refine z_istore_n (lv' := [(2, .int ((((v2 : Int32) * 10) : Int32) + w4)), (5, .int w4), (4, .int 1), (0, .ref u0), (1, .int u1), (3, .int v3)]) B dX4_readNumber_60 rfl (by decide) rfl ?_
        refine z_iinc (v' := (v3 + 1)) (lv' := [(3, .int (v3 + 1)), (2, .int ((((v2 : Int32) * 10) : Int32) + w4)), (5, .int w4), (4, .int 1), (0, .ref u0), (1, .int u1)]) B dX4_readNumber_61 5 rfl rfl (by decide) rfl ?_
        refine z_goto B 4 dX4_readNumber_64 (by decide) ?_
        refine zV.sub [4, 5, 1, 0] rfl ?_
        exact ih _ _ _ hf
      refine z_if_ne B 24 dX4_readNumber_17 (by decide) (fun _ => ?_) (fun e => absurd e c3)
      refine z_iconst (v := 0) B dX4_readNumber_24 (by decide) ?_
      refine z_istore (lv' := [(4, .int 0), (0, .ref u0), (1, .int u1), (2, .int v2), (3, .int v3)]) B dX4_readNumber_25 (by decide) rfl ?_
      refine z_aload_n B dX4_readNumber_27 rfl 1 rfl ?_
      refine z_iload B dX4_readNumber_28 0 rfl ?_
      refine z_if_eq B 37 dX4_readNumber_30 (by decide) (fun _ => ?_) (fun e => absurd e (by decide))
      refine z_iconst (v := 0) B dX4_readNumber_37 (by decide) ?_
      refine z_bipush (v := 9) B dX4_readNumber_38 (by decide) ?_
      obtain ⟨w7, h8, ew7, hf⟩ := zb2s hf
      refine z_callVi B [.int 0, .int 9] [] cw_X4_readDigit mv_RX4_44 (tX4_readDigit hst ew7) rfl (by decide) (kfX4_readDigit ew7) ⟨rfl, rfl, (Nat.le_of_ble_eq_true rfl), (Nat.le_of_ble_eq_true rfl), (Nat.le_of_ble_eq_true rfl), (Nat.le_of_ble_eq_true rfl)⟩ rfl rfl (Nat.le_of_ble_eq_true rfl) dX4_readNumber_40 ?_
      refine z_istore (lv' := [(5, .int w7), (4, .int 0), (0, .ref u0), (1, .int u1), (2, .int v2), (3, .int v3)]) B dX4_readNumber_43 (by decide) rfl ?_
      refine z_iload B dX4_readNumber_45 0 rfl ?_
      refine z_iconst (v := (-1)) B dX4_readNumber_47 (by decide) ?_
      rcases zite hf with ⟨c9, hf⟩ | ⟨c9, hf⟩
      · refine z_icmp_ne B 53 dX4_readNumber_48 (by decide) (fun e => absurd c9 e) (fun _ => ?_)
        refine z_iconst (v := (-1)) B dX4_readNumber_51 (by decide) ?_
        cases hf
        exact z_iret B dX4_readNumber_52 (Nat.le_of_ble_eq_true rfl) (Nat.le_of_ble_eq_true rfl)
      refine z_icmp_ne B 53 dX4_readNumber_48 (by decide) (fun _ => ?_) (fun e => absurd e c9)
      refine z_iload_n B dX4_readNumber_53 rfl 4 rfl ?_
      refine z_bipush (v := 10) B dX4_readNumber_54 (by decide) ?_
      refine z_imul B dX4_readNumber_56 ?_
      refine z_iload B dX4_readNumber_57 0 rfl ?_
      refine z_iadd B dX4_readNumber_59 ?_
      refine z_istore_n (lv' := [(2, .int ((((v2 : Int32) * 10) : Int32) + w7)), (5, .int w7), (4, .int 0), (0, .ref u0), (1, .int u1), (3, .int v3)]) B dX4_readNumber_60 rfl (by decide) rfl ?_
      refine z_iinc (v' := (v3 + 1)) (lv' := [(3, .int (v3 + 1)), (2, .int ((((v2 : Int32) * 10) : Int32) + w7)), (5, .int w7), (4, .int 0), (0, .ref u0), (1, .int u1)]) B dX4_readNumber_61 5 rfl rfl (by decide) rfl ?_
      refine z_goto B 4 dX4_readNumber_64 (by decide) ?_
      refine zV.sub [4, 5, 1, 0] rfl ?_
      exact ih _ _ _ hf
    refine z_icmp_ne B 24 dX4_readNumber_13 (by decide) (fun _ => ?_) (fun e => absurd e c2)
    refine z_iconst (v := 0) B dX4_readNumber_24 (by decide) ?_
    refine z_istore (lv' := [(4, .int 0), (0, .ref u0), (1, .int u1), (2, .int v2), (3, .int v3)]) B dX4_readNumber_25 (by decide) rfl ?_
    refine z_aload_n B dX4_readNumber_27 rfl 1 rfl ?_
    refine z_iload B dX4_readNumber_28 0 rfl ?_
    refine z_if_eq B 37 dX4_readNumber_30 (by decide) (fun _ => ?_) (fun e => absurd e (by decide))
    refine z_iconst (v := 0) B dX4_readNumber_37 (by decide) ?_
    refine z_bipush (v := 9) B dX4_readNumber_38 (by decide) ?_
    obtain ⟨w10, h11, ew10, hf⟩ := zb2s hf
    refine z_callVi B [.int 0, .int 9] [] cw_X4_readDigit mv_RX4_44 (tX4_readDigit hst ew10) rfl (by decide) (kfX4_readDigit ew10) ⟨rfl, rfl, (Nat.le_of_ble_eq_true rfl), (Nat.le_of_ble_eq_true rfl), (Nat.le_of_ble_eq_true rfl), (Nat.le_of_ble_eq_true rfl)⟩ rfl rfl (Nat.le_of_ble_eq_true rfl) dX4_readNumber_40 ?_
    refine z_istore (lv' := [(5, .int w10), (4, .int 0), (0, .ref u0), (1, .int u1), (2, .int v2), (3, .int v3)]) B dX4_readNumber_43 (by decide) rfl ?_
    refine z_iload B dX4_readNumber_45 0 rfl ?_
    refine z_iconst (v := (-1)) B dX4_readNumber_47 (by decide) ?_
    rcases zite hf with ⟨c12, hf⟩ | ⟨c12, hf⟩
    · refine z_icmp_ne B 53 dX4_readNumber_48 (by decide) (fun e => absurd c12 e) (fun _ => ?_)
      refine z_iconst (v := (-1)) B dX4_readNumber_51 (by decide) ?_
      cases hf
      exact z_iret B dX4_readNumber_52 (Nat.le_of_ble_eq_true rfl) (Nat.le_of_ble_eq_true rfl)
    refine z_icmp_ne B 53 dX4_readNumber_48 (by decide) (fun _ => ?_) (fun e => absurd e c12)
    refine z_iload_n B dX4_readNumber_53 rfl 4 rfl ?_
    refine z_bipush (v := 10) B dX4_readNumber_54 (by decide) ?_
    refine z_imul B dX4_readNumber_56 ?_
    refine z_iload B dX4_readNumber_57 0 rfl ?_
    refine z_iadd B dX4_readNumber_59 ?_
    refine z_istore_n (lv' := [(2, .int ((((v2 : Int32) * 10) : Int32) + w10)), (5, .int w10), (4, .int 0), (0, .ref u0), (1, .int u1), (3, .int v3)]) B dX4_readNumber_60 rfl (by decide) rfl ?_
    refine z_iinc (v' := (v3 + 1)) (lv' := [(3, .int (v3 + 1)), (2, .int ((((v2 : Int32) * 10) : Int32) + w10)), (5, .int w10), (4, .int 0), (0, .ref u0), (1, .int u1)]) B dX4_readNumber_61 5 rfl rfl (by decide) rfl ?_
    refine z_goto B 4 dX4_readNumber_64 (by decide) ?_
    refine zV.sub [4, 5, 1, 0] rfl ?_
    exact ih _ _ _ hf
set_option maxRecDepth 100000 in
set_option maxHeartbeats 4000000 in
theorem tX4_readNumber {l : Launch} {G : zG} (hst : l.stackTraces = false) {h : zH} {a0 : Nat} {a1 : Int32} {r : Int32 × zH} (hf : fX4_readNumber h a0 a1 = some r) : zMet l G yX4_readNumber (.code yX4_readNumber cX4_readNumber 6 (some .int)) rm_X4_readNumber 0 0 [.ref a0, .int a1] h (zoi r) := by
  unfold fX4_readNumber at hf
  obtain ⟨-, hf⟩ := zck hf
  refine z_enter (by decide) (Nat.le_of_ble_eq_true rfl) hst (fun x hx B hE => ?_)
  subst hx
  have B : zB G x cX4_readNumber 6 RX4 "readNumber" rm_X4_readNumber (some .int) := B
  show zV G x 6 (zQ G x (zoi r) 0 0) h 0 0 0 [(0, .ref a0), (1, .int a1)] []
  refine z_iconst (v := 0) B dX4_readNumber_0 (by decide) ?_
  refine z_istore_n (lv' := [(2, .int 0), (0, .ref a0), (1, .int a1)]) B dX4_readNumber_1 rfl (by decide) rfl ?_
  refine z_iconst (v := 0) B dX4_readNumber_2 (by decide) ?_
  refine z_istore_n (lv' := [(3, .int 0), (2, .int 0), (0, .ref a0), (1, .int a1)]) B dX4_readNumber_3 rfl (by decide) rfl ?_
  refine zV.sub [2, 3, 1, 0] rfl ?_
  refine fX4_readNumber_L4_ok B hst hE (fun h1 v2 v3 hf => ?_) _ _ _ _ hf
  refine z_iload_n B dX4_readNumber_67 rfl 2 rfl ?_
  cases hf
  exact z_iret B dX4_readNumber_68 (Nat.le_of_ble_eq_true rfl) (Nat.le_of_ble_eq_true rfl)
abbrev rm_X0_hasFormat : Room := { frames := 0, cells := 0, slots := 0, locals := 0 }
set_option maxRecDepth 100000 in
set_option maxHeartbeats 4000000 in
theorem tX0_hasFormat {l : Launch} {G : zG} (hst : l.stackTraces = false) {h : zH} {a0 : Nat} {a1 : Int32} {r : Int32 × zH} (hf : fX0_hasFormat h a0 a1 = some r) : zMet l G yX0_hasFormat (.code yX0_hasFormat cX0_hasFormat 2 (some .boolean)) rm_X0_hasFormat 0 0 [.ref a0, .int a1] h (zoi r) := by
  unfold fX0_hasFormat at hf
  obtain ⟨-, hf⟩ := zck hf
  refine z_enter (by decide) (Nat.le_of_ble_eq_true rfl) hst (fun x hx B hE => ?_)
  subst hx
  have B : zB G x cX0_hasFormat 2 RX0 "hasFormat" rm_X0_hasFormat (some .boolean) := B
  show zV G x 2 (zQ G x (zoi r) 0 0) h 0 0 0 [(0, .ref a0), (1, .int a1)] []
  refine z_iload_n B dX0_hasFormat_0 rfl 1 rfl ?_
  rcases zite hf with ⟨c1, hf⟩ | ⟨c1, hf⟩
  · refine z_if_lt B 16 dX0_hasFormat_1 (by decide) (fun _ => ?_) (fun e => absurd c1 e)
    refine z_iconst (v := 0) B dX0_hasFormat_16 (by decide) ?_
    cases hf
    exact z_zret B dX0_hasFormat_17 (Or.inl rfl) (Nat.le_of_ble_eq_true rfl) (Nat.le_of_ble_eq_true rfl)
  refine z_if_lt B 16 dX0_hasFormat_1 (by decide) (fun e => absurd e c1) (fun _ => ?_)
  refine z_iload_n B dX0_hasFormat_4 rfl 1 rfl ?_
  refine z_aload_n B dX0_hasFormat_5 rfl 0 rfl ?_
  obtain ⟨w2, ew2, hf⟩ := zbs hf
  refine z_gI B fl_RX0_50 ew2 rfl dX0_hasFormat_6 ?_
  rcases zite hf with ⟨c3, hf⟩ | ⟨c3, hf⟩
  · refine z_icmp_ge B 16 dX0_hasFormat_9 (by decide) (fun _ => ?_) (fun e => absurd c3 e)
    refine z_iconst (v := 0) B dX0_hasFormat_16 (by decide) ?_
    cases hf
    exact z_zret B dX0_hasFormat_17 (Or.inl rfl) (Nat.le_of_ble_eq_true rfl) (Nat.le_of_ble_eq_true rfl)
  refine z_icmp_ge B 16 dX0_hasFormat_9 (by decide) (fun e => absurd e c3) (fun _ => ?_)
  refine z_iconst (v := 1) B dX0_hasFormat_12 (by decide) ?_
  refine z_goto B 17 dX0_hasFormat_13 (by decide) ?_
  cases hf
  exact z_zret B dX0_hasFormat_17 (Or.inr rfl) (Nat.le_of_ble_eq_true rfl) (Nat.le_of_ble_eq_true rfl)
abbrev rm_X3_usedSize : Room := { frames := 0, cells := 0, slots := 0, locals := 0 }
set_option maxRecDepth 100000 in
set_option maxHeartbeats 4000000 in
theorem fX3_usedSize_L4_ok {G : zG} {x : zX} (B : zB G x cX3_usedSize 3 RX3 "usedSize" rm_X3_usedSize (some .int)) (hst : (zl x).stackTraces = false) (hE : ∀ e ∈ (zc x).exceptionTable.toList, False) {r : Int32 × zH} {k : zH → Int32 → Int32 → Option (Int32 × zH)} {u0 : Nat} (hk : ∀ h v1 v2, k h v1 v2 = some r → zV G x 3 (zQ G x (zoi r) 0 0) h 0 0 30 [(0, .ref u0), (1, .int v1), (2, .int v2)] []) : ∀ n h v1 v2, fX3_usedSize_L4 k u0 n h v1 v2 = some r → zV G x 3 (zQ G x (zoi r) 0 0) h 0 0 4 [(0, .ref u0), (1, .int v1), (2, .int v2)] [] := by
  intro n
  induction n with
  | zero =>
    intro h v1 v2 hf
    have hf : (none : Option (Int32 × zH)) = some r := hf
    cases hf
  | succ n ih =>
    intro h v1 v2 hf
    rw [fX3_usedSize_L4] at hf
    refine z_iload_n B dX3_usedSize_4 rfl 2 rfl ?_
    refine z_aload_n B dX3_usedSize_5 rfl 0 rfl ?_
    obtain ⟨w1, ew1, hf⟩ := zbs hf
    refine z_gI B fl_RX3_22 ew1 rfl dX3_usedSize_6 ?_
    rcases zite hf with ⟨c2, hf⟩ | ⟨c2, hf⟩
    · refine z_icmp_ge B 30 dX3_usedSize_9 (by decide) (fun _ => ?_) (fun e => absurd c2 e)
      exact hk _ _ _ hf
    refine z_icmp_ge B 30 dX3_usedSize_9 (by decide) (fun e => absurd e c2) (fun _ => ?_)
    refine z_iload_n B dX3_usedSize_12 rfl 1 rfl ?_
    refine z_aload_n B dX3_usedSize_13 rfl 0 rfl ?_
    obtain ⟨w3, ew3, hf⟩ := zbs hf
    refine z_gP B fl_RX3_11 ew3 rfl dX3_usedSize_14 ?_
    refine z_iload_n B dX3_usedSize_17 rfl 2 rfl ?_
    obtain ⟨w4, ew4, hf⟩ := zbs hf
    refine z_aP B ew4 dX3_usedSize_18 ?_
    obtain ⟨w5, ew5, hf⟩ := zbs hf
    refine z_gI B fl_RX3_51 ew5 rfl dX3_usedSize_19 ?_
    refine z_iadd B dX3_usedSize_22 ?_
    refine z_istore_n (lv' := [(1, .int ((v1 : Int32) + w5)), (0, .ref u0), (2, .int v2)]) B dX3_usedSize_23 rfl (by decide) rfl ?_
    refine z_iinc (v' := (v2 + 1)) (lv' := [(2, .int (v2 + 1)), (1, .int ((v1 : Int32) + w5)), (0, .ref u0)]) B dX3_usedSize_24 2 rfl rfl (by decide) rfl ?_
    refine z_goto B 4 dX3_usedSize_27 (by decide) ?_
    refine zV.sub [2, 1, 0] rfl ?_
    exact ih _ _ _ hf
set_option maxRecDepth 100000 in
set_option maxHeartbeats 4000000 in
theorem tX3_usedSize {l : Launch} {G : zG} (hst : l.stackTraces = false) {h : zH} {a0 : Nat} {r : Int32 × zH} (hf : fX3_usedSize h a0 = some r) : zMet l G yX3_usedSize (.code yX3_usedSize cX3_usedSize 3 (some .int)) rm_X3_usedSize 0 0 [.ref a0] h (zoi r) := by
  unfold fX3_usedSize at hf
  obtain ⟨-, hf⟩ := zck hf
  refine z_enter (by decide) (Nat.le_of_ble_eq_true rfl) hst (fun x hx B hE => ?_)
  subst hx
  have B : zB G x cX3_usedSize 3 RX3 "usedSize" rm_X3_usedSize (some .int) := B
  show zV G x 3 (zQ G x (zoi r) 0 0) h 0 0 0 [(0, .ref a0)] []
  refine z_iconst (v := 0) B dX3_usedSize_0 (by decide) ?_
  refine z_istore_n (lv' := [(1, .int 0), (0, .ref a0)]) B dX3_usedSize_1 rfl (by decide) rfl ?_
  refine z_iconst (v := 0) B dX3_usedSize_2 (by decide) ?_
  refine z_istore_n (lv' := [(2, .int 0), (1, .int 0), (0, .ref a0)]) B dX3_usedSize_3 rfl (by decide) rfl ?_
  refine zV.sub [2, 1, 0] rfl ?_
  refine fX3_usedSize_L4_ok B hst hE (fun h1 v2 v3 hf => ?_) _ _ _ _ hf
  refine z_iload_n B dX3_usedSize_30 rfl 1 rfl ?_
  cases hf
  exact z_iret B dX3_usedSize_31 (Nat.le_of_ble_eq_true rfl) (Nat.le_of_ble_eq_true rfl)
abbrev rm_X6_about : Room := { frames := 6, cells := 1, slots := 6, locals := 82 }
set_option maxRecDepth 100000 in
set_option maxHeartbeats 4000000 in
theorem tX6_about {l : Launch} {G : zG} (hst : l.stackTraces = false) {h : zH} {a0 : Nat} {a1 : Int32} {r : (Int32 ⊕ String) × zH} (hf : fX6_about h a0 a1 = some r) : zMet l G yX6_about (.code yX6_about cX6_about 2 (some .int)) rm_X6_about 1 6 [.ref a0, .int a1] h (zoxi r) := by
  unfold fX6_about at hf
  obtain ⟨-, hf⟩ := zck hf
  refine z_enter (by decide) (Nat.le_of_ble_eq_true rfl) hst (fun x hx B hE => ?_)
  subst hx
  have B : zB G x cX6_about 2 RX6 "about" rm_X6_about (some .int) := B
  show zV G x 2 (zQ G x (zoxi r) 1 6) h 0 0 0 [(0, .ref a0), (1, .int a1)] []
  refine z_iload_n B dX6_about_0 rfl 1 rfl ?_
  rcases zite hf with ⟨c1, hf⟩ | ⟨c1, hf⟩
  · refine z_tabIn B 0 48 dX6_about_1 c1 (by decide) (by decide) rfl (by decide) ?_
    refine z_aload_n B dX6_about_48 rfl 0 rfl ?_
    obtain ⟨w2, ew2, hf⟩ := zbs hf
    refine z_gP B fl_RX6_57 ew2 rfl dX6_about_49 ?_
    obtain ⟨w3, ew3, hf⟩ := zbs hf
    refine z_gI B fl_RX6_100 ew3 rfl dX6_about_52 ?_
    cases hf
    exact z_iret B dX6_about_55 (Nat.le_of_ble_eq_true rfl) (Nat.le_of_ble_eq_true rfl)
  rcases zite hf with ⟨c4, hf⟩ | ⟨c4, hf⟩
  · refine z_tabIn B 1 56 dX6_about_1 c4 (by decide) (by decide) rfl (by decide) ?_
    refine z_aload_n B dX6_about_56 rfl 0 rfl ?_
    obtain ⟨w5, ew5, hf⟩ := zbs hf
    refine z_gP B fl_RX6_57 ew5 rfl dX6_about_57 ?_
    obtain ⟨w6, ew6, hf⟩ := zbs hf
    refine z_gI B fl_RX6_97 ew6 rfl dX6_about_60 ?_
    cases hf
    exact z_iret B dX6_about_63 (Nat.le_of_ble_eq_true rfl) (Nat.le_of_ble_eq_true rfl)
  rcases zite hf with ⟨c7, hf⟩ | ⟨c7, hf⟩
  · refine z_tabIn B 2 64 dX6_about_1 c7 (by decide) (by decide) rfl (by decide) ?_
    refine z_aload_n B dX6_about_64 rfl 0 rfl ?_
    obtain ⟨w8, ew8, hf⟩ := zbs hf
    refine z_gP B fl_RX6_57 ew8 rfl dX6_about_65 ?_
    obtain ⟨w9, ew9, hf⟩ := zbs hf
    refine z_gI B fl_RX6_103 ew9 rfl dX6_about_68 ?_
    cases hf
    exact z_iret B dX6_about_71 (Nat.le_of_ble_eq_true rfl) (Nat.le_of_ble_eq_true rfl)
  rcases zite hf with ⟨c10, hf⟩ | ⟨c10, hf⟩
  · refine z_tabIn B 3 72 dX6_about_1 c10 (by decide) (by decide) rfl (by decide) ?_
    refine z_aload_n B dX6_about_72 rfl 0 rfl ?_
    obtain ⟨w11, ew11, hf⟩ := zbs hf
    refine z_gP B fl_RX6_36 ew11 rfl dX6_about_73 ?_
    obtain ⟨w12, ew12, hf⟩ := zbs hf
    refine z_gI B fl_RX6_106 ew12 rfl dX6_about_76 ?_
    cases hf
    exact z_iret B dX6_about_79 (Nat.le_of_ble_eq_true rfl) (Nat.le_of_ble_eq_true rfl)
  rcases zite hf with ⟨c13, hf⟩ | ⟨c13, hf⟩
  · refine z_tabIn B 4 80 dX6_about_1 c13 (by decide) (by decide) rfl (by decide) ?_
    refine z_aload_n B dX6_about_80 rfl 0 rfl ?_
    obtain ⟨w14, ew14, hf⟩ := zbs hf
    refine z_gP B fl_RX6_36 ew14 rfl dX6_about_81 ?_
    obtain ⟨w15, ew15, hf⟩ := zbs hf
    refine z_gI B fl_RX6_109 ew15 rfl dX6_about_84 ?_
    cases hf
    exact z_iret B dX6_about_87 (Nat.le_of_ble_eq_true rfl) (Nat.le_of_ble_eq_true rfl)
  rcases zite hf with ⟨c16, hf⟩ | ⟨c16, hf⟩
  · refine z_tabIn B 5 88 dX6_about_1 c16 (by decide) (by decide) rfl (by decide) ?_
    refine z_aload_n B dX6_about_88 rfl 0 rfl ?_
    obtain ⟨w17, ew17, hf⟩ := zbs hf
    refine z_gP B fl_RX6_36 ew17 rfl dX6_about_89 ?_
    obtain ⟨w18, h19, ew18, hf⟩ := zb2s hf
    refine z_callVi B [] [] cw_X3_usedSize mv_RX6_112 (tX3_usedSize hst ew18) rfl (by decide) (kfX3_usedSize ew18) ⟨rfl, rfl, (Nat.le_of_ble_eq_true rfl), (Nat.le_of_ble_eq_true rfl), (Nat.le_of_ble_eq_true rfl), (Nat.le_of_ble_eq_true rfl)⟩ rfl rfl (Nat.le_of_ble_eq_true rfl) dX6_about_92 ?_
    cases hf
    exact z_iret B dX6_about_95 (Nat.le_of_ble_eq_true rfl) (Nat.le_of_ble_eq_true rfl)
  rcases zite hf with ⟨c20, hf⟩ | ⟨c20, hf⟩
  · refine z_tabIn B 6 96 dX6_about_1 c20 (by decide) (by decide) rfl (by decide) ?_
    refine z_aload_n B dX6_about_96 rfl 0 rfl ?_
    obtain ⟨w21, ew21, hf⟩ := zbs hf
    refine z_gP B fl_RX6_36 ew21 rfl dX6_about_97 ?_
    obtain ⟨w22, ew22, hf⟩ := zbs hf
    refine z_gI B fl_RX6_116 ew22 rfl dX6_about_100 ?_
    cases hf
    exact z_iret B dX6_about_103 (Nat.le_of_ble_eq_true rfl) (Nat.le_of_ble_eq_true rfl)
  rcases zite hf with ⟨c23, hf⟩ | ⟨c23, hf⟩
  · refine z_tabIn B 7 104 dX6_about_1 c23 (by decide) (by decide) rfl (by decide) ?_
    refine z_aload_n B dX6_about_104 rfl 0 rfl ?_
    obtain ⟨w24, ew24, hf⟩ := zbs hf
    refine z_gP B fl_RX6_36 ew24 rfl dX6_about_105 ?_
    obtain ⟨w25, ew25, hf⟩ := zbs hf
    refine z_gI B fl_RX6_119 ew25 rfl dX6_about_108 ?_
    cases hf
    exact z_iret B dX6_about_111 (Nat.le_of_ble_eq_true rfl) (Nat.le_of_ble_eq_true rfl)
  refine z_tabOut B 112 dX6_about_1 (z_outL 0 8 (by decide) (fun j hj0 hj => by rcases (show j = 0 ∨ j = 1 ∨ j = 2 ∨ j = 3 ∨ j = 4 ∨ j = 5 ∨ j = 6 ∨ j = 7 by omega) with rfl | rfl | rfl | rfl | rfl | rfl | rfl | rfl <;> assumption)) (by decide) ?_
  cases hf
  exact z_throw B hE rfl th_RX6_67_71 sl_122 dX6_about_112 dX6_about_115 dX6_about_116 dX6_about_118 dX6_about_121 (Nat.le_of_ble_eq_true rfl) (Nat.le_of_ble_eq_true rfl) (Nat.le_of_ble_eq_true rfl) (Nat.le_of_ble_eq_true rfl) (Nat.le_of_ble_eq_true rfl) (Nat.le_of_ble_eq_true rfl)
abbrev rm_X6_requireFormat : Room := { frames := 6, cells := 1, slots := 6, locals := 82 }
set_option maxRecDepth 100000 in
set_option maxHeartbeats 4000000 in
theorem tX6_requireFormat {l : Launch} {G : zG} (hst : l.stackTraces = false) {h : zH} {a0 : Nat} {a1 : Int32} {r : Option String × zH} (hf : fX6_requireFormat h a0 a1 = some r) : zMet l G yX6_requireFormat (.code yX6_requireFormat cX6_requireFormat 2 none) rm_X6_requireFormat 1 6 [.ref a0, .int a1] h (zoxv r) := by
  unfold fX6_requireFormat at hf
  obtain ⟨-, hf⟩ := zck hf
  refine z_enter (by decide) (Nat.le_of_ble_eq_true rfl) hst (fun x hx B hE => ?_)
  subst hx
  have B : zB G x cX6_requireFormat 2 RX6 "requireFormat" rm_X6_requireFormat none := B
  show zV G x 2 (zQ G x (zoxv r) 1 6) h 0 0 0 [(0, .ref a0), (1, .int a1)] []
  refine z_aload_n B dX6_requireFormat_0 rfl 0 rfl ?_
  obtain ⟨w1, ew1, hf⟩ := zbs hf
  refine z_gP B fl_RX6_57 ew1 rfl dX6_requireFormat_1 ?_
  refine z_iload_n B dX6_requireFormat_4 rfl 1 rfl ?_
  obtain ⟨w2, h3, ew2, hf⟩ := zb2s hf
  refine z_callVi B [.int a1] [] cw_X0_hasFormat mv_RX6_384 (tX0_hasFormat hst ew2) rfl (by decide) (kfX0_hasFormat ew2) ⟨rfl, rfl, (Nat.le_of_ble_eq_true rfl), (Nat.le_of_ble_eq_true rfl), (Nat.le_of_ble_eq_true rfl), (Nat.le_of_ble_eq_true rfl)⟩ rfl rfl (Nat.le_of_ble_eq_true rfl) dX6_requireFormat_5 ?_
  rcases zite hf with ⟨c4, hf⟩ | ⟨c4, hf⟩
  · refine z_if_ne B 22 dX6_requireFormat_8 (by decide) (fun e => absurd c4 e) (fun _ => ?_)
    cases hf
    exact z_throwW B hE rfl th_RX6_337_341 sl_387 dX6_requireFormat_11 dX6_requireFormat_14 dX6_requireFormat_15 dX6_requireFormat_18 dX6_requireFormat_21 (Nat.le_of_ble_eq_true rfl) (Nat.le_of_ble_eq_true rfl) (Nat.le_of_ble_eq_true rfl) (Nat.le_of_ble_eq_true rfl) (Nat.le_of_ble_eq_true rfl) (Nat.le_of_ble_eq_true rfl)
  refine z_if_ne B 22 dX6_requireFormat_8 (by decide) (fun _ => ?_) (fun e => absurd e c4)
  cases hf
  exact z_vret B dX6_requireFormat_22 (Nat.le_of_ble_eq_true rfl) (Nat.le_of_ble_eq_true rfl)
abbrev rm_X1_holds : Room := { frames := 0, cells := 0, slots := 0, locals := 0 }
set_option maxRecDepth 100000 in
set_option maxHeartbeats 4000000 in
theorem tX1_holds {l : Launch} {G : zG} (hst : l.stackTraces = false) {h : zH} {a0 : Nat} {a1 : Int32} {r : Int32 × zH} (hf : fX1_holds h a0 a1 = some r) : zMet l G yX1_holds (.code yX1_holds cX1_holds 2 (some .boolean)) rm_X1_holds 0 0 [.ref a0, .int a1] h (zoi r) := by
  unfold fX1_holds at hf
  obtain ⟨-, hf⟩ := zck hf
  refine z_enter (by decide) (Nat.le_of_ble_eq_true rfl) hst (fun x hx B hE => ?_)
  subst hx
  have B : zB G x cX1_holds 2 RX1 "holds" rm_X1_holds (some .boolean) := B
  show zV G x 2 (zQ G x (zoi r) 0 0) h 0 0 0 [(0, .ref a0), (1, .int a1)] []
  refine z_iload_n B dX1_holds_0 rfl 1 rfl ?_
  rcases zite hf with ⟨c1, hf⟩ | ⟨c1, hf⟩
  · refine z_if_lt B 26 dX1_holds_1 (by decide) (fun _ => ?_) (fun e => absurd c1 e)
    refine z_iconst (v := 0) B dX1_holds_26 (by decide) ?_
    cases hf
    exact z_zret B dX1_holds_27 (Or.inl rfl) (Nat.le_of_ble_eq_true rfl) (Nat.le_of_ble_eq_true rfl)
  refine z_if_lt B 26 dX1_holds_1 (by decide) (fun e => absurd e c1) (fun _ => ?_)
  refine z_iload_n B dX1_holds_4 rfl 1 rfl ?_
  refine z_bipush (v := 8) B dX1_holds_5 (by decide) ?_
  rcases zite hf with ⟨c2, hf⟩ | ⟨c2, hf⟩
  · refine z_icmp_ge B 26 dX1_holds_7 (by decide) (fun _ => ?_) (fun e => absurd c2 e)
    refine z_iconst (v := 0) B dX1_holds_26 (by decide) ?_
    cases hf
    exact z_zret B dX1_holds_27 (Or.inl rfl) (Nat.le_of_ble_eq_true rfl) (Nat.le_of_ble_eq_true rfl)
  refine z_icmp_ge B 26 dX1_holds_7 (by decide) (fun e => absurd e c2) (fun _ => ?_)
  refine z_aload_n B dX1_holds_10 rfl 0 rfl ?_
  obtain ⟨w3, ew3, hf⟩ := zbs hf
  refine z_gI B fl_RX1_18 ew3 rfl dX1_holds_11 ?_
  refine z_iload_n B dX1_holds_14 rfl 1 rfl ?_
  refine z_ishr B dX1_holds_15 ?_
  refine z_iconst (v := 1) B dX1_holds_16 (by decide) ?_
  refine z_iand B dX1_holds_17 ?_
  refine z_iconst (v := 1) B dX1_holds_18 (by decide) ?_
  rcases zite hf with ⟨c4, hf⟩ | ⟨c4, hf⟩
  · refine z_icmp_ne B 26 dX1_holds_19 (by decide) (fun e => absurd c4 e) (fun _ => ?_)
    refine z_iconst (v := 1) B dX1_holds_22 (by decide) ?_
    refine z_goto B 27 dX1_holds_23 (by decide) ?_
    cases hf
    exact z_zret B dX1_holds_27 (Or.inr rfl) (Nat.le_of_ble_eq_true rfl) (Nat.le_of_ble_eq_true rfl)
  refine z_icmp_ne B 26 dX1_holds_19 (by decide) (fun _ => ?_) (fun e => absurd e c4)
  refine z_iconst (v := 0) B dX1_holds_26 (by decide) ?_
  cases hf
  exact z_zret B dX1_holds_27 (Or.inl rfl) (Nat.le_of_ble_eq_true rfl) (Nat.le_of_ble_eq_true rfl)
abbrev rm_X1_takeOver : Room := { frames := 1, cells := 0, slots := 0, locals := 18 }
set_option maxRecDepth 100000 in
set_option maxHeartbeats 4000000 in
theorem tX1_takeOver {l : Launch} {G : zG} (hst : l.stackTraces = false) {h : zH} {a0 : Nat} {a1 : Nat} {r : zH} (hf : fX1_takeOver h a0 a1 = some r) : zMet l G yX1_takeOver (.code yX1_takeOver cX1_takeOver 2 none) rm_X1_takeOver 0 0 [.ref a0, .ref a1] h (zov r) := by
  unfold fX1_takeOver at hf
  obtain ⟨-, hf⟩ := zck hf
  refine z_enter (by decide) (Nat.le_of_ble_eq_true rfl) hst (fun x hx B hE => ?_)
  subst hx
  have B : zB G x cX1_takeOver 2 RX1 "takeOver" rm_X1_takeOver none := B
  show zV G x 2 (zQ G x (zov r) 0 0) h 0 0 0 [(0, .ref a0), (1, .ref a1)] []
  refine z_aload_n B dX1_takeOver_0 rfl 1 rfl ?_
  obtain ⟨w1, ew1, hf⟩ := zbs hf
  refine z_gP B fl_RX1_9 ew1 rfl dX1_takeOver_1 ?_
  refine z_iconst (v := 0) B dX1_takeOver_4 (by decide) ?_
  refine z_aload_n B dX1_takeOver_5 rfl 0 rfl ?_
  obtain ⟨w2, ew2, hf⟩ := zbs hf
  refine z_gP B fl_RX1_9 ew2 rfl dX1_takeOver_6 ?_
  refine z_iconst (v := 0) B dX1_takeOver_9 (by decide) ?_
  refine z_bipush (v := 8) B dX1_takeOver_10 (by decide) ?_
  obtain ⟨h3, eh3, hf⟩ := zbs hf
  refine z_cp B eh3 ac_RX1_45 kw_c1 kw_c2 kw_c3 dX1_takeOver_12 (Nat.le_of_ble_eq_true rfl) (Nat.le_of_ble_eq_true rfl) ?_
  refine z_aload_n B dX1_takeOver_15 rfl 1 rfl ?_
  obtain ⟨w4, ew4, hf⟩ := zbs hf
  refine z_gP B fl_RX1_15 ew4 rfl dX1_takeOver_16 ?_
  refine z_iconst (v := 0) B dX1_takeOver_19 (by decide) ?_
  refine z_aload_n B dX1_takeOver_20 rfl 0 rfl ?_
  obtain ⟨w5, ew5, hf⟩ := zbs hf
  refine z_gP B fl_RX1_15 ew5 rfl dX1_takeOver_21 ?_
  refine z_iconst (v := 0) B dX1_takeOver_24 (by decide) ?_
  refine z_bipush (v := 8) B dX1_takeOver_25 (by decide) ?_
  obtain ⟨h6, eh6, hf⟩ := zbs hf
  refine z_cp B eh6 ac_RX1_45 kw_c1 kw_c2 kw_c3 dX1_takeOver_27 (Nat.le_of_ble_eq_true rfl) (Nat.le_of_ble_eq_true rfl) ?_
  refine z_aload_n B dX1_takeOver_30 rfl 0 rfl ?_
  refine z_aload_n B dX1_takeOver_31 rfl 1 rfl ?_
  obtain ⟨w7, ew7, hf⟩ := zbs hf
  refine z_gI B fl_RX1_18 ew7 rfl dX1_takeOver_32 ?_
  obtain ⟨h8, eh8, hf⟩ := zbs hf
  refine z_pI B fl_RX1_18 eh8 rfl dX1_takeOver_35 ?_
  refine z_aload_n B dX1_takeOver_38 rfl 0 rfl ?_
  refine z_aload_n B dX1_takeOver_39 rfl 1 rfl ?_
  obtain ⟨w9, ew9, hf⟩ := zbs hf
  refine z_gI B fl_RX1_22 ew9 rfl dX1_takeOver_40 ?_
  obtain ⟨h10, eh10, hf⟩ := zbs hf
  refine z_pI B fl_RX1_22 eh10 rfl dX1_takeOver_43 ?_
  refine z_aload_n B dX1_takeOver_46 rfl 0 rfl ?_
  refine z_aload_n B dX1_takeOver_47 rfl 1 rfl ?_
  obtain ⟨w11, ew11, hf⟩ := zbs hf
  refine z_gI B fl_RX1_25 ew11 rfl dX1_takeOver_48 ?_
  obtain ⟨h12, eh12, hf⟩ := zbs hf
  refine z_pI B fl_RX1_25 eh12 rfl dX1_takeOver_51 ?_
  refine z_aload_n B dX1_takeOver_54 rfl 0 rfl ?_
  refine z_aload_n B dX1_takeOver_55 rfl 1 rfl ?_
  obtain ⟨w13, ew13, hf⟩ := zbs hf
  refine z_gI B fl_RX1_28 ew13 rfl dX1_takeOver_56 ?_
  obtain ⟨h14, eh14, hf⟩ := zbs hf
  refine z_pZ B fl_RX1_28 eh14 rfl dX1_takeOver_59 ?_
  refine z_aload_n B dX1_takeOver_62 rfl 0 rfl ?_
  refine z_aload_n B dX1_takeOver_63 rfl 1 rfl ?_
  obtain ⟨w15, ew15, hf⟩ := zbs hf
  refine z_gI B fl_RX1_32 ew15 rfl dX1_takeOver_64 ?_
  obtain ⟨h16, eh16, hf⟩ := zbs hf
  refine z_pI B fl_RX1_32 eh16 rfl dX1_takeOver_67 ?_
  refine z_aload_n B dX1_takeOver_70 rfl 0 rfl ?_
  refine z_aload_n B dX1_takeOver_71 rfl 1 rfl ?_
  obtain ⟨w17, ew17, hf⟩ := zbs hf
  refine z_gI B fl_RX1_35 ew17 rfl dX1_takeOver_72 ?_
  obtain ⟨h18, eh18, hf⟩ := zbs hf
  refine z_pI B fl_RX1_35 eh18 rfl dX1_takeOver_75 ?_
  cases hf
  exact z_vret B dX1_takeOver_78 (Nat.le_of_ble_eq_true rfl) (Nat.le_of_ble_eq_true rfl)
abbrev rm_X3_takeOver : Room := { frames := 2, cells := 0, slots := 0, locals := 39 }
set_option maxRecDepth 100000 in
set_option maxHeartbeats 4000000 in
theorem fX3_takeOver_L49_ok {G : zG} {x : zX} (B : zB G x cX3_takeOver 3 RX3 "takeOver" rm_X3_takeOver none) (hst : (zl x).stackTraces = false) (hE : ∀ e ∈ (zc x).exceptionTable.toList, False) {r : zH} {k : zH → Int32 → Option (zH)} {u0 : Nat} {u1 : Nat} (hk : ∀ h v2, k h v2 = some r → zV G x 3 (zQ G x (zov r) 0 0) h 0 0 78 [(0, .ref u0), (1, .ref u1), (2, .int v2)] []) : ∀ n h v2, fX3_takeOver_L49 k u0 u1 n h v2 = some r → zV G x 3 (zQ G x (zov r) 0 0) h 0 0 49 [(0, .ref u0), (1, .ref u1), (2, .int v2)] [] := by
  intro n
  induction n with
  | zero =>
    intro h v2 hf
    have hf : (none : Option (zH)) = some r := hf
    cases hf
  | succ n ih =>
    intro h v2 hf
    rw [fX3_takeOver_L49] at hf
    refine z_iload_n B dX3_takeOver_49 rfl 2 rfl ?_
    refine z_aload_n B dX3_takeOver_50 rfl 0 rfl ?_
    obtain ⟨w1, ew1, hf⟩ := zbs hf
    refine z_gI B fl_RX3_22 ew1 rfl dX3_takeOver_51 ?_
    rcases zite hf with ⟨c2, hf⟩ | ⟨c2, hf⟩
    · refine z_icmp_ge B 78 dX3_takeOver_54 (by decide) (fun _ => ?_) (fun e => absurd c2 e)
      exact hk _ _ hf
    refine z_icmp_ge B 78 dX3_takeOver_54 (by decide) (fun e => absurd e c2) (fun _ => ?_)
    refine z_aload_n B dX3_takeOver_57 rfl 0 rfl ?_
    obtain ⟨w3, ew3, hf⟩ := zbs hf
    refine z_gP B fl_RX3_11 ew3 rfl dX3_takeOver_58 ?_
    refine z_iload_n B dX3_takeOver_61 rfl 2 rfl ?_
    obtain ⟨w4, ew4, hf⟩ := zbs hf
    refine z_aP B ew4 dX3_takeOver_62 ?_
    refine z_aload_n B dX3_takeOver_63 rfl 1 rfl ?_
    obtain ⟨w5, ew5, hf⟩ := zbs hf
    refine z_gP B fl_RX3_11 ew5 rfl dX3_takeOver_64 ?_
    refine z_iload_n B dX3_takeOver_67 rfl 2 rfl ?_
    obtain ⟨w6, ew6, hf⟩ := zbs hf
    refine z_aP B ew6 dX3_takeOver_68 ?_
    obtain ⟨h7, eh7, hf⟩ := zbs hf
    refine z_callVv B [.ref w6] [] cw_X1_takeOver mv_RX3_47 (tX1_takeOver hst eh7) rfl (by decide) (kfX1_takeOver eh7) ⟨rfl, rfl, (Nat.le_of_ble_eq_true rfl), (Nat.le_of_ble_eq_true rfl), (Nat.le_of_ble_eq_true rfl), (Nat.le_of_ble_eq_true rfl)⟩ rfl rfl (Nat.le_of_ble_eq_true rfl) dX3_takeOver_69 ?_
    refine z_iinc (v' := (v2 + 1)) (lv' := [(2, .int (v2 + 1)), (0, .ref u0), (1, .ref u1)]) B dX3_takeOver_72 2 rfl rfl (by decide) rfl ?_
    refine z_goto B 49 dX3_takeOver_75 (by decide) ?_
    refine zV.sub [1, 2, 0] rfl ?_
    exact ih _ _ hf
set_option maxRecDepth 100000 in
set_option maxHeartbeats 4000000 in
theorem tX3_takeOver {l : Launch} {G : zG} (hst : l.stackTraces = false) {h : zH} {a0 : Nat} {a1 : Nat} {r : zH} (hf : fX3_takeOver h a0 a1 = some r) : zMet l G yX3_takeOver (.code yX3_takeOver cX3_takeOver 3 none) rm_X3_takeOver 0 0 [.ref a0, .ref a1] h (zov r) := by
  unfold fX3_takeOver at hf
  obtain ⟨-, hf⟩ := zck hf
  refine z_enter (by decide) (Nat.le_of_ble_eq_true rfl) hst (fun x hx B hE => ?_)
  subst hx
  have B : zB G x cX3_takeOver 3 RX3 "takeOver" rm_X3_takeOver none := B
  show zV G x 3 (zQ G x (zov r) 0 0) h 0 0 0 [(0, .ref a0), (1, .ref a1)] []
  refine z_aload_n B dX3_takeOver_0 rfl 0 rfl ?_
  refine z_aload_n B dX3_takeOver_1 rfl 1 rfl ?_
  obtain ⟨w1, ew1, hf⟩ := zbs hf
  refine z_gI B fl_RX3_22 ew1 rfl dX3_takeOver_2 ?_
  obtain ⟨h2, eh2, hf⟩ := zbs hf
  refine z_pI B fl_RX3_22 eh2 rfl dX3_takeOver_5 ?_
  refine z_aload_n B dX3_takeOver_8 rfl 0 rfl ?_
  refine z_aload_n B dX3_takeOver_9 rfl 1 rfl ?_
  obtain ⟨w3, ew3, hf⟩ := zbs hf
  refine z_gI B fl_RX3_26 ew3 rfl dX3_takeOver_10 ?_
  obtain ⟨h4, eh4, hf⟩ := zbs hf
  refine z_pI B fl_RX3_26 eh4 rfl dX3_takeOver_13 ?_
  refine z_aload_n B dX3_takeOver_16 rfl 0 rfl ?_
  refine z_aload_n B dX3_takeOver_17 rfl 1 rfl ?_
  obtain ⟨w5, ew5, hf⟩ := zbs hf
  refine z_gI B fl_RX3_29 ew5 rfl dX3_takeOver_18 ?_
  obtain ⟨h6, eh6, hf⟩ := zbs hf
  refine z_pI B fl_RX3_29 eh6 rfl dX3_takeOver_21 ?_
  refine z_aload_n B dX3_takeOver_24 rfl 0 rfl ?_
  refine z_aload_n B dX3_takeOver_25 rfl 1 rfl ?_
  obtain ⟨w7, ew7, hf⟩ := zbs hf
  refine z_gI B fl_RX3_37 ew7 rfl dX3_takeOver_26 ?_
  obtain ⟨h8, eh8, hf⟩ := zbs hf
  refine z_pI B fl_RX3_37 eh8 rfl dX3_takeOver_29 ?_
  refine z_aload_n B dX3_takeOver_32 rfl 1 rfl ?_
  obtain ⟨w9, ew9, hf⟩ := zbs hf
  refine z_gP B fl_RX3_17 ew9 rfl dX3_takeOver_33 ?_
  refine z_iconst (v := 0) B dX3_takeOver_36 (by decide) ?_
  refine z_aload_n B dX3_takeOver_37 rfl 0 rfl ?_
  obtain ⟨w10, ew10, hf⟩ := zbs hf
  refine z_gP B fl_RX3_17 ew10 rfl dX3_takeOver_38 ?_
  refine z_iconst (v := 0) B dX3_takeOver_41 (by decide) ?_
  refine z_bipush (v := 20) B dX3_takeOver_42 (by decide) ?_
  obtain ⟨h11, eh11, hf⟩ := zbs hf
  refine z_cp B eh11 ac_RX3_41 kw_c1 kw_c2 kw_c3 dX3_takeOver_44 (Nat.le_of_ble_eq_true rfl) (Nat.le_of_ble_eq_true rfl) ?_
  refine z_iconst (v := 0) B dX3_takeOver_47 (by decide) ?_
  refine z_istore_n (lv' := [(2, .int 0), (0, .ref a0), (1, .ref a1)]) B dX3_takeOver_48 rfl (by decide) rfl ?_
  refine zV.sub [1, 2, 0] rfl ?_
  refine fX3_takeOver_L49_ok B hst hE (fun h12 v13 hf => ?_) _ _ _ hf
  cases hf
  exact z_vret B dX3_takeOver_78 (Nat.le_of_ble_eq_true rfl) (Nat.le_of_ble_eq_true rfl)
abbrev rm_X7_copyRow : Room := { frames := 0, cells := 0, slots := 0, locals := 0 }
set_option maxRecDepth 100000 in
set_option maxHeartbeats 4000000 in
theorem fX7_copyRow_L3_ok {G : zG} {x : zX} (B : zB G x cX7_copyRow 6 RX7 "copyRow" rm_X7_copyRow none) (hst : (zl x).stackTraces = false) (hE : ∀ e ∈ (zc x).exceptionTable.toList, False) {r : zH} {k : zH → Int32 → Option (zH)} {u0 : Nat} {u1 : Int32} {u2 : Nat} {u3 : Int32} {u4 : Int32} (hk : ∀ h v5, k h v5 = some r → zV G x 6 (zQ G x (zov r) 0 0) h 0 0 28 [(0, .ref u0), (1, .int u1), (2, .ref u2), (3, .int u3), (4, .int u4), (5, .int v5)] []) : ∀ n h v5, fX7_copyRow_L3 k u0 u1 u2 u3 u4 n h v5 = some r → zV G x 6 (zQ G x (zov r) 0 0) h 0 0 3 [(0, .ref u0), (1, .int u1), (2, .ref u2), (3, .int u3), (4, .int u4), (5, .int v5)] [] := by
  intro n
  induction n with
  | zero =>
    intro h v5 hf
    have hf : (none : Option (zH)) = some r := hf
    cases hf
  | succ n ih =>
    intro h v5 hf
    rw [fX7_copyRow_L3] at hf
    refine z_iload B dX7_copyRow_3 5 rfl ?_
    refine z_iload B dX7_copyRow_5 4 rfl ?_
    rcases zite hf with ⟨c1, hf⟩ | ⟨c1, hf⟩
    · refine z_icmp_ge B 28 dX7_copyRow_7 (by decide) (fun _ => ?_) (fun e => absurd c1 e)
      exact hk _ _ hf
    refine z_icmp_ge B 28 dX7_copyRow_7 (by decide) (fun e => absurd e c1) (fun _ => ?_)
    refine z_aload_n B dX7_copyRow_10 rfl 2 rfl ?_
    refine z_iload_n B dX7_copyRow_11 rfl 3 rfl ?_
    refine z_iload B dX7_copyRow_12 5 rfl ?_
    refine z_iadd B dX7_copyRow_14 ?_
    refine z_aload_n B dX7_copyRow_15 rfl 0 rfl ?_
    refine z_iload_n B dX7_copyRow_16 rfl 1 rfl ?_
    refine z_iload B dX7_copyRow_17 5 rfl ?_
    refine z_iadd B dX7_copyRow_19 ?_
    obtain ⟨w2, ew2, hf⟩ := zbs hf
    refine z_aI B ew2 dX7_copyRow_20 ?_
    obtain ⟨h3, eh3, hf⟩ := zbs hf
    refine z_bI B eh3 dX7_copyRow_21 ?_
    refine z_iinc (v' := (v5 + 1)) (lv' := [(5, .int (v5 + 1)), (0, .ref u0), (1, .int u1), (2, .ref u2), (3, .int u3), (4, .int u4)]) B dX7_copyRow_22 5 rfl rfl (by decide) rfl ?_
    refine z_goto B 3 dX7_copyRow_25 (by decide) ?_
    refine zV.sub [1, 2, 3, 4, 5, 0] rfl ?_
    exact ih _ _ hf
set_option maxRecDepth 100000 in
set_option maxHeartbeats 4000000 in
theorem tX7_copyRow {l : Launch} {G : zG} (hst : l.stackTraces = false) {h : zH} {a0 : Nat} {a1 : Int32} {a2 : Nat} {a3 : Int32} {a4 : Int32} {r : zH} (hf : fX7_copyRow h a0 a1 a2 a3 a4 = some r) : zMet l G yX7_copyRow (.code yX7_copyRow cX7_copyRow 6 none) rm_X7_copyRow 0 0 [.ref a0, .int a1, .ref a2, .int a3, .int a4] h (zov r) := by
  unfold fX7_copyRow at hf
  refine z_enter (by decide) (Nat.le_of_ble_eq_true rfl) hst (fun x hx B hE => ?_)
  subst hx
  have B : zB G x cX7_copyRow 6 RX7 "copyRow" rm_X7_copyRow none := B
  show zV G x 6 (zQ G x (zov r) 0 0) h 0 0 0 [(0, .ref a0), (1, .int a1), (2, .ref a2), (3, .int a3), (4, .int a4)] []
  refine z_iconst (v := 0) B dX7_copyRow_0 (by decide) ?_
  refine z_istore (lv' := [(5, .int 0), (0, .ref a0), (1, .int a1), (2, .ref a2), (3, .int a3), (4, .int a4)]) B dX7_copyRow_1 (by decide) rfl ?_
  refine zV.sub [1, 2, 3, 4, 5, 0] rfl ?_
  refine fX7_copyRow_L3_ok B hst hE (fun h1 v2 hf => ?_) _ _ _ hf
  cases hf
  exact z_vret B dX7_copyRow_28 (Nat.le_of_ble_eq_true rfl) (Nat.le_of_ble_eq_true rfl)
abbrev rm_X7_at : Room := { frames := 0, cells := 0, slots := 0, locals := 0 }
set_option maxRecDepth 100000 in
set_option maxHeartbeats 4000000 in
theorem tX7_at {l : Launch} {G : zG} (hst : l.stackTraces = false) {h : zH} {a0 : Int32} {r : Int32 × zH} (hf : fX7_at h a0 = some r) : zMet l G yX7_at (.code yX7_at cX7_at 1 (some .int)) rm_X7_at 0 0 [.int a0] h (zoi r) := by
  unfold fX7_at at hf
  refine z_enter (by decide) (Nat.le_of_ble_eq_true rfl) hst (fun x hx B hE => ?_)
  subst hx
  have B : zB G x cX7_at 1 RX7 "at" rm_X7_at (some .int) := B
  show zV G x 1 (zQ G x (zoi r) 0 0) h 0 0 0 [(0, .int a0)] []
  refine z_bipush (v := 24) B dX7_at_0 (by decide) ?_
  refine z_bipush (v := 28) B dX7_at_2 (by decide) ?_
  refine z_iload_n B dX7_at_4 rfl 0 rfl ?_
  refine z_imul B dX7_at_5 ?_
  refine z_iadd B dX7_at_6 ?_
  cases hf
  exact z_iret B dX7_at_7 (Nat.le_of_ble_eq_true rfl) (Nat.le_of_ble_eq_true rfl)
