theorem dX4_readInto_0 : zD cX4_readInto 0 (.aload_n 0) 1 1 := ⟨by decide +kernel, rfl⟩
theorem dX4_readInto_1 : zD cX4_readInto 1 (.iconst 0) 1 2 := ⟨by decide +kernel, rfl⟩
theorem dX4_readInto_2 : zD cX4_readInto 2 (.putfield 23) 3 5 := ⟨by decide +kernel, rfl⟩
theorem dX4_readInto_5 : zD cX4_readInto 5 (.aload_n 0) 1 6 := ⟨by decide +kernel, rfl⟩
theorem dX4_readInto_6 : zD cX4_readInto 6 (.aload_n 1) 1 7 := ⟨by decide +kernel, rfl⟩
theorem dX4_readInto_7 : zD cX4_readInto 7 (.invokevirtual 26) 3 10 := ⟨by decide +kernel, rfl⟩
theorem dX4_readInto_10 : zD cX4_readInto 10 (.istore_n 2) 1 11 := ⟨by decide +kernel, rfl⟩
theorem dX4_readInto_11 : zD cX4_readInto 11 (.iconst 0) 1 12 := ⟨by decide +kernel, rfl⟩
theorem dX4_readInto_12 : zD cX4_readInto 12 (.istore_n 3) 1 13 := ⟨by decide +kernel, rfl⟩
theorem dX4_readInto_13 : zD cX4_readInto 13 (.iload_n 3) 1 14 := ⟨by decide +kernel, rfl⟩
theorem dX4_readInto_14 : zD cX4_readInto 14 (.sipush 160) 3 17 := ⟨by decide +kernel, rfl⟩
theorem dX4_readInto_17 : zD cX4_readInto 17 (.if_icmp .ge 47) 3 20 := ⟨by decide +kernel, rfl⟩
theorem dX4_readInto_20 : zD cX4_readInto 20 (.iload_n 2) 1 21 := ⟨by decide +kernel, rfl⟩
theorem dX4_readInto_21 : zD cX4_readInto 21 (.ifCond .eq 43) 3 24 := ⟨by decide +kernel, rfl⟩
theorem dX4_readInto_24 : zD cX4_readInto 24 (.aload_n 0) 1 25 := ⟨by decide +kernel, rfl⟩
theorem dX4_readInto_25 : zD cX4_readInto 25 (.getfield 23) 3 28 := ⟨by decide +kernel, rfl⟩
theorem dX4_readInto_28 : zD cX4_readInto 28 (.aload_n 0) 1 29 := ⟨by decide +kernel, rfl⟩
theorem dX4_readInto_29 : zD cX4_readInto 29 (.getfield 15) 3 32 := ⟨by decide +kernel, rfl⟩
theorem dX4_readInto_32 : zD cX4_readInto 32 (.if_icmp .ge 32) 3 35 := ⟨by decide +kernel, rfl⟩
theorem dX4_readInto_35 : zD cX4_readInto 35 (.aload_n 0) 1 36 := ⟨by decide +kernel, rfl⟩
theorem dX4_readInto_36 : zD cX4_readInto 36 (.invokevirtual 30) 3 39 := ⟨by decide +kernel, rfl⟩
theorem dX4_readInto_39 : zD cX4_readInto 39 (.bipush 99) 2 41 := ⟨by decide +kernel, rfl⟩
theorem dX4_readInto_41 : zD cX4_readInto 41 (.if_icmp .ne 11) 3 44 := ⟨by decide +kernel, rfl⟩
theorem dX4_readInto_44 : zD cX4_readInto 44 (.aload_n 0) 1 45 := ⟨by decide +kernel, rfl⟩
theorem dX4_readInto_45 : zD cX4_readInto 45 (.aload_n 1) 1 46 := ⟨by decide +kernel, rfl⟩
theorem dX4_readInto_46 : zD cX4_readInto 46 (.invokevirtual 34) 3 49 := ⟨by decide +kernel, rfl⟩
theorem dX4_readInto_49 : zD cX4_readInto 49 (.goto 8) 3 52 := ⟨by decide +kernel, rfl⟩
theorem dX4_readInto_52 : zD cX4_readInto 52 (.aload_n 0) 1 53 := ⟨by decide +kernel, rfl⟩
theorem dX4_readInto_53 : zD cX4_readInto 53 (.aload_n 1) 1 54 := ⟨by decide +kernel, rfl⟩
theorem dX4_readInto_54 : zD cX4_readInto 54 (.invokevirtual 37) 3 57 := ⟨by decide +kernel, rfl⟩
theorem dX4_readInto_57 : zD cX4_readInto 57 (.istore_n 2) 1 58 := ⟨by decide +kernel, rfl⟩
theorem dX4_readInto_58 : zD cX4_readInto 58 (.iinc 3 1) 3 61 := ⟨by decide +kernel, rfl⟩
theorem dX4_readInto_61 : zD cX4_readInto 61 (.goto (-48)) 3 64 := ⟨by decide +kernel, rfl⟩
theorem dX4_readInto_64 : zD cX4_readInto 64 (.iload_n 2) 1 65 := ⟨by decide +kernel, rfl⟩
theorem dX4_readInto_65 : zD cX4_readInto 65 (.ifCond .eq 8) 3 68 := ⟨by decide +kernel, rfl⟩
theorem dX4_readInto_68 : zD cX4_readInto 68 (.bipush (-9)) 2 70 := ⟨by decide +kernel, rfl⟩
theorem dX4_readInto_70 : zD cX4_readInto 70 (.goto 7) 3 73 := ⟨by decide +kernel, rfl⟩
theorem dX4_readInto_73 : zD cX4_readInto 73 (.aload_n 0) 1 74 := ⟨by decide +kernel, rfl⟩
theorem dX4_readInto_74 : zD cX4_readInto 74 (.getfield 23) 3 77 := ⟨by decide +kernel, rfl⟩
theorem dX4_readInto_77 : zD cX4_readInto 77 (.ireturn) 1 78 := ⟨by decide +kernel, rfl⟩
theorem dX6_errorPosition_0 : zD cX6_errorPosition 0 (.aload_n 0) 1 1 := ⟨by decide +kernel, rfl⟩
theorem dX6_errorPosition_1 : zD cX6_errorPosition 1 (.getfield 10) 3 4 := ⟨by decide +kernel, rfl⟩
theorem dX6_errorPosition_4 : zD cX6_errorPosition 4 (.aload_n 0) 1 5 := ⟨by decide +kernel, rfl⟩
theorem dX6_errorPosition_5 : zD cX6_errorPosition 5 (.getfield 61) 3 8 := ⟨by decide +kernel, rfl⟩
theorem dX6_errorPosition_8 : zD cX6_errorPosition 8 (.invokevirtual 91) 3 11 := ⟨by decide +kernel, rfl⟩
theorem dX6_errorPosition_11 : zD cX6_errorPosition 11 (.ireturn) 1 12 := ⟨by decide +kernel, rfl⟩
theorem dX6_load_0 : zD cX6_load 0 (.aload_n 0) 1 1 := ⟨by decide +kernel, rfl⟩
theorem dX6_load_1 : zD cX6_load 1 (.getfield 10) 3 4 := ⟨by decide +kernel, rfl⟩
theorem dX6_load_4 : zD cX6_load 4 (.aload_n 0) 1 5 := ⟨by decide +kernel, rfl⟩
theorem dX6_load_5 : zD cX6_load 5 (.getfield 61) 3 8 := ⟨by decide +kernel, rfl⟩
theorem dX6_load_8 : zD cX6_load 8 (.invokevirtual 91) 3 11 := ⟨by decide +kernel, rfl⟩
theorem dX6_load_11 : zD cX6_load 11 (.bipush (-9)) 2 13 := ⟨by decide +kernel, rfl⟩
theorem dX6_load_13 : zD cX6_load 13 (.if_icmp .eq 13) 3 16 := ⟨by decide +kernel, rfl⟩
theorem dX6_load_16 : zD cX6_load 16 (.new 78) 3 19 := ⟨by decide +kernel, rfl⟩
theorem dX6_load_19 : zD cX6_load 19 (.dup) 1 20 := ⟨by decide +kernel, rfl⟩
theorem dX6_load_20 : zD cX6_load 20 (.ldc 95) 2 22 := ⟨by decide +kernel, rfl⟩
theorem dX6_load_22 : zD cX6_load 22 (.invokespecial 82) 3 25 := ⟨by decide +kernel, rfl⟩
theorem dX6_load_25 : zD cX6_load 25 (.athrow) 1 26 := ⟨by decide +kernel, rfl⟩
theorem dX6_load_26 : zD cX6_load 26 (.aload_n 0) 1 27 := ⟨by decide +kernel, rfl⟩
theorem dX6_load_27 : zD cX6_load 27 (.getfield 57) 3 30 := ⟨by decide +kernel, rfl⟩
theorem dX6_load_30 : zD cX6_load 30 (.astore_n 1) 1 31 := ⟨by decide +kernel, rfl⟩
theorem dX6_load_31 : zD cX6_load 31 (.aload_n 0) 1 32 := ⟨by decide +kernel, rfl⟩
theorem dX6_load_32 : zD cX6_load 32 (.aload_n 0) 1 33 := ⟨by decide +kernel, rfl⟩
theorem dX6_load_33 : zD cX6_load 33 (.getfield 61) 3 36 := ⟨by decide +kernel, rfl⟩
theorem dX6_load_36 : zD cX6_load 36 (.putfield 57) 3 39 := ⟨by decide +kernel, rfl⟩
theorem dX6_load_39 : zD cX6_load 39 (.aload_n 0) 1 40 := ⟨by decide +kernel, rfl⟩
theorem dX6_load_40 : zD cX6_load 40 (.aload_n 1) 1 41 := ⟨by decide +kernel, rfl⟩
theorem dX6_load_41 : zD cX6_load 41 (.putfield 61) 3 44 := ⟨by decide +kernel, rfl⟩
theorem dX6_load_44 : zD cX6_load 44 (.aload_n 0) 1 45 := ⟨by decide +kernel, rfl⟩
theorem dX6_load_45 : zD cX6_load 45 (.invokevirtual 64) 3 48 := ⟨by decide +kernel, rfl⟩
theorem dX6_load_48 : zD cX6_load 48 (.aload_n 0) 1 49 := ⟨by decide +kernel, rfl⟩
theorem dX6_load_49 : zD cX6_load 49 (.getfield 57) 3 52 := ⟨by decide +kernel, rfl⟩
theorem dX6_load_52 : zD cX6_load 52 (.getfield 97) 3 55 := ⟨by decide +kernel, rfl⟩
theorem dX6_load_55 : zD cX6_load 55 (.ireturn) 1 56 := ⟨by decide +kernel, rfl⟩
theorem dX3_usedSize_0 : zD cX3_usedSize 0 (.iconst 0) 1 1 := ⟨by decide +kernel, rfl⟩
theorem dX3_usedSize_1 : zD cX3_usedSize 1 (.istore_n 1) 1 2 := ⟨by decide +kernel, rfl⟩
theorem dX3_usedSize_2 : zD cX3_usedSize 2 (.iconst 0) 1 3 := ⟨by decide +kernel, rfl⟩
theorem dX3_usedSize_3 : zD cX3_usedSize 3 (.istore_n 2) 1 4 := ⟨by decide +kernel, rfl⟩
theorem dX3_usedSize_4 : zD cX3_usedSize 4 (.iload_n 2) 1 5 := ⟨by decide +kernel, rfl⟩
theorem dX3_usedSize_5 : zD cX3_usedSize 5 (.aload_n 0) 1 6 := ⟨by decide +kernel, rfl⟩
theorem dX3_usedSize_6 : zD cX3_usedSize 6 (.getfield 22) 3 9 := ⟨by decide +kernel, rfl⟩
theorem dX3_usedSize_9 : zD cX3_usedSize 9 (.if_icmp .ge 21) 3 12 := ⟨by decide +kernel, rfl⟩
theorem dX3_usedSize_12 : zD cX3_usedSize 12 (.iload_n 1) 1 13 := ⟨by decide +kernel, rfl⟩
theorem dX3_usedSize_13 : zD cX3_usedSize 13 (.aload_n 0) 1 14 := ⟨by decide +kernel, rfl⟩
theorem dX3_usedSize_14 : zD cX3_usedSize 14 (.getfield 11) 3 17 := ⟨by decide +kernel, rfl⟩
theorem dX3_usedSize_17 : zD cX3_usedSize 17 (.iload_n 2) 1 18 := ⟨by decide +kernel, rfl⟩
theorem dX3_usedSize_18 : zD cX3_usedSize 18 (.aaload) 1 19 := ⟨by decide +kernel, rfl⟩
theorem dX3_usedSize_19 : zD cX3_usedSize 19 (.getfield 51) 3 22 := ⟨by decide +kernel, rfl⟩
theorem dX3_usedSize_22 : zD cX3_usedSize 22 (.iadd) 1 23 := ⟨by decide +kernel, rfl⟩
theorem dX3_usedSize_23 : zD cX3_usedSize 23 (.istore_n 1) 1 24 := ⟨by decide +kernel, rfl⟩
theorem dX3_usedSize_24 : zD cX3_usedSize 24 (.iinc 2 1) 3 27 := ⟨by decide +kernel, rfl⟩
theorem dX3_usedSize_27 : zD cX3_usedSize 27 (.goto (-23)) 3 30 := ⟨by decide +kernel, rfl⟩
theorem dX3_usedSize_30 : zD cX3_usedSize 30 (.iload_n 1) 1 31 := ⟨by decide +kernel, rfl⟩
theorem dX3_usedSize_31 : zD cX3_usedSize 31 (.ireturn) 1 32 := ⟨by decide +kernel, rfl⟩
theorem dX6_about_0 : zD cX6_about 0 (.iload_n 1) 1 1 := ⟨by decide +kernel, rfl⟩
theorem dX6_about_1 : zD cX6_about 1 (.tableswitch 111 0 7 #[47, 55, 63, 71, 79, 87, 95, 103]) 47 48 := ⟨by decide +kernel, rfl⟩
theorem dX6_about_48 : zD cX6_about 48 (.aload_n 0) 1 49 := ⟨by decide +kernel, rfl⟩
theorem dX6_about_49 : zD cX6_about 49 (.getfield 57) 3 52 := ⟨by decide +kernel, rfl⟩
theorem dX6_about_52 : zD cX6_about 52 (.getfield 100) 3 55 := ⟨by decide +kernel, rfl⟩
theorem dX6_about_55 : zD cX6_about 55 (.ireturn) 1 56 := ⟨by decide +kernel, rfl⟩
theorem dX6_about_56 : zD cX6_about 56 (.aload_n 0) 1 57 := ⟨by decide +kernel, rfl⟩
theorem dX6_about_57 : zD cX6_about 57 (.getfield 57) 3 60 := ⟨by decide +kernel, rfl⟩
theorem dX6_about_60 : zD cX6_about 60 (.getfield 97) 3 63 := ⟨by decide +kernel, rfl⟩
theorem dX6_about_63 : zD cX6_about 63 (.ireturn) 1 64 := ⟨by decide +kernel, rfl⟩
theorem dX6_about_64 : zD cX6_about 64 (.aload_n 0) 1 65 := ⟨by decide +kernel, rfl⟩
theorem dX6_about_65 : zD cX6_about 65 (.getfield 57) 3 68 := ⟨by decide +kernel, rfl⟩
theorem dX6_about_68 : zD cX6_about 68 (.getfield 103) 3 71 := ⟨by decide +kernel, rfl⟩
theorem dX6_about_71 : zD cX6_about 71 (.ireturn) 1 72 := ⟨by decide +kernel, rfl⟩
theorem dX6_about_72 : zD cX6_about 72 (.aload_n 0) 1 73 := ⟨by decide +kernel, rfl⟩
theorem dX6_about_73 : zD cX6_about 73 (.getfield 36) 3 76 := ⟨by decide +kernel, rfl⟩
theorem dX6_about_76 : zD cX6_about 76 (.getfield 106) 3 79 := ⟨by decide +kernel, rfl⟩
theorem dX6_about_79 : zD cX6_about 79 (.ireturn) 1 80 := ⟨by decide +kernel, rfl⟩
theorem dX6_about_80 : zD cX6_about 80 (.aload_n 0) 1 81 := ⟨by decide +kernel, rfl⟩
theorem dX6_about_81 : zD cX6_about 81 (.getfield 36) 3 84 := ⟨by decide +kernel, rfl⟩
theorem dX6_about_84 : zD cX6_about 84 (.getfield 109) 3 87 := ⟨by decide +kernel, rfl⟩
theorem dX6_about_87 : zD cX6_about 87 (.ireturn) 1 88 := ⟨by decide +kernel, rfl⟩
theorem dX6_about_88 : zD cX6_about 88 (.aload_n 0) 1 89 := ⟨by decide +kernel, rfl⟩
theorem dX6_about_89 : zD cX6_about 89 (.getfield 36) 3 92 := ⟨by decide +kernel, rfl⟩
theorem dX6_about_92 : zD cX6_about 92 (.invokevirtual 112) 3 95 := ⟨by decide +kernel, rfl⟩
theorem dX6_about_95 : zD cX6_about 95 (.ireturn) 1 96 := ⟨by decide +kernel, rfl⟩
theorem dX6_about_96 : zD cX6_about 96 (.aload_n 0) 1 97 := ⟨by decide +kernel, rfl⟩
theorem dX6_about_97 : zD cX6_about 97 (.getfield 36) 3 100 := ⟨by decide +kernel, rfl⟩
theorem dX6_about_100 : zD cX6_about 100 (.getfield 116) 3 103 := ⟨by decide +kernel, rfl⟩
theorem dX6_about_103 : zD cX6_about 103 (.ireturn) 1 104 := ⟨by decide +kernel, rfl⟩
theorem dX6_about_104 : zD cX6_about 104 (.aload_n 0) 1 105 := ⟨by decide +kernel, rfl⟩
theorem dX6_about_105 : zD cX6_about 105 (.getfield 36) 3 108 := ⟨by decide +kernel, rfl⟩
theorem dX6_about_108 : zD cX6_about 108 (.getfield 119) 3 111 := ⟨by decide +kernel, rfl⟩
theorem dX6_about_111 : zD cX6_about 111 (.ireturn) 1 112 := ⟨by decide +kernel, rfl⟩
theorem dX6_about_112 : zD cX6_about 112 (.new 67) 3 115 := ⟨by decide +kernel, rfl⟩
theorem dX6_about_115 : zD cX6_about 115 (.dup) 1 116 := ⟨by decide +kernel, rfl⟩
theorem dX6_about_116 : zD cX6_about 116 (.ldc 122) 2 118 := ⟨by decide +kernel, rfl⟩
theorem dX6_about_118 : zD cX6_about 118 (.invokespecial 71) 3 121 := ⟨by decide +kernel, rfl⟩
theorem dX6_about_121 : zD cX6_about 121 (.athrow) 1 122 := ⟨by decide +kernel, rfl⟩
theorem dX6_requireConversion_0 : zD cX6_requireConversion 0 (.iload_n 1) 1 1 := ⟨by decide +kernel, rfl⟩
theorem dX6_requireConversion_1 : zD cX6_requireConversion 1 (.ifCond .lt 14) 3 4 := ⟨by decide +kernel, rfl⟩
theorem dX6_requireConversion_4 : zD cX6_requireConversion 4 (.iload_n 1) 1 5 := ⟨by decide +kernel, rfl⟩
theorem dX6_requireConversion_5 : zD cX6_requireConversion 5 (.aload_n 0) 1 6 := ⟨by decide +kernel, rfl⟩
theorem dX6_requireConversion_6 : zD cX6_requireConversion 6 (.getfield 57) 3 9 := ⟨by decide +kernel, rfl⟩
theorem dX6_requireConversion_9 : zD cX6_requireConversion 9 (.getfield 97) 3 12 := ⟨by decide +kernel, rfl⟩
theorem dX6_requireConversion_12 : zD cX6_requireConversion 12 (.if_icmp .lt 14) 3 15 := ⟨by decide +kernel, rfl⟩
theorem dX6_requireConversion_15 : zD cX6_requireConversion 15 (.new 337) 3 18 := ⟨by decide +kernel, rfl⟩
theorem dX6_requireConversion_18 : zD cX6_requireConversion 18 (.dup) 1 19 := ⟨by decide +kernel, rfl⟩
theorem dX6_requireConversion_19 : zD cX6_requireConversion 19 (.ldc_w 389) 3 22 := ⟨by decide +kernel, rfl⟩
theorem dX6_requireConversion_22 : zD cX6_requireConversion 22 (.invokespecial 341) 3 25 := ⟨by decide +kernel, rfl⟩
theorem dX6_requireConversion_25 : zD cX6_requireConversion 25 (.athrow) 1 26 := ⟨by decide +kernel, rfl⟩
theorem dX6_requireConversion_26 : zD cX6_requireConversion 26 (.return_) 1 27 := ⟨by decide +kernel, rfl⟩
theorem dX6_conversion_0 : zD cX6_conversion 0 (.aload_n 0) 1 1 := ⟨by decide +kernel, rfl⟩
theorem dX6_conversion_1 : zD cX6_conversion 1 (.iload_n 1) 1 2 := ⟨by decide +kernel, rfl⟩
theorem dX6_conversion_2 : zD cX6_conversion 2 (.invokevirtual 124) 3 5 := ⟨by decide +kernel, rfl⟩
theorem dX6_conversion_5 : zD cX6_conversion 5 (.iload_n 2) 1 6 := ⟨by decide +kernel, rfl⟩
theorem dX6_conversion_6 : zD cX6_conversion 6 (.tableswitch 84 0 4 #[34, 44, 54, 64, 74]) 34 40 := ⟨by decide +kernel, rfl⟩
theorem dX6_conversion_40 : zD cX6_conversion 40 (.aload_n 0) 1 41 := ⟨by decide +kernel, rfl⟩
theorem dX6_conversion_41 : zD cX6_conversion 41 (.getfield 57) 3 44 := ⟨by decide +kernel, rfl⟩
theorem dX6_conversion_44 : zD cX6_conversion 44 (.getfield 127) 3 47 := ⟨by decide +kernel, rfl⟩
theorem dX6_conversion_47 : zD cX6_conversion 47 (.iload_n 1) 1 48 := ⟨by decide +kernel, rfl⟩
theorem dX6_conversion_48 : zD cX6_conversion 48 (.iaload) 1 49 := ⟨by decide +kernel, rfl⟩
theorem dX6_conversion_49 : zD cX6_conversion 49 (.ireturn) 1 50 := ⟨by decide +kernel, rfl⟩
theorem dX6_conversion_50 : zD cX6_conversion 50 (.aload_n 0) 1 51 := ⟨by decide +kernel, rfl⟩
theorem dX6_conversion_51 : zD cX6_conversion 51 (.getfield 57) 3 54 := ⟨by decide +kernel, rfl⟩
theorem dX6_conversion_54 : zD cX6_conversion 54 (.getfield 131) 3 57 := ⟨by decide +kernel, rfl⟩
theorem dX6_conversion_57 : zD cX6_conversion 57 (.iload_n 1) 1 58 := ⟨by decide +kernel, rfl⟩
theorem dX6_conversion_58 : zD cX6_conversion 58 (.iaload) 1 59 := ⟨by decide +kernel, rfl⟩
theorem dX6_conversion_59 : zD cX6_conversion 59 (.ireturn) 1 60 := ⟨by decide +kernel, rfl⟩
theorem dX6_conversion_60 : zD cX6_conversion 60 (.aload_n 0) 1 61 := ⟨by decide +kernel, rfl⟩
theorem dX6_conversion_61 : zD cX6_conversion 61 (.getfield 36) 3 64 := ⟨by decide +kernel, rfl⟩
theorem dX6_conversion_64 : zD cX6_conversion 64 (.getfield 134) 3 67 := ⟨by decide +kernel, rfl⟩
theorem dX6_conversion_67 : zD cX6_conversion 67 (.iload_n 1) 1 68 := ⟨by decide +kernel, rfl⟩
theorem dX6_conversion_68 : zD cX6_conversion 68 (.iaload) 1 69 := ⟨by decide +kernel, rfl⟩
theorem dX6_conversion_69 : zD cX6_conversion 69 (.ireturn) 1 70 := ⟨by decide +kernel, rfl⟩
theorem dX6_conversion_70 : zD cX6_conversion 70 (.aload_n 0) 1 71 := ⟨by decide +kernel, rfl⟩
theorem dX6_conversion_71 : zD cX6_conversion 71 (.getfield 57) 3 74 := ⟨by decide +kernel, rfl⟩
theorem dX6_conversion_74 : zD cX6_conversion 74 (.getfield 137) 3 77 := ⟨by decide +kernel, rfl⟩
theorem dX6_conversion_77 : zD cX6_conversion 77 (.iload_n 1) 1 78 := ⟨by decide +kernel, rfl⟩
theorem dX6_conversion_78 : zD cX6_conversion 78 (.iaload) 1 79 := ⟨by decide +kernel, rfl⟩
theorem dX6_conversion_79 : zD cX6_conversion 79 (.ireturn) 1 80 := ⟨by decide +kernel, rfl⟩
theorem dX6_conversion_80 : zD cX6_conversion 80 (.aload_n 0) 1 81 := ⟨by decide +kernel, rfl⟩
theorem dX6_conversion_81 : zD cX6_conversion 81 (.getfield 57) 3 84 := ⟨by decide +kernel, rfl⟩
theorem dX6_conversion_84 : zD cX6_conversion 84 (.getfield 140) 3 87 := ⟨by decide +kernel, rfl⟩
theorem dX6_conversion_87 : zD cX6_conversion 87 (.iload_n 1) 1 88 := ⟨by decide +kernel, rfl⟩
theorem dX6_conversion_88 : zD cX6_conversion 88 (.iaload) 1 89 := ⟨by decide +kernel, rfl⟩
theorem dX6_conversion_89 : zD cX6_conversion 89 (.ireturn) 1 90 := ⟨by decide +kernel, rfl⟩
theorem dX6_conversion_90 : zD cX6_conversion 90 (.new 67) 3 93 := ⟨by decide +kernel, rfl⟩
theorem dX6_conversion_93 : zD cX6_conversion 93 (.dup) 1 94 := ⟨by decide +kernel, rfl⟩
theorem dX6_conversion_94 : zD cX6_conversion 94 (.ldc 143) 2 96 := ⟨by decide +kernel, rfl⟩
theorem dX6_conversion_96 : zD cX6_conversion 96 (.invokespecial 71) 3 99 := ⟨by decide +kernel, rfl⟩
theorem dX6_conversion_99 : zD cX6_conversion 99 (.athrow) 1 100 := ⟨by decide +kernel, rfl⟩
theorem dX0_hasPlace_0 : zD cX0_hasPlace 0 (.iload_n 1) 1 1 := ⟨by decide +kernel, rfl⟩
theorem dX0_hasPlace_1 : zD cX0_hasPlace 1 (.ifCond .lt 15) 3 4 := ⟨by decide +kernel, rfl⟩
theorem dX0_hasPlace_4 : zD cX0_hasPlace 4 (.iload_n 1) 1 5 := ⟨by decide +kernel, rfl⟩
theorem dX0_hasPlace_5 : zD cX0_hasPlace 5 (.aload_n 0) 1 6 := ⟨by decide +kernel, rfl⟩
theorem dX0_hasPlace_6 : zD cX0_hasPlace 6 (.getfield 60) 3 9 := ⟨by decide +kernel, rfl⟩
theorem dX0_hasPlace_9 : zD cX0_hasPlace 9 (.if_icmp .ge 7) 3 12 := ⟨by decide +kernel, rfl⟩
theorem dX0_hasPlace_12 : zD cX0_hasPlace 12 (.iconst 1) 1 13 := ⟨by decide +kernel, rfl⟩
theorem dX0_hasPlace_13 : zD cX0_hasPlace 13 (.goto 4) 3 16 := ⟨by decide +kernel, rfl⟩
theorem dX0_hasPlace_16 : zD cX0_hasPlace 16 (.iconst 0) 1 17 := ⟨by decide +kernel, rfl⟩
theorem dX0_hasPlace_17 : zD cX0_hasPlace 17 (.ireturn) 1 18 := ⟨by decide +kernel, rfl⟩
theorem dX6_requirePlace_0 : zD cX6_requirePlace 0 (.aload_n 0) 1 1 := ⟨by decide +kernel, rfl⟩
theorem dX6_requirePlace_1 : zD cX6_requirePlace 1 (.getfield 57) 3 4 := ⟨by decide +kernel, rfl⟩
theorem dX6_requirePlace_4 : zD cX6_requirePlace 4 (.iload_n 1) 1 5 := ⟨by decide +kernel, rfl⟩
theorem dX6_requirePlace_5 : zD cX6_requirePlace 5 (.invokevirtual 391) 3 8 := ⟨by decide +kernel, rfl⟩
theorem dX6_requirePlace_8 : zD cX6_requirePlace 8 (.ifCond .ne 14) 3 11 := ⟨by decide +kernel, rfl⟩
theorem dX6_requirePlace_11 : zD cX6_requirePlace 11 (.new 337) 3 14 := ⟨by decide +kernel, rfl⟩
theorem dX6_requirePlace_14 : zD cX6_requirePlace 14 (.dup) 1 15 := ⟨by decide +kernel, rfl⟩
theorem dX6_requirePlace_15 : zD cX6_requirePlace 15 (.ldc_w 394) 3 18 := ⟨by decide +kernel, rfl⟩
theorem dX6_requirePlace_18 : zD cX6_requirePlace 18 (.invokespecial 341) 3 21 := ⟨by decide +kernel, rfl⟩
theorem dX6_requirePlace_21 : zD cX6_requirePlace 21 (.athrow) 1 22 := ⟨by decide +kernel, rfl⟩
theorem dX6_requirePlace_22 : zD cX6_requirePlace 22 (.return_) 1 23 := ⟨by decide +kernel, rfl⟩
theorem dX6_place_0 : zD cX6_place 0 (.aload_n 0) 1 1 := ⟨by decide +kernel, rfl⟩
theorem dX6_place_1 : zD cX6_place 1 (.iload_n 1) 1 2 := ⟨by decide +kernel, rfl⟩
theorem dX6_place_2 : zD cX6_place 2 (.invokevirtual 145) 3 5 := ⟨by decide +kernel, rfl⟩
theorem dX6_place_5 : zD cX6_place 5 (.iload_n 2) 1 6 := ⟨by decide +kernel, rfl⟩
theorem dX6_place_6 : zD cX6_place 6 (.lookupswitch 46 #[(0, 26), (1, 36)]) 26 32 := ⟨by decide +kernel, rfl⟩
theorem dX6_place_32 : zD cX6_place 32 (.aload_n 0) 1 33 := ⟨by decide +kernel, rfl⟩
theorem dX6_place_33 : zD cX6_place 33 (.getfield 57) 3 36 := ⟨by decide +kernel, rfl⟩
theorem dX6_place_36 : zD cX6_place 36 (.getfield 148) 3 39 := ⟨by decide +kernel, rfl⟩
theorem dX6_place_39 : zD cX6_place 39 (.iload_n 1) 1 40 := ⟨by decide +kernel, rfl⟩
theorem dX6_place_40 : zD cX6_place 40 (.iaload) 1 41 := ⟨by decide +kernel, rfl⟩
theorem dX6_place_41 : zD cX6_place 41 (.ireturn) 1 42 := ⟨by decide +kernel, rfl⟩
theorem dX6_place_42 : zD cX6_place 42 (.aload_n 0) 1 43 := ⟨by decide +kernel, rfl⟩
theorem dX6_place_43 : zD cX6_place 43 (.getfield 57) 3 46 := ⟨by decide +kernel, rfl⟩
theorem dX6_place_46 : zD cX6_place 46 (.getfield 151) 3 49 := ⟨by decide +kernel, rfl⟩
theorem dX6_place_49 : zD cX6_place 49 (.iload_n 1) 1 50 := ⟨by decide +kernel, rfl⟩
theorem dX6_place_50 : zD cX6_place 50 (.iaload) 1 51 := ⟨by decide +kernel, rfl⟩
theorem dX6_place_51 : zD cX6_place 51 (.ireturn) 1 52 := ⟨by decide +kernel, rfl⟩
theorem dX6_place_52 : zD cX6_place 52 (.new 67) 3 55 := ⟨by decide +kernel, rfl⟩
theorem dX6_place_55 : zD cX6_place 55 (.dup) 1 56 := ⟨by decide +kernel, rfl⟩
theorem dX6_place_56 : zD cX6_place 56 (.ldc 154) 2 58 := ⟨by decide +kernel, rfl⟩
theorem dX6_place_58 : zD cX6_place 58 (.invokespecial 71) 3 61 := ⟨by decide +kernel, rfl⟩
theorem dX6_place_61 : zD cX6_place 61 (.athrow) 1 62 := ⟨by decide +kernel, rfl⟩
theorem dX3_hasEntry_0 : zD cX3_hasEntry 0 (.iload_n 1) 1 1 := ⟨by decide +kernel, rfl⟩
theorem dX3_hasEntry_1 : zD cX3_hasEntry 1 (.ifCond .lt 15) 3 4 := ⟨by decide +kernel, rfl⟩
theorem dX3_hasEntry_4 : zD cX3_hasEntry 4 (.iload_n 1) 1 5 := ⟨by decide +kernel, rfl⟩
theorem dX3_hasEntry_5 : zD cX3_hasEntry 5 (.aload_n 0) 1 6 := ⟨by decide +kernel, rfl⟩
theorem dX3_hasEntry_6 : zD cX3_hasEntry 6 (.getfield 22) 3 9 := ⟨by decide +kernel, rfl⟩
theorem dX3_hasEntry_9 : zD cX3_hasEntry 9 (.if_icmp .ge 7) 3 12 := ⟨by decide +kernel, rfl⟩
theorem dX3_hasEntry_12 : zD cX3_hasEntry 12 (.iconst 1) 1 13 := ⟨by decide +kernel, rfl⟩
theorem dX3_hasEntry_13 : zD cX3_hasEntry 13 (.goto 4) 3 16 := ⟨by decide +kernel, rfl⟩
theorem dX3_hasEntry_16 : zD cX3_hasEntry 16 (.iconst 0) 1 17 := ⟨by decide +kernel, rfl⟩
theorem dX3_hasEntry_17 : zD cX3_hasEntry 17 (.ireturn) 1 18 := ⟨by decide +kernel, rfl⟩
theorem dX6_requireEntry_0 : zD cX6_requireEntry 0 (.aload_n 0) 1 1 := ⟨by decide +kernel, rfl⟩
theorem dX6_requireEntry_1 : zD cX6_requireEntry 1 (.getfield 36) 3 4 := ⟨by decide +kernel, rfl⟩
theorem dX6_requireEntry_4 : zD cX6_requireEntry 4 (.iload_n 1) 1 5 := ⟨by decide +kernel, rfl⟩
theorem dX6_requireEntry_5 : zD cX6_requireEntry 5 (.invokevirtual 396) 3 8 := ⟨by decide +kernel, rfl⟩
theorem dX6_requireEntry_8 : zD cX6_requireEntry 8 (.ifCond .ne 14) 3 11 := ⟨by decide +kernel, rfl⟩
theorem dX6_requireEntry_11 : zD cX6_requireEntry 11 (.new 337) 3 14 := ⟨by decide +kernel, rfl⟩
theorem dX6_requireEntry_14 : zD cX6_requireEntry 14 (.dup) 1 15 := ⟨by decide +kernel, rfl⟩
theorem dX6_requireEntry_15 : zD cX6_requireEntry 15 (.ldc_w 399) 3 18 := ⟨by decide +kernel, rfl⟩
theorem dX6_requireEntry_18 : zD cX6_requireEntry 18 (.invokespecial 341) 3 21 := ⟨by decide +kernel, rfl⟩
theorem dX6_requireEntry_21 : zD cX6_requireEntry 21 (.athrow) 1 22 := ⟨by decide +kernel, rfl⟩
theorem dX6_requireEntry_22 : zD cX6_requireEntry 22 (.return_) 1 23 := ⟨by decide +kernel, rfl⟩
theorem dX1_weight_0 : zD cX1_weight 0 (.iload_n 1) 1 1 := ⟨by decide +kernel, rfl⟩
theorem dX1_weight_1 : zD cX1_weight 1 (.aload_n 0) 1 2 := ⟨by decide +kernel, rfl⟩
theorem dX1_weight_2 : zD cX1_weight 2 (.getfield 35) 3 5 := ⟨by decide +kernel, rfl⟩
theorem dX1_weight_5 : zD cX1_weight 5 (.isub) 1 6 := ⟨by decide +kernel, rfl⟩
theorem dX1_weight_6 : zD cX1_weight 6 (.iconst 1) 1 7 := ⟨by decide +kernel, rfl⟩
theorem dX1_weight_7 : zD cX1_weight 7 (.iadd) 1 8 := ⟨by decide +kernel, rfl⟩
theorem dX1_weight_8 : zD cX1_weight 8 (.i2l) 1 9 := ⟨by decide +kernel, rfl⟩
theorem dX1_weight_9 : zD cX1_weight 9 (.lstore_n 2) 1 10 := ⟨by decide +kernel, rfl⟩
theorem dX1_weight_10 : zD cX1_weight 10 (.aload_n 0) 1 11 := ⟨by decide +kernel, rfl⟩
theorem dX1_weight_11 : zD cX1_weight 11 (.getfield 25) 3 14 := ⟨by decide +kernel, rfl⟩
theorem dX1_weight_14 : zD cX1_weight 14 (.i2l) 1 15 := ⟨by decide +kernel, rfl⟩
theorem dX1_weight_15 : zD cX1_weight 15 (.lload_n 2) 1 16 := ⟨by decide +kernel, rfl⟩
theorem dX1_weight_16 : zD cX1_weight 16 (.lmul) 1 17 := ⟨by decide +kernel, rfl⟩
theorem dX1_weight_17 : zD cX1_weight 17 (.iconst 1) 1 18 := ⟨by decide +kernel, rfl⟩
theorem dX1_weight_18 : zD cX1_weight 18 (.aload_n 0) 1 19 := ⟨by decide +kernel, rfl⟩
theorem dX1_weight_19 : zD cX1_weight 19 (.getfield 32) 3 22 := ⟨by decide +kernel, rfl⟩
theorem dX1_weight_22 : zD cX1_weight 22 (.iconst 1) 1 23 := ⟨by decide +kernel, rfl⟩
theorem dX1_weight_23 : zD cX1_weight 23 (.iadd) 1 24 := ⟨by decide +kernel, rfl⟩
theorem dX1_weight_24 : zD cX1_weight 24 (.invokestatic 58) 3 27 := ⟨by decide +kernel, rfl⟩
theorem dX1_weight_27 : zD cX1_weight 27 (.i2l) 1 28 := ⟨by decide +kernel, rfl⟩
theorem dX1_weight_28 : zD cX1_weight 28 (.ldiv) 1 29 := ⟨by decide +kernel, rfl⟩
theorem dX1_weight_29 : zD cX1_weight 29 (.lstore 4) 2 31 := ⟨by decide +kernel, rfl⟩
theorem dX1_weight_31 : zD cX1_weight 31 (.lload 4) 2 33 := ⟨by decide +kernel, rfl⟩
theorem dX1_weight_33 : zD cX1_weight 33 (.ldc2_w 64) 3 36 := ⟨by decide +kernel, rfl⟩
theorem dX1_weight_36 : zD cX1_weight 36 (.lcmp) 1 37 := ⟨by decide +kernel, rfl⟩
theorem dX1_weight_37 : zD cX1_weight 37 (.ifCond .le 8) 3 40 := ⟨by decide +kernel, rfl⟩
theorem dX1_weight_40 : zD cX1_weight 40 (.ldc 66) 2 42 := ⟨by decide +kernel, rfl⟩
theorem dX1_weight_42 : zD cX1_weight 42 (.goto 6) 3 45 := ⟨by decide +kernel, rfl⟩
theorem dX1_weight_45 : zD cX1_weight 45 (.lload 4) 2 47 := ⟨by decide +kernel, rfl⟩
theorem dX1_weight_47 : zD cX1_weight 47 (.l2i) 1 48 := ⟨by decide +kernel, rfl⟩
theorem dX1_weight_48 : zD cX1_weight 48 (.ireturn) 1 49 := ⟨by decide +kernel, rfl⟩
theorem dX6_entry_0 : zD cX6_entry 0 (.aload_n 0) 1 1 := ⟨by decide +kernel, rfl⟩
theorem dX6_entry_1 : zD cX6_entry 1 (.iload_n 1) 1 2 := ⟨by decide +kernel, rfl⟩
theorem dX6_entry_2 : zD cX6_entry 2 (.invokevirtual 156) 3 5 := ⟨by decide +kernel, rfl⟩
theorem dX6_entry_5 : zD cX6_entry 5 (.aload_n 0) 1 6 := ⟨by decide +kernel, rfl⟩
theorem dX6_entry_6 : zD cX6_entry 6 (.getfield 36) 3 9 := ⟨by decide +kernel, rfl⟩
theorem dX6_entry_9 : zD cX6_entry 9 (.getfield 159) 3 12 := ⟨by decide +kernel, rfl⟩
theorem dX6_entry_12 : zD cX6_entry 12 (.iload_n 1) 1 13 := ⟨by decide +kernel, rfl⟩
theorem dX6_entry_13 : zD cX6_entry 13 (.aaload) 1 14 := ⟨by decide +kernel, rfl⟩
theorem dX6_entry_14 : zD cX6_entry 14 (.astore_n 3) 1 15 := ⟨by decide +kernel, rfl⟩
theorem dX6_entry_15 : zD cX6_entry 15 (.iload_n 2) 1 16 := ⟨by decide +kernel, rfl⟩
theorem dX6_entry_16 : zD cX6_entry 16 (.tableswitch 94 0 6 #[44, 49, 54, 59, 72, 77, 82]) 44 60 := ⟨by decide +kernel, rfl⟩
theorem dX6_entry_60 : zD cX6_entry 60 (.aload_n 3) 1 61 := ⟨by decide +kernel, rfl⟩
theorem dX6_entry_61 : zD cX6_entry 61 (.getfield 163) 3 64 := ⟨by decide +kernel, rfl⟩
theorem dX6_entry_64 : zD cX6_entry 64 (.ireturn) 1 65 := ⟨by decide +kernel, rfl⟩
theorem dX6_entry_65 : zD cX6_entry 65 (.aload_n 3) 1 66 := ⟨by decide +kernel, rfl⟩
theorem dX6_entry_66 : zD cX6_entry 66 (.getfield 168) 3 69 := ⟨by decide +kernel, rfl⟩
theorem dX6_entry_69 : zD cX6_entry 69 (.ireturn) 1 70 := ⟨by decide +kernel, rfl⟩
theorem dX6_entry_70 : zD cX6_entry 70 (.aload_n 3) 1 71 := ⟨by decide +kernel, rfl⟩
theorem dX6_entry_71 : zD cX6_entry 71 (.getfield 171) 3 74 := ⟨by decide +kernel, rfl⟩
theorem dX6_entry_74 : zD cX6_entry 74 (.ireturn) 1 75 := ⟨by decide +kernel, rfl⟩
theorem dX6_entry_75 : zD cX6_entry 75 (.aload_n 3) 1 76 := ⟨by decide +kernel, rfl⟩
theorem dX6_entry_76 : zD cX6_entry 76 (.getfield 174) 3 79 := ⟨by decide +kernel, rfl⟩
theorem dX6_entry_79 : zD cX6_entry 79 (.ifCond .eq 7) 3 82 := ⟨by decide +kernel, rfl⟩
theorem dX6_entry_82 : zD cX6_entry 82 (.iconst 1) 1 83 := ⟨by decide +kernel, rfl⟩
theorem dX6_entry_83 : zD cX6_entry 83 (.goto 4) 3 86 := ⟨by decide +kernel, rfl⟩
theorem dX6_entry_86 : zD cX6_entry 86 (.iconst 0) 1 87 := ⟨by decide +kernel, rfl⟩
theorem dX6_entry_87 : zD cX6_entry 87 (.ireturn) 1 88 := ⟨by decide +kernel, rfl⟩
theorem dX6_entry_88 : zD cX6_entry 88 (.aload_n 3) 1 89 := ⟨by decide +kernel, rfl⟩
theorem dX6_entry_89 : zD cX6_entry 89 (.getfield 178) 3 92 := ⟨by decide +kernel, rfl⟩
theorem dX6_entry_92 : zD cX6_entry 92 (.ireturn) 1 93 := ⟨by decide +kernel, rfl⟩
theorem dX6_entry_93 : zD cX6_entry 93 (.aload_n 3) 1 94 := ⟨by decide +kernel, rfl⟩
theorem dX6_entry_94 : zD cX6_entry 94 (.getfield 181) 3 97 := ⟨by decide +kernel, rfl⟩
theorem dX6_entry_97 : zD cX6_entry 97 (.ireturn) 1 98 := ⟨by decide +kernel, rfl⟩
theorem dX6_entry_98 : zD cX6_entry 98 (.aload_n 3) 1 99 := ⟨by decide +kernel, rfl⟩
theorem dX6_entry_99 : zD cX6_entry 99 (.aload_n 0) 1 100 := ⟨by decide +kernel, rfl⟩
theorem dX6_entry_100 : zD cX6_entry 100 (.getfield 36) 3 103 := ⟨by decide +kernel, rfl⟩
theorem dX6_entry_103 : zD cX6_entry 103 (.getfield 116) 3 106 := ⟨by decide +kernel, rfl⟩
theorem dX6_entry_106 : zD cX6_entry 106 (.invokevirtual 184) 3 109 := ⟨by decide +kernel, rfl⟩
theorem dX6_entry_109 : zD cX6_entry 109 (.ireturn) 1 110 := ⟨by decide +kernel, rfl⟩
theorem dX6_entry_110 : zD cX6_entry 110 (.new 67) 3 113 := ⟨by decide +kernel, rfl⟩
theorem dX6_entry_113 : zD cX6_entry 113 (.dup) 1 114 := ⟨by decide +kernel, rfl⟩
theorem dX6_entry_114 : zD cX6_entry 114 (.ldc 188) 2 116 := ⟨by decide +kernel, rfl⟩
theorem dX6_entry_116 : zD cX6_entry 116 (.invokespecial 71) 3 119 := ⟨by decide +kernel, rfl⟩
theorem dX6_entry_119 : zD cX6_entry 119 (.athrow) 1 120 := ⟨by decide +kernel, rfl⟩
theorem dX6_requireFormat_0 : zD cX6_requireFormat 0 (.aload_n 0) 1 1 := ⟨by decide +kernel, rfl⟩
theorem dX6_requireFormat_1 : zD cX6_requireFormat 1 (.getfield 57) 3 4 := ⟨by decide +kernel, rfl⟩
theorem dX6_requireFormat_4 : zD cX6_requireFormat 4 (.iload_n 1) 1 5 := ⟨by decide +kernel, rfl⟩
theorem dX6_requireFormat_5 : zD cX6_requireFormat 5 (.invokevirtual 384) 3 8 := ⟨by decide +kernel, rfl⟩
theorem dX6_requireFormat_8 : zD cX6_requireFormat 8 (.ifCond .ne 14) 3 11 := ⟨by decide +kernel, rfl⟩
theorem dX6_requireFormat_11 : zD cX6_requireFormat 11 (.new 337) 3 14 := ⟨by decide +kernel, rfl⟩
theorem dX6_requireFormat_14 : zD cX6_requireFormat 14 (.dup) 1 15 := ⟨by decide +kernel, rfl⟩
theorem dX6_requireFormat_15 : zD cX6_requireFormat 15 (.ldc_w 387) 3 18 := ⟨by decide +kernel, rfl⟩
theorem dX6_requireFormat_18 : zD cX6_requireFormat 18 (.invokespecial 341) 3 21 := ⟨by decide +kernel, rfl⟩
theorem dX6_requireFormat_21 : zD cX6_requireFormat 21 (.athrow) 1 22 := ⟨by decide +kernel, rfl⟩
theorem dX6_requireFormat_22 : zD cX6_requireFormat 22 (.return_) 1 23 := ⟨by decide +kernel, rfl⟩
theorem dX1_holds_0 : zD cX1_holds 0 (.iload_n 1) 1 1 := ⟨by decide +kernel, rfl⟩
theorem dX1_holds_1 : zD cX1_holds 1 (.ifCond .lt 25) 3 4 := ⟨by decide +kernel, rfl⟩
theorem dX1_holds_4 : zD cX1_holds 4 (.iload_n 1) 1 5 := ⟨by decide +kernel, rfl⟩
theorem dX1_holds_5 : zD cX1_holds 5 (.bipush 8) 2 7 := ⟨by decide +kernel, rfl⟩
theorem dX1_holds_7 : zD cX1_holds 7 (.if_icmp .ge 19) 3 10 := ⟨by decide +kernel, rfl⟩
theorem dX1_holds_10 : zD cX1_holds 10 (.aload_n 0) 1 11 := ⟨by decide +kernel, rfl⟩
theorem dX1_holds_11 : zD cX1_holds 11 (.getfield 18) 3 14 := ⟨by decide +kernel, rfl⟩
theorem dX1_holds_14 : zD cX1_holds 14 (.iload_n 1) 1 15 := ⟨by decide +kernel, rfl⟩
theorem dX1_holds_15 : zD cX1_holds 15 (.ishr) 1 16 := ⟨by decide +kernel, rfl⟩
theorem dX1_holds_16 : zD cX1_holds 16 (.iconst 1) 1 17 := ⟨by decide +kernel, rfl⟩
theorem dX1_holds_17 : zD cX1_holds 17 (.iand) 1 18 := ⟨by decide +kernel, rfl⟩
theorem dX1_holds_18 : zD cX1_holds 18 (.iconst 1) 1 19 := ⟨by decide +kernel, rfl⟩
theorem dX1_holds_19 : zD cX1_holds 19 (.if_icmp .ne 7) 3 22 := ⟨by decide +kernel, rfl⟩
theorem dX1_holds_22 : zD cX1_holds 22 (.iconst 1) 1 23 := ⟨by decide +kernel, rfl⟩
theorem dX1_holds_23 : zD cX1_holds 23 (.goto 4) 3 26 := ⟨by decide +kernel, rfl⟩
theorem dX1_holds_26 : zD cX1_holds 26 (.iconst 0) 1 27 := ⟨by decide +kernel, rfl⟩
theorem dX1_holds_27 : zD cX1_holds 27 (.ireturn) 1 28 := ⟨by decide +kernel, rfl⟩
theorem dX6_form_0 : zD cX6_form 0 (.aload_n 0) 1 1 := ⟨by decide +kernel, rfl⟩
theorem dX6_form_1 : zD cX6_form 1 (.iload_n 1) 1 2 := ⟨by decide +kernel, rfl⟩
theorem dX6_form_2 : zD cX6_form 2 (.invokevirtual 156) 3 5 := ⟨by decide +kernel, rfl⟩
theorem dX6_form_5 : zD cX6_form 5 (.aload_n 0) 1 6 := ⟨by decide +kernel, rfl⟩
theorem dX6_form_6 : zD cX6_form 6 (.iload_n 2) 1 7 := ⟨by decide +kernel, rfl⟩
theorem dX6_form_7 : zD cX6_form 7 (.invokevirtual 190) 3 10 := ⟨by decide +kernel, rfl⟩
theorem dX6_form_10 : zD cX6_form 10 (.aload_n 0) 1 11 := ⟨by decide +kernel, rfl⟩
theorem dX6_form_11 : zD cX6_form 11 (.getfield 36) 3 14 := ⟨by decide +kernel, rfl⟩
theorem dX6_form_14 : zD cX6_form 14 (.getfield 159) 3 17 := ⟨by decide +kernel, rfl⟩
theorem dX6_form_17 : zD cX6_form 17 (.iload_n 1) 1 18 := ⟨by decide +kernel, rfl⟩
theorem dX6_form_18 : zD cX6_form 18 (.aaload) 1 19 := ⟨by decide +kernel, rfl⟩
theorem dX6_form_19 : zD cX6_form 19 (.astore 4) 2 21 := ⟨by decide +kernel, rfl⟩
theorem dX6_form_21 : zD cX6_form 21 (.aload 4) 2 23 := ⟨by decide +kernel, rfl⟩
theorem dX6_form_23 : zD cX6_form 23 (.iload_n 2) 1 24 := ⟨by decide +kernel, rfl⟩
theorem dX6_form_24 : zD cX6_form 24 (.invokevirtual 193) 3 27 := ⟨by decide +kernel, rfl⟩
theorem dX6_form_27 : zD cX6_form 27 (.ifCond .ne 6) 3 30 := ⟨by decide +kernel, rfl⟩
theorem dX6_form_30 : zD cX6_form 30 (.bipush (-9)) 2 32 := ⟨by decide +kernel, rfl⟩
theorem dX6_form_32 : zD cX6_form 32 (.ireturn) 1 33 := ⟨by decide +kernel, rfl⟩
theorem dX6_form_33 : zD cX6_form 33 (.iload_n 3) 1 34 := ⟨by decide +kernel, rfl⟩
theorem dX6_form_34 : zD cX6_form 34 (.ifCond .eq 13) 3 37 := ⟨by decide +kernel, rfl⟩
theorem dX6_form_37 : zD cX6_form 37 (.aload 4) 2 39 := ⟨by decide +kernel, rfl⟩
theorem dX6_form_39 : zD cX6_form 39 (.getfield 197) 3 42 := ⟨by decide +kernel, rfl⟩
theorem dX6_form_42 : zD cX6_form 42 (.iload_n 2) 1 43 := ⟨by decide +kernel, rfl⟩
theorem dX6_form_43 : zD cX6_form 43 (.iaload) 1 44 := ⟨by decide +kernel, rfl⟩
theorem dX6_form_44 : zD cX6_form 44 (.goto 10) 3 47 := ⟨by decide +kernel, rfl⟩
theorem dX6_form_47 : zD cX6_form 47 (.aload 4) 2 49 := ⟨by decide +kernel, rfl⟩
theorem dX6_form_49 : zD cX6_form 49 (.getfield 200) 3 52 := ⟨by decide +kernel, rfl⟩
theorem dX6_form_52 : zD cX6_form 52 (.iload_n 2) 1 53 := ⟨by decide +kernel, rfl⟩
theorem dX6_form_53 : zD cX6_form 53 (.iaload) 1 54 := ⟨by decide +kernel, rfl⟩
theorem dX6_form_54 : zD cX6_form 54 (.ireturn) 1 55 := ⟨by decide +kernel, rfl⟩
theorem dX6_isNewSize_0 : zD cX6_isNewSize 0 (.iload_n 0) 1 1 := ⟨by decide +kernel, rfl⟩
theorem dX6_isNewSize_1 : zD cX6_isNewSize 1 (.iconst 1) 1 2 := ⟨by decide +kernel, rfl⟩
theorem dX6_isNewSize_2 : zD cX6_isNewSize 2 (.if_icmp .lt 14) 3 5 := ⟨by decide +kernel, rfl⟩
theorem dX6_isNewSize_5 : zD cX6_isNewSize 5 (.iload_n 0) 1 6 := ⟨by decide +kernel, rfl⟩
theorem dX6_isNewSize_6 : zD cX6_isNewSize 6 (.sipush 9999) 3 9 := ⟨by decide +kernel, rfl⟩
theorem dX6_isNewSize_9 : zD cX6_isNewSize 9 (.if_icmp .gt 7) 3 12 := ⟨by decide +kernel, rfl⟩
theorem dX6_isNewSize_12 : zD cX6_isNewSize 12 (.iconst 1) 1 13 := ⟨by decide +kernel, rfl⟩
theorem dX6_isNewSize_13 : zD cX6_isNewSize 13 (.goto 4) 3 16 := ⟨by decide +kernel, rfl⟩
theorem dX6_isNewSize_16 : zD cX6_isNewSize 16 (.iconst 0) 1 17 := ⟨by decide +kernel, rfl⟩
theorem dX6_isNewSize_17 : zD cX6_isNewSize 17 (.ireturn) 1 18 := ⟨by decide +kernel, rfl⟩
theorem dX6_requireNewSize_0 : zD cX6_requireNewSize 0 (.iload_n 0) 1 1 := ⟨by decide +kernel, rfl⟩
theorem dX6_requireNewSize_1 : zD cX6_requireNewSize 1 (.invokestatic 403) 3 4 := ⟨by decide +kernel, rfl⟩
theorem dX6_requireNewSize_4 : zD cX6_requireNewSize 4 (.ifCond .ne 14) 3 7 := ⟨by decide +kernel, rfl⟩
theorem dX6_requireNewSize_7 : zD cX6_requireNewSize 7 (.new 67) 3 10 := ⟨by decide +kernel, rfl⟩
theorem dX6_requireNewSize_10 : zD cX6_requireNewSize 10 (.dup) 1 11 := ⟨by decide +kernel, rfl⟩
theorem dX6_requireNewSize_11 : zD cX6_requireNewSize 11 (.ldc_w 406) 3 14 := ⟨by decide +kernel, rfl⟩
theorem dX6_requireNewSize_14 : zD cX6_requireNewSize 14 (.invokespecial 71) 3 17 := ⟨by decide +kernel, rfl⟩
theorem dX6_requireNewSize_17 : zD cX6_requireNewSize 17 (.athrow) 1 18 := ⟨by decide +kernel, rfl⟩
theorem dX6_requireNewSize_18 : zD cX6_requireNewSize 18 (.return_) 1 19 := ⟨by decide +kernel, rfl⟩
theorem dX3_isFull_0 : zD cX3_isFull 0 (.aload_n 0) 1 1 := ⟨by decide +kernel, rfl⟩
theorem dX3_isFull_1 : zD cX3_isFull 1 (.getfield 22) 3 4 := ⟨by decide +kernel, rfl⟩
theorem dX3_isFull_4 : zD cX3_isFull 4 (.bipush 12) 2 6 := ⟨by decide +kernel, rfl⟩
theorem dX3_isFull_6 : zD cX3_isFull 6 (.if_icmp .lt 7) 3 9 := ⟨by decide +kernel, rfl⟩
theorem dX3_isFull_9 : zD cX3_isFull 9 (.iconst 1) 1 10 := ⟨by decide +kernel, rfl⟩
theorem dX3_isFull_10 : zD cX3_isFull 10 (.goto 4) 3 13 := ⟨by decide +kernel, rfl⟩
theorem dX3_isFull_13 : zD cX3_isFull 13 (.iconst 0) 1 14 := ⟨by decide +kernel, rfl⟩
theorem dX3_isFull_14 : zD cX3_isFull 14 (.ireturn) 1 15 := ⟨by decide +kernel, rfl⟩
theorem dX3_pinnedCount_0 : zD cX3_pinnedCount 0 (.iconst 0) 1 1 := ⟨by decide +kernel, rfl⟩
theorem dX3_pinnedCount_1 : zD cX3_pinnedCount 1 (.istore_n 1) 1 2 := ⟨by decide +kernel, rfl⟩
theorem dX3_pinnedCount_2 : zD cX3_pinnedCount 2 (.iconst 0) 1 3 := ⟨by decide +kernel, rfl⟩
theorem dX3_pinnedCount_3 : zD cX3_pinnedCount 3 (.istore_n 2) 1 4 := ⟨by decide +kernel, rfl⟩
theorem dX3_pinnedCount_4 : zD cX3_pinnedCount 4 (.iload_n 2) 1 5 := ⟨by decide +kernel, rfl⟩
theorem dX3_pinnedCount_5 : zD cX3_pinnedCount 5 (.aload_n 0) 1 6 := ⟨by decide +kernel, rfl⟩
theorem dX3_pinnedCount_6 : zD cX3_pinnedCount 6 (.getfield 22) 3 9 := ⟨by decide +kernel, rfl⟩
theorem dX3_pinnedCount_9 : zD cX3_pinnedCount 9 (.if_icmp .ge 24) 3 12 := ⟨by decide +kernel, rfl⟩
theorem dX3_pinnedCount_12 : zD cX3_pinnedCount 12 (.aload_n 0) 1 13 := ⟨by decide +kernel, rfl⟩
theorem dX3_pinnedCount_13 : zD cX3_pinnedCount 13 (.getfield 11) 3 16 := ⟨by decide +kernel, rfl⟩
theorem dX3_pinnedCount_16 : zD cX3_pinnedCount 16 (.iload_n 2) 1 17 := ⟨by decide +kernel, rfl⟩
theorem dX3_pinnedCount_17 : zD cX3_pinnedCount 17 (.aaload) 1 18 := ⟨by decide +kernel, rfl⟩
theorem dX3_pinnedCount_18 : zD cX3_pinnedCount 18 (.getfield 54) 3 21 := ⟨by decide +kernel, rfl⟩
theorem dX3_pinnedCount_21 : zD cX3_pinnedCount 21 (.ifCond .eq 6) 3 24 := ⟨by decide +kernel, rfl⟩
theorem dX3_pinnedCount_24 : zD cX3_pinnedCount 24 (.iinc 1 1) 3 27 := ⟨by decide +kernel, rfl⟩
theorem dX3_pinnedCount_27 : zD cX3_pinnedCount 27 (.iinc 2 1) 3 30 := ⟨by decide +kernel, rfl⟩
theorem dX3_pinnedCount_30 : zD cX3_pinnedCount 30 (.goto (-26)) 3 33 := ⟨by decide +kernel, rfl⟩
theorem dX3_pinnedCount_33 : zD cX3_pinnedCount 33 (.iload_n 1) 1 34 := ⟨by decide +kernel, rfl⟩
theorem dX3_pinnedCount_34 : zD cX3_pinnedCount 34 (.ireturn) 1 35 := ⟨by decide +kernel, rfl⟩
theorem dX1_holdsDerived_0 : zD cX1_holdsDerived 0 (.iload_n 1) 1 1 := ⟨by decide +kernel, rfl⟩
theorem dX1_holdsDerived_1 : zD cX1_holdsDerived 1 (.ifCond .lt 25) 3 4 := ⟨by decide +kernel, rfl⟩
theorem dX1_holdsDerived_4 : zD cX1_holdsDerived 4 (.iload_n 1) 1 5 := ⟨by decide +kernel, rfl⟩
theorem dX1_holdsDerived_5 : zD cX1_holdsDerived 5 (.bipush 8) 2 7 := ⟨by decide +kernel, rfl⟩
theorem dX1_holdsDerived_7 : zD cX1_holdsDerived 7 (.if_icmp .ge 19) 3 10 := ⟨by decide +kernel, rfl⟩
theorem dX1_holdsDerived_10 : zD cX1_holdsDerived 10 (.aload_n 0) 1 11 := ⟨by decide +kernel, rfl⟩
theorem dX1_holdsDerived_11 : zD cX1_holdsDerived 11 (.getfield 22) 3 14 := ⟨by decide +kernel, rfl⟩
theorem dX1_holdsDerived_14 : zD cX1_holdsDerived 14 (.iload_n 1) 1 15 := ⟨by decide +kernel, rfl⟩
theorem dX1_holdsDerived_15 : zD cX1_holdsDerived 15 (.ishr) 1 16 := ⟨by decide +kernel, rfl⟩
theorem dX1_holdsDerived_16 : zD cX1_holdsDerived 16 (.iconst 1) 1 17 := ⟨by decide +kernel, rfl⟩
theorem dX1_holdsDerived_17 : zD cX1_holdsDerived 17 (.iand) 1 18 := ⟨by decide +kernel, rfl⟩
theorem dX1_holdsDerived_18 : zD cX1_holdsDerived 18 (.iconst 1) 1 19 := ⟨by decide +kernel, rfl⟩
theorem dX1_holdsDerived_19 : zD cX1_holdsDerived 19 (.if_icmp .ne 7) 3 22 := ⟨by decide +kernel, rfl⟩
theorem dX1_holdsDerived_22 : zD cX1_holdsDerived 22 (.iconst 1) 1 23 := ⟨by decide +kernel, rfl⟩
theorem dX1_holdsDerived_23 : zD cX1_holdsDerived 23 (.goto 4) 3 26 := ⟨by decide +kernel, rfl⟩
theorem dX1_holdsDerived_26 : zD cX1_holdsDerived 26 (.iconst 0) 1 27 := ⟨by decide +kernel, rfl⟩
theorem dX1_holdsDerived_27 : zD cX1_holdsDerived 27 (.ireturn) 1 28 := ⟨by decide +kernel, rfl⟩
theorem dX1_originalSize_0 : zD cX1_originalSize 0 (.aload_n 0) 1 1 := ⟨by decide +kernel, rfl⟩
theorem dX1_originalSize_1 : zD cX1_originalSize 1 (.getfield 25) 3 4 := ⟨by decide +kernel, rfl⟩
theorem dX1_originalSize_4 : zD cX1_originalSize 4 (.istore_n 1) 1 5 := ⟨by decide +kernel, rfl⟩
theorem dX1_originalSize_5 : zD cX1_originalSize 5 (.iconst 0) 1 6 := ⟨by decide +kernel, rfl⟩
theorem dX1_originalSize_6 : zD cX1_originalSize 6 (.istore_n 2) 1 7 := ⟨by decide +kernel, rfl⟩
theorem dX1_originalSize_7 : zD cX1_originalSize 7 (.iload_n 2) 1 8 := ⟨by decide +kernel, rfl⟩
theorem dX1_originalSize_8 : zD cX1_originalSize 8 (.bipush 8) 2 10 := ⟨by decide +kernel, rfl⟩
theorem dX1_originalSize_10 : zD cX1_originalSize 10 (.if_icmp .ge 26) 3 13 := ⟨by decide +kernel, rfl⟩
theorem dX1_originalSize_13 : zD cX1_originalSize 13 (.aload_n 0) 1 14 := ⟨by decide +kernel, rfl⟩
theorem dX1_originalSize_14 : zD cX1_originalSize 14 (.iload_n 2) 1 15 := ⟨by decide +kernel, rfl⟩
theorem dX1_originalSize_15 : zD cX1_originalSize 15 (.invokevirtual 55) 3 18 := ⟨by decide +kernel, rfl⟩
theorem dX1_originalSize_18 : zD cX1_originalSize 18 (.ifCond .eq 12) 3 21 := ⟨by decide +kernel, rfl⟩
theorem dX1_originalSize_21 : zD cX1_originalSize 21 (.iload_n 1) 1 22 := ⟨by decide +kernel, rfl⟩
theorem dX1_originalSize_22 : zD cX1_originalSize 22 (.aload_n 0) 1 23 := ⟨by decide +kernel, rfl⟩
theorem dX1_originalSize_23 : zD cX1_originalSize 23 (.getfield 9) 3 26 := ⟨by decide +kernel, rfl⟩
theorem dX1_originalSize_26 : zD cX1_originalSize 26 (.iload_n 2) 1 27 := ⟨by decide +kernel, rfl⟩
theorem dX1_originalSize_27 : zD cX1_originalSize 27 (.iaload) 1 28 := ⟨by decide +kernel, rfl⟩
theorem dX1_originalSize_28 : zD cX1_originalSize 28 (.isub) 1 29 := ⟨by decide +kernel, rfl⟩
theorem dX1_originalSize_29 : zD cX1_originalSize 29 (.istore_n 1) 1 30 := ⟨by decide +kernel, rfl⟩
theorem dX1_originalSize_30 : zD cX1_originalSize 30 (.iinc 2 1) 3 33 := ⟨by decide +kernel, rfl⟩
theorem dX1_originalSize_33 : zD cX1_originalSize 33 (.goto (-26)) 3 36 := ⟨by decide +kernel, rfl⟩
theorem dX1_originalSize_36 : zD cX1_originalSize 36 (.iload_n 1) 1 37 := ⟨by decide +kernel, rfl⟩
theorem dX1_originalSize_37 : zD cX1_originalSize 37 (.ireturn) 1 38 := ⟨by decide +kernel, rfl⟩
theorem dX3_leastSize_0 : zD cX3_leastSize 0 (.iconst 0) 1 1 := ⟨by decide +kernel, rfl⟩
theorem dX3_leastSize_1 : zD cX3_leastSize 1 (.istore_n 3) 1 2 := ⟨by decide +kernel, rfl⟩
theorem dX3_leastSize_2 : zD cX3_leastSize 2 (.iconst 0) 1 3 := ⟨by decide +kernel, rfl⟩
theorem dX3_leastSize_3 : zD cX3_leastSize 3 (.istore 4) 2 5 := ⟨by decide +kernel, rfl⟩
theorem dX3_leastSize_5 : zD cX3_leastSize 5 (.iload 4) 2 7 := ⟨by decide +kernel, rfl⟩
theorem dX3_leastSize_7 : zD cX3_leastSize 7 (.aload_n 0) 1 8 := ⟨by decide +kernel, rfl⟩
theorem dX3_leastSize_8 : zD cX3_leastSize 8 (.getfield 22) 3 11 := ⟨by decide +kernel, rfl⟩
theorem dX3_leastSize_11 : zD cX3_leastSize 11 (.if_icmp .ge 61) 3 14 := ⟨by decide +kernel, rfl⟩
theorem dX3_leastSize_14 : zD cX3_leastSize 14 (.iload 4) 2 16 := ⟨by decide +kernel, rfl⟩
theorem dX3_leastSize_16 : zD cX3_leastSize 16 (.iload_n 1) 1 17 := ⟨by decide +kernel, rfl⟩
theorem dX3_leastSize_17 : zD cX3_leastSize 17 (.if_icmp .ne 19) 3 20 := ⟨by decide +kernel, rfl⟩
theorem dX3_leastSize_20 : zD cX3_leastSize 20 (.iload_n 3) 1 21 := ⟨by decide +kernel, rfl⟩
theorem dX3_leastSize_21 : zD cX3_leastSize 21 (.aload_n 0) 1 22 := ⟨by decide +kernel, rfl⟩
theorem dX3_leastSize_22 : zD cX3_leastSize 22 (.getfield 11) 3 25 := ⟨by decide +kernel, rfl⟩
theorem dX3_leastSize_25 : zD cX3_leastSize 25 (.iload 4) 2 27 := ⟨by decide +kernel, rfl⟩
theorem dX3_leastSize_27 : zD cX3_leastSize 27 (.aaload) 1 28 := ⟨by decide +kernel, rfl⟩
theorem dX3_leastSize_28 : zD cX3_leastSize 28 (.getfield 51) 3 31 := ⟨by decide +kernel, rfl⟩
theorem dX3_leastSize_31 : zD cX3_leastSize 31 (.iadd) 1 32 := ⟨by decide +kernel, rfl⟩
theorem dX3_leastSize_32 : zD cX3_leastSize 32 (.istore_n 3) 1 33 := ⟨by decide +kernel, rfl⟩
theorem dX3_leastSize_33 : zD cX3_leastSize 33 (.goto 33) 3 36 := ⟨by decide +kernel, rfl⟩
theorem dX3_leastSize_36 : zD cX3_leastSize 36 (.iload_n 2) 1 37 := ⟨by decide +kernel, rfl⟩
theorem dX3_leastSize_37 : zD cX3_leastSize 37 (.ifCond .ne 16) 3 40 := ⟨by decide +kernel, rfl⟩
theorem dX3_leastSize_40 : zD cX3_leastSize 40 (.aload_n 0) 1 41 := ⟨by decide +kernel, rfl⟩
theorem dX3_leastSize_41 : zD cX3_leastSize 41 (.getfield 11) 3 44 := ⟨by decide +kernel, rfl⟩
theorem dX3_leastSize_44 : zD cX3_leastSize 44 (.iload 4) 2 46 := ⟨by decide +kernel, rfl⟩
theorem dX3_leastSize_46 : zD cX3_leastSize 46 (.aaload) 1 47 := ⟨by decide +kernel, rfl⟩
theorem dX3_leastSize_47 : zD cX3_leastSize 47 (.getfield 54) 3 50 := ⟨by decide +kernel, rfl⟩
theorem dX3_leastSize_50 : zD cX3_leastSize 50 (.ifCond .eq 16) 3 53 := ⟨by decide +kernel, rfl⟩
theorem dX3_leastSize_53 : zD cX3_leastSize 53 (.iload_n 3) 1 54 := ⟨by decide +kernel, rfl⟩
theorem dX3_leastSize_54 : zD cX3_leastSize 54 (.aload_n 0) 1 55 := ⟨by decide +kernel, rfl⟩
theorem dX3_leastSize_55 : zD cX3_leastSize 55 (.getfield 11) 3 58 := ⟨by decide +kernel, rfl⟩
theorem dX3_leastSize_58 : zD cX3_leastSize 58 (.iload 4) 2 60 := ⟨by decide +kernel, rfl⟩
theorem dX3_leastSize_60 : zD cX3_leastSize 60 (.aaload) 1 61 := ⟨by decide +kernel, rfl⟩
theorem dX3_leastSize_61 : zD cX3_leastSize 61 (.invokevirtual 62) 3 64 := ⟨by decide +kernel, rfl⟩
theorem dX3_leastSize_64 : zD cX3_leastSize 64 (.iadd) 1 65 := ⟨by decide +kernel, rfl⟩
theorem dX3_leastSize_65 : zD cX3_leastSize 65 (.istore_n 3) 1 66 := ⟨by decide +kernel, rfl⟩
theorem dX3_leastSize_66 : zD cX3_leastSize 66 (.iinc 4 1) 3 69 := ⟨by decide +kernel, rfl⟩
theorem dX3_leastSize_69 : zD cX3_leastSize 69 (.goto (-64)) 3 72 := ⟨by decide +kernel, rfl⟩
theorem dX3_leastSize_72 : zD cX3_leastSize 72 (.iload_n 3) 1 73 := ⟨by decide +kernel, rfl⟩
theorem dX3_leastSize_73 : zD cX3_leastSize 73 (.ireturn) 1 74 := ⟨by decide +kernel, rfl⟩
theorem dX3_canAddEntry_0 : zD cX3_canAddEntry 0 (.aload_n 0) 1 1 := ⟨by decide +kernel, rfl⟩
theorem dX3_canAddEntry_1 : zD cX3_canAddEntry 1 (.invokevirtual 66) 3 4 := ⟨by decide +kernel, rfl⟩
theorem dX3_canAddEntry_4 : zD cX3_canAddEntry 4 (.ifCond .eq 14) 3 7 := ⟨by decide +kernel, rfl⟩
theorem dX3_canAddEntry_7 : zD cX3_canAddEntry 7 (.aload_n 0) 1 8 := ⟨by decide +kernel, rfl⟩
theorem dX3_canAddEntry_8 : zD cX3_canAddEntry 8 (.invokevirtual 70) 3 11 := ⟨by decide +kernel, rfl⟩
theorem dX3_canAddEntry_11 : zD cX3_canAddEntry 11 (.aload_n 0) 1 12 := ⟨by decide +kernel, rfl⟩
theorem dX3_canAddEntry_12 : zD cX3_canAddEntry 12 (.getfield 22) 3 15 := ⟨by decide +kernel, rfl⟩
theorem dX3_canAddEntry_15 : zD cX3_canAddEntry 15 (.if_icmp .ge 7) 3 18 := ⟨by decide +kernel, rfl⟩
theorem dX3_canAddEntry_18 : zD cX3_canAddEntry 18 (.iconst 1) 1 19 := ⟨by decide +kernel, rfl⟩
theorem dX3_canAddEntry_19 : zD cX3_canAddEntry 19 (.goto 4) 3 22 := ⟨by decide +kernel, rfl⟩
theorem dX3_canAddEntry_22 : zD cX3_canAddEntry 22 (.iconst 0) 1 23 := ⟨by decide +kernel, rfl⟩
theorem dX3_canAddEntry_23 : zD cX3_canAddEntry 23 (.istore_n 2) 1 24 := ⟨by decide +kernel, rfl⟩
theorem dX3_canAddEntry_24 : zD cX3_canAddEntry 24 (.iload_n 2) 1 25 := ⟨by decide +kernel, rfl⟩
theorem dX3_canAddEntry_25 : zD cX3_canAddEntry 25 (.ifCond .eq 22) 3 28 := ⟨by decide +kernel, rfl⟩
theorem dX3_canAddEntry_28 : zD cX3_canAddEntry 28 (.aload_n 0) 1 29 := ⟨by decide +kernel, rfl⟩
theorem dX3_canAddEntry_29 : zD cX3_canAddEntry 29 (.iconst (-1)) 1 30 := ⟨by decide +kernel, rfl⟩
theorem dX3_canAddEntry_30 : zD cX3_canAddEntry 30 (.iconst 0) 1 31 := ⟨by decide +kernel, rfl⟩
theorem dX3_canAddEntry_31 : zD cX3_canAddEntry 31 (.invokevirtual 73) 3 34 := ⟨by decide +kernel, rfl⟩
theorem dX3_canAddEntry_34 : zD cX3_canAddEntry 34 (.iload_n 1) 1 35 := ⟨by decide +kernel, rfl⟩
theorem dX3_canAddEntry_35 : zD cX3_canAddEntry 35 (.iadd) 1 36 := ⟨by decide +kernel, rfl⟩
theorem dX3_canAddEntry_36 : zD cX3_canAddEntry 36 (.aload_n 0) 1 37 := ⟨by decide +kernel, rfl⟩
theorem dX3_canAddEntry_37 : zD cX3_canAddEntry 37 (.getfield 37) 3 40 := ⟨by decide +kernel, rfl⟩
theorem dX3_canAddEntry_40 : zD cX3_canAddEntry 40 (.if_icmp .gt 7) 3 43 := ⟨by decide +kernel, rfl⟩
theorem dX3_canAddEntry_43 : zD cX3_canAddEntry 43 (.iconst 1) 1 44 := ⟨by decide +kernel, rfl⟩
theorem dX3_canAddEntry_44 : zD cX3_canAddEntry 44 (.goto 4) 3 47 := ⟨by decide +kernel, rfl⟩
theorem dX3_canAddEntry_47 : zD cX3_canAddEntry 47 (.iconst 0) 1 48 := ⟨by decide +kernel, rfl⟩
theorem dX3_canAddEntry_48 : zD cX3_canAddEntry 48 (.ireturn) 1 49 := ⟨by decide +kernel, rfl⟩
theorem dX6_forgetOldest_0 : zD cX6_forgetOldest 0 (.aload_n 0) 1 1 := ⟨by decide +kernel, rfl⟩
theorem dX6_forgetOldest_1 : zD cX6_forgetOldest 1 (.getfield 43) 3 4 := ⟨by decide +kernel, rfl⟩
theorem dX6_forgetOldest_4 : zD cX6_forgetOldest 4 (.iconst 0) 1 5 := ⟨by decide +kernel, rfl⟩
theorem dX6_forgetOldest_5 : zD cX6_forgetOldest 5 (.aaload) 1 6 := ⟨by decide +kernel, rfl⟩
theorem dX6_forgetOldest_6 : zD cX6_forgetOldest 6 (.astore_n 1) 1 7 := ⟨by decide +kernel, rfl⟩
theorem dX6_forgetOldest_7 : zD cX6_forgetOldest 7 (.iconst 1) 1 8 := ⟨by decide +kernel, rfl⟩
theorem dX6_forgetOldest_8 : zD cX6_forgetOldest 8 (.istore_n 2) 1 9 := ⟨by decide +kernel, rfl⟩
theorem dX6_forgetOldest_9 : zD cX6_forgetOldest 9 (.iload_n 2) 1 10 := ⟨by decide +kernel, rfl⟩
theorem dX6_forgetOldest_10 : zD cX6_forgetOldest 10 (.aload_n 0) 1 11 := ⟨by decide +kernel, rfl⟩
theorem dX6_forgetOldest_11 : zD cX6_forgetOldest 11 (.getfield 43) 3 14 := ⟨by decide +kernel, rfl⟩
theorem dX6_forgetOldest_14 : zD cX6_forgetOldest 14 (.arraylength) 1 15 := ⟨by decide +kernel, rfl⟩
theorem dX6_forgetOldest_15 : zD cX6_forgetOldest 15 (.if_icmp .ge 23) 3 18 := ⟨by decide +kernel, rfl⟩
theorem dX6_forgetOldest_18 : zD cX6_forgetOldest 18 (.aload_n 0) 1 19 := ⟨by decide +kernel, rfl⟩
theorem dX6_forgetOldest_19 : zD cX6_forgetOldest 19 (.getfield 43) 3 22 := ⟨by decide +kernel, rfl⟩
theorem dX6_forgetOldest_22 : zD cX6_forgetOldest 22 (.iload_n 2) 1 23 := ⟨by decide +kernel, rfl⟩
theorem dX6_forgetOldest_23 : zD cX6_forgetOldest 23 (.iconst 1) 1 24 := ⟨by decide +kernel, rfl⟩
theorem dX6_forgetOldest_24 : zD cX6_forgetOldest 24 (.isub) 1 25 := ⟨by decide +kernel, rfl⟩
theorem dX6_forgetOldest_25 : zD cX6_forgetOldest 25 (.aload_n 0) 1 26 := ⟨by decide +kernel, rfl⟩
theorem dX6_forgetOldest_26 : zD cX6_forgetOldest 26 (.getfield 43) 3 29 := ⟨by decide +kernel, rfl⟩
theorem dX6_forgetOldest_29 : zD cX6_forgetOldest 29 (.iload_n 2) 1 30 := ⟨by decide +kernel, rfl⟩
theorem dX6_forgetOldest_30 : zD cX6_forgetOldest 30 (.aaload) 1 31 := ⟨by decide +kernel, rfl⟩
theorem dX6_forgetOldest_31 : zD cX6_forgetOldest 31 (.aastore) 1 32 := ⟨by decide +kernel, rfl⟩
theorem dX6_forgetOldest_32 : zD cX6_forgetOldest 32 (.iinc 2 1) 3 35 := ⟨by decide +kernel, rfl⟩
theorem dX6_forgetOldest_35 : zD cX6_forgetOldest 35 (.goto (-26)) 3 38 := ⟨by decide +kernel, rfl⟩
theorem dX6_forgetOldest_38 : zD cX6_forgetOldest 38 (.aload_n 0) 1 39 := ⟨by decide +kernel, rfl⟩
theorem dX6_forgetOldest_39 : zD cX6_forgetOldest 39 (.getfield 43) 3 42 := ⟨by decide +kernel, rfl⟩
theorem dX6_forgetOldest_42 : zD cX6_forgetOldest 42 (.aload_n 0) 1 43 := ⟨by decide +kernel, rfl⟩
theorem dX6_forgetOldest_43 : zD cX6_forgetOldest 43 (.getfield 43) 3 46 := ⟨by decide +kernel, rfl⟩
theorem dX6_forgetOldest_46 : zD cX6_forgetOldest 46 (.arraylength) 1 47 := ⟨by decide +kernel, rfl⟩
theorem dX6_forgetOldest_47 : zD cX6_forgetOldest 47 (.iconst 1) 1 48 := ⟨by decide +kernel, rfl⟩
theorem dX6_forgetOldest_48 : zD cX6_forgetOldest 48 (.isub) 1 49 := ⟨by decide +kernel, rfl⟩
theorem dX6_forgetOldest_49 : zD cX6_forgetOldest 49 (.aload_n 1) 1 50 := ⟨by decide +kernel, rfl⟩
theorem dX6_forgetOldest_50 : zD cX6_forgetOldest 50 (.aastore) 1 51 := ⟨by decide +kernel, rfl⟩
theorem dX6_forgetOldest_51 : zD cX6_forgetOldest 51 (.aload_n 0) 1 52 := ⟨by decide +kernel, rfl⟩
theorem dX6_forgetOldest_52 : zD cX6_forgetOldest 52 (.aload_n 0) 1 53 := ⟨by decide +kernel, rfl⟩
theorem dX6_forgetOldest_53 : zD cX6_forgetOldest 53 (.getfield 43) 3 56 := ⟨by decide +kernel, rfl⟩
theorem dX6_forgetOldest_56 : zD cX6_forgetOldest 56 (.arraylength) 1 57 := ⟨by decide +kernel, rfl⟩
theorem dX6_forgetOldest_57 : zD cX6_forgetOldest 57 (.iconst 1) 1 58 := ⟨by decide +kernel, rfl⟩
theorem dX6_forgetOldest_58 : zD cX6_forgetOldest 58 (.isub) 1 59 := ⟨by decide +kernel, rfl⟩
theorem dX6_forgetOldest_59 : zD cX6_forgetOldest 59 (.putfield 266) 3 62 := ⟨by decide +kernel, rfl⟩
theorem dX6_forgetOldest_62 : zD cX6_forgetOldest 62 (.return_) 1 63 := ⟨by decide +kernel, rfl⟩
theorem dX1_takeOver_0 : zD cX1_takeOver 0 (.aload_n 1) 1 1 := ⟨by decide +kernel, rfl⟩
theorem dX1_takeOver_1 : zD cX1_takeOver 1 (.getfield 9) 3 4 := ⟨by decide +kernel, rfl⟩
theorem dX1_takeOver_4 : zD cX1_takeOver 4 (.iconst 0) 1 5 := ⟨by decide +kernel, rfl⟩
theorem dX1_takeOver_5 : zD cX1_takeOver 5 (.aload_n 0) 1 6 := ⟨by decide +kernel, rfl⟩
theorem dX1_takeOver_6 : zD cX1_takeOver 6 (.getfield 9) 3 9 := ⟨by decide +kernel, rfl⟩
theorem dX1_takeOver_9 : zD cX1_takeOver 9 (.iconst 0) 1 10 := ⟨by decide +kernel, rfl⟩
theorem dX1_takeOver_10 : zD cX1_takeOver 10 (.bipush 8) 2 12 := ⟨by decide +kernel, rfl⟩
theorem dX1_takeOver_12 : zD cX1_takeOver 12 (.invokestatic 45) 3 15 := ⟨by decide +kernel, rfl⟩
theorem dX1_takeOver_15 : zD cX1_takeOver 15 (.aload_n 1) 1 16 := ⟨by decide +kernel, rfl⟩
theorem dX1_takeOver_16 : zD cX1_takeOver 16 (.getfield 15) 3 19 := ⟨by decide +kernel, rfl⟩
theorem dX1_takeOver_19 : zD cX1_takeOver 19 (.iconst 0) 1 20 := ⟨by decide +kernel, rfl⟩
theorem dX1_takeOver_20 : zD cX1_takeOver 20 (.aload_n 0) 1 21 := ⟨by decide +kernel, rfl⟩
theorem dX1_takeOver_21 : zD cX1_takeOver 21 (.getfield 15) 3 24 := ⟨by decide +kernel, rfl⟩
theorem dX1_takeOver_24 : zD cX1_takeOver 24 (.iconst 0) 1 25 := ⟨by decide +kernel, rfl⟩
theorem dX1_takeOver_25 : zD cX1_takeOver 25 (.bipush 8) 2 27 := ⟨by decide +kernel, rfl⟩
theorem dX1_takeOver_27 : zD cX1_takeOver 27 (.invokestatic 45) 3 30 := ⟨by decide +kernel, rfl⟩
theorem dX1_takeOver_30 : zD cX1_takeOver 30 (.aload_n 0) 1 31 := ⟨by decide +kernel, rfl⟩
theorem dX1_takeOver_31 : zD cX1_takeOver 31 (.aload_n 1) 1 32 := ⟨by decide +kernel, rfl⟩
theorem dX1_takeOver_32 : zD cX1_takeOver 32 (.getfield 18) 3 35 := ⟨by decide +kernel, rfl⟩
theorem dX1_takeOver_35 : zD cX1_takeOver 35 (.putfield 18) 3 38 := ⟨by decide +kernel, rfl⟩
theorem dX1_takeOver_38 : zD cX1_takeOver 38 (.aload_n 0) 1 39 := ⟨by decide +kernel, rfl⟩
theorem dX1_takeOver_39 : zD cX1_takeOver 39 (.aload_n 1) 1 40 := ⟨by decide +kernel, rfl⟩
theorem dX1_takeOver_40 : zD cX1_takeOver 40 (.getfield 22) 3 43 := ⟨by decide +kernel, rfl⟩
theorem dX1_takeOver_43 : zD cX1_takeOver 43 (.putfield 22) 3 46 := ⟨by decide +kernel, rfl⟩
theorem dX1_takeOver_46 : zD cX1_takeOver 46 (.aload_n 0) 1 47 := ⟨by decide +kernel, rfl⟩
theorem dX1_takeOver_47 : zD cX1_takeOver 47 (.aload_n 1) 1 48 := ⟨by decide +kernel, rfl⟩
theorem dX1_takeOver_48 : zD cX1_takeOver 48 (.getfield 25) 3 51 := ⟨by decide +kernel, rfl⟩
theorem dX1_takeOver_51 : zD cX1_takeOver 51 (.putfield 25) 3 54 := ⟨by decide +kernel, rfl⟩
theorem dX1_takeOver_54 : zD cX1_takeOver 54 (.aload_n 0) 1 55 := ⟨by decide +kernel, rfl⟩
theorem dX1_takeOver_55 : zD cX1_takeOver 55 (.aload_n 1) 1 56 := ⟨by decide +kernel, rfl⟩
theorem dX1_takeOver_56 : zD cX1_takeOver 56 (.getfield 28) 3 59 := ⟨by decide +kernel, rfl⟩
theorem dX1_takeOver_59 : zD cX1_takeOver 59 (.putfield 28) 3 62 := ⟨by decide +kernel, rfl⟩
theorem dX1_takeOver_62 : zD cX1_takeOver 62 (.aload_n 0) 1 63 := ⟨by decide +kernel, rfl⟩
theorem dX1_takeOver_63 : zD cX1_takeOver 63 (.aload_n 1) 1 64 := ⟨by decide +kernel, rfl⟩
theorem dX1_takeOver_64 : zD cX1_takeOver 64 (.getfield 32) 3 67 := ⟨by decide +kernel, rfl⟩
theorem dX1_takeOver_67 : zD cX1_takeOver 67 (.putfield 32) 3 70 := ⟨by decide +kernel, rfl⟩
theorem dX1_takeOver_70 : zD cX1_takeOver 70 (.aload_n 0) 1 71 := ⟨by decide +kernel, rfl⟩
theorem dX1_takeOver_71 : zD cX1_takeOver 71 (.aload_n 1) 1 72 := ⟨by decide +kernel, rfl⟩
theorem dX1_takeOver_72 : zD cX1_takeOver 72 (.getfield 35) 3 75 := ⟨by decide +kernel, rfl⟩
theorem dX1_takeOver_75 : zD cX1_takeOver 75 (.putfield 35) 3 78 := ⟨by decide +kernel, rfl⟩
theorem dX1_takeOver_78 : zD cX1_takeOver 78 (.return_) 1 79 := ⟨by decide +kernel, rfl⟩
theorem dX3_takeOver_0 : zD cX3_takeOver 0 (.aload_n 0) 1 1 := ⟨by decide +kernel, rfl⟩
theorem dX3_takeOver_1 : zD cX3_takeOver 1 (.aload_n 1) 1 2 := ⟨by decide +kernel, rfl⟩
theorem dX3_takeOver_2 : zD cX3_takeOver 2 (.getfield 22) 3 5 := ⟨by decide +kernel, rfl⟩
theorem dX3_takeOver_5 : zD cX3_takeOver 5 (.putfield 22) 3 8 := ⟨by decide +kernel, rfl⟩
theorem dX3_takeOver_8 : zD cX3_takeOver 8 (.aload_n 0) 1 9 := ⟨by decide +kernel, rfl⟩
theorem dX3_takeOver_9 : zD cX3_takeOver 9 (.aload_n 1) 1 10 := ⟨by decide +kernel, rfl⟩
theorem dX3_takeOver_10 : zD cX3_takeOver 10 (.getfield 26) 3 13 := ⟨by decide +kernel, rfl⟩
theorem dX3_takeOver_13 : zD cX3_takeOver 13 (.putfield 26) 3 16 := ⟨by decide +kernel, rfl⟩
theorem dX3_takeOver_16 : zD cX3_takeOver 16 (.aload_n 0) 1 17 := ⟨by decide +kernel, rfl⟩
theorem dX3_takeOver_17 : zD cX3_takeOver 17 (.aload_n 1) 1 18 := ⟨by decide +kernel, rfl⟩
theorem dX3_takeOver_18 : zD cX3_takeOver 18 (.getfield 29) 3 21 := ⟨by decide +kernel, rfl⟩
theorem dX3_takeOver_21 : zD cX3_takeOver 21 (.putfield 29) 3 24 := ⟨by decide +kernel, rfl⟩
theorem dX3_takeOver_24 : zD cX3_takeOver 24 (.aload_n 0) 1 25 := ⟨by decide +kernel, rfl⟩
theorem dX3_takeOver_25 : zD cX3_takeOver 25 (.aload_n 1) 1 26 := ⟨by decide +kernel, rfl⟩
theorem dX3_takeOver_26 : zD cX3_takeOver 26 (.getfield 37) 3 29 := ⟨by decide +kernel, rfl⟩
theorem dX3_takeOver_29 : zD cX3_takeOver 29 (.putfield 37) 3 32 := ⟨by decide +kernel, rfl⟩
theorem dX3_takeOver_32 : zD cX3_takeOver 32 (.aload_n 1) 1 33 := ⟨by decide +kernel, rfl⟩
theorem dX3_takeOver_33 : zD cX3_takeOver 33 (.getfield 17) 3 36 := ⟨by decide +kernel, rfl⟩
theorem dX3_takeOver_36 : zD cX3_takeOver 36 (.iconst 0) 1 37 := ⟨by decide +kernel, rfl⟩
theorem dX3_takeOver_37 : zD cX3_takeOver 37 (.aload_n 0) 1 38 := ⟨by decide +kernel, rfl⟩
theorem dX3_takeOver_38 : zD cX3_takeOver 38 (.getfield 17) 3 41 := ⟨by decide +kernel, rfl⟩
theorem dX3_takeOver_41 : zD cX3_takeOver 41 (.iconst 0) 1 42 := ⟨by decide +kernel, rfl⟩
theorem dX3_takeOver_42 : zD cX3_takeOver 42 (.bipush 20) 2 44 := ⟨by decide +kernel, rfl⟩
theorem dX3_takeOver_44 : zD cX3_takeOver 44 (.invokestatic 41) 3 47 := ⟨by decide +kernel, rfl⟩
theorem dX3_takeOver_47 : zD cX3_takeOver 47 (.iconst 0) 1 48 := ⟨by decide +kernel, rfl⟩
theorem dX3_takeOver_48 : zD cX3_takeOver 48 (.istore_n 2) 1 49 := ⟨by decide +kernel, rfl⟩
theorem dX3_takeOver_49 : zD cX3_takeOver 49 (.iload_n 2) 1 50 := ⟨by decide +kernel, rfl⟩
theorem dX3_takeOver_50 : zD cX3_takeOver 50 (.aload_n 0) 1 51 := ⟨by decide +kernel, rfl⟩
theorem dX3_takeOver_51 : zD cX3_takeOver 51 (.getfield 22) 3 54 := ⟨by decide +kernel, rfl⟩
theorem dX3_takeOver_54 : zD cX3_takeOver 54 (.if_icmp .ge 24) 3 57 := ⟨by decide +kernel, rfl⟩
theorem dX3_takeOver_57 : zD cX3_takeOver 57 (.aload_n 0) 1 58 := ⟨by decide +kernel, rfl⟩
theorem dX3_takeOver_58 : zD cX3_takeOver 58 (.getfield 11) 3 61 := ⟨by decide +kernel, rfl⟩
theorem dX3_takeOver_61 : zD cX3_takeOver 61 (.iload_n 2) 1 62 := ⟨by decide +kernel, rfl⟩
theorem dX3_takeOver_62 : zD cX3_takeOver 62 (.aaload) 1 63 := ⟨by decide +kernel, rfl⟩
theorem dX3_takeOver_63 : zD cX3_takeOver 63 (.aload_n 1) 1 64 := ⟨by decide +kernel, rfl⟩
theorem dX3_takeOver_64 : zD cX3_takeOver 64 (.getfield 11) 3 67 := ⟨by decide +kernel, rfl⟩
theorem dX3_takeOver_67 : zD cX3_takeOver 67 (.iload_n 2) 1 68 := ⟨by decide +kernel, rfl⟩
theorem dX3_takeOver_68 : zD cX3_takeOver 68 (.aaload) 1 69 := ⟨by decide +kernel, rfl⟩
theorem dX3_takeOver_69 : zD cX3_takeOver 69 (.invokevirtual 47) 3 72 := ⟨by decide +kernel, rfl⟩
theorem dX3_takeOver_72 : zD cX3_takeOver 72 (.iinc 2 1) 3 75 := ⟨by decide +kernel, rfl⟩
theorem dX3_takeOver_75 : zD cX3_takeOver 75 (.goto (-26)) 3 78 := ⟨by decide +kernel, rfl⟩
theorem dX3_takeOver_78 : zD cX3_takeOver 78 (.return_) 1 79 := ⟨by decide +kernel, rfl⟩
theorem dX6_rememberNow_0 : zD cX6_rememberNow 0 (.aload_n 0) 1 1 := ⟨by decide +kernel, rfl⟩
theorem dX6_rememberNow_1 : zD cX6_rememberNow 1 (.getfield 266) 3 4 := ⟨by decide +kernel, rfl⟩
theorem dX6_rememberNow_4 : zD cX6_rememberNow 4 (.aload_n 0) 1 5 := ⟨by decide +kernel, rfl⟩
theorem dX6_rememberNow_5 : zD cX6_rememberNow 5 (.getfield 43) 3 8 := ⟨by decide +kernel, rfl⟩
theorem dX6_rememberNow_8 : zD cX6_rememberNow 8 (.arraylength) 1 9 := ⟨by decide +kernel, rfl⟩
theorem dX6_rememberNow_9 : zD cX6_rememberNow 9 (.if_icmp .lt 7) 3 12 := ⟨by decide +kernel, rfl⟩
theorem dX6_rememberNow_12 : zD cX6_rememberNow 12 (.aload_n 0) 1 13 := ⟨by decide +kernel, rfl⟩
theorem dX6_rememberNow_13 : zD cX6_rememberNow 13 (.invokevirtual 377) 3 16 := ⟨by decide +kernel, rfl⟩
theorem dX6_rememberNow_16 : zD cX6_rememberNow 16 (.aload_n 0) 1 17 := ⟨by decide +kernel, rfl⟩
theorem dX6_rememberNow_17 : zD cX6_rememberNow 17 (.getfield 43) 3 20 := ⟨by decide +kernel, rfl⟩
theorem dX6_rememberNow_20 : zD cX6_rememberNow 20 (.aload_n 0) 1 21 := ⟨by decide +kernel, rfl⟩
theorem dX6_rememberNow_21 : zD cX6_rememberNow 21 (.getfield 266) 3 24 := ⟨by decide +kernel, rfl⟩
theorem dX6_rememberNow_24 : zD cX6_rememberNow 24 (.aaload) 1 25 := ⟨by decide +kernel, rfl⟩
theorem dX6_rememberNow_25 : zD cX6_rememberNow 25 (.aload_n 0) 1 26 := ⟨by decide +kernel, rfl⟩
theorem dX6_rememberNow_26 : zD cX6_rememberNow 26 (.getfield 36) 3 29 := ⟨by decide +kernel, rfl⟩
theorem dX6_rememberNow_29 : zD cX6_rememberNow 29 (.invokevirtual 271) 3 32 := ⟨by decide +kernel, rfl⟩
theorem dX6_rememberNow_32 : zD cX6_rememberNow 32 (.aload_n 0) 1 33 := ⟨by decide +kernel, rfl⟩
theorem dX6_rememberNow_33 : zD cX6_rememberNow 33 (.dup) 1 34 := ⟨by decide +kernel, rfl⟩
theorem dX6_rememberNow_34 : zD cX6_rememberNow 34 (.getfield 266) 3 37 := ⟨by decide +kernel, rfl⟩
theorem dX6_rememberNow_37 : zD cX6_rememberNow 37 (.iconst 1) 1 38 := ⟨by decide +kernel, rfl⟩
theorem dX6_rememberNow_38 : zD cX6_rememberNow 38 (.iadd) 1 39 := ⟨by decide +kernel, rfl⟩
theorem dX6_rememberNow_39 : zD cX6_rememberNow 39 (.putfield 266) 3 42 := ⟨by decide +kernel, rfl⟩
theorem dX6_rememberNow_42 : zD cX6_rememberNow 42 (.return_) 1 43 := ⟨by decide +kernel, rfl⟩
theorem dX3_heaviest_0 : zD cX3_heaviest 0 (.iconst (-1)) 1 1 := ⟨by decide +kernel, rfl⟩
theorem dX3_heaviest_1 : zD cX3_heaviest 1 (.istore_n 2) 1 2 := ⟨by decide +kernel, rfl⟩
theorem dX3_heaviest_2 : zD cX3_heaviest 2 (.iconst 0) 1 3 := ⟨by decide +kernel, rfl⟩
theorem dX3_heaviest_3 : zD cX3_heaviest 3 (.istore_n 3) 1 4 := ⟨by decide +kernel, rfl⟩
theorem dX3_heaviest_4 : zD cX3_heaviest 4 (.iconst 0) 1 5 := ⟨by decide +kernel, rfl⟩
theorem dX3_heaviest_5 : zD cX3_heaviest 5 (.istore 4) 2 7 := ⟨by decide +kernel, rfl⟩
theorem dX3_heaviest_7 : zD cX3_heaviest 7 (.iload 4) 2 9 := ⟨by decide +kernel, rfl⟩
theorem dX3_heaviest_9 : zD cX3_heaviest 9 (.aload_n 0) 1 10 := ⟨by decide +kernel, rfl⟩
theorem dX3_heaviest_10 : zD cX3_heaviest 10 (.getfield 22) 3 13 := ⟨by decide +kernel, rfl⟩
theorem dX3_heaviest_13 : zD cX3_heaviest 13 (.if_icmp .ge 56) 3 16 := ⟨by decide +kernel, rfl⟩
theorem dX3_heaviest_16 : zD cX3_heaviest 16 (.aload_n 0) 1 17 := ⟨by decide +kernel, rfl⟩
theorem dX3_heaviest_17 : zD cX3_heaviest 17 (.getfield 11) 3 20 := ⟨by decide +kernel, rfl⟩
theorem dX3_heaviest_20 : zD cX3_heaviest 20 (.iload 4) 2 22 := ⟨by decide +kernel, rfl⟩
theorem dX3_heaviest_22 : zD cX3_heaviest 22 (.aaload) 1 23 := ⟨by decide +kernel, rfl⟩
theorem dX3_heaviest_23 : zD cX3_heaviest 23 (.aload_n 0) 1 24 := ⟨by decide +kernel, rfl⟩
theorem dX3_heaviest_24 : zD cX3_heaviest 24 (.getfield 26) 3 27 := ⟨by decide +kernel, rfl⟩
theorem dX3_heaviest_27 : zD cX3_heaviest 27 (.invokevirtual 138) 3 30 := ⟨by decide +kernel, rfl⟩
theorem dX3_heaviest_30 : zD cX3_heaviest 30 (.istore 5) 2 32 := ⟨by decide +kernel, rfl⟩
theorem dX3_heaviest_32 : zD cX3_heaviest 32 (.iload 4) 2 34 := ⟨by decide +kernel, rfl⟩
theorem dX3_heaviest_34 : zD cX3_heaviest 34 (.iload_n 1) 1 35 := ⟨by decide +kernel, rfl⟩
theorem dX3_heaviest_35 : zD cX3_heaviest 35 (.if_icmp .eq 28) 3 38 := ⟨by decide +kernel, rfl⟩
theorem dX3_heaviest_38 : zD cX3_heaviest 38 (.aload_n 0) 1 39 := ⟨by decide +kernel, rfl⟩
theorem dX3_heaviest_39 : zD cX3_heaviest 39 (.getfield 11) 3 42 := ⟨by decide +kernel, rfl⟩
theorem dX3_heaviest_42 : zD cX3_heaviest 42 (.iload 4) 2 44 := ⟨by decide +kernel, rfl⟩
theorem dX3_heaviest_44 : zD cX3_heaviest 44 (.aaload) 1 45 := ⟨by decide +kernel, rfl⟩
theorem dX3_heaviest_45 : zD cX3_heaviest 45 (.getfield 54) 3 48 := ⟨by decide +kernel, rfl⟩
theorem dX3_heaviest_48 : zD cX3_heaviest 48 (.ifCond .ne 15) 3 51 := ⟨by decide +kernel, rfl⟩
theorem dX3_heaviest_51 : zD cX3_heaviest 51 (.iload 5) 2 53 := ⟨by decide +kernel, rfl⟩
theorem dX3_heaviest_53 : zD cX3_heaviest 53 (.iload_n 3) 1 54 := ⟨by decide +kernel, rfl⟩
theorem dX3_heaviest_54 : zD cX3_heaviest 54 (.if_icmp .lt 9) 3 57 := ⟨by decide +kernel, rfl⟩
theorem dX3_heaviest_57 : zD cX3_heaviest 57 (.iload 4) 2 59 := ⟨by decide +kernel, rfl⟩
theorem dX3_heaviest_59 : zD cX3_heaviest 59 (.istore_n 2) 1 60 := ⟨by decide +kernel, rfl⟩
theorem dX3_heaviest_60 : zD cX3_heaviest 60 (.iload 5) 2 62 := ⟨by decide +kernel, rfl⟩
theorem dX3_heaviest_62 : zD cX3_heaviest 62 (.istore_n 3) 1 63 := ⟨by decide +kernel, rfl⟩
theorem dX3_heaviest_63 : zD cX3_heaviest 63 (.iinc 4 1) 3 66 := ⟨by decide +kernel, rfl⟩
theorem dX3_heaviest_66 : zD cX3_heaviest 66 (.goto (-59)) 3 69 := ⟨by decide +kernel, rfl⟩
theorem dX3_heaviest_69 : zD cX3_heaviest 69 (.iload_n 2) 1 70 := ⟨by decide +kernel, rfl⟩
theorem dX3_heaviest_70 : zD cX3_heaviest 70 (.ireturn) 1 71 := ⟨by decide +kernel, rfl⟩
theorem dX3_dropEntry_0 : zD cX3_dropEntry 0 (.aload_n 0) 1 1 := ⟨by decide +kernel, rfl⟩
theorem dX3_dropEntry_1 : zD cX3_dropEntry 1 (.iload_n 1) 1 2 := ⟨by decide +kernel, rfl⟩
theorem dX3_dropEntry_2 : zD cX3_dropEntry 2 (.invokevirtual 58) 3 5 := ⟨by decide +kernel, rfl⟩
theorem dX3_dropEntry_5 : zD cX3_dropEntry 5 (.ifCond .ne 4) 3 8 := ⟨by decide +kernel, rfl⟩
theorem dX3_dropEntry_8 : zD cX3_dropEntry 8 (.return_) 1 9 := ⟨by decide +kernel, rfl⟩
theorem dX3_dropEntry_9 : zD cX3_dropEntry 9 (.aload_n 0) 1 10 := ⟨by decide +kernel, rfl⟩
theorem dX3_dropEntry_10 : zD cX3_dropEntry 10 (.getfield 11) 3 13 := ⟨by decide +kernel, rfl⟩
theorem dX3_dropEntry_13 : zD cX3_dropEntry 13 (.iload_n 1) 1 14 := ⟨by decide +kernel, rfl⟩
theorem dX3_dropEntry_14 : zD cX3_dropEntry 14 (.aaload) 1 15 := ⟨by decide +kernel, rfl⟩
theorem dX3_dropEntry_15 : zD cX3_dropEntry 15 (.astore_n 2) 1 16 := ⟨by decide +kernel, rfl⟩
theorem dX3_dropEntry_16 : zD cX3_dropEntry 16 (.iload_n 1) 1 17 := ⟨by decide +kernel, rfl⟩
theorem dX3_dropEntry_17 : zD cX3_dropEntry 17 (.iconst 1) 1 18 := ⟨by decide +kernel, rfl⟩
theorem dX3_dropEntry_18 : zD cX3_dropEntry 18 (.iadd) 1 19 := ⟨by decide +kernel, rfl⟩
theorem dX3_dropEntry_19 : zD cX3_dropEntry 19 (.istore_n 3) 1 20 := ⟨by decide +kernel, rfl⟩
theorem dX3_dropEntry_20 : zD cX3_dropEntry 20 (.iload_n 3) 1 21 := ⟨by decide +kernel, rfl⟩
theorem dX3_dropEntry_21 : zD cX3_dropEntry 21 (.aload_n 0) 1 22 := ⟨by decide +kernel, rfl⟩
theorem dX3_dropEntry_22 : zD cX3_dropEntry 22 (.getfield 22) 3 25 := ⟨by decide +kernel, rfl⟩
theorem dX3_dropEntry_25 : zD cX3_dropEntry 25 (.if_icmp .ge 23) 3 28 := ⟨by decide +kernel, rfl⟩
theorem dX3_dropEntry_28 : zD cX3_dropEntry 28 (.aload_n 0) 1 29 := ⟨by decide +kernel, rfl⟩
theorem dX3_dropEntry_29 : zD cX3_dropEntry 29 (.getfield 11) 3 32 := ⟨by decide +kernel, rfl⟩
theorem dX3_dropEntry_32 : zD cX3_dropEntry 32 (.iload_n 3) 1 33 := ⟨by decide +kernel, rfl⟩
theorem dX3_dropEntry_33 : zD cX3_dropEntry 33 (.iconst 1) 1 34 := ⟨by decide +kernel, rfl⟩
theorem dX3_dropEntry_34 : zD cX3_dropEntry 34 (.isub) 1 35 := ⟨by decide +kernel, rfl⟩
theorem dX3_dropEntry_35 : zD cX3_dropEntry 35 (.aload_n 0) 1 36 := ⟨by decide +kernel, rfl⟩
theorem dX3_dropEntry_36 : zD cX3_dropEntry 36 (.getfield 11) 3 39 := ⟨by decide +kernel, rfl⟩
theorem dX3_dropEntry_39 : zD cX3_dropEntry 39 (.iload_n 3) 1 40 := ⟨by decide +kernel, rfl⟩
theorem dX3_dropEntry_40 : zD cX3_dropEntry 40 (.aaload) 1 41 := ⟨by decide +kernel, rfl⟩
theorem dX3_dropEntry_41 : zD cX3_dropEntry 41 (.aastore) 1 42 := ⟨by decide +kernel, rfl⟩
theorem dX3_dropEntry_42 : zD cX3_dropEntry 42 (.iinc 3 1) 3 45 := ⟨by decide +kernel, rfl⟩
theorem dX3_dropEntry_45 : zD cX3_dropEntry 45 (.goto (-25)) 3 48 := ⟨by decide +kernel, rfl⟩
theorem dX3_dropEntry_48 : zD cX3_dropEntry 48 (.aload_n 0) 1 49 := ⟨by decide +kernel, rfl⟩
theorem dX3_dropEntry_49 : zD cX3_dropEntry 49 (.getfield 11) 3 52 := ⟨by decide +kernel, rfl⟩
theorem dX3_dropEntry_52 : zD cX3_dropEntry 52 (.aload_n 0) 1 53 := ⟨by decide +kernel, rfl⟩
theorem dX3_dropEntry_53 : zD cX3_dropEntry 53 (.getfield 22) 3 56 := ⟨by decide +kernel, rfl⟩
theorem dX3_dropEntry_56 : zD cX3_dropEntry 56 (.iconst 1) 1 57 := ⟨by decide +kernel, rfl⟩
theorem dX3_dropEntry_57 : zD cX3_dropEntry 57 (.isub) 1 58 := ⟨by decide +kernel, rfl⟩
theorem dX3_dropEntry_58 : zD cX3_dropEntry 58 (.aload_n 2) 1 59 := ⟨by decide +kernel, rfl⟩
theorem dX3_dropEntry_59 : zD cX3_dropEntry 59 (.aastore) 1 60 := ⟨by decide +kernel, rfl⟩
theorem dX3_dropEntry_60 : zD cX3_dropEntry 60 (.aload_n 0) 1 61 := ⟨by decide +kernel, rfl⟩
theorem dX3_dropEntry_61 : zD cX3_dropEntry 61 (.dup) 1 62 := ⟨by decide +kernel, rfl⟩
theorem dX3_dropEntry_62 : zD cX3_dropEntry 62 (.getfield 22) 3 65 := ⟨by decide +kernel, rfl⟩
theorem dX3_dropEntry_65 : zD cX3_dropEntry 65 (.iconst 1) 1 66 := ⟨by decide +kernel, rfl⟩
theorem dX3_dropEntry_66 : zD cX3_dropEntry 66 (.isub) 1 67 := ⟨by decide +kernel, rfl⟩
theorem dX3_dropEntry_67 : zD cX3_dropEntry 67 (.putfield 22) 3 70 := ⟨by decide +kernel, rfl⟩
theorem dX3_dropEntry_70 : zD cX3_dropEntry 70 (.return_) 1 71 := ⟨by decide +kernel, rfl⟩
theorem dX1_largestDerived_0 : zD cX1_largestDerived 0 (.iconst (-1)) 1 1 := ⟨by decide +kernel, rfl⟩
theorem dX1_largestDerived_1 : zD cX1_largestDerived 1 (.istore_n 1) 1 2 := ⟨by decide +kernel, rfl⟩
theorem dX1_largestDerived_2 : zD cX1_largestDerived 2 (.iconst 0) 1 3 := ⟨by decide +kernel, rfl⟩
theorem dX1_largestDerived_3 : zD cX1_largestDerived 3 (.istore_n 2) 1 4 := ⟨by decide +kernel, rfl⟩
theorem dX1_largestDerived_4 : zD cX1_largestDerived 4 (.iload_n 2) 1 5 := ⟨by decide +kernel, rfl⟩
theorem dX1_largestDerived_5 : zD cX1_largestDerived 5 (.bipush 8) 2 7 := ⟨by decide +kernel, rfl⟩
theorem dX1_largestDerived_7 : zD cX1_largestDerived 7 (.if_icmp .ge 39) 3 10 := ⟨by decide +kernel, rfl⟩
theorem dX1_largestDerived_10 : zD cX1_largestDerived 10 (.aload_n 0) 1 11 := ⟨by decide +kernel, rfl⟩
theorem dX1_largestDerived_11 : zD cX1_largestDerived 11 (.iload_n 2) 1 12 := ⟨by decide +kernel, rfl⟩
theorem dX1_largestDerived_12 : zD cX1_largestDerived 12 (.invokevirtual 55) 3 15 := ⟨by decide +kernel, rfl⟩
theorem dX1_largestDerived_15 : zD cX1_largestDerived 15 (.ifCond .eq 25) 3 18 := ⟨by decide +kernel, rfl⟩
theorem dX1_largestDerived_18 : zD cX1_largestDerived 18 (.iload_n 1) 1 19 := ⟨by decide +kernel, rfl⟩
theorem dX1_largestDerived_19 : zD cX1_largestDerived 19 (.iconst (-1)) 1 20 := ⟨by decide +kernel, rfl⟩
theorem dX1_largestDerived_20 : zD cX1_largestDerived 20 (.if_icmp .eq 18) 3 23 := ⟨by decide +kernel, rfl⟩
theorem dX1_largestDerived_23 : zD cX1_largestDerived 23 (.aload_n 0) 1 24 := ⟨by decide +kernel, rfl⟩
theorem dX1_largestDerived_24 : zD cX1_largestDerived 24 (.getfield 9) 3 27 := ⟨by decide +kernel, rfl⟩
theorem dX1_largestDerived_27 : zD cX1_largestDerived 27 (.iload_n 2) 1 28 := ⟨by decide +kernel, rfl⟩
theorem dX1_largestDerived_28 : zD cX1_largestDerived 28 (.iaload) 1 29 := ⟨by decide +kernel, rfl⟩
theorem dX1_largestDerived_29 : zD cX1_largestDerived 29 (.aload_n 0) 1 30 := ⟨by decide +kernel, rfl⟩
theorem dX1_largestDerived_30 : zD cX1_largestDerived 30 (.getfield 9) 3 33 := ⟨by decide +kernel, rfl⟩
theorem dX1_largestDerived_33 : zD cX1_largestDerived 33 (.iload_n 1) 1 34 := ⟨by decide +kernel, rfl⟩
theorem dX1_largestDerived_34 : zD cX1_largestDerived 34 (.iaload) 1 35 := ⟨by decide +kernel, rfl⟩
theorem dX1_largestDerived_35 : zD cX1_largestDerived 35 (.if_icmp .le 5) 3 38 := ⟨by decide +kernel, rfl⟩
theorem dX1_largestDerived_38 : zD cX1_largestDerived 38 (.iload_n 2) 1 39 := ⟨by decide +kernel, rfl⟩
theorem dX1_largestDerived_39 : zD cX1_largestDerived 39 (.istore_n 1) 1 40 := ⟨by decide +kernel, rfl⟩
theorem dX1_largestDerived_40 : zD cX1_largestDerived 40 (.iinc 2 1) 3 43 := ⟨by decide +kernel, rfl⟩
theorem dX1_largestDerived_43 : zD cX1_largestDerived 43 (.goto (-39)) 3 46 := ⟨by decide +kernel, rfl⟩
theorem dX1_largestDerived_46 : zD cX1_largestDerived 46 (.iload_n 1) 1 47 := ⟨by decide +kernel, rfl⟩
theorem dX1_largestDerived_47 : zD cX1_largestDerived 47 (.ireturn) 1 48 := ⟨by decide +kernel, rfl⟩
theorem dX1_dropForm_0 : zD cX1_dropForm 0 (.aload_n 0) 1 1 := ⟨by decide +kernel, rfl⟩
theorem dX1_dropForm_1 : zD cX1_dropForm 1 (.iload_n 1) 1 2 := ⟨by decide +kernel, rfl⟩
theorem dX1_dropForm_2 : zD cX1_dropForm 2 (.invokevirtual 51) 3 5 := ⟨by decide +kernel, rfl⟩
theorem dX1_dropForm_5 : zD cX1_dropForm 5 (.ifCond .ne 4) 3 8 := ⟨by decide +kernel, rfl⟩
theorem dX1_dropForm_8 : zD cX1_dropForm 8 (.return_) 1 9 := ⟨by decide +kernel, rfl⟩
theorem dX1_dropForm_9 : zD cX1_dropForm 9 (.aload_n 0) 1 10 := ⟨by decide +kernel, rfl⟩
theorem dX1_dropForm_10 : zD cX1_dropForm 10 (.dup) 1 11 := ⟨by decide +kernel, rfl⟩
theorem dX1_dropForm_11 : zD cX1_dropForm 11 (.getfield 25) 3 14 := ⟨by decide +kernel, rfl⟩
theorem dX1_dropForm_14 : zD cX1_dropForm 14 (.aload_n 0) 1 15 := ⟨by decide +kernel, rfl⟩
theorem dX1_dropForm_15 : zD cX1_dropForm 15 (.getfield 9) 3 18 := ⟨by decide +kernel, rfl⟩
theorem dX1_dropForm_18 : zD cX1_dropForm 18 (.iload_n 1) 1 19 := ⟨by decide +kernel, rfl⟩
theorem dX1_dropForm_19 : zD cX1_dropForm 19 (.iaload) 1 20 := ⟨by decide +kernel, rfl⟩
theorem dX1_dropForm_20 : zD cX1_dropForm 20 (.isub) 1 21 := ⟨by decide +kernel, rfl⟩
theorem dX1_dropForm_21 : zD cX1_dropForm 21 (.putfield 25) 3 24 := ⟨by decide +kernel, rfl⟩
theorem dX1_dropForm_24 : zD cX1_dropForm 24 (.aload_n 0) 1 25 := ⟨by decide +kernel, rfl⟩
theorem dX1_dropForm_25 : zD cX1_dropForm 25 (.dup) 1 26 := ⟨by decide +kernel, rfl⟩
theorem dX1_dropForm_26 : zD cX1_dropForm 26 (.getfield 18) 3 29 := ⟨by decide +kernel, rfl⟩
theorem dX1_dropForm_29 : zD cX1_dropForm 29 (.iconst 1) 1 30 := ⟨by decide +kernel, rfl⟩
theorem dX1_dropForm_30 : zD cX1_dropForm 30 (.iload_n 1) 1 31 := ⟨by decide +kernel, rfl⟩
theorem dX1_dropForm_31 : zD cX1_dropForm 31 (.ishl) 1 32 := ⟨by decide +kernel, rfl⟩
theorem dX1_dropForm_32 : zD cX1_dropForm 32 (.iconst (-1)) 1 33 := ⟨by decide +kernel, rfl⟩
theorem dX1_dropForm_33 : zD cX1_dropForm 33 (.ixor) 1 34 := ⟨by decide +kernel, rfl⟩
theorem dX1_dropForm_34 : zD cX1_dropForm 34 (.iand) 1 35 := ⟨by decide +kernel, rfl⟩
theorem dX1_dropForm_35 : zD cX1_dropForm 35 (.putfield 18) 3 38 := ⟨by decide +kernel, rfl⟩
theorem dX1_dropForm_38 : zD cX1_dropForm 38 (.aload_n 0) 1 39 := ⟨by decide +kernel, rfl⟩
theorem dX1_dropForm_39 : zD cX1_dropForm 39 (.dup) 1 40 := ⟨by decide +kernel, rfl⟩
theorem dX1_dropForm_40 : zD cX1_dropForm 40 (.getfield 22) 3 43 := ⟨by decide +kernel, rfl⟩
theorem dX1_dropForm_43 : zD cX1_dropForm 43 (.iconst 1) 1 44 := ⟨by decide +kernel, rfl⟩
theorem dX1_dropForm_44 : zD cX1_dropForm 44 (.iload_n 1) 1 45 := ⟨by decide +kernel, rfl⟩
theorem dX1_dropForm_45 : zD cX1_dropForm 45 (.ishl) 1 46 := ⟨by decide +kernel, rfl⟩
theorem dX1_dropForm_46 : zD cX1_dropForm 46 (.iconst (-1)) 1 47 := ⟨by decide +kernel, rfl⟩
theorem dX1_dropForm_47 : zD cX1_dropForm 47 (.ixor) 1 48 := ⟨by decide +kernel, rfl⟩
theorem dX1_dropForm_48 : zD cX1_dropForm 48 (.iand) 1 49 := ⟨by decide +kernel, rfl⟩
theorem dX1_dropForm_49 : zD cX1_dropForm 49 (.putfield 22) 3 52 := ⟨by decide +kernel, rfl⟩
theorem dX1_dropForm_52 : zD cX1_dropForm 52 (.return_) 1 53 := ⟨by decide +kernel, rfl⟩
theorem dX3_dropLargestDerived_0 : zD cX3_dropLargestDerived 0 (.iconst (-1)) 1 1 := ⟨by decide +kernel, rfl⟩
theorem dX3_dropLargestDerived_1 : zD cX3_dropLargestDerived 1 (.istore_n 2) 1 2 := ⟨by decide +kernel, rfl⟩
theorem dX3_dropLargestDerived_2 : zD cX3_dropLargestDerived 2 (.iconst 0) 1 3 := ⟨by decide +kernel, rfl⟩
theorem dX3_dropLargestDerived_3 : zD cX3_dropLargestDerived 3 (.istore_n 3) 1 4 := ⟨by decide +kernel, rfl⟩
theorem dX3_dropLargestDerived_4 : zD cX3_dropLargestDerived 4 (.iconst 0) 1 5 := ⟨by decide +kernel, rfl⟩
theorem dX3_dropLargestDerived_5 : zD cX3_dropLargestDerived 5 (.istore 4) 2 7 := ⟨by decide +kernel, rfl⟩
theorem dX3_dropLargestDerived_7 : zD cX3_dropLargestDerived 7 (.iload 4) 2 9 := ⟨by decide +kernel, rfl⟩
theorem dX3_dropLargestDerived_9 : zD cX3_dropLargestDerived 9 (.aload_n 0) 1 10 := ⟨by decide +kernel, rfl⟩
theorem dX3_dropLargestDerived_10 : zD cX3_dropLargestDerived 10 (.getfield 22) 3 13 := ⟨by decide +kernel, rfl⟩
theorem dX3_dropLargestDerived_13 : zD cX3_dropLargestDerived 13 (.if_icmp .ge 67) 3 16 := ⟨by decide +kernel, rfl⟩
theorem dX3_dropLargestDerived_16 : zD cX3_dropLargestDerived 16 (.aload_n 0) 1 17 := ⟨by decide +kernel, rfl⟩
theorem dX3_dropLargestDerived_17 : zD cX3_dropLargestDerived 17 (.getfield 11) 3 20 := ⟨by decide +kernel, rfl⟩
theorem dX3_dropLargestDerived_20 : zD cX3_dropLargestDerived 20 (.iload 4) 2 22 := ⟨by decide +kernel, rfl⟩
theorem dX3_dropLargestDerived_22 : zD cX3_dropLargestDerived 22 (.aaload) 1 23 := ⟨by decide +kernel, rfl⟩
theorem dX3_dropLargestDerived_23 : zD cX3_dropLargestDerived 23 (.invokevirtual 135) 3 26 := ⟨by decide +kernel, rfl⟩
theorem dX3_dropLargestDerived_26 : zD cX3_dropLargestDerived 26 (.istore 5) 2 28 := ⟨by decide +kernel, rfl⟩
theorem dX3_dropLargestDerived_28 : zD cX3_dropLargestDerived 28 (.iload 4) 2 30 := ⟨by decide +kernel, rfl⟩
theorem dX3_dropLargestDerived_30 : zD cX3_dropLargestDerived 30 (.iload_n 1) 1 31 := ⟨by decide +kernel, rfl⟩
theorem dX3_dropLargestDerived_31 : zD cX3_dropLargestDerived 31 (.if_icmp .eq 43) 3 34 := ⟨by decide +kernel, rfl⟩
theorem dX3_dropLargestDerived_34 : zD cX3_dropLargestDerived 34 (.iload 5) 2 36 := ⟨by decide +kernel, rfl⟩
theorem dX3_dropLargestDerived_36 : zD cX3_dropLargestDerived 36 (.iconst (-1)) 1 37 := ⟨by decide +kernel, rfl⟩
theorem dX3_dropLargestDerived_37 : zD cX3_dropLargestDerived 37 (.if_icmp .eq 37) 3 40 := ⟨by decide +kernel, rfl⟩
theorem dX3_dropLargestDerived_40 : zD cX3_dropLargestDerived 40 (.aload_n 0) 1 41 := ⟨by decide +kernel, rfl⟩
theorem dX3_dropLargestDerived_41 : zD cX3_dropLargestDerived 41 (.getfield 11) 3 44 := ⟨by decide +kernel, rfl⟩
theorem dX3_dropLargestDerived_44 : zD cX3_dropLargestDerived 44 (.iload 4) 2 46 := ⟨by decide +kernel, rfl⟩
theorem dX3_dropLargestDerived_46 : zD cX3_dropLargestDerived 46 (.aaload) 1 47 := ⟨by decide +kernel, rfl⟩
theorem dX3_dropLargestDerived_47 : zD cX3_dropLargestDerived 47 (.getfield 102) 3 50 := ⟨by decide +kernel, rfl⟩
theorem dX3_dropLargestDerived_50 : zD cX3_dropLargestDerived 50 (.iload 5) 2 52 := ⟨by decide +kernel, rfl⟩
theorem dX3_dropLargestDerived_52 : zD cX3_dropLargestDerived 52 (.iaload) 1 53 := ⟨by decide +kernel, rfl⟩
theorem dX3_dropLargestDerived_53 : zD cX3_dropLargestDerived 53 (.iload_n 3) 1 54 := ⟨by decide +kernel, rfl⟩
theorem dX3_dropLargestDerived_54 : zD cX3_dropLargestDerived 54 (.if_icmp .lt 20) 3 57 := ⟨by decide +kernel, rfl⟩
theorem dX3_dropLargestDerived_57 : zD cX3_dropLargestDerived 57 (.iload 4) 2 59 := ⟨by decide +kernel, rfl⟩
theorem dX3_dropLargestDerived_59 : zD cX3_dropLargestDerived 59 (.istore_n 2) 1 60 := ⟨by decide +kernel, rfl⟩
theorem dX3_dropLargestDerived_60 : zD cX3_dropLargestDerived 60 (.aload_n 0) 1 61 := ⟨by decide +kernel, rfl⟩
theorem dX3_dropLargestDerived_61 : zD cX3_dropLargestDerived 61 (.getfield 11) 3 64 := ⟨by decide +kernel, rfl⟩
theorem dX3_dropLargestDerived_64 : zD cX3_dropLargestDerived 64 (.iload 4) 2 66 := ⟨by decide +kernel, rfl⟩
theorem dX3_dropLargestDerived_66 : zD cX3_dropLargestDerived 66 (.aaload) 1 67 := ⟨by decide +kernel, rfl⟩
theorem dX3_dropLargestDerived_67 : zD cX3_dropLargestDerived 67 (.getfield 102) 3 70 := ⟨by decide +kernel, rfl⟩
theorem dX3_dropLargestDerived_70 : zD cX3_dropLargestDerived 70 (.iload 5) 2 72 := ⟨by decide +kernel, rfl⟩
theorem dX3_dropLargestDerived_72 : zD cX3_dropLargestDerived 72 (.iaload) 1 73 := ⟨by decide +kernel, rfl⟩
theorem dX3_dropLargestDerived_73 : zD cX3_dropLargestDerived 73 (.istore_n 3) 1 74 := ⟨by decide +kernel, rfl⟩
theorem dX3_dropLargestDerived_74 : zD cX3_dropLargestDerived 74 (.iinc 4 1) 3 77 := ⟨by decide +kernel, rfl⟩
theorem dX3_dropLargestDerived_77 : zD cX3_dropLargestDerived 77 (.goto (-70)) 3 80 := ⟨by decide +kernel, rfl⟩
theorem dX3_dropLargestDerived_80 : zD cX3_dropLargestDerived 80 (.iload_n 2) 1 81 := ⟨by decide +kernel, rfl⟩
theorem dX3_dropLargestDerived_81 : zD cX3_dropLargestDerived 81 (.iconst (-1)) 1 82 := ⟨by decide +kernel, rfl⟩
theorem dX3_dropLargestDerived_82 : zD cX3_dropLargestDerived 82 (.if_icmp .ne 5) 3 85 := ⟨by decide +kernel, rfl⟩
theorem dX3_dropLargestDerived_85 : zD cX3_dropLargestDerived 85 (.iconst 0) 1 86 := ⟨by decide +kernel, rfl⟩
theorem dX3_dropLargestDerived_86 : zD cX3_dropLargestDerived 86 (.ireturn) 1 87 := ⟨by decide +kernel, rfl⟩
theorem dX3_dropLargestDerived_87 : zD cX3_dropLargestDerived 87 (.aload_n 0) 1 88 := ⟨by decide +kernel, rfl⟩
theorem dX3_dropLargestDerived_88 : zD cX3_dropLargestDerived 88 (.getfield 11) 3 91 := ⟨by decide +kernel, rfl⟩
theorem dX3_dropLargestDerived_91 : zD cX3_dropLargestDerived 91 (.iload_n 2) 1 92 := ⟨by decide +kernel, rfl⟩
theorem dX3_dropLargestDerived_92 : zD cX3_dropLargestDerived 92 (.aaload) 1 93 := ⟨by decide +kernel, rfl⟩
theorem dX3_dropLargestDerived_93 : zD cX3_dropLargestDerived 93 (.aload_n 0) 1 94 := ⟨by decide +kernel, rfl⟩
theorem dX3_dropLargestDerived_94 : zD cX3_dropLargestDerived 94 (.getfield 11) 3 97 := ⟨by decide +kernel, rfl⟩
theorem dX3_dropLargestDerived_97 : zD cX3_dropLargestDerived 97 (.iload_n 2) 1 98 := ⟨by decide +kernel, rfl⟩
theorem dX3_dropLargestDerived_98 : zD cX3_dropLargestDerived 98 (.aaload) 1 99 := ⟨by decide +kernel, rfl⟩
theorem dX3_dropLargestDerived_99 : zD cX3_dropLargestDerived 99 (.invokevirtual 135) 3 102 := ⟨by decide +kernel, rfl⟩
theorem dX3_dropLargestDerived_102 : zD cX3_dropLargestDerived 102 (.invokevirtual 105) 3 105 := ⟨by decide +kernel, rfl⟩
theorem dX3_dropLargestDerived_105 : zD cX3_dropLargestDerived 105 (.iconst 1) 1 106 := ⟨by decide +kernel, rfl⟩
theorem dX3_dropLargestDerived_106 : zD cX3_dropLargestDerived 106 (.ireturn) 1 107 := ⟨by decide +kernel, rfl⟩
theorem dX3_makeRoom_0 : zD cX3_makeRoom 0 (.iconst 0) 1 1 := ⟨by decide +kernel, rfl⟩
theorem dX3_makeRoom_1 : zD cX3_makeRoom 1 (.istore_n 3) 1 2 := ⟨by decide +kernel, rfl⟩
theorem dX3_makeRoom_2 : zD cX3_makeRoom 2 (.iload_n 3) 1 3 := ⟨by decide +kernel, rfl⟩
theorem dX3_makeRoom_3 : zD cX3_makeRoom 3 (.bipush 108) 2 5 := ⟨by decide +kernel, rfl⟩
theorem dX3_makeRoom_5 : zD cX3_makeRoom 5 (.if_icmp .ge 39) 3 8 := ⟨by decide +kernel, rfl⟩
theorem dX3_makeRoom_8 : zD cX3_makeRoom 8 (.aload_n 0) 1 9 := ⟨by decide +kernel, rfl⟩
theorem dX3_makeRoom_9 : zD cX3_makeRoom 9 (.invokevirtual 129) 3 12 := ⟨by decide +kernel, rfl⟩
theorem dX3_makeRoom_12 : zD cX3_makeRoom 12 (.iload_n 1) 1 13 := ⟨by decide +kernel, rfl⟩
theorem dX3_makeRoom_13 : zD cX3_makeRoom 13 (.iadd) 1 14 := ⟨by decide +kernel, rfl⟩
theorem dX3_makeRoom_14 : zD cX3_makeRoom 14 (.aload_n 0) 1 15 := ⟨by decide +kernel, rfl⟩
theorem dX3_makeRoom_15 : zD cX3_makeRoom 15 (.getfield 37) 3 18 := ⟨by decide +kernel, rfl⟩
theorem dX3_makeRoom_18 : zD cX3_makeRoom 18 (.if_icmp .le 26) 3 21 := ⟨by decide +kernel, rfl⟩
theorem dX3_makeRoom_21 : zD cX3_makeRoom 21 (.aload_n 0) 1 22 := ⟨by decide +kernel, rfl⟩
theorem dX3_makeRoom_22 : zD cX3_makeRoom 22 (.iload_n 2) 1 23 := ⟨by decide +kernel, rfl⟩
theorem dX3_makeRoom_23 : zD cX3_makeRoom 23 (.invokevirtual 132) 3 26 := ⟨by decide +kernel, rfl⟩
theorem dX3_makeRoom_26 : zD cX3_makeRoom 26 (.ifCond .ne 12) 3 29 := ⟨by decide +kernel, rfl⟩
theorem dX3_makeRoom_29 : zD cX3_makeRoom 29 (.aload_n 0) 1 30 := ⟨by decide +kernel, rfl⟩
theorem dX3_makeRoom_30 : zD cX3_makeRoom 30 (.aload_n 0) 1 31 := ⟨by decide +kernel, rfl⟩
theorem dX3_makeRoom_31 : zD cX3_makeRoom 31 (.iload_n 2) 1 32 := ⟨by decide +kernel, rfl⟩
theorem dX3_makeRoom_32 : zD cX3_makeRoom 32 (.invokevirtual 77) 3 35 := ⟨by decide +kernel, rfl⟩
theorem dX3_makeRoom_35 : zD cX3_makeRoom 35 (.invokevirtual 81) 3 38 := ⟨by decide +kernel, rfl⟩
theorem dX3_makeRoom_38 : zD cX3_makeRoom 38 (.iinc 3 1) 3 41 := ⟨by decide +kernel, rfl⟩
theorem dX3_makeRoom_41 : zD cX3_makeRoom 41 (.goto (-39)) 3 44 := ⟨by decide +kernel, rfl⟩
theorem dX3_makeRoom_44 : zD cX3_makeRoom 44 (.return_) 1 45 := ⟨by decide +kernel, rfl⟩
theorem dX1_putForm_0 : zD cX1_putForm 0 (.iload_n 1) 1 1 := ⟨by decide +kernel, rfl⟩
theorem dX1_putForm_1 : zD cX1_putForm 1 (.ifCond .lt 17) 3 4 := ⟨by decide +kernel, rfl⟩
theorem dX1_putForm_4 : zD cX1_putForm 4 (.iload_n 1) 1 5 := ⟨by decide +kernel, rfl⟩
theorem dX1_putForm_5 : zD cX1_putForm 5 (.bipush 8) 2 7 := ⟨by decide +kernel, rfl⟩
theorem dX1_putForm_7 : zD cX1_putForm 7 (.if_icmp .ge 11) 3 10 := ⟨by decide +kernel, rfl⟩
theorem dX1_putForm_10 : zD cX1_putForm 10 (.aload_n 0) 1 11 := ⟨by decide +kernel, rfl⟩
theorem dX1_putForm_11 : zD cX1_putForm 11 (.iload_n 1) 1 12 := ⟨by decide +kernel, rfl⟩
theorem dX1_putForm_12 : zD cX1_putForm 12 (.invokevirtual 51) 3 15 := ⟨by decide +kernel, rfl⟩
theorem dX1_putForm_15 : zD cX1_putForm 15 (.ifCond .eq 4) 3 18 := ⟨by decide +kernel, rfl⟩
theorem dX1_putForm_18 : zD cX1_putForm 18 (.return_) 1 19 := ⟨by decide +kernel, rfl⟩
theorem dX1_putForm_19 : zD cX1_putForm 19 (.aload_n 0) 1 20 := ⟨by decide +kernel, rfl⟩
theorem dX1_putForm_20 : zD cX1_putForm 20 (.getfield 9) 3 23 := ⟨by decide +kernel, rfl⟩
theorem dX1_putForm_23 : zD cX1_putForm 23 (.iload_n 1) 1 24 := ⟨by decide +kernel, rfl⟩
theorem dX1_putForm_24 : zD cX1_putForm 24 (.iload_n 2) 1 25 := ⟨by decide +kernel, rfl⟩
theorem dX1_putForm_25 : zD cX1_putForm 25 (.iastore) 1 26 := ⟨by decide +kernel, rfl⟩
theorem dX1_putForm_26 : zD cX1_putForm 26 (.aload_n 0) 1 27 := ⟨by decide +kernel, rfl⟩
theorem dX1_putForm_27 : zD cX1_putForm 27 (.getfield 15) 3 30 := ⟨by decide +kernel, rfl⟩
theorem dX1_putForm_30 : zD cX1_putForm 30 (.iload_n 1) 1 31 := ⟨by decide +kernel, rfl⟩
theorem dX1_putForm_31 : zD cX1_putForm 31 (.iload_n 3) 1 32 := ⟨by decide +kernel, rfl⟩
theorem dX1_putForm_32 : zD cX1_putForm 32 (.iastore) 1 33 := ⟨by decide +kernel, rfl⟩
theorem dX1_putForm_33 : zD cX1_putForm 33 (.aload_n 0) 1 34 := ⟨by decide +kernel, rfl⟩
theorem dX1_putForm_34 : zD cX1_putForm 34 (.dup) 1 35 := ⟨by decide +kernel, rfl⟩
theorem dX1_putForm_35 : zD cX1_putForm 35 (.getfield 25) 3 38 := ⟨by decide +kernel, rfl⟩
theorem dX1_putForm_38 : zD cX1_putForm 38 (.iload_n 2) 1 39 := ⟨by decide +kernel, rfl⟩
theorem dX1_putForm_39 : zD cX1_putForm 39 (.iadd) 1 40 := ⟨by decide +kernel, rfl⟩
theorem dX1_putForm_40 : zD cX1_putForm 40 (.putfield 25) 3 43 := ⟨by decide +kernel, rfl⟩
theorem dX1_putForm_43 : zD cX1_putForm 43 (.aload_n 0) 1 44 := ⟨by decide +kernel, rfl⟩
theorem dX1_putForm_44 : zD cX1_putForm 44 (.dup) 1 45 := ⟨by decide +kernel, rfl⟩
theorem dX1_putForm_45 : zD cX1_putForm 45 (.getfield 18) 3 48 := ⟨by decide +kernel, rfl⟩
theorem dX1_putForm_48 : zD cX1_putForm 48 (.iconst 1) 1 49 := ⟨by decide +kernel, rfl⟩
theorem dX1_putForm_49 : zD cX1_putForm 49 (.iload_n 1) 1 50 := ⟨by decide +kernel, rfl⟩
theorem dX1_putForm_50 : zD cX1_putForm 50 (.ishl) 1 51 := ⟨by decide +kernel, rfl⟩
theorem dX1_putForm_51 : zD cX1_putForm 51 (.ior) 1 52 := ⟨by decide +kernel, rfl⟩
theorem dX1_putForm_52 : zD cX1_putForm 52 (.putfield 18) 3 55 := ⟨by decide +kernel, rfl⟩
theorem dX1_putForm_55 : zD cX1_putForm 55 (.iload 4) 2 57 := ⟨by decide +kernel, rfl⟩
theorem dX1_putForm_57 : zD cX1_putForm 57 (.ifCond .eq 15) 3 60 := ⟨by decide +kernel, rfl⟩
theorem dX1_putForm_60 : zD cX1_putForm 60 (.aload_n 0) 1 61 := ⟨by decide +kernel, rfl⟩
theorem dX1_putForm_61 : zD cX1_putForm 61 (.dup) 1 62 := ⟨by decide +kernel, rfl⟩
theorem dX1_putForm_62 : zD cX1_putForm 62 (.getfield 22) 3 65 := ⟨by decide +kernel, rfl⟩
theorem dX1_putForm_65 : zD cX1_putForm 65 (.iconst 1) 1 66 := ⟨by decide +kernel, rfl⟩
theorem dX1_putForm_66 : zD cX1_putForm 66 (.iload_n 1) 1 67 := ⟨by decide +kernel, rfl⟩
theorem dX1_putForm_67 : zD cX1_putForm 67 (.ishl) 1 68 := ⟨by decide +kernel, rfl⟩
theorem dX1_putForm_68 : zD cX1_putForm 68 (.ior) 1 69 := ⟨by decide +kernel, rfl⟩
theorem dX1_putForm_69 : zD cX1_putForm 69 (.putfield 22) 3 72 := ⟨by decide +kernel, rfl⟩
theorem dX1_putForm_72 : zD cX1_putForm 72 (.return_) 1 73 := ⟨by decide +kernel, rfl⟩
theorem dX1_begin_0 : zD cX1_begin 0 (.aload_n 0) 1 1 := ⟨by decide +kernel, rfl⟩
theorem dX1_begin_1 : zD cX1_begin 1 (.iconst 0) 1 2 := ⟨by decide +kernel, rfl⟩
theorem dX1_begin_2 : zD cX1_begin 2 (.putfield 18) 3 5 := ⟨by decide +kernel, rfl⟩
theorem dX1_begin_5 : zD cX1_begin 5 (.aload_n 0) 1 6 := ⟨by decide +kernel, rfl⟩
theorem dX1_begin_6 : zD cX1_begin 6 (.iconst 0) 1 7 := ⟨by decide +kernel, rfl⟩
theorem dX1_begin_7 : zD cX1_begin 7 (.putfield 22) 3 10 := ⟨by decide +kernel, rfl⟩
theorem dX1_begin_10 : zD cX1_begin 10 (.aload_n 0) 1 11 := ⟨by decide +kernel, rfl⟩
theorem dX1_begin_11 : zD cX1_begin 11 (.iconst 0) 1 12 := ⟨by decide +kernel, rfl⟩
theorem dX1_begin_12 : zD cX1_begin 12 (.putfield 25) 3 15 := ⟨by decide +kernel, rfl⟩
theorem dX1_begin_15 : zD cX1_begin 15 (.aload_n 0) 1 16 := ⟨by decide +kernel, rfl⟩
theorem dX1_begin_16 : zD cX1_begin 16 (.iconst 0) 1 17 := ⟨by decide +kernel, rfl⟩
theorem dX1_begin_17 : zD cX1_begin 17 (.putfield 28) 3 20 := ⟨by decide +kernel, rfl⟩
theorem dX1_begin_20 : zD cX1_begin 20 (.aload_n 0) 1 21 := ⟨by decide +kernel, rfl⟩
theorem dX1_begin_21 : zD cX1_begin 21 (.iconst 0) 1 22 := ⟨by decide +kernel, rfl⟩
theorem dX1_begin_22 : zD cX1_begin 22 (.putfield 32) 3 25 := ⟨by decide +kernel, rfl⟩
theorem dX1_begin_25 : zD cX1_begin 25 (.aload_n 0) 1 26 := ⟨by decide +kernel, rfl⟩
theorem dX1_begin_26 : zD cX1_begin 26 (.iload_n 3) 1 27 := ⟨by decide +kernel, rfl⟩
theorem dX1_begin_27 : zD cX1_begin 27 (.putfield 35) 3 30 := ⟨by decide +kernel, rfl⟩
theorem dX1_begin_30 : zD cX1_begin 30 (.aload_n 0) 1 31 := ⟨by decide +kernel, rfl⟩
theorem dX1_begin_31 : zD cX1_begin 31 (.iconst (-1)) 1 32 := ⟨by decide +kernel, rfl⟩
theorem dX1_begin_32 : zD cX1_begin 32 (.putfield 38) 3 35 := ⟨by decide +kernel, rfl⟩
theorem dX1_begin_35 : zD cX1_begin 35 (.aload_n 0) 1 36 := ⟨by decide +kernel, rfl⟩
theorem dX1_begin_36 : zD cX1_begin 36 (.iload_n 1) 1 37 := ⟨by decide +kernel, rfl⟩
theorem dX1_begin_37 : zD cX1_begin 37 (.iload_n 2) 1 38 := ⟨by decide +kernel, rfl⟩
theorem dX1_begin_38 : zD cX1_begin 38 (.iconst 0) 1 39 := ⟨by decide +kernel, rfl⟩
theorem dX1_begin_39 : zD cX1_begin 39 (.iconst 0) 1 40 := ⟨by decide +kernel, rfl⟩
theorem dX1_begin_40 : zD cX1_begin 40 (.invokevirtual 41) 3 43 := ⟨by decide +kernel, rfl⟩
theorem dX1_begin_43 : zD cX1_begin 43 (.return_) 1 44 := ⟨by decide +kernel, rfl⟩
theorem dX3_moveToFront_0 : zD cX3_moveToFront 0 (.aload_n 0) 1 1 := ⟨by decide +kernel, rfl⟩
theorem dX3_moveToFront_1 : zD cX3_moveToFront 1 (.iload_n 1) 1 2 := ⟨by decide +kernel, rfl⟩
theorem dX3_moveToFront_2 : zD cX3_moveToFront 2 (.invokevirtual 58) 3 5 := ⟨by decide +kernel, rfl⟩
theorem dX3_moveToFront_5 : zD cX3_moveToFront 5 (.ifCond .ne 4) 3 8 := ⟨by decide +kernel, rfl⟩
theorem dX3_moveToFront_8 : zD cX3_moveToFront 8 (.return_) 1 9 := ⟨by decide +kernel, rfl⟩
theorem dX3_moveToFront_9 : zD cX3_moveToFront 9 (.aload_n 0) 1 10 := ⟨by decide +kernel, rfl⟩
theorem dX3_moveToFront_10 : zD cX3_moveToFront 10 (.getfield 11) 3 13 := ⟨by decide +kernel, rfl⟩
theorem dX3_moveToFront_13 : zD cX3_moveToFront 13 (.iload_n 1) 1 14 := ⟨by decide +kernel, rfl⟩
theorem dX3_moveToFront_14 : zD cX3_moveToFront 14 (.aaload) 1 15 := ⟨by decide +kernel, rfl⟩
theorem dX3_moveToFront_15 : zD cX3_moveToFront 15 (.astore_n 2) 1 16 := ⟨by decide +kernel, rfl⟩
theorem dX3_moveToFront_16 : zD cX3_moveToFront 16 (.iload_n 1) 1 17 := ⟨by decide +kernel, rfl⟩
theorem dX3_moveToFront_17 : zD cX3_moveToFront 17 (.istore_n 3) 1 18 := ⟨by decide +kernel, rfl⟩
theorem dX3_moveToFront_18 : zD cX3_moveToFront 18 (.iload_n 3) 1 19 := ⟨by decide +kernel, rfl⟩
theorem dX3_moveToFront_19 : zD cX3_moveToFront 19 (.ifCond .le 23) 3 22 := ⟨by decide +kernel, rfl⟩
theorem dX3_moveToFront_22 : zD cX3_moveToFront 22 (.aload_n 0) 1 23 := ⟨by decide +kernel, rfl⟩
theorem dX3_moveToFront_23 : zD cX3_moveToFront 23 (.getfield 11) 3 26 := ⟨by decide +kernel, rfl⟩
theorem dX3_moveToFront_26 : zD cX3_moveToFront 26 (.iload_n 3) 1 27 := ⟨by decide +kernel, rfl⟩
theorem dX3_moveToFront_27 : zD cX3_moveToFront 27 (.aload_n 0) 1 28 := ⟨by decide +kernel, rfl⟩
theorem dX3_moveToFront_28 : zD cX3_moveToFront 28 (.getfield 11) 3 31 := ⟨by decide +kernel, rfl⟩
theorem dX3_moveToFront_31 : zD cX3_moveToFront 31 (.iload_n 3) 1 32 := ⟨by decide +kernel, rfl⟩
theorem dX3_moveToFront_32 : zD cX3_moveToFront 32 (.iconst 1) 1 33 := ⟨by decide +kernel, rfl⟩
theorem dX3_moveToFront_33 : zD cX3_moveToFront 33 (.isub) 1 34 := ⟨by decide +kernel, rfl⟩
theorem dX3_moveToFront_34 : zD cX3_moveToFront 34 (.aaload) 1 35 := ⟨by decide +kernel, rfl⟩
theorem dX3_moveToFront_35 : zD cX3_moveToFront 35 (.aastore) 1 36 := ⟨by decide +kernel, rfl⟩
theorem dX3_moveToFront_36 : zD cX3_moveToFront 36 (.iinc 3 (-1)) 3 39 := ⟨by decide +kernel, rfl⟩
theorem dX3_moveToFront_39 : zD cX3_moveToFront 39 (.goto (-21)) 3 42 := ⟨by decide +kernel, rfl⟩
theorem dX3_moveToFront_42 : zD cX3_moveToFront 42 (.aload_n 0) 1 43 := ⟨by decide +kernel, rfl⟩
theorem dX3_moveToFront_43 : zD cX3_moveToFront 43 (.getfield 11) 3 46 := ⟨by decide +kernel, rfl⟩
theorem dX3_moveToFront_46 : zD cX3_moveToFront 46 (.iconst 0) 1 47 := ⟨by decide +kernel, rfl⟩
theorem dX3_moveToFront_47 : zD cX3_moveToFront 47 (.aload_n 2) 1 48 := ⟨by decide +kernel, rfl⟩
theorem dX3_moveToFront_48 : zD cX3_moveToFront 48 (.aastore) 1 49 := ⟨by decide +kernel, rfl⟩
theorem dX3_moveToFront_49 : zD cX3_moveToFront 49 (.return_) 1 50 := ⟨by decide +kernel, rfl⟩
def fX4_readInto_L13 (k : zH → Int32 → Int32 → Option (Int32 × zH)) (u0 : Nat) (u1 : Nat) : Nat → zH → Int32 → Int32 → Option (Int32 × zH)
  | 0, _, _, _ => none
  | n + 1, h, v2, v3 => if (160 : Int32) ≤ v3 then
    k h (v2) (v3)
    else
    if (v2 : Int32) = 0 then
    k h (v2) (v3)
    else
    (zgI h 4 u0 2).bind fun w3 =>
    (zgI h 4 u0 1).bind fun w4 =>
    if (w4 : Int32) ≤ w3 then
    k h (v2) (v3)
    else
    zb2 (fX4_shownSign h (u0)) fun w6 h7 =>
    if (w6 : Int32) = 99 then
    zb2 (fX4_readConversion h7 (u0) (u1)) fun w9 h10 =>
    fX4_readInto_L13 k u0 u1 n h10 (w9) ((v3 + 1))
    else
    zb2 (fX4_readPlace h7 (u0) (u1)) fun w11 h12 =>
    fX4_readInto_L13 k u0 u1 n h12 (w11) ((v3 + 1))
def fX4_readInto (h : zH) (a0 : Nat) (a1 : Nat) : Option (Int32 × zH) :=
    if zkd h a0 = 5 then
    (zpI h 4 a0 2 0).bind fun h1 =>
    zb2 (fX4_readHead h1 (a0) (a1)) fun w2 h3 =>
    fX4_readInto_L13 (fun h4 y5 y6 =>
    if (y5 : Int32) = 0 then
    (zgI h4 4 a0 2).bind fun w8 =>
    some (w8, h4)
    else
    some ((-9), h4)) (a0) (a1) zF h3 (w2) (0)
    else none
theorem kfX4_readInto {h : zH} {a0 : Nat} {a1 : Nat} {r : Int32 × zH} (hf : fX4_readInto h a0 a1 = some r) : zkd h a0 = 5 := by
  unfold fX4_readInto at hf
  exact (zck hf).1
def fX6_errorPosition (h : zH) (a0 : Nat) : Option (Int32 × zH) :=
    if zkd h a0 = 7 then
    (zgP h 6 a0 0).bind fun w1 =>
    (zgP h 6 a0 10).bind fun w2 =>
    zb2 (fX4_readInto h (w1) (w2)) fun w3 h4 =>
    some (w3, h4)
    else none
theorem kfX6_errorPosition {h : zH} {a0 : Nat} {r : Int32 × zH} (hf : fX6_errorPosition h a0 = some r) : zkd h a0 = 7 := by
  unfold fX6_errorPosition at hf
  exact (zck hf).1
def fX6_load (h : zH) (a0 : Nat) : Option ((Int32 ⊕ String) × zH) :=
    if zkd h a0 = 7 then
    (zgP h 6 a0 0).bind fun w1 =>
    (zgP h 6 a0 10).bind fun w2 =>
    zb2 (fX4_readInto h (w1) (w2)) fun w3 h4 =>
    if (w3 : Int32) = (-9) then
    (zgP h4 6 a0 9).bind fun w6 =>
    (zgP h4 6 a0 10).bind fun w7 =>
    (zpP h4 6 a0 9 w7).bind fun h8 =>
    (zpP h8 6 a0 10 w6).bind fun h9 =>
    (fX6_startOver h9 (a0)).bind fun h10 =>
    (zgP h10 6 a0 9).bind fun w11 =>
    (zgI h10 0 w11 9).bind fun w12 =>
    some (.inl w12, h10)
    else
    some (.inr "java/lang/IllegalStateException", zoff h4)
    else none
theorem kfX6_load {h : zH} {a0 : Nat} {r : (Int32 ⊕ String) × zH} (hf : fX6_load h a0 = some r) : zkd h a0 = 7 := by
  unfold fX6_load at hf
  exact (zck hf).1
def fX3_usedSize_L4 (k : zH → Int32 → Int32 → Option (Int32 × zH)) (u0 : Nat) : Nat → zH → Int32 → Int32 → Option (Int32 × zH)
  | 0, _, _, _ => none
  | n + 1, h, v1, v2 => (zgI h 3 u0 2).bind fun w1 =>
    if (w1 : Int32) ≤ v2 then
    k h (v1) (v2)
    else
    (zgP h 3 u0 0).bind fun w3 =>
    (zaP h w3 (v2)).bind fun w4 =>
    (zgI h 1 w4 4).bind fun w5 =>
    fX3_usedSize_L4 k u0 n h (((v1 : Int32) + w5)) ((v2 + 1))
def fX3_usedSize (h : zH) (a0 : Nat) : Option (Int32 × zH) :=
    if zkd h a0 = 4 then
    fX3_usedSize_L4 (fun h1 y2 y3 =>
    some (y2, h1)) (a0) zF h (0) (0)
    else none
theorem kfX3_usedSize {h : zH} {a0 : Nat} {r : Int32 × zH} (hf : fX3_usedSize h a0 = some r) : zkd h a0 = 4 := by
  unfold fX3_usedSize at hf
  exact (zck hf).1
def fX6_about (h : zH) (a0 : Nat) (a1 : Int32) : Option ((Int32 ⊕ String) × zH) :=
    if zkd h a0 = 7 then
    if (a1 : Int32) = 0 then
    (zgP h 6 a0 9).bind fun w2 =>
    (zgI h 0 w2 8).bind fun w3 =>
    some (.inl w3, h)
    else
    if (a1 : Int32) = 1 then
    (zgP h 6 a0 9).bind fun w5 =>
    (zgI h 0 w5 9).bind fun w6 =>
    some (.inl w6, h)
    else
    if (a1 : Int32) = 2 then
    (zgP h 6 a0 9).bind fun w8 =>
    (zgI h 0 w8 10).bind fun w9 =>
    some (.inl w9, h)
    else
    if (a1 : Int32) = 3 then
    (zgP h 6 a0 4).bind fun w11 =>
    (zgI h 3 w11 2).bind fun w12 =>
    some (.inl w12, h)
    else
    if (a1 : Int32) = 4 then
    (zgP h 6 a0 4).bind fun w14 =>
    (zgI h 3 w14 5).bind fun w15 =>
    some (.inl w15, h)
    else
    if (a1 : Int32) = 5 then
    (zgP h 6 a0 4).bind fun w17 =>
    zb2 (fX3_usedSize h (w17)) fun w18 h19 =>
    some (.inl w18, h19)
    else
    if (a1 : Int32) = 6 then
    (zgP h 6 a0 4).bind fun w21 =>
    (zgI h 3 w21 3).bind fun w22 =>
    some (.inl w22, h)
    else
    if (a1 : Int32) = 7 then
    (zgP h 6 a0 4).bind fun w24 =>
    (zgI h 3 w24 4).bind fun w25 =>
    some (.inl w25, h)
    else
    some (.inr "java/lang/IllegalArgumentException", zoff h)
    else none
theorem kfX6_about {h : zH} {a0 : Nat} {a1 : Int32} {r : (Int32 ⊕ String) × zH} (hf : fX6_about h a0 a1 = some r) : zkd h a0 = 7 := by
  unfold fX6_about at hf
  exact (zck hf).1
def fX6_requireConversion (h : zH) (a0 : Nat) (a1 : Int32) : Option (Option String × zH) :=
    if zkd h a0 = 7 then
    if (a1 : Int32) < 0 then
    some (some "java/lang/IndexOutOfBoundsException", zoff h)
    else
    (zgP h 6 a0 9).bind fun w2 =>
    (zgI h 0 w2 9).bind fun w3 =>
    if (a1 : Int32) < w3 then
    some (none, h)
    else
    some (some "java/lang/IndexOutOfBoundsException", zoff h)
    else none
theorem kfX6_requireConversion {h : zH} {a0 : Nat} {a1 : Int32} {r : Option String × zH} (hf : fX6_requireConversion h a0 a1 = some r) : zkd h a0 = 7 := by
  unfold fX6_requireConversion at hf
  exact (zck hf).1
def fX6_conversion (h : zH) (a0 : Nat) (a1 : Int32) (a2 : Int32) : Option ((Int32 ⊕ String) × zH) :=
    if zkd h a0 = 7 then
    zb4 (fX6_requireConversion h (a0) (a1)) fun h1 =>
    if (a2 : Int32) = 0 then
    (zgP h1 6 a0 9).bind fun w4 =>
    (zgP h1 0 w4 0).bind fun w5 =>
    (zaI h1 w5 (a1)).bind fun w6 =>
    some (.inl w6, h1)
    else
    if (a2 : Int32) = 1 then
    (zgP h1 6 a0 9).bind fun w8 =>
    (zgP h1 0 w8 1).bind fun w9 =>
    (zaI h1 w9 (a1)).bind fun w10 =>
    some (.inl w10, h1)
    else
    if (a2 : Int32) = 2 then
    (zgP h1 6 a0 4).bind fun w12 =>
    (zgP h1 3 w12 1).bind fun w13 =>
    (zaI h1 w13 (a1)).bind fun w14 =>
    some (.inl w14, h1)
    else
    if (a2 : Int32) = 3 then
    (zgP h1 6 a0 9).bind fun w16 =>
    (zgP h1 0 w16 3).bind fun w17 =>
    (zaI h1 w17 (a1)).bind fun w18 =>
    some (.inl w18, h1)
    else
    if (a2 : Int32) = 4 then
    (zgP h1 6 a0 9).bind fun w20 =>
    (zgP h1 0 w20 4).bind fun w21 =>
    (zaI h1 w21 (a1)).bind fun w22 =>
    some (.inl w22, h1)
    else
    some (.inr "java/lang/IllegalArgumentException", zoff h1)
    else none
theorem kfX6_conversion {h : zH} {a0 : Nat} {a1 : Int32} {a2 : Int32} {r : (Int32 ⊕ String) × zH} (hf : fX6_conversion h a0 a1 a2 = some r) : zkd h a0 = 7 := by
  unfold fX6_conversion at hf
  exact (zck hf).1
def fX0_hasPlace (h : zH) (a0 : Nat) (a1 : Int32) : Option (Int32 × zH) :=
    if zkd h a0 = 1 then
    if (a1 : Int32) < 0 then
    some (0, h)
    else
    (zgI h 0 a0 10).bind fun w2 =>
    if (w2 : Int32) ≤ a1 then
    some (0, h)
    else
    some (1, h)
    else none
theorem kfX0_hasPlace {h : zH} {a0 : Nat} {a1 : Int32} {r : Int32 × zH} (hf : fX0_hasPlace h a0 a1 = some r) : zkd h a0 = 1 := by
  unfold fX0_hasPlace at hf
  exact (zck hf).1
def fX6_requirePlace (h : zH) (a0 : Nat) (a1 : Int32) : Option (Option String × zH) :=
    if zkd h a0 = 7 then
    (zgP h 6 a0 9).bind fun w1 =>
    zb2 (fX0_hasPlace h (w1) (a1)) fun w2 h3 =>
    if (w2 : Int32) = 0 then
    some (some "java/lang/IndexOutOfBoundsException", zoff h3)
    else
    some (none, h3)
    else none
theorem kfX6_requirePlace {h : zH} {a0 : Nat} {a1 : Int32} {r : Option String × zH} (hf : fX6_requirePlace h a0 a1 = some r) : zkd h a0 = 7 := by
  unfold fX6_requirePlace at hf
  exact (zck hf).1
def fX6_place (h : zH) (a0 : Nat) (a1 : Int32) (a2 : Int32) : Option ((Int32 ⊕ String) × zH) :=
    if zkd h a0 = 7 then
    zb4 (fX6_requirePlace h (a0) (a1)) fun h1 =>
    if (a2 : Int32) = 0 then
    (zgP h1 6 a0 9).bind fun w4 =>
    (zgP h1 0 w4 5).bind fun w5 =>
    (zaI h1 w5 (a1)).bind fun w6 =>
    some (.inl w6, h1)
    else
    if (a2 : Int32) = 1 then
    (zgP h1 6 a0 9).bind fun w8 =>
    (zgP h1 0 w8 6).bind fun w9 =>
    (zaI h1 w9 (a1)).bind fun w10 =>
    some (.inl w10, h1)
    else
    some (.inr "java/lang/IllegalArgumentException", zoff h1)
    else none
theorem kfX6_place {h : zH} {a0 : Nat} {a1 : Int32} {a2 : Int32} {r : (Int32 ⊕ String) × zH} (hf : fX6_place h a0 a1 a2 = some r) : zkd h a0 = 7 := by
  unfold fX6_place at hf
  exact (zck hf).1
def fX3_hasEntry (h : zH) (a0 : Nat) (a1 : Int32) : Option (Int32 × zH) :=
    if zkd h a0 = 4 then
    if (a1 : Int32) < 0 then
    some (0, h)
    else
    (zgI h 3 a0 2).bind fun w2 =>
    if (w2 : Int32) ≤ a1 then
    some (0, h)
    else
    some (1, h)
    else none
theorem kfX3_hasEntry {h : zH} {a0 : Nat} {a1 : Int32} {r : Int32 × zH} (hf : fX3_hasEntry h a0 a1 = some r) : zkd h a0 = 4 := by
  unfold fX3_hasEntry at hf
  exact (zck hf).1
def fX6_requireEntry (h : zH) (a0 : Nat) (a1 : Int32) : Option (Option String × zH) :=
    if zkd h a0 = 7 then
    (zgP h 6 a0 4).bind fun w1 =>
    zb2 (fX3_hasEntry h (w1) (a1)) fun w2 h3 =>
    if (w2 : Int32) = 0 then
    some (some "java/lang/IndexOutOfBoundsException", zoff h3)
    else
    some (none, h3)
    else none
theorem kfX6_requireEntry {h : zH} {a0 : Nat} {a1 : Int32} {r : Option String × zH} (hf : fX6_requireEntry h a0 a1 = some r) : zkd h a0 = 7 := by
  unfold fX6_requireEntry at hf
  exact (zck hf).1
def fX1_weight (h : zH) (a0 : Nat) (a1 : Int32) : Option (Int32 × zH) :=
    if zkd h a0 = 2 then
    (zgI h 1 a0 7).bind fun w1 =>
    (zgI h 1 a0 4).bind fun w2 =>
    (zgI h 1 a0 6).bind fun w3 =>
    if (((if (1 : Int32) < ((w3 : Int32) + 1) then ((w3 : Int32) + 1) else 1) : Int32).toInt64 : Int64) = 0 then none else
    if ((lg_cmp (((((w2 : Int32).toInt64 : Int64) * (((((a1 : Int32) - w1) : Int32) + 1) : Int32).toInt64) : Int64) / ((if (1 : Int32) < ((w3 : Int32) + 1) then ((w3 : Int32) + 1) else 1) : Int32).toInt64) 999999999) : Int32) ≤ 0 then
    some (((((((w2 : Int32).toInt64 : Int64) * (((((a1 : Int32) - w1) : Int32) + 1) : Int32).toInt64) : Int64) / ((if (1 : Int32) < ((w3 : Int32) + 1) then ((w3 : Int32) + 1) else 1) : Int32).toInt64) : Int64).toInt32, h)
    else
    some (999999999, h)
    else none
theorem kfX1_weight {h : zH} {a0 : Nat} {a1 : Int32} {r : Int32 × zH} (hf : fX1_weight h a0 a1 = some r) : zkd h a0 = 2 := by
  unfold fX1_weight at hf
  exact (zck hf).1
def fX6_entry (h : zH) (a0 : Nat) (a1 : Int32) (a2 : Int32) : Option ((Int32 ⊕ String) × zH) :=
    if zkd h a0 = 7 then
    zb4 (fX6_requireEntry h (a0) (a1)) fun h1 =>
    (zgP h1 6 a0 4).bind fun w3 =>
    (zgP h1 3 w3 0).bind fun w4 =>
    (zaP h1 w4 (a1)).bind fun w5 =>
    if (a2 : Int32) = 0 then
    (zgI h1 1 w5 4).bind fun w7 =>
    some (.inl w7, h1)
    else
    if (a2 : Int32) = 1 then
    (zgI h1 1 w5 2).bind fun w9 =>
    some (.inl w9, h1)
    else
    if (a2 : Int32) = 2 then
    (zgI h1 1 w5 3).bind fun w11 =>
    some (.inl w11, h1)
    else
    if (a2 : Int32) = 3 then
    (zgI h1 1 w5 5).bind fun w13 =>
    if (w13 : Int32) = 0 then
    some (.inl 0, h1)
    else
    some (.inl 1, h1)
    else
    if (a2 : Int32) = 4 then
    (zgI h1 1 w5 6).bind fun w16 =>
    some (.inl w16, h1)
    else
    if (a2 : Int32) = 5 then
    (zgI h1 1 w5 7).bind fun w18 =>
    some (.inl w18, h1)
    else
    if (a2 : Int32) = 6 then
    (zgP h1 6 a0 4).bind fun w20 =>
    (zgI h1 3 w20 3).bind fun w21 =>
    zb2 (fX1_weight h1 (w5) (w21)) fun w22 h23 =>
    some (.inl w22, h23)
    else
    some (.inr "java/lang/IllegalArgumentException", zoff h1)
    else none
theorem kfX6_entry {h : zH} {a0 : Nat} {a1 : Int32} {a2 : Int32} {r : (Int32 ⊕ String) × zH} (hf : fX6_entry h a0 a1 a2 = some r) : zkd h a0 = 7 := by
  unfold fX6_entry at hf
  exact (zck hf).1
def fX6_requireFormat (h : zH) (a0 : Nat) (a1 : Int32) : Option (Option String × zH) :=
    if zkd h a0 = 7 then
    (zgP h 6 a0 9).bind fun w1 =>
    zb2 (fX0_hasFormat h (w1) (a1)) fun w2 h3 =>
    if (w2 : Int32) = 0 then
    some (some "java/lang/IndexOutOfBoundsException", zoff h3)
    else
    some (none, h3)
    else none
theorem kfX6_requireFormat {h : zH} {a0 : Nat} {a1 : Int32} {r : Option String × zH} (hf : fX6_requireFormat h a0 a1 = some r) : zkd h a0 = 7 := by
  unfold fX6_requireFormat at hf
  exact (zck hf).1
def fX1_holds (h : zH) (a0 : Nat) (a1 : Int32) : Option (Int32 × zH) :=
    if zkd h a0 = 2 then
    if (a1 : Int32) < 0 then
    some (0, h)
    else
    if (8 : Int32) ≤ a1 then
    some (0, h)
    else
    (zgI h 1 a0 2).bind fun w3 =>
    if (((((w3 : Int32) >>> (a1 &&& 31)) : Int32) &&& 1) : Int32) = 1 then
    some (1, h)
    else
    some (0, h)
    else none
theorem kfX1_holds {h : zH} {a0 : Nat} {a1 : Int32} {r : Int32 × zH} (hf : fX1_holds h a0 a1 = some r) : zkd h a0 = 2 := by
  unfold fX1_holds at hf
  exact (zck hf).1
def fX6_form (h : zH) (a0 : Nat) (a1 : Int32) (a2 : Int32) (a3 : Int32) : Option ((Int32 ⊕ String) × zH) :=
    if zkd h a0 = 7 then
    zb4 (fX6_requireEntry h (a0) (a1)) fun h1 =>
    zb4 (fX6_requireFormat h1 (a0) (a2)) fun h3 =>
    (zgP h3 6 a0 4).bind fun w5 =>
    (zgP h3 3 w5 0).bind fun w6 =>
    (zaP h3 w6 (a1)).bind fun w7 =>
    zb2 (fX1_holds h3 (w7) (a2)) fun w8 h9 =>
    if (w8 : Int32) = 0 then
    some (.inl (-9), h9)
    else
    if (a3 : Int32) = 0 then
    (zgP h9 1 w7 0).bind fun w12 =>
    (zaI h9 w12 (a2)).bind fun w13 =>
    some (.inl w13, h9)
    else
    (zgP h9 1 w7 1).bind fun w14 =>
    (zaI h9 w14 (a2)).bind fun w15 =>
    some (.inl w15, h9)
    else none
theorem kfX6_form {h : zH} {a0 : Nat} {a1 : Int32} {a2 : Int32} {a3 : Int32} {r : (Int32 ⊕ String) × zH} (hf : fX6_form h a0 a1 a2 a3 = some r) : zkd h a0 = 7 := by
  unfold fX6_form at hf
  exact (zck hf).1
def fX6_isNewSize (h : zH) (a0 : Int32) : Option (Int32 × zH) :=
    if (a0 : Int32) < 1 then
    some (0, h)
    else
    if (9999 : Int32) < a0 then
    some (0, h)
    else
    some (1, h)
def fX6_requireNewSize (h : zH) (a0 : Int32) : Option (Option String × zH) :=
    zb2 (fX6_isNewSize h (a0)) fun w1 h2 =>
    if (w1 : Int32) = 0 then
    some (some "java/lang/IllegalArgumentException", zoff h2)
    else
    some (none, h2)
def fX3_isFull (h : zH) (a0 : Nat) : Option (Int32 × zH) :=
    if zkd h a0 = 4 then
    (zgI h 3 a0 2).bind fun w1 =>
    if (w1 : Int32) < 12 then
    some (0, h)
    else
    some (1, h)
    else none
theorem kfX3_isFull {h : zH} {a0 : Nat} {r : Int32 × zH} (hf : fX3_isFull h a0 = some r) : zkd h a0 = 4 := by
  unfold fX3_isFull at hf
  exact (zck hf).1
def fX3_pinnedCount_L4 (k : zH → Int32 → Int32 → Option (Int32 × zH)) (u0 : Nat) : Nat → zH → Int32 → Int32 → Option (Int32 × zH)
  | 0, _, _, _ => none
  | n + 1, h, v1, v2 => (zgI h 3 u0 2).bind fun w1 =>
    if (w1 : Int32) ≤ v2 then
    k h (v1) (v2)
    else
    (zgP h 3 u0 0).bind fun w3 =>
    (zaP h w3 (v2)).bind fun w4 =>
    (zgI h 1 w4 5).bind fun w5 =>
    if (w5 : Int32) = 0 then
    fX3_pinnedCount_L4 k u0 n h (v1) ((v2 + 1))
    else
    fX3_pinnedCount_L4 k u0 n h ((v1 + 1)) ((v2 + 1))
def fX3_pinnedCount (h : zH) (a0 : Nat) : Option (Int32 × zH) :=
    if zkd h a0 = 4 then
    fX3_pinnedCount_L4 (fun h1 y2 y3 =>
    some (y2, h1)) (a0) zF h (0) (0)
    else none
theorem kfX3_pinnedCount {h : zH} {a0 : Nat} {r : Int32 × zH} (hf : fX3_pinnedCount h a0 = some r) : zkd h a0 = 4 := by
  unfold fX3_pinnedCount at hf
  exact (zck hf).1
def fX1_holdsDerived (h : zH) (a0 : Nat) (a1 : Int32) : Option (Int32 × zH) :=
    if zkd h a0 = 2 then
    if (a1 : Int32) < 0 then
    some (0, h)
    else
    if (8 : Int32) ≤ a1 then
    some (0, h)
    else
    (zgI h 1 a0 3).bind fun w3 =>
    if (((((w3 : Int32) >>> (a1 &&& 31)) : Int32) &&& 1) : Int32) = 1 then
    some (1, h)
    else
    some (0, h)
    else none
theorem kfX1_holdsDerived {h : zH} {a0 : Nat} {a1 : Int32} {r : Int32 × zH} (hf : fX1_holdsDerived h a0 a1 = some r) : zkd h a0 = 2 := by
  unfold fX1_holdsDerived at hf
  exact (zck hf).1
def fX1_originalSize_L7 (k : zH → Int32 → Int32 → Option (Int32 × zH)) (u0 : Nat) : Nat → zH → Int32 → Int32 → Option (Int32 × zH)
  | 0, _, _, _ => none
  | n + 1, h, v1, v2 => if (8 : Int32) ≤ v2 then
    k h (v1) (v2)
    else
    zb2 (fX1_holdsDerived h (u0) (v2)) fun w2 h3 =>
    if (w2 : Int32) = 0 then
    fX1_originalSize_L7 k u0 n h3 (v1) ((v2 + 1))
    else
    (zgP h3 1 u0 0).bind fun w5 =>
    (zaI h3 w5 (v2)).bind fun w6 =>
    fX1_originalSize_L7 k u0 n h3 (((v1 : Int32) - w6)) ((v2 + 1))
def fX1_originalSize (h : zH) (a0 : Nat) : Option (Int32 × zH) :=
    if zkd h a0 = 2 then
    (zgI h 1 a0 4).bind fun w1 =>
    fX1_originalSize_L7 (fun h2 y3 y4 =>
    some (y3, h2)) (a0) zF h (w1) (0)
    else none
theorem kfX1_originalSize {h : zH} {a0 : Nat} {r : Int32 × zH} (hf : fX1_originalSize h a0 = some r) : zkd h a0 = 2 := by
  unfold fX1_originalSize at hf
  exact (zck hf).1
def fX3_leastSize_L5 (k : zH → Int32 → Int32 → Option (Int32 × zH)) (u0 : Nat) (u1 : Int32) (u2 : Int32) : Nat → zH → Int32 → Int32 → Option (Int32 × zH)
  | 0, _, _, _ => none
  | n + 1, h, v3, v4 => (zgI h 3 u0 2).bind fun w1 =>
    if (w1 : Int32) ≤ v4 then
    k h (v3) (v4)
    else
    if (v4 : Int32) = u1 then
    (zgP h 3 u0 0).bind fun w4 =>
    (zaP h w4 (v4)).bind fun w5 =>
    (zgI h 1 w5 4).bind fun w6 =>
    fX3_leastSize_L5 k u0 u1 u2 n h (((v3 : Int32) + w6)) ((v4 + 1))
    else
    if (u2 : Int32) = 0 then
    (zgP h 3 u0 0).bind fun w8 =>
    (zaP h w8 (v4)).bind fun w9 =>
    (zgI h 1 w9 5).bind fun w10 =>
    if (w10 : Int32) = 0 then
    fX3_leastSize_L5 k u0 u1 u2 n h (v3) ((v4 + 1))
    else
    (zgP h 3 u0 0).bind fun w12 =>
    (zaP h w12 (v4)).bind fun w13 =>
    zb2 (fX1_originalSize h (w13)) fun w14 h15 =>
    fX3_leastSize_L5 k u0 u1 u2 n h15 (((v3 : Int32) + w14)) ((v4 + 1))
    else
    (zgP h 3 u0 0).bind fun w16 =>
    (zaP h w16 (v4)).bind fun w17 =>
    zb2 (fX1_originalSize h (w17)) fun w18 h19 =>
    fX3_leastSize_L5 k u0 u1 u2 n h19 (((v3 : Int32) + w18)) ((v4 + 1))
def fX3_leastSize (h : zH) (a0 : Nat) (a1 : Int32) (a2 : Int32) : Option (Int32 × zH) :=
    if zkd h a0 = 4 then
    fX3_leastSize_L5 (fun h1 y2 y3 =>
    some (y2, h1)) (a0) (a1) (a2) zF h (0) (0)
    else none
theorem kfX3_leastSize {h : zH} {a0 : Nat} {a1 : Int32} {a2 : Int32} {r : Int32 × zH} (hf : fX3_leastSize h a0 a1 a2 = some r) : zkd h a0 = 4 := by
  unfold fX3_leastSize at hf
  exact (zck hf).1
def fX3_canAddEntry (h : zH) (a0 : Nat) (a1 : Int32) : Option (Int32 × zH) :=
    if zkd h a0 = 4 then
    zb2 (fX3_isFull h (a0)) fun w1 h2 =>
    if (w1 : Int32) = 0 then
    zb2 (fX3_leastSize h2 (a0) ((-1)) (0)) fun w4 h5 =>
    (zgI h5 3 a0 5).bind fun w6 =>
    if (w6 : Int32) < ((w4 : Int32) + a1) then
    some (0, h5)
    else
    some (1, h5)
    else
    zb2 (fX3_pinnedCount h2 (a0)) fun w8 h9 =>
    (zgI h9 3 a0 2).bind fun w10 =>
    if (w10 : Int32) ≤ w8 then
    some (0, h9)
    else
    zb2 (fX3_leastSize h9 (a0) ((-1)) (0)) fun w12 h13 =>
    (zgI h13 3 a0 5).bind fun w14 =>
    if (w14 : Int32) < ((w12 : Int32) + a1) then
    some (0, h13)
    else
    some (1, h13)
    else none
theorem kfX3_canAddEntry {h : zH} {a0 : Nat} {a1 : Int32} {r : Int32 × zH} (hf : fX3_canAddEntry h a0 a1 = some r) : zkd h a0 = 4 := by
  unfold fX3_canAddEntry at hf
  exact (zck hf).1
def fX6_forgetOldest_L9 (k : zH → Int32 → Option (zH)) (u0 : Nat) (u1 : Nat) : Nat → zH → Int32 → Option (zH)
  | 0, _, _ => none
  | n + 1, h, v2 => (zgP h 6 u0 6).bind fun w1 =>
    (zle h w1).bind fun w2 =>
    if (w2 : Int32) ≤ v2 then
    k h (v2)
    else
    (zgP h 6 u0 6).bind fun w4 =>
    (zgP h 6 u0 6).bind fun w5 =>
    (zaP h w5 (v2)).bind fun w6 =>
    (zbP h w4 (((v2 : Int32) - 1)) (w6)).bind fun h7 =>
    fX6_forgetOldest_L9 k u0 u1 n h7 ((v2 + 1))
def fX6_forgetOldest (h : zH) (a0 : Nat) : Option (zH) :=
    if zkd h a0 = 7 then
    (zgP h 6 a0 6).bind fun w1 =>
    (zaP h w1 (0)).bind fun w2 =>
    fX6_forgetOldest_L9 (fun h3 y4 =>
    (zgP h3 6 a0 6).bind fun w5 =>
    (zgP h3 6 a0 6).bind fun w6 =>
    (zle h3 w6).bind fun w7 =>
    (zbP h3 w5 (((w7 : Int32) - 1)) (w2)).bind fun h8 =>
    (zgP h8 6 a0 6).bind fun w9 =>
    (zle h8 w9).bind fun w10 =>
    (zpI h8 6 a0 11 ((w10 : Int32) - 1)).bind fun h11 =>
    some h11) (a0) (w2) zF h (1)
    else none
theorem kfX6_forgetOldest {h : zH} {a0 : Nat} {r : zH} (hf : fX6_forgetOldest h a0 = some r) : zkd h a0 = 7 := by
  unfold fX6_forgetOldest at hf
  exact (zck hf).1
def fX1_takeOver (h : zH) (a0 : Nat) (a1 : Nat) : Option (zH) :=
    if zkd h a0 = 2 then
    (zgP h 1 a1 0).bind fun w1 =>
    (zgP h 1 a0 0).bind fun w2 =>
    (zcp h w1 (0) w2 (0) (8)).bind fun h3 =>
    (zgP h3 1 a1 1).bind fun w4 =>
    (zgP h3 1 a0 1).bind fun w5 =>
    (zcp h3 w4 (0) w5 (0) (8)).bind fun h6 =>
    (zgI h6 1 a1 2).bind fun w7 =>
    (zpI h6 1 a0 2 w7).bind fun h8 =>
    (zgI h8 1 a1 3).bind fun w9 =>
    (zpI h8 1 a0 3 w9).bind fun h10 =>
    (zgI h10 1 a1 4).bind fun w11 =>
    (zpI h10 1 a0 4 w11).bind fun h12 =>
    (zgI h12 1 a1 5).bind fun w13 =>
    (zpZ h12 1 a0 5 w13).bind fun h14 =>
    (zgI h14 1 a1 6).bind fun w15 =>
    (zpI h14 1 a0 6 w15).bind fun h16 =>
    (zgI h16 1 a1 7).bind fun w17 =>
    (zpI h16 1 a0 7 w17).bind fun h18 =>
    some h18
    else none
theorem kfX1_takeOver {h : zH} {a0 : Nat} {a1 : Nat} {r : zH} (hf : fX1_takeOver h a0 a1 = some r) : zkd h a0 = 2 := by
  unfold fX1_takeOver at hf
  exact (zck hf).1
def fX3_takeOver_L49 (k : zH → Int32 → Option (zH)) (u0 : Nat) (u1 : Nat) : Nat → zH → Int32 → Option (zH)
  | 0, _, _ => none
  | n + 1, h, v2 => (zgI h 3 u0 2).bind fun w1 =>
    if (w1 : Int32) ≤ v2 then
    k h (v2)
    else
    (zgP h 3 u0 0).bind fun w3 =>
    (zaP h w3 (v2)).bind fun w4 =>
    (zgP h 3 u1 0).bind fun w5 =>
    (zaP h w5 (v2)).bind fun w6 =>
    (fX1_takeOver h (w4) (w6)).bind fun h7 =>
    fX3_takeOver_L49 k u0 u1 n h7 ((v2 + 1))
def fX3_takeOver (h : zH) (a0 : Nat) (a1 : Nat) : Option (zH) :=
    if zkd h a0 = 4 then
    (zgI h 3 a1 2).bind fun w1 =>
    (zpI h 3 a0 2 w1).bind fun h2 =>
    (zgI h2 3 a1 3).bind fun w3 =>
    (zpI h2 3 a0 3 w3).bind fun h4 =>
    (zgI h4 3 a1 4).bind fun w5 =>
    (zpI h4 3 a0 4 w5).bind fun h6 =>
    (zgI h6 3 a1 5).bind fun w7 =>
    (zpI h6 3 a0 5 w7).bind fun h8 =>
    (zgP h8 3 a1 1).bind fun w9 =>
    (zgP h8 3 a0 1).bind fun w10 =>
    (zcp h8 w9 (0) w10 (0) (20)).bind fun h11 =>
    fX3_takeOver_L49 (fun h12 y13 =>
    some h12) (a0) (a1) zF h11 (0)
    else none
theorem kfX3_takeOver {h : zH} {a0 : Nat} {a1 : Nat} {r : zH} (hf : fX3_takeOver h a0 a1 = some r) : zkd h a0 = 4 := by
  unfold fX3_takeOver at hf
  exact (zck hf).1
def fX6_rememberNow (h : zH) (a0 : Nat) : Option (zH) :=
    if zkd h a0 = 7 then
    (zgI h 6 a0 11).bind fun w1 =>
    (zgP h 6 a0 6).bind fun w2 =>
    (zle h w2).bind fun w3 =>
    if (w1 : Int32) < w3 then
    (zgP h 6 a0 6).bind fun w5 =>
    (zgI h 6 a0 11).bind fun w6 =>
    (zaP h w5 (w6)).bind fun w7 =>
    (zgP h 6 a0 4).bind fun w8 =>
    (fX3_takeOver h (w7) (w8)).bind fun h9 =>
    (zgI h9 6 a0 11).bind fun w10 =>
    (zpI h9 6 a0 11 ((w10 : Int32) + 1)).bind fun h11 =>
    some h11
    else
    (fX6_forgetOldest h (a0)).bind fun h12 =>
    (zgP h12 6 a0 6).bind fun w13 =>
    (zgI h12 6 a0 11).bind fun w14 =>
    (zaP h12 w13 (w14)).bind fun w15 =>
    (zgP h12 6 a0 4).bind fun w16 =>
    (fX3_takeOver h12 (w15) (w16)).bind fun h17 =>
    (zgI h17 6 a0 11).bind fun w18 =>
    (zpI h17 6 a0 11 ((w18 : Int32) + 1)).bind fun h19 =>
    some h19
    else none
theorem kfX6_rememberNow {h : zH} {a0 : Nat} {r : zH} (hf : fX6_rememberNow h a0 = some r) : zkd h a0 = 7 := by
  unfold fX6_rememberNow at hf
  exact (zck hf).1
def fX3_heaviest_L7 (k : zH → Int32 → Int32 → Int32 → Option (Int32 × zH)) (u0 : Nat) (u1 : Int32) : Nat → zH → Int32 → Int32 → Int32 → Option (Int32 × zH)
  | 0, _, _, _, _ => none
  | n + 1, h, v2, v3, v4 => (zgI h 3 u0 2).bind fun w1 =>
    if (w1 : Int32) ≤ v4 then
    k h (v2) (v3) (v4)
    else
    (zgP h 3 u0 0).bind fun w3 =>
    (zaP h w3 (v4)).bind fun w4 =>
    (zgI h 3 u0 3).bind fun w5 =>
    zb2 (fX1_weight h (w4) (w5)) fun w6 h7 =>
    if (v4 : Int32) = u1 then
    fX3_heaviest_L7 k u0 u1 n h7 (v2) (v3) ((v4 + 1))
    else
    (zgP h7 3 u0 0).bind fun w9 =>
    (zaP h7 w9 (v4)).bind fun w10 =>
    (zgI h7 1 w10 5).bind fun w11 =>
    if (w11 : Int32) = 0 then
    if (w6 : Int32) < v3 then
    fX3_heaviest_L7 k u0 u1 n h7 (v2) (v3) ((v4 + 1))
    else
    fX3_heaviest_L7 k u0 u1 n h7 (v4) (w6) ((v4 + 1))
    else
    fX3_heaviest_L7 k u0 u1 n h7 (v2) (v3) ((v4 + 1))
def fX3_heaviest (h : zH) (a0 : Nat) (a1 : Int32) : Option (Int32 × zH) :=
    if zkd h a0 = 4 then
    fX3_heaviest_L7 (fun h1 y2 y3 y4 =>
    some (y2, h1)) (a0) (a1) zF h ((-1)) (0) (0)
    else none
theorem kfX3_heaviest {h : zH} {a0 : Nat} {a1 : Int32} {r : Int32 × zH} (hf : fX3_heaviest h a0 a1 = some r) : zkd h a0 = 4 := by
  unfold fX3_heaviest at hf
  exact (zck hf).1
def fX3_dropEntry_L20 (k : zH → Int32 → Option (zH)) (u0 : Nat) (u1 : Int32) (u2 : Nat) : Nat → zH → Int32 → Option (zH)
  | 0, _, _ => none
  | n + 1, h, v3 => (zgI h 3 u0 2).bind fun w1 =>
    if (w1 : Int32) ≤ v3 then
    k h (v3)
    else
    (zgP h 3 u0 0).bind fun w3 =>
    (zgP h 3 u0 0).bind fun w4 =>
    (zaP h w4 (v3)).bind fun w5 =>
    (zbP h w3 (((v3 : Int32) - 1)) (w5)).bind fun h6 =>
    fX3_dropEntry_L20 k u0 u1 u2 n h6 ((v3 + 1))
def fX3_dropEntry (h : zH) (a0 : Nat) (a1 : Int32) : Option (zH) :=
    if zkd h a0 = 4 then
    zb2 (fX3_hasEntry h (a0) (a1)) fun w1 h2 =>
    if (w1 : Int32) = 0 then
    some h2
    else
    (zgP h2 3 a0 0).bind fun w4 =>
    (zaP h2 w4 (a1)).bind fun w5 =>
    fX3_dropEntry_L20 (fun h6 y7 =>
    (zgP h6 3 a0 0).bind fun w8 =>
    (zgI h6 3 a0 2).bind fun w9 =>
    (zbP h6 w8 (((w9 : Int32) - 1)) (w5)).bind fun h10 =>
    (zgI h10 3 a0 2).bind fun w11 =>
    (zpI h10 3 a0 2 ((w11 : Int32) - 1)).bind fun h12 =>
    some h12) (a0) (a1) (w5) zF h2 (((a1 : Int32) + 1))
    else none
theorem kfX3_dropEntry {h : zH} {a0 : Nat} {a1 : Int32} {r : zH} (hf : fX3_dropEntry h a0 a1 = some r) : zkd h a0 = 4 := by
  unfold fX3_dropEntry at hf
  exact (zck hf).1
def fX1_largestDerived_L4 (k : zH → Int32 → Int32 → Option (Int32 × zH)) (u0 : Nat) : Nat → zH → Int32 → Int32 → Option (Int32 × zH)
  | 0, _, _, _ => none
  | n + 1, h, v1, v2 => if (8 : Int32) ≤ v2 then
    k h (v1) (v2)
    else
    zb2 (fX1_holdsDerived h (u0) (v2)) fun w2 h3 =>
    if (w2 : Int32) = 0 then
    fX1_largestDerived_L4 k u0 n h3 (v1) ((v2 + 1))
    else
    if (v1 : Int32) = (-1) then
    fX1_largestDerived_L4 k u0 n h3 (v2) ((v2 + 1))
    else
    (zgP h3 1 u0 0).bind fun w6 =>
    (zaI h3 w6 (v2)).bind fun w7 =>
    (zgP h3 1 u0 0).bind fun w8 =>
    (zaI h3 w8 (v1)).bind fun w9 =>
    if (w7 : Int32) ≤ w9 then
    fX1_largestDerived_L4 k u0 n h3 (v1) ((v2 + 1))
    else
    fX1_largestDerived_L4 k u0 n h3 (v2) ((v2 + 1))
def fX1_largestDerived (h : zH) (a0 : Nat) : Option (Int32 × zH) :=
    if zkd h a0 = 2 then
    fX1_largestDerived_L4 (fun h1 y2 y3 =>
    some (y2, h1)) (a0) zF h ((-1)) (0)
    else none
theorem kfX1_largestDerived {h : zH} {a0 : Nat} {r : Int32 × zH} (hf : fX1_largestDerived h a0 = some r) : zkd h a0 = 2 := by
  unfold fX1_largestDerived at hf
  exact (zck hf).1
def fX1_dropForm (h : zH) (a0 : Nat) (a1 : Int32) : Option (zH) :=
    if zkd h a0 = 2 then
    zb2 (fX1_holds h (a0) (a1)) fun w1 h2 =>
    if (w1 : Int32) = 0 then
    some h2
    else
    (zgI h2 1 a0 4).bind fun w4 =>
    (zgP h2 1 a0 0).bind fun w5 =>
    (zaI h2 w5 (a1)).bind fun w6 =>
    (zpI h2 1 a0 4 ((w4 : Int32) - w6)).bind fun h7 =>
    (zgI h7 1 a0 2).bind fun w8 =>
    (zpI h7 1 a0 2 ((w8 : Int32) &&& ((((1 : Int32) <<< (a1 &&& 31)) : Int32) ^^^ (-1)))).bind fun h9 =>
    (zgI h9 1 a0 3).bind fun w10 =>
    (zpI h9 1 a0 3 ((w10 : Int32) &&& ((((1 : Int32) <<< (a1 &&& 31)) : Int32) ^^^ (-1)))).bind fun h11 =>
    some h11
    else none
theorem kfX1_dropForm {h : zH} {a0 : Nat} {a1 : Int32} {r : zH} (hf : fX1_dropForm h a0 a1 = some r) : zkd h a0 = 2 := by
  unfold fX1_dropForm at hf
  exact (zck hf).1
def fX3_dropLargestDerived_L7 (k : zH → Int32 → Int32 → Int32 → Option (Int32 × zH)) (u0 : Nat) (u1 : Int32) : Nat → zH → Int32 → Int32 → Int32 → Option (Int32 × zH)
  | 0, _, _, _, _ => none
  | n + 1, h, v2, v3, v4 => (zgI h 3 u0 2).bind fun w1 =>
    if (w1 : Int32) ≤ v4 then
    k h (v2) (v3) (v4)
    else
    (zgP h 3 u0 0).bind fun w3 =>
    (zaP h w3 (v4)).bind fun w4 =>
    zb2 (fX1_largestDerived h (w4)) fun w5 h6 =>
    if (v4 : Int32) = u1 then
    fX3_dropLargestDerived_L7 k u0 u1 n h6 (v2) (v3) ((v4 + 1))
    else
    if (w5 : Int32) = (-1) then
    fX3_dropLargestDerived_L7 k u0 u1 n h6 (v2) (v3) ((v4 + 1))
    else
    (zgP h6 3 u0 0).bind fun w9 =>
    (zaP h6 w9 (v4)).bind fun w10 =>
    (zgP h6 1 w10 0).bind fun w11 =>
    (zaI h6 w11 (w5)).bind fun w12 =>
    if (w12 : Int32) < v3 then
    fX3_dropLargestDerived_L7 k u0 u1 n h6 (v2) (v3) ((v4 + 1))
    else
    (zgP h6 3 u0 0).bind fun w14 =>
    (zaP h6 w14 (v4)).bind fun w15 =>
    (zgP h6 1 w15 0).bind fun w16 =>
    (zaI h6 w16 (w5)).bind fun w17 =>
    fX3_dropLargestDerived_L7 k u0 u1 n h6 (v4) (w17) ((v4 + 1))
def fX3_dropLargestDerived (h : zH) (a0 : Nat) (a1 : Int32) : Option (Int32 × zH) :=
    if zkd h a0 = 4 then
    fX3_dropLargestDerived_L7 (fun h1 y2 y3 y4 =>
    if (y2 : Int32) = (-1) then
    some (0, h1)
    else
    (zgP h1 3 a0 0).bind fun w6 =>
    (zaP h1 w6 (y2)).bind fun w7 =>
    (zgP h1 3 a0 0).bind fun w8 =>
    (zaP h1 w8 (y2)).bind fun w9 =>
    zb2 (fX1_largestDerived h1 (w9)) fun w10 h11 =>
    (fX1_dropForm h11 (w7) (w10)).bind fun h12 =>
    some (1, h12)) (a0) (a1) zF h ((-1)) (0) (0)
    else none
theorem kfX3_dropLargestDerived {h : zH} {a0 : Nat} {a1 : Int32} {r : Int32 × zH} (hf : fX3_dropLargestDerived h a0 a1 = some r) : zkd h a0 = 4 := by
  unfold fX3_dropLargestDerived at hf
  exact (zck hf).1
def fX3_makeRoom_L2 (k : zH → Int32 → Option (zH)) (u0 : Nat) (u1 : Int32) (u2 : Int32) : Nat → zH → Int32 → Option (zH)
  | 0, _, _ => none
  | n + 1, h, v3 => if (108 : Int32) ≤ v3 then
    k h (v3)
    else
    zb2 (fX3_usedSize h (u0)) fun w2 h3 =>
    (zgI h3 3 u0 5).bind fun w4 =>
    if (((w2 : Int32) + u1) : Int32) ≤ w4 then
    k h3 (v3)
    else
    zb2 (fX3_dropLargestDerived h3 (u0) (u2)) fun w6 h7 =>
    if (w6 : Int32) = 0 then
    zb2 (fX3_heaviest h7 (u0) (u2)) fun w9 h10 =>
    (fX3_dropEntry h10 (u0) (w9)).bind fun h11 =>
    fX3_makeRoom_L2 k u0 u1 u2 n h11 ((v3 + 1))
    else
    fX3_makeRoom_L2 k u0 u1 u2 n h7 ((v3 + 1))
def fX3_makeRoom (h : zH) (a0 : Nat) (a1 : Int32) (a2 : Int32) : Option (zH) :=
    if zkd h a0 = 4 then
    fX3_makeRoom_L2 (fun h1 y2 =>
    some h1) (a0) (a1) (a2) zF h (0)
    else none
theorem kfX3_makeRoom {h : zH} {a0 : Nat} {a1 : Int32} {a2 : Int32} {r : zH} (hf : fX3_makeRoom h a0 a1 a2 = some r) : zkd h a0 = 4 := by
  unfold fX3_makeRoom at hf
  exact (zck hf).1
def fX1_putForm (h : zH) (a0 : Nat) (a1 : Int32) (a2 : Int32) (a3 : Int32) (a4 : Int32) : Option (zH) :=
    if zkd h a0 = 2 then
    if (a1 : Int32) < 0 then
    some h
    else
    if (8 : Int32) ≤ a1 then
    some h
    else
    zb2 (fX1_holds h (a0) (a1)) fun w3 h4 =>
    if (w3 : Int32) = 0 then
    (zgP h4 1 a0 0).bind fun w6 =>
    (zbI h4 w6 (a1) (a2)).bind fun h7 =>
    (zgP h7 1 a0 1).bind fun w8 =>
    (zbI h7 w8 (a1) (a3)).bind fun h9 =>
    (zgI h9 1 a0 4).bind fun w10 =>
    (zpI h9 1 a0 4 ((w10 : Int32) + a2)).bind fun h11 =>
    (zgI h11 1 a0 2).bind fun w12 =>
    (zpI h11 1 a0 2 ((w12 : Int32) ||| ((1 : Int32) <<< (a1 &&& 31)))).bind fun h13 =>
    if (a4 : Int32) = 0 then
    some h13
    else
    (zgI h13 1 a0 3).bind fun w15 =>
    (zpI h13 1 a0 3 ((w15 : Int32) ||| ((1 : Int32) <<< (a1 &&& 31)))).bind fun h16 =>
    some h16
    else
    some h4
    else none
theorem kfX1_putForm {h : zH} {a0 : Nat} {a1 : Int32} {a2 : Int32} {a3 : Int32} {a4 : Int32} {r : zH} (hf : fX1_putForm h a0 a1 a2 a3 a4 = some r) : zkd h a0 = 2 := by
  unfold fX1_putForm at hf
  exact (zck hf).1
def fX1_begin (h : zH) (a0 : Nat) (a1 : Int32) (a2 : Int32) (a3 : Int32) : Option (zH) :=
    if zkd h a0 = 2 then
    (zpI h 1 a0 2 0).bind fun h1 =>
    (zpI h1 1 a0 3 0).bind fun h2 =>
    (zpI h2 1 a0 4 0).bind fun h3 =>
    (zpZ h3 1 a0 5 0).bind fun h4 =>
    (zpI h4 1 a0 6 0).bind fun h5 =>
    (zpI h5 1 a0 7 a3).bind fun h6 =>
    (zpI h6 1 a0 8 (-1)).bind fun h7 =>
    (fX1_putForm h7 (a0) (a1) (a2) (0) (0)).bind fun h8 =>
    some h8
    else none
theorem kfX1_begin {h : zH} {a0 : Nat} {a1 : Int32} {a2 : Int32} {a3 : Int32} {r : zH} (hf : fX1_begin h a0 a1 a2 a3 = some r) : zkd h a0 = 2 := by
  unfold fX1_begin at hf
  exact (zck hf).1
def fX3_moveToFront_L18 (k : zH → Int32 → Option (zH)) (u0 : Nat) (u1 : Int32) (u2 : Nat) : Nat → zH → Int32 → Option (zH)
  | 0, _, _ => none
  | n + 1, h, v3 => if (v3 : Int32) ≤ 0 then
    k h (v3)
    else
    (zgP h 3 u0 0).bind fun w2 =>
    (zgP h 3 u0 0).bind fun w3 =>
    (zaP h w3 (((v3 : Int32) - 1))).bind fun w4 =>
    (zbP h w2 (v3) (w4)).bind fun h5 =>
    fX3_moveToFront_L18 k u0 u1 u2 n h5 ((v3 + (-1)))
def fX3_moveToFront (h : zH) (a0 : Nat) (a1 : Int32) : Option (zH) :=
    if zkd h a0 = 4 then
    zb2 (fX3_hasEntry h (a0) (a1)) fun w1 h2 =>
    if (w1 : Int32) = 0 then
    some h2
    else
    (zgP h2 3 a0 0).bind fun w4 =>
    (zaP h2 w4 (a1)).bind fun w5 =>
    fX3_moveToFront_L18 (fun h6 y7 =>
    (zgP h6 3 a0 0).bind fun w8 =>
    (zbP h6 w8 (0) (w5)).bind fun h9 =>
    some h9) (a0) (a1) (w5) zF h2 (a1)
    else none
theorem kfX3_moveToFront {h : zH} {a0 : Nat} {a1 : Int32} {r : zH} (hf : fX3_moveToFront h a0 a1 = some r) : zkd h a0 = 4 := by
  unfold fX3_moveToFront at hf
  exact (zck hf).1
abbrev rm_X4_readInto : Room := { frames := 5, cells := 0, slots := 0, locals := 115 }
set_option maxRecDepth 100000 in
set_option maxHeartbeats 4000000 in
theorem fX4_readInto_L13_ok {G : zG} {x : zX} (B : zB G x cX4_readInto 4 RX4 "readInto" rm_X4_readInto (some .int)) (hst : (zl x).stackTraces = false) (hE : ∀ e ∈ (zc x).exceptionTable.toList, False) {r : Int32 × zH} {k : zH → Int32 → Int32 → Option (Int32 × zH)} {u0 : Nat} {u1 : Nat} (hk : ∀ h v2 v3, k h v2 v3 = some r → zV G x 4 (zQ G x (zoi r) 0 0) h 0 0 64 [(0, .ref u0), (1, .ref u1), (2, .int v2), (3, .int v3)] []) : ∀ n h v2 v3, fX4_readInto_L13 k u0 u1 n h v2 v3 = some r → zV G x 4 (zQ G x (zoi r) 0 0) h 0 0 13 [(0, .ref u0), (1, .ref u1), (2, .int v2), (3, .int v3)] [] := by
  intro n
  induction n with
  | zero =>
    intro h v2 v3 hf
    have hf : (none : Option (Int32 × zH)) = some r := hf
    cases hf
  | succ n ih =>
    intro h v2 v3 hf
    rw [fX4_readInto_L13] at hf
    refine z_iload_n B dX4_readInto_13 rfl 3 rfl ?_
    refine z_sipush (v := 160) B dX4_readInto_14 (by decide) ?_
    rcases zite hf with ⟨c1, hf⟩ | ⟨c1, hf⟩
    · refine z_icmp_ge B 64 dX4_readInto_17 (by decide) (fun _ => ?_) (fun e => absurd c1 e)
      exact hk _ _ _ hf
    refine z_icmp_ge B 64 dX4_readInto_17 (by decide) (fun e => absurd e c1) (fun _ => ?_)
    refine z_iload_n B dX4_readInto_20 rfl 2 rfl ?_
    rcases zite hf with ⟨c2, hf⟩ | ⟨c2, hf⟩
    · refine z_if_eq B 64 dX4_readInto_21 (by decide) (fun _ => ?_) (fun e => absurd c2 e)
      exact hk _ _ _ hf
    refine z_if_eq B 64 dX4_readInto_21 (by decide) (fun e => absurd e c2) (fun _ => ?_)
    refine z_aload_n B dX4_readInto_24 rfl 0 rfl ?_
    obtain ⟨w3, ew3, hf⟩ := zbs hf
    refine z_gI B fl_RX4_23 ew3 rfl dX4_readInto_25 ?_
    refine z_aload_n B dX4_readInto_28 rfl 0 rfl ?_
    obtain ⟨w4, ew4, hf⟩ := zbs hf
    refine z_gI B fl_RX4_15 ew4 rfl dX4_readInto_29 ?_
    rcases zite hf with ⟨c5, hf⟩ | ⟨c5, hf⟩
    · refine z_icmp_ge B 64 dX4_readInto_32 (by decide) (fun _ => ?_) (fun e => absurd c5 e)
      exact hk _ _ _ hf
    refine z_icmp_ge B 64 dX4_readInto_32 (by decide) (fun e => absurd e c5) (fun _ => ?_)
    refine z_aload_n B dX4_readInto_35 rfl 0 rfl ?_
    obtain ⟨w6, h7, ew6, hf⟩ := zb2s hf
    refine z_callVi B [] [] cw_X4_shownSign mv_RX4_30 (tX4_shownSign hst ew6) rfl (by decide) (kfX4_shownSign ew6) ⟨rfl, rfl, (Nat.le_of_ble_eq_true rfl), (Nat.le_of_ble_eq_true rfl), (Nat.le_of_ble_eq_true rfl), (Nat.le_of_ble_eq_true rfl)⟩ rfl rfl (Nat.le_of_ble_eq_true rfl) dX4_readInto_36 ?_
    refine z_bipush (v := 99) B dX4_readInto_39 (by decide) ?_
    rcases zite hf with ⟨c8, hf⟩ | ⟨c8, hf⟩
    · refine z_icmp_ne B 52 dX4_readInto_41 (by decide) (fun e => absurd c8 e) (fun _ => ?_)
      refine z_aload_n B dX4_readInto_44 rfl 0 rfl ?_
      refine z_aload_n B dX4_readInto_45 rfl 1 rfl ?_
      obtain ⟨w9, h10, ew9, hf⟩ := zb2s hf
      refine z_callVi B [.ref u1] [] cw_X4_readConversion mv_RX4_34 (tX4_readConversion hst ew9) rfl (by decide) (kfX4_readConversion ew9) ⟨rfl, rfl, (Nat.le_of_ble_eq_true rfl), (Nat.le_of_ble_eq_true rfl), (Nat.le_of_ble_eq_true rfl), (Nat.le_of_ble_eq_true rfl)⟩ rfl rfl (Nat.le_of_ble_eq_true rfl) dX4_readInto_46 ?_
      refine z_goto B 57 dX4_readInto_49 (by decide) ?_
      refine z_istore_n (lv' := [(2, .int w9), (0, .ref u0), (1, .ref u1), (3, .int v3)]) B dX4_readInto_57 rfl (by decide) rfl ?_
      refine z_iinc (v' := (v3 + 1)) (lv' := [(3, .int (v3 + 1)), (2, .int w9), (0, .ref u0), (1, .ref u1)]) B dX4_readInto_58 3 rfl rfl (by decide) rfl ?_
      refine z_goto B 13 dX4_readInto_61 (by decide) ?_
      refine zV.sub [2, 3, 1, 0] rfl ?_
      exact ih _ _ _ hf
    refine z_icmp_ne B 52 dX4_readInto_41 (by decide) (fun _ => ?_) (fun e => absurd e c8)
    refine z_aload_n B dX4_readInto_52 rfl 0 rfl ?_
    refine z_aload_n B dX4_readInto_53 rfl 1 rfl ?_
    obtain ⟨w11, h12, ew11, hf⟩ := zb2s hf
    refine z_callVi B [.ref u1] [] cw_X4_readPlace mv_RX4_37 (tX4_readPlace hst ew11) rfl (by decide) (kfX4_readPlace ew11) ⟨rfl, rfl, (Nat.le_of_ble_eq_true rfl), (Nat.le_of_ble_eq_true rfl), (Nat.le_of_ble_eq_true rfl), (Nat.le_of_ble_eq_true rfl)⟩ rfl rfl (Nat.le_of_ble_eq_true rfl) dX4_readInto_54 ?_
    refine z_istore_n (lv' := [(2, .int w11), (0, .ref u0), (1, .ref u1), (3, .int v3)]) B dX4_readInto_57 rfl (by decide) rfl ?_
    refine z_iinc (v' := (v3 + 1)) (lv' := [(3, .int (v3 + 1)), (2, .int w11), (0, .ref u0), (1, .ref u1)]) B dX4_readInto_58 3 rfl rfl (by decide) rfl ?_
    refine z_goto B 13 dX4_readInto_61 (by decide) ?_
    refine zV.sub [2, 3, 1, 0] rfl ?_
    exact ih _ _ _ hf
set_option maxRecDepth 100000 in
set_option maxHeartbeats 4000000 in
theorem tX4_readInto {l : Launch} {G : zG} (hst : l.stackTraces = false) {h : zH} {a0 : Nat} {a1 : Nat} {r : Int32 × zH} (hf : fX4_readInto h a0 a1 = some r) : zMet l G yX4_readInto (.code yX4_readInto cX4_readInto 4 (some .int)) rm_X4_readInto 0 0 [.ref a0, .ref a1] h (zoi r) := by
  unfold fX4_readInto at hf
  obtain ⟨-, hf⟩ := zck hf
  refine z_enter (by decide) (Nat.le_of_ble_eq_true rfl) hst (fun x hx B hE => ?_)
  subst hx
  have B : zB G x cX4_readInto 4 RX4 "readInto" rm_X4_readInto (some .int) := B
  show zV G x 4 (zQ G x (zoi r) 0 0) h 0 0 0 [(0, .ref a0), (1, .ref a1)] []
  refine z_aload_n B dX4_readInto_0 rfl 0 rfl ?_
  refine z_iconst (v := 0) B dX4_readInto_1 (by decide) ?_
  obtain ⟨h1, eh1, hf⟩ := zbs hf
  refine z_pI B fl_RX4_23 eh1 rfl dX4_readInto_2 ?_
  refine z_aload_n B dX4_readInto_5 rfl 0 rfl ?_
  refine z_aload_n B dX4_readInto_6 rfl 1 rfl ?_
  obtain ⟨w2, h3, ew2, hf⟩ := zb2s hf
  refine z_callVi B [.ref a1] [] cw_X4_readHead mv_RX4_26 (tX4_readHead hst ew2) rfl (by decide) (kfX4_readHead ew2) ⟨rfl, rfl, (Nat.le_of_ble_eq_true rfl), (Nat.le_of_ble_eq_true rfl), (Nat.le_of_ble_eq_true rfl), (Nat.le_of_ble_eq_true rfl)⟩ rfl rfl (Nat.le_of_ble_eq_true rfl) dX4_readInto_7 ?_
  refine z_istore_n (lv' := [(2, .int w2), (0, .ref a0), (1, .ref a1)]) B dX4_readInto_10 rfl (by decide) rfl ?_
  refine z_iconst (v := 0) B dX4_readInto_11 (by decide) ?_
  refine z_istore_n (lv' := [(3, .int 0), (2, .int w2), (0, .ref a0), (1, .ref a1)]) B dX4_readInto_12 rfl (by decide) rfl ?_
  refine zV.sub [2, 3, 1, 0] rfl ?_
  refine fX4_readInto_L13_ok B hst hE (fun h4 y5 y6 hf => ?_) _ _ _ _ hf
  refine z_iload_n B dX4_readInto_64 rfl 2 rfl ?_
  rcases zite hf with ⟨c7, hf⟩ | ⟨c7, hf⟩
  · refine z_if_eq B 73 dX4_readInto_65 (by decide) (fun _ => ?_) (fun e => absurd c7 e)
    refine z_aload_n B dX4_readInto_73 rfl 0 rfl ?_
    obtain ⟨w8, ew8, hf⟩ := zbs hf
    refine z_gI B fl_RX4_23 ew8 rfl dX4_readInto_74 ?_
    cases hf
    exact z_iret B dX4_readInto_77 (Nat.le_of_ble_eq_true rfl) (Nat.le_of_ble_eq_true rfl)
  refine z_if_eq B 73 dX4_readInto_65 (by decide) (fun e => absurd e c7) (fun _ => ?_)
  refine z_bipush (v := (-9)) B dX4_readInto_68 (by decide) ?_
  refine z_goto B 77 dX4_readInto_70 (by decide) ?_
  cases hf
  exact z_iret B dX4_readInto_77 (Nat.le_of_ble_eq_true rfl) (Nat.le_of_ble_eq_true rfl)
abbrev rm_X6_errorPosition : Room := { frames := 6, cells := 0, slots := 0, locals := 138 }
set_option maxRecDepth 100000 in
set_option maxHeartbeats 4000000 in
theorem tX6_errorPosition {l : Launch} {G : zG} (hst : l.stackTraces = false) {h : zH} {a0 : Nat} {r : Int32 × zH} (hf : fX6_errorPosition h a0 = some r) : zMet l G yX6_errorPosition (.code yX6_errorPosition cX6_errorPosition 1 (some .int)) rm_X6_errorPosition 0 0 [.ref a0] h (zoi r) := by
  unfold fX6_errorPosition at hf
  obtain ⟨-, hf⟩ := zck hf
  refine z_enter (by decide) (Nat.le_of_ble_eq_true rfl) hst (fun x hx B hE => ?_)
  subst hx
  have B : zB G x cX6_errorPosition 1 RX6 "errorPosition" rm_X6_errorPosition (some .int) := B
  show zV G x 1 (zQ G x (zoi r) 0 0) h 0 0 0 [(0, .ref a0)] []
  refine z_aload_n B dX6_errorPosition_0 rfl 0 rfl ?_
  obtain ⟨w1, ew1, hf⟩ := zbs hf
  refine z_gP B fl_RX6_10 ew1 rfl dX6_errorPosition_1 ?_
  refine z_aload_n B dX6_errorPosition_4 rfl 0 rfl ?_
  obtain ⟨w2, ew2, hf⟩ := zbs hf
  refine z_gP B fl_RX6_61 ew2 rfl dX6_errorPosition_5 ?_
  obtain ⟨w3, h4, ew3, hf⟩ := zb2s hf
  refine z_callVi B [.ref w2] [] cw_X4_readInto mv_RX6_91 (tX4_readInto hst ew3) rfl (by decide) (kfX4_readInto ew3) ⟨rfl, rfl, (Nat.le_of_ble_eq_true rfl), (Nat.le_of_ble_eq_true rfl), (Nat.le_of_ble_eq_true rfl), (Nat.le_of_ble_eq_true rfl)⟩ rfl rfl (Nat.le_of_ble_eq_true rfl) dX6_errorPosition_8 ?_
  cases hf
  exact z_iret B dX6_errorPosition_11 (Nat.le_of_ble_eq_true rfl) (Nat.le_of_ble_eq_true rfl)
abbrev rm_X6_load : Room := { frames := 6, cells := 1, slots := 6, locals := 138 }
set_option maxRecDepth 100000 in
set_option maxHeartbeats 4000000 in
theorem tX6_load {l : Launch} {G : zG} (hst : l.stackTraces = false) {h : zH} {a0 : Nat} {r : (Int32 ⊕ String) × zH} (hf : fX6_load h a0 = some r) : zMet l G yX6_load (.code yX6_load cX6_load 2 (some .int)) rm_X6_load 1 6 [.ref a0] h (zoxi r) := by
  unfold fX6_load at hf
  obtain ⟨-, hf⟩ := zck hf
  refine z_enter (by decide) (Nat.le_of_ble_eq_true rfl) hst (fun x hx B hE => ?_)
  subst hx
  have B : zB G x cX6_load 2 RX6 "load" rm_X6_load (some .int) := B
  show zV G x 2 (zQ G x (zoxi r) 1 6) h 0 0 0 [(0, .ref a0)] []
  refine z_aload_n B dX6_load_0 rfl 0 rfl ?_
  obtain ⟨w1, ew1, hf⟩ := zbs hf
  refine z_gP B fl_RX6_10 ew1 rfl dX6_load_1 ?_
  refine z_aload_n B dX6_load_4 rfl 0 rfl ?_
  obtain ⟨w2, ew2, hf⟩ := zbs hf
  refine z_gP B fl_RX6_61 ew2 rfl dX6_load_5 ?_
  obtain ⟨w3, h4, ew3, hf⟩ := zb2s hf
  refine z_callVi B [.ref w2] [] cw_X4_readInto mv_RX6_91 (tX4_readInto hst ew3) rfl (by decide) (kfX4_readInto ew3) ⟨rfl, rfl, (Nat.le_of_ble_eq_true rfl), (Nat.le_of_ble_eq_true rfl), (Nat.le_of_ble_eq_true rfl), (Nat.le_of_ble_eq_true rfl)⟩ rfl rfl (Nat.le_of_ble_eq_true rfl) dX6_load_8 ?_
  refine z_bipush (v := (-9)) B dX6_load_11 (by decide) ?_
  rcases zite hf with ⟨c5, hf⟩ | ⟨c5, hf⟩
  · refine z_icmp_eq B 26 dX6_load_13 (by decide) (fun _ => ?_) (fun e => absurd c5 e)
    refine z_aload_n B dX6_load_26 rfl 0 rfl ?_
    obtain ⟨w6, ew6, hf⟩ := zbs hf
    refine z_gP B fl_RX6_57 ew6 rfl dX6_load_27 ?_
    refine z_astore_n (lv' := [(1, .ref w6), (0, .ref a0)]) B dX6_load_30 rfl (by decide) rfl ?_
    refine z_aload_n B dX6_load_31 rfl 1 rfl ?_
    refine z_aload_n B dX6_load_32 rfl 1 rfl ?_
    obtain ⟨w7, ew7, hf⟩ := zbs hf
    refine z_gP B fl_RX6_61 ew7 rfl dX6_load_33 ?_
    obtain ⟨h8, eh8, hf⟩ := zbs hf
    refine z_pP B fl_RX6_57 eh8 (Or.inl rfl) rfl rfl rfl dX6_load_36 ?_
    refine z_aload_n B dX6_load_39 rfl 1 rfl ?_
    refine z_aload_n B dX6_load_40 rfl 0 rfl ?_
    obtain ⟨h9, eh9, hf⟩ := zbs hf
    refine z_pP B fl_RX6_61 eh9 (Or.inl rfl) rfl rfl rfl dX6_load_41 ?_
    refine z_aload_n B dX6_load_44 rfl 1 rfl ?_
    obtain ⟨h10, eh10, hf⟩ := zbs hf
    refine z_callVv B [] [] cw_X6_startOver mv_RX6_64 (tX6_startOver hst eh10) rfl (by decide) (kfX6_startOver eh10) ⟨rfl, rfl, (Nat.le_of_ble_eq_true rfl), (Nat.le_of_ble_eq_true rfl), (Nat.le_of_ble_eq_true rfl), (Nat.le_of_ble_eq_true rfl)⟩ rfl rfl (Nat.le_of_ble_eq_true rfl) dX6_load_45 ?_
    refine z_aload_n B dX6_load_48 rfl 1 rfl ?_
    obtain ⟨w11, ew11, hf⟩ := zbs hf
    refine z_gP B fl_RX6_57 ew11 rfl dX6_load_49 ?_
    obtain ⟨w12, ew12, hf⟩ := zbs hf
    refine z_gI B fl_RX6_97 ew12 rfl dX6_load_52 ?_
    cases hf
    exact z_iret B dX6_load_55 (Nat.le_of_ble_eq_true rfl) (Nat.le_of_ble_eq_true rfl)
  refine z_icmp_eq B 26 dX6_load_13 (by decide) (fun e => absurd e c5) (fun _ => ?_)
  cases hf
  exact z_throw B hE rfl th_RX6_78_82 sl_95 dX6_load_16 dX6_load_19 dX6_load_20 dX6_load_22 dX6_load_25 (Nat.le_of_ble_eq_true rfl) (Nat.le_of_ble_eq_true rfl) (Nat.le_of_ble_eq_true rfl) (Nat.le_of_ble_eq_true rfl) (Nat.le_of_ble_eq_true rfl) (Nat.le_of_ble_eq_true rfl)
abbrev rm_X3_usedSize : Room := { frames := 0, cells := 0, slots := 0, locals := 0 }
set_option maxRecDepth 100000 in
set_option maxHeartbeats 4000000 in
theorem fX3_usedSize_L4_ok {G : zG} {x : zX} (B : zB G x cX3_usedSize 3 RX3 "usedSize" rm_X3_usedSize (some .int)) (hst : (zl x).stackTraces = false) (hE : ∀ e ∈ (zc x).exceptionTable.toList, False) {r : Int32 × zH} {k : zH → Int32 → Int32 → Option (Int32 × zH)} {u0 : Nat} (hk : ∀ h v1 v2, k h v1 v2 = some r → zV G x 3 (zQ G x (zoi r) 0 0) h 0 0 30 [(0, .ref u0), (1, .int v1), (2, .int v2)] []) : ∀ n h v1 v2, fX3_usedSize_L4 k u0 n h v1 v2 = some r → zV G x 3 (zQ G x (zoi r) 0 0) h 0 0 4 [(0, .ref u0), (1, .int v1), (2, .int v2)] [] := by
  intro n
  induction n with
  | zero =>
    intro h v1 v2 hf
    have hf : (none : Option (Int32 × zH)) = some r := hf
    cases hf
  | succ n ih =>
    intro h v1 v2 hf
    rw [fX3_usedSize_L4] at hf
    refine z_iload_n B dX3_usedSize_4 rfl 2 rfl ?_
    refine z_aload_n B dX3_usedSize_5 rfl 0 rfl ?_
    obtain ⟨w1, ew1, hf⟩ := zbs hf
    refine z_gI B fl_RX3_22 ew1 rfl dX3_usedSize_6 ?_
    rcases zite hf with ⟨c2, hf⟩ | ⟨c2, hf⟩
    · refine z_icmp_ge B 30 dX3_usedSize_9 (by decide) (fun _ => ?_) (fun e => absurd c2 e)
      exact hk _ _ _ hf
    refine z_icmp_ge B 30 dX3_usedSize_9 (by decide) (fun e => absurd e c2) (fun _ => ?_)
    refine z_iload_n B dX3_usedSize_12 rfl 1 rfl ?_
    refine z_aload_n B dX3_usedSize_13 rfl 0 rfl ?_
    obtain ⟨w3, ew3, hf⟩ := zbs hf
    refine z_gP B fl_RX3_11 ew3 rfl dX3_usedSize_14 ?_
    refine z_iload_n B dX3_usedSize_17 rfl 2 rfl ?_
    obtain ⟨w4, ew4, hf⟩ := zbs hf
    refine z_aP B ew4 dX3_usedSize_18 ?_
    obtain ⟨w5, ew5, hf⟩ := zbs hf
    refine z_gI B fl_RX3_51 ew5 rfl dX3_usedSize_19 ?_
    refine z_iadd B dX3_usedSize_22 ?_
    refine z_istore_n (lv' := [(1, .int ((v1 : Int32) + w5)), (0, .ref u0), (2, .int v2)]) B dX3_usedSize_23 rfl (by decide) rfl ?_
    refine z_iinc (v' := (v2 + 1)) (lv' := [(2, .int (v2 + 1)), (1, .int ((v1 : Int32) + w5)), (0, .ref u0)]) B dX3_usedSize_24 2 rfl rfl (by decide) rfl ?_
    refine z_goto B 4 dX3_usedSize_27 (by decide) ?_
    refine zV.sub [2, 1, 0] rfl ?_
    exact ih _ _ _ hf
set_option maxRecDepth 100000 in
set_option maxHeartbeats 4000000 in
theorem tX3_usedSize {l : Launch} {G : zG} (hst : l.stackTraces = false) {h : zH} {a0 : Nat} {r : Int32 × zH} (hf : fX3_usedSize h a0 = some r) : zMet l G yX3_usedSize (.code yX3_usedSize cX3_usedSize 3 (some .int)) rm_X3_usedSize 0 0 [.ref a0] h (zoi r) := by
  unfold fX3_usedSize at hf
  obtain ⟨-, hf⟩ := zck hf
  refine z_enter (by decide) (Nat.le_of_ble_eq_true rfl) hst (fun x hx B hE => ?_)
  subst hx
  have B : zB G x cX3_usedSize 3 RX3 "usedSize" rm_X3_usedSize (some .int) := B
  show zV G x 3 (zQ G x (zoi r) 0 0) h 0 0 0 [(0, .ref a0)] []
  refine z_iconst (v := 0) B dX3_usedSize_0 (by decide) ?_
  refine z_istore_n (lv' := [(1, .int 0), (0, .ref a0)]) B dX3_usedSize_1 rfl (by decide) rfl ?_
  refine z_iconst (v := 0) B dX3_usedSize_2 (by decide) ?_
  refine z_istore_n (lv' := [(2, .int 0), (1, .int 0), (0, .ref a0)]) B dX3_usedSize_3 rfl (by decide) rfl ?_
  refine zV.sub [2, 1, 0] rfl ?_
  refine fX3_usedSize_L4_ok B hst hE (fun h1 y2 y3 hf => ?_) _ _ _ _ hf
  refine z_iload_n B dX3_usedSize_30 rfl 1 rfl ?_
  cases hf
  exact z_iret B dX3_usedSize_31 (Nat.le_of_ble_eq_true rfl) (Nat.le_of_ble_eq_true rfl)
abbrev rm_X6_about : Room := { frames := 6, cells := 1, slots := 6, locals := 82 }
set_option maxRecDepth 100000 in
set_option maxHeartbeats 4000000 in
theorem tX6_about {l : Launch} {G : zG} (hst : l.stackTraces = false) {h : zH} {a0 : Nat} {a1 : Int32} {r : (Int32 ⊕ String) × zH} (hf : fX6_about h a0 a1 = some r) : zMet l G yX6_about (.code yX6_about cX6_about 2 (some .int)) rm_X6_about 1 6 [.ref a0, .int a1] h (zoxi r) := by
  unfold fX6_about at hf
  obtain ⟨-, hf⟩ := zck hf
  refine z_enter (by decide) (Nat.le_of_ble_eq_true rfl) hst (fun x hx B hE => ?_)
  subst hx
  have B : zB G x cX6_about 2 RX6 "about" rm_X6_about (some .int) := B
  show zV G x 2 (zQ G x (zoxi r) 1 6) h 0 0 0 [(0, .ref a0), (1, .int a1)] []
  refine z_iload_n B dX6_about_0 rfl 1 rfl ?_
  rcases zite hf with ⟨c1, hf⟩ | ⟨c1, hf⟩
  · refine z_tabIn B 0 48 dX6_about_1 c1 (by decide) (by decide) rfl (by decide) ?_
    refine z_aload_n B dX6_about_48 rfl 0 rfl ?_
    obtain ⟨w2, ew2, hf⟩ := zbs hf
    refine z_gP B fl_RX6_57 ew2 rfl dX6_about_49 ?_
    obtain ⟨w3, ew3, hf⟩ := zbs hf
    refine z_gI B fl_RX6_100 ew3 rfl dX6_about_52 ?_
    cases hf
    exact z_iret B dX6_about_55 (Nat.le_of_ble_eq_true rfl) (Nat.le_of_ble_eq_true rfl)
  rcases zite hf with ⟨c4, hf⟩ | ⟨c4, hf⟩
  · refine z_tabIn B 1 56 dX6_about_1 c4 (by decide) (by decide) rfl (by decide) ?_
    refine z_aload_n B dX6_about_56 rfl 0 rfl ?_
    obtain ⟨w5, ew5, hf⟩ := zbs hf
    refine z_gP B fl_RX6_57 ew5 rfl dX6_about_57 ?_
    obtain ⟨w6, ew6, hf⟩ := zbs hf
    refine z_gI B fl_RX6_97 ew6 rfl dX6_about_60 ?_
    cases hf
    exact z_iret B dX6_about_63 (Nat.le_of_ble_eq_true rfl) (Nat.le_of_ble_eq_true rfl)
  rcases zite hf with ⟨c7, hf⟩ | ⟨c7, hf⟩
  · refine z_tabIn B 2 64 dX6_about_1 c7 (by decide) (by decide) rfl (by decide) ?_
    refine z_aload_n B dX6_about_64 rfl 0 rfl ?_
    obtain ⟨w8, ew8, hf⟩ := zbs hf
    refine z_gP B fl_RX6_57 ew8 rfl dX6_about_65 ?_
    obtain ⟨w9, ew9, hf⟩ := zbs hf
    refine z_gI B fl_RX6_103 ew9 rfl dX6_about_68 ?_
    cases hf
    exact z_iret B dX6_about_71 (Nat.le_of_ble_eq_true rfl) (Nat.le_of_ble_eq_true rfl)
  rcases zite hf with ⟨c10, hf⟩ | ⟨c10, hf⟩
  · refine z_tabIn B 3 72 dX6_about_1 c10 (by decide) (by decide) rfl (by decide) ?_
    refine z_aload_n B dX6_about_72 rfl 0 rfl ?_
    obtain ⟨w11, ew11, hf⟩ := zbs hf
    refine z_gP B fl_RX6_36 ew11 rfl dX6_about_73 ?_
    obtain ⟨w12, ew12, hf⟩ := zbs hf
    refine z_gI B fl_RX6_106 ew12 rfl dX6_about_76 ?_
    cases hf
    exact z_iret B dX6_about_79 (Nat.le_of_ble_eq_true rfl) (Nat.le_of_ble_eq_true rfl)
  rcases zite hf with ⟨c13, hf⟩ | ⟨c13, hf⟩
  · refine z_tabIn B 4 80 dX6_about_1 c13 (by decide) (by decide) rfl (by decide) ?_
    refine z_aload_n B dX6_about_80 rfl 0 rfl ?_
    obtain ⟨w14, ew14, hf⟩ := zbs hf
    refine z_gP B fl_RX6_36 ew14 rfl dX6_about_81 ?_
    obtain ⟨w15, ew15, hf⟩ := zbs hf
    refine z_gI B fl_RX6_109 ew15 rfl dX6_about_84 ?_
    cases hf
    exact z_iret B dX6_about_87 (Nat.le_of_ble_eq_true rfl) (Nat.le_of_ble_eq_true rfl)
  rcases zite hf with ⟨c16, hf⟩ | ⟨c16, hf⟩
  · refine z_tabIn B 5 88 dX6_about_1 c16 (by decide) (by decide) rfl (by decide) ?_
    refine z_aload_n B dX6_about_88 rfl 0 rfl ?_
    obtain ⟨w17, ew17, hf⟩ := zbs hf
    refine z_gP B fl_RX6_36 ew17 rfl dX6_about_89 ?_
    obtain ⟨w18, h19, ew18, hf⟩ := zb2s hf
    refine z_callVi B [] [] cw_X3_usedSize mv_RX6_112 (tX3_usedSize hst ew18) rfl (by decide) (kfX3_usedSize ew18) ⟨rfl, rfl, (Nat.le_of_ble_eq_true rfl), (Nat.le_of_ble_eq_true rfl), (Nat.le_of_ble_eq_true rfl), (Nat.le_of_ble_eq_true rfl)⟩ rfl rfl (Nat.le_of_ble_eq_true rfl) dX6_about_92 ?_
    cases hf
    exact z_iret B dX6_about_95 (Nat.le_of_ble_eq_true rfl) (Nat.le_of_ble_eq_true rfl)
  rcases zite hf with ⟨c20, hf⟩ | ⟨c20, hf⟩
  · refine z_tabIn B 6 96 dX6_about_1 c20 (by decide) (by decide) rfl (by decide) ?_
    refine z_aload_n B dX6_about_96 rfl 0 rfl ?_
    obtain ⟨w21, ew21, hf⟩ := zbs hf
    refine z_gP B fl_RX6_36 ew21 rfl dX6_about_97 ?_
    obtain ⟨w22, ew22, hf⟩ := zbs hf
    refine z_gI B fl_RX6_116 ew22 rfl dX6_about_100 ?_
    cases hf
    exact z_iret B dX6_about_103 (Nat.le_of_ble_eq_true rfl) (Nat.le_of_ble_eq_true rfl)
  rcases zite hf with ⟨c23, hf⟩ | ⟨c23, hf⟩
  · refine z_tabIn B 7 104 dX6_about_1 c23 (by decide) (by decide) rfl (by decide) ?_
    refine z_aload_n B dX6_about_104 rfl 0 rfl ?_
    obtain ⟨w24, ew24, hf⟩ := zbs hf
    refine z_gP B fl_RX6_36 ew24 rfl dX6_about_105 ?_
    obtain ⟨w25, ew25, hf⟩ := zbs hf
    refine z_gI B fl_RX6_119 ew25 rfl dX6_about_108 ?_
    cases hf
    exact z_iret B dX6_about_111 (Nat.le_of_ble_eq_true rfl) (Nat.le_of_ble_eq_true rfl)
  refine z_tabOut B 112 dX6_about_1 (z_outL 0 8 (by decide) (fun j hj0 hj => by rcases (show j = 0 ∨ j = 1 ∨ j = 2 ∨ j = 3 ∨ j = 4 ∨ j = 5 ∨ j = 6 ∨ j = 7 by omega) with rfl | rfl | rfl | rfl | rfl | rfl | rfl | rfl <;> assumption)) (by decide) ?_
  cases hf
  exact z_throw B hE rfl th_RX6_67_71 sl_122 dX6_about_112 dX6_about_115 dX6_about_116 dX6_about_118 dX6_about_121 (Nat.le_of_ble_eq_true rfl) (Nat.le_of_ble_eq_true rfl) (Nat.le_of_ble_eq_true rfl) (Nat.le_of_ble_eq_true rfl) (Nat.le_of_ble_eq_true rfl) (Nat.le_of_ble_eq_true rfl)
abbrev rm_X6_requireConversion : Room := { frames := 6, cells := 1, slots := 6, locals := 82 }
set_option maxRecDepth 100000 in
set_option maxHeartbeats 4000000 in
theorem tX6_requireConversion {l : Launch} {G : zG} (hst : l.stackTraces = false) {h : zH} {a0 : Nat} {a1 : Int32} {r : Option String × zH} (hf : fX6_requireConversion h a0 a1 = some r) : zMet l G yX6_requireConversion (.code yX6_requireConversion cX6_requireConversion 2 none) rm_X6_requireConversion 1 6 [.ref a0, .int a1] h (zoxv r) := by
  unfold fX6_requireConversion at hf
  obtain ⟨-, hf⟩ := zck hf
  refine z_enter (by decide) (Nat.le_of_ble_eq_true rfl) hst (fun x hx B hE => ?_)
  subst hx
  have B : zB G x cX6_requireConversion 2 RX6 "requireConversion" rm_X6_requireConversion none := B
  show zV G x 2 (zQ G x (zoxv r) 1 6) h 0 0 0 [(0, .ref a0), (1, .int a1)] []
  refine z_iload_n B dX6_requireConversion_0 rfl 1 rfl ?_
  rcases zite hf with ⟨c1, hf⟩ | ⟨c1, hf⟩
  · refine z_if_lt B 15 dX6_requireConversion_1 (by decide) (fun _ => ?_) (fun e => absurd c1 e)
    cases hf
    exact z_throwW B hE rfl th_RX6_337_341 sl_389 dX6_requireConversion_15 dX6_requireConversion_18 dX6_requireConversion_19 dX6_requireConversion_22 dX6_requireConversion_25 (Nat.le_of_ble_eq_true rfl) (Nat.le_of_ble_eq_true rfl) (Nat.le_of_ble_eq_true rfl) (Nat.le_of_ble_eq_true rfl) (Nat.le_of_ble_eq_true rfl) (Nat.le_of_ble_eq_true rfl)
  refine z_if_lt B 15 dX6_requireConversion_1 (by decide) (fun e => absurd e c1) (fun _ => ?_)
  refine z_iload_n B dX6_requireConversion_4 rfl 1 rfl ?_
  refine z_aload_n B dX6_requireConversion_5 rfl 0 rfl ?_
  obtain ⟨w2, ew2, hf⟩ := zbs hf
  refine z_gP B fl_RX6_57 ew2 rfl dX6_requireConversion_6 ?_
  obtain ⟨w3, ew3, hf⟩ := zbs hf
  refine z_gI B fl_RX6_97 ew3 rfl dX6_requireConversion_9 ?_
  rcases zite hf with ⟨c4, hf⟩ | ⟨c4, hf⟩
  · refine z_icmp_lt B 26 dX6_requireConversion_12 (by decide) (fun _ => ?_) (fun e => absurd c4 e)
    cases hf
    exact z_vret B dX6_requireConversion_26 (Nat.le_of_ble_eq_true rfl) (Nat.le_of_ble_eq_true rfl)
  refine z_icmp_lt B 26 dX6_requireConversion_12 (by decide) (fun e => absurd e c4) (fun _ => ?_)
  cases hf
  exact z_throwW B hE rfl th_RX6_337_341 sl_389 dX6_requireConversion_15 dX6_requireConversion_18 dX6_requireConversion_19 dX6_requireConversion_22 dX6_requireConversion_25 (Nat.le_of_ble_eq_true rfl) (Nat.le_of_ble_eq_true rfl) (Nat.le_of_ble_eq_true rfl) (Nat.le_of_ble_eq_true rfl) (Nat.le_of_ble_eq_true rfl) (Nat.le_of_ble_eq_true rfl)
abbrev rm_X6_conversion : Room := { frames := 7, cells := 2, slots := 12, locals := 103 }
set_option maxRecDepth 100000 in
set_option maxHeartbeats 4000000 in
theorem tX6_conversion {l : Launch} {G : zG} (hst : l.stackTraces = false) {h : zH} {a0 : Nat} {a1 : Int32} {a2 : Int32} {r : (Int32 ⊕ String) × zH} (hf : fX6_conversion h a0 a1 a2 = some r) : zMet l G yX6_conversion (.code yX6_conversion cX6_conversion 3 (some .int)) rm_X6_conversion 2 12 [.ref a0, .int a1, .int a2] h (zoxi r) := by
  unfold fX6_conversion at hf
  obtain ⟨-, hf⟩ := zck hf
  refine z_enter (by decide) (Nat.le_of_ble_eq_true rfl) hst (fun x hx B hE => ?_)
  subst hx
  have B : zB G x cX6_conversion 3 RX6 "conversion" rm_X6_conversion (some .int) := B
  show zV G x 3 (zQ G x (zoxi r) 2 12) h 0 0 0 [(0, .ref a0), (1, .int a1), (2, .int a2)] []
  refine z_aload_n B dX6_conversion_0 rfl 0 rfl ?_
  refine z_iload_n B dX6_conversion_1 rfl 1 rfl ?_
  rcases zb4s hf with ⟨E2, h1, eh1, rfl⟩ | ⟨h1, eh1, hf⟩
  · exact z_callVX B hE [.int a1] [] cw_X6_requireConversion mv_RX6_124 (tX6_requireConversion hst eh1) rfl (by decide) (kfX6_requireConversion eh1) ⟨rfl, rfl, (Nat.le_of_ble_eq_true rfl), (Nat.le_of_ble_eq_true rfl), (Nat.le_of_ble_eq_true rfl), (Nat.le_of_ble_eq_true rfl)⟩ rfl rfl (Nat.le_of_ble_eq_true rfl) dX6_conversion_2 (Nat.le_of_ble_eq_true rfl) (Nat.le_of_ble_eq_true rfl)
  refine z_callVv B [.int a1] [] cw_X6_requireConversion mv_RX6_124 (tX6_requireConversion hst eh1) rfl (by decide) (kfX6_requireConversion eh1) ⟨rfl, rfl, (Nat.le_of_ble_eq_true rfl), (Nat.le_of_ble_eq_true rfl), (Nat.le_of_ble_eq_true rfl), (Nat.le_of_ble_eq_true rfl)⟩ rfl rfl (Nat.le_of_ble_eq_true rfl) dX6_conversion_2 ?_
  refine z_iload_n B dX6_conversion_5 rfl 2 rfl ?_
  rcases zite hf with ⟨c3, hf⟩ | ⟨c3, hf⟩
  · refine z_tabIn B 0 40 dX6_conversion_6 c3 (by decide) (by decide) rfl (by decide) ?_
    refine z_aload_n B dX6_conversion_40 rfl 0 rfl ?_
    obtain ⟨w4, ew4, hf⟩ := zbs hf
    refine z_gP B fl_RX6_57 ew4 rfl dX6_conversion_41 ?_
    obtain ⟨w5, ew5, hf⟩ := zbs hf
    refine z_gPR B fr_RX6_127 ew5 rfl dX6_conversion_44 ?_
    refine z_iload_n B dX6_conversion_47 rfl 1 rfl ?_
    obtain ⟨w6, ew6, hf⟩ := zbs hf
    refine z_aI B ew6 dX6_conversion_48 ?_
    cases hf
    exact z_iret B dX6_conversion_49 (Nat.le_of_ble_eq_true rfl) (Nat.le_of_ble_eq_true rfl)
  rcases zite hf with ⟨c7, hf⟩ | ⟨c7, hf⟩
  · refine z_tabIn B 1 50 dX6_conversion_6 c7 (by decide) (by decide) rfl (by decide) ?_
    refine z_aload_n B dX6_conversion_50 rfl 0 rfl ?_
    obtain ⟨w8, ew8, hf⟩ := zbs hf
    refine z_gP B fl_RX6_57 ew8 rfl dX6_conversion_51 ?_
    obtain ⟨w9, ew9, hf⟩ := zbs hf
    refine z_gPR B fr_RX6_131 ew9 rfl dX6_conversion_54 ?_
    refine z_iload_n B dX6_conversion_57 rfl 1 rfl ?_
    obtain ⟨w10, ew10, hf⟩ := zbs hf
    refine z_aI B ew10 dX6_conversion_58 ?_
    cases hf
    exact z_iret B dX6_conversion_59 (Nat.le_of_ble_eq_true rfl) (Nat.le_of_ble_eq_true rfl)
  rcases zite hf with ⟨c11, hf⟩ | ⟨c11, hf⟩
  · refine z_tabIn B 2 60 dX6_conversion_6 c11 (by decide) (by decide) rfl (by decide) ?_
    refine z_aload_n B dX6_conversion_60 rfl 0 rfl ?_
    obtain ⟨w12, ew12, hf⟩ := zbs hf
    refine z_gP B fl_RX6_36 ew12 rfl dX6_conversion_61 ?_
    obtain ⟨w13, ew13, hf⟩ := zbs hf
    refine z_gPR B fr_RX6_134 ew13 rfl dX6_conversion_64 ?_
    refine z_iload_n B dX6_conversion_67 rfl 1 rfl ?_
    obtain ⟨w14, ew14, hf⟩ := zbs hf
    refine z_aI B ew14 dX6_conversion_68 ?_
    cases hf
    exact z_iret B dX6_conversion_69 (Nat.le_of_ble_eq_true rfl) (Nat.le_of_ble_eq_true rfl)
  rcases zite hf with ⟨c15, hf⟩ | ⟨c15, hf⟩
  · refine z_tabIn B 3 70 dX6_conversion_6 c15 (by decide) (by decide) rfl (by decide) ?_
    refine z_aload_n B dX6_conversion_70 rfl 0 rfl ?_
    obtain ⟨w16, ew16, hf⟩ := zbs hf
    refine z_gP B fl_RX6_57 ew16 rfl dX6_conversion_71 ?_
    obtain ⟨w17, ew17, hf⟩ := zbs hf
    refine z_gPR B fr_RX6_137 ew17 rfl dX6_conversion_74 ?_
    refine z_iload_n B dX6_conversion_77 rfl 1 rfl ?_
    obtain ⟨w18, ew18, hf⟩ := zbs hf
    refine z_aI B ew18 dX6_conversion_78 ?_
    cases hf
    exact z_iret B dX6_conversion_79 (Nat.le_of_ble_eq_true rfl) (Nat.le_of_ble_eq_true rfl)
  rcases zite hf with ⟨c19, hf⟩ | ⟨c19, hf⟩
  · refine z_tabIn B 4 80 dX6_conversion_6 c19 (by decide) (by decide) rfl (by decide) ?_
    refine z_aload_n B dX6_conversion_80 rfl 0 rfl ?_
    obtain ⟨w20, ew20, hf⟩ := zbs hf
    refine z_gP B fl_RX6_57 ew20 rfl dX6_conversion_81 ?_
    obtain ⟨w21, ew21, hf⟩ := zbs hf
    refine z_gPR B fr_RX6_140 ew21 rfl dX6_conversion_84 ?_
    refine z_iload_n B dX6_conversion_87 rfl 1 rfl ?_
    obtain ⟨w22, ew22, hf⟩ := zbs hf
    refine z_aI B ew22 dX6_conversion_88 ?_
    cases hf
    exact z_iret B dX6_conversion_89 (Nat.le_of_ble_eq_true rfl) (Nat.le_of_ble_eq_true rfl)
  refine z_tabOut B 90 dX6_conversion_6 (z_outL 0 5 (by decide) (fun j hj0 hj => by rcases (show j = 0 ∨ j = 1 ∨ j = 2 ∨ j = 3 ∨ j = 4 by omega) with rfl | rfl | rfl | rfl | rfl <;> assumption)) (by decide) ?_
  cases hf
  exact z_throw B hE rfl th_RX6_67_71 sl_143 dX6_conversion_90 dX6_conversion_93 dX6_conversion_94 dX6_conversion_96 dX6_conversion_99 (Nat.le_of_ble_eq_true rfl) (Nat.le_of_ble_eq_true rfl) (Nat.le_of_ble_eq_true rfl) (Nat.le_of_ble_eq_true rfl) (Nat.le_of_ble_eq_true rfl) (Nat.le_of_ble_eq_true rfl)
abbrev rm_X0_hasPlace : Room := { frames := 0, cells := 0, slots := 0, locals := 0 }
set_option maxRecDepth 100000 in
set_option maxHeartbeats 4000000 in
theorem tX0_hasPlace {l : Launch} {G : zG} (hst : l.stackTraces = false) {h : zH} {a0 : Nat} {a1 : Int32} {r : Int32 × zH} (hf : fX0_hasPlace h a0 a1 = some r) : zMet l G yX0_hasPlace (.code yX0_hasPlace cX0_hasPlace 2 (some .boolean)) rm_X0_hasPlace 0 0 [.ref a0, .int a1] h (zoi r) := by
  unfold fX0_hasPlace at hf
  obtain ⟨-, hf⟩ := zck hf
  refine z_enter (by decide) (Nat.le_of_ble_eq_true rfl) hst (fun x hx B hE => ?_)
  subst hx
  have B : zB G x cX0_hasPlace 2 RX0 "hasPlace" rm_X0_hasPlace (some .boolean) := B
  show zV G x 2 (zQ G x (zoi r) 0 0) h 0 0 0 [(0, .ref a0), (1, .int a1)] []
  refine z_iload_n B dX0_hasPlace_0 rfl 1 rfl ?_
  rcases zite hf with ⟨c1, hf⟩ | ⟨c1, hf⟩
  · refine z_if_lt B 16 dX0_hasPlace_1 (by decide) (fun _ => ?_) (fun e => absurd c1 e)
    refine z_iconst (v := 0) B dX0_hasPlace_16 (by decide) ?_
    cases hf
    exact z_zret B dX0_hasPlace_17 (Or.inl rfl) (Nat.le_of_ble_eq_true rfl) (Nat.le_of_ble_eq_true rfl)
  refine z_if_lt B 16 dX0_hasPlace_1 (by decide) (fun e => absurd e c1) (fun _ => ?_)
  refine z_iload_n B dX0_hasPlace_4 rfl 1 rfl ?_
  refine z_aload_n B dX0_hasPlace_5 rfl 0 rfl ?_
  obtain ⟨w2, ew2, hf⟩ := zbs hf
  refine z_gI B fl_RX0_60 ew2 rfl dX0_hasPlace_6 ?_
  rcases zite hf with ⟨c3, hf⟩ | ⟨c3, hf⟩
  · refine z_icmp_ge B 16 dX0_hasPlace_9 (by decide) (fun _ => ?_) (fun e => absurd c3 e)
    refine z_iconst (v := 0) B dX0_hasPlace_16 (by decide) ?_
    cases hf
    exact z_zret B dX0_hasPlace_17 (Or.inl rfl) (Nat.le_of_ble_eq_true rfl) (Nat.le_of_ble_eq_true rfl)
  refine z_icmp_ge B 16 dX0_hasPlace_9 (by decide) (fun e => absurd e c3) (fun _ => ?_)
  refine z_iconst (v := 1) B dX0_hasPlace_12 (by decide) ?_
  refine z_goto B 17 dX0_hasPlace_13 (by decide) ?_
  cases hf
  exact z_zret B dX0_hasPlace_17 (Or.inr rfl) (Nat.le_of_ble_eq_true rfl) (Nat.le_of_ble_eq_true rfl)
abbrev rm_X6_requirePlace : Room := { frames := 6, cells := 1, slots := 6, locals := 82 }
set_option maxRecDepth 100000 in
set_option maxHeartbeats 4000000 in
theorem tX6_requirePlace {l : Launch} {G : zG} (hst : l.stackTraces = false) {h : zH} {a0 : Nat} {a1 : Int32} {r : Option String × zH} (hf : fX6_requirePlace h a0 a1 = some r) : zMet l G yX6_requirePlace (.code yX6_requirePlace cX6_requirePlace 2 none) rm_X6_requirePlace 1 6 [.ref a0, .int a1] h (zoxv r) := by
  unfold fX6_requirePlace at hf
  obtain ⟨-, hf⟩ := zck hf
  refine z_enter (by decide) (Nat.le_of_ble_eq_true rfl) hst (fun x hx B hE => ?_)
  subst hx
  have B : zB G x cX6_requirePlace 2 RX6 "requirePlace" rm_X6_requirePlace none := B
  show zV G x 2 (zQ G x (zoxv r) 1 6) h 0 0 0 [(0, .ref a0), (1, .int a1)] []
  refine z_aload_n B dX6_requirePlace_0 rfl 0 rfl ?_
  obtain ⟨w1, ew1, hf⟩ := zbs hf
  refine z_gP B fl_RX6_57 ew1 rfl dX6_requirePlace_1 ?_
  refine z_iload_n B dX6_requirePlace_4 rfl 1 rfl ?_
  obtain ⟨w2, h3, ew2, hf⟩ := zb2s hf
  refine z_callVi B [.int a1] [] cw_X0_hasPlace mv_RX6_391 (tX0_hasPlace hst ew2) rfl (by decide) (kfX0_hasPlace ew2) ⟨rfl, rfl, (Nat.le_of_ble_eq_true rfl), (Nat.le_of_ble_eq_true rfl), (Nat.le_of_ble_eq_true rfl), (Nat.le_of_ble_eq_true rfl)⟩ rfl rfl (Nat.le_of_ble_eq_true rfl) dX6_requirePlace_5 ?_
  rcases zite hf with ⟨c4, hf⟩ | ⟨c4, hf⟩
  · refine z_if_ne B 22 dX6_requirePlace_8 (by decide) (fun e => absurd c4 e) (fun _ => ?_)
    cases hf
    exact z_throwW B hE rfl th_RX6_337_341 sl_394 dX6_requirePlace_11 dX6_requirePlace_14 dX6_requirePlace_15 dX6_requirePlace_18 dX6_requirePlace_21 (Nat.le_of_ble_eq_true rfl) (Nat.le_of_ble_eq_true rfl) (Nat.le_of_ble_eq_true rfl) (Nat.le_of_ble_eq_true rfl) (Nat.le_of_ble_eq_true rfl) (Nat.le_of_ble_eq_true rfl)
  refine z_if_ne B 22 dX6_requirePlace_8 (by decide) (fun _ => ?_) (fun e => absurd e c4)
  cases hf
  exact z_vret B dX6_requirePlace_22 (Nat.le_of_ble_eq_true rfl) (Nat.le_of_ble_eq_true rfl)
abbrev rm_X6_place : Room := { frames := 7, cells := 2, slots := 12, locals := 103 }
set_option maxRecDepth 100000 in
set_option maxHeartbeats 4000000 in
theorem tX6_place {l : Launch} {G : zG} (hst : l.stackTraces = false) {h : zH} {a0 : Nat} {a1 : Int32} {a2 : Int32} {r : (Int32 ⊕ String) × zH} (hf : fX6_place h a0 a1 a2 = some r) : zMet l G yX6_place (.code yX6_place cX6_place 3 (some .int)) rm_X6_place 2 12 [.ref a0, .int a1, .int a2] h (zoxi r) := by
  unfold fX6_place at hf
  obtain ⟨-, hf⟩ := zck hf
  refine z_enter (by decide) (Nat.le_of_ble_eq_true rfl) hst (fun x hx B hE => ?_)
  subst hx
  have B : zB G x cX6_place 3 RX6 "place" rm_X6_place (some .int) := B
  show zV G x 3 (zQ G x (zoxi r) 2 12) h 0 0 0 [(0, .ref a0), (1, .int a1), (2, .int a2)] []
  refine z_aload_n B dX6_place_0 rfl 0 rfl ?_
  refine z_iload_n B dX6_place_1 rfl 1 rfl ?_
  rcases zb4s hf with ⟨E2, h1, eh1, rfl⟩ | ⟨h1, eh1, hf⟩
  · exact z_callVX B hE [.int a1] [] cw_X6_requirePlace mv_RX6_145 (tX6_requirePlace hst eh1) rfl (by decide) (kfX6_requirePlace eh1) ⟨rfl, rfl, (Nat.le_of_ble_eq_true rfl), (Nat.le_of_ble_eq_true rfl), (Nat.le_of_ble_eq_true rfl), (Nat.le_of_ble_eq_true rfl)⟩ rfl rfl (Nat.le_of_ble_eq_true rfl) dX6_place_2 (Nat.le_of_ble_eq_true rfl) (Nat.le_of_ble_eq_true rfl)
  refine z_callVv B [.int a1] [] cw_X6_requirePlace mv_RX6_145 (tX6_requirePlace hst eh1) rfl (by decide) (kfX6_requirePlace eh1) ⟨rfl, rfl, (Nat.le_of_ble_eq_true rfl), (Nat.le_of_ble_eq_true rfl), (Nat.le_of_ble_eq_true rfl), (Nat.le_of_ble_eq_true rfl)⟩ rfl rfl (Nat.le_of_ble_eq_true rfl) dX6_place_2 ?_
  refine z_iload_n B dX6_place_5 rfl 2 rfl ?_
  rcases zite hf with ⟨c3, hf⟩ | ⟨c3, hf⟩
  · refine z_look (off := 26) B 32 dX6_place_6 (by decide) (by rw [c3]; decide) (by decide) ?_
    refine z_aload_n B dX6_place_32 rfl 0 rfl ?_
    obtain ⟨w4, ew4, hf⟩ := zbs hf
    refine z_gP B fl_RX6_57 ew4 rfl dX6_place_33 ?_
    obtain ⟨w5, ew5, hf⟩ := zbs hf
    refine z_gPR B fr_RX6_148 ew5 rfl dX6_place_36 ?_
    refine z_iload_n B dX6_place_39 rfl 1 rfl ?_
    obtain ⟨w6, ew6, hf⟩ := zbs hf
    refine z_aI B ew6 dX6_place_40 ?_
    cases hf
    exact z_iret B dX6_place_41 (Nat.le_of_ble_eq_true rfl) (Nat.le_of_ble_eq_true rfl)
  rcases zite hf with ⟨c7, hf⟩ | ⟨c7, hf⟩
  · refine z_look (off := 36) B 42 dX6_place_6 (by decide) (by rw [c7]; decide) (by decide) ?_
    refine z_aload_n B dX6_place_42 rfl 0 rfl ?_
    obtain ⟨w8, ew8, hf⟩ := zbs hf
    refine z_gP B fl_RX6_57 ew8 rfl dX6_place_43 ?_
    obtain ⟨w9, ew9, hf⟩ := zbs hf
    refine z_gPR B fr_RX6_151 ew9 rfl dX6_place_46 ?_
    refine z_iload_n B dX6_place_49 rfl 1 rfl ?_
    obtain ⟨w10, ew10, hf⟩ := zbs hf
    refine z_aI B ew10 dX6_place_50 ?_
    cases hf
    exact z_iret B dX6_place_51 (Nat.le_of_ble_eq_true rfl) (Nat.le_of_ble_eq_true rfl)
  refine z_look (off := 46) B 52 dX6_place_6 (by decide) (by show Op.lookupswitch.offset [(0, 26), (1, 36)] 46 _ = _; rw [lv_osw (a := 0) c3 (by decide), lv_osw (a := 1) c7 (by decide)]; rfl) (by decide) ?_
  cases hf
  exact z_throw B hE rfl th_RX6_67_71 sl_154 dX6_place_52 dX6_place_55 dX6_place_56 dX6_place_58 dX6_place_61 (Nat.le_of_ble_eq_true rfl) (Nat.le_of_ble_eq_true rfl) (Nat.le_of_ble_eq_true rfl) (Nat.le_of_ble_eq_true rfl) (Nat.le_of_ble_eq_true rfl) (Nat.le_of_ble_eq_true rfl)
abbrev rm_X3_hasEntry : Room := { frames := 0, cells := 0, slots := 0, locals := 0 }
set_option maxRecDepth 100000 in
set_option maxHeartbeats 4000000 in
theorem tX3_hasEntry {l : Launch} {G : zG} (hst : l.stackTraces = false) {h : zH} {a0 : Nat} {a1 : Int32} {r : Int32 × zH} (hf : fX3_hasEntry h a0 a1 = some r) : zMet l G yX3_hasEntry (.code yX3_hasEntry cX3_hasEntry 2 (some .boolean)) rm_X3_hasEntry 0 0 [.ref a0, .int a1] h (zoi r) := by
  unfold fX3_hasEntry at hf
  obtain ⟨-, hf⟩ := zck hf
  refine z_enter (by decide) (Nat.le_of_ble_eq_true rfl) hst (fun x hx B hE => ?_)
  subst hx
  have B : zB G x cX3_hasEntry 2 RX3 "hasEntry" rm_X3_hasEntry (some .boolean) := B
  show zV G x 2 (zQ G x (zoi r) 0 0) h 0 0 0 [(0, .ref a0), (1, .int a1)] []
  refine z_iload_n B dX3_hasEntry_0 rfl 1 rfl ?_
  rcases zite hf with ⟨c1, hf⟩ | ⟨c1, hf⟩
  · refine z_if_lt B 16 dX3_hasEntry_1 (by decide) (fun _ => ?_) (fun e => absurd c1 e)
    refine z_iconst (v := 0) B dX3_hasEntry_16 (by decide) ?_
    cases hf
    exact z_zret B dX3_hasEntry_17 (Or.inl rfl) (Nat.le_of_ble_eq_true rfl) (Nat.le_of_ble_eq_true rfl)
  refine z_if_lt B 16 dX3_hasEntry_1 (by decide) (fun e => absurd e c1) (fun _ => ?_)
  refine z_iload_n B dX3_hasEntry_4 rfl 1 rfl ?_
  refine z_aload_n B dX3_hasEntry_5 rfl 0 rfl ?_
  obtain ⟨w2, ew2, hf⟩ := zbs hf
  refine z_gI B fl_RX3_22 ew2 rfl dX3_hasEntry_6 ?_
  rcases zite hf with ⟨c3, hf⟩ | ⟨c3, hf⟩
  · refine z_icmp_ge B 16 dX3_hasEntry_9 (by decide) (fun _ => ?_) (fun e => absurd c3 e)
    refine z_iconst (v := 0) B dX3_hasEntry_16 (by decide) ?_
    cases hf
    exact z_zret B dX3_hasEntry_17 (Or.inl rfl) (Nat.le_of_ble_eq_true rfl) (Nat.le_of_ble_eq_true rfl)
  refine z_icmp_ge B 16 dX3_hasEntry_9 (by decide) (fun e => absurd e c3) (fun _ => ?_)
  refine z_iconst (v := 1) B dX3_hasEntry_12 (by decide) ?_
  refine z_goto B 17 dX3_hasEntry_13 (by decide) ?_
  cases hf
  exact z_zret B dX3_hasEntry_17 (Or.inr rfl) (Nat.le_of_ble_eq_true rfl) (Nat.le_of_ble_eq_true rfl)
abbrev rm_X6_requireEntry : Room := { frames := 6, cells := 1, slots := 6, locals := 82 }
set_option maxRecDepth 100000 in
set_option maxHeartbeats 4000000 in
theorem tX6_requireEntry {l : Launch} {G : zG} (hst : l.stackTraces = false) {h : zH} {a0 : Nat} {a1 : Int32} {r : Option String × zH} (hf : fX6_requireEntry h a0 a1 = some r) : zMet l G yX6_requireEntry (.code yX6_requireEntry cX6_requireEntry 2 none) rm_X6_requireEntry 1 6 [.ref a0, .int a1] h (zoxv r) := by
  unfold fX6_requireEntry at hf
  obtain ⟨-, hf⟩ := zck hf
  refine z_enter (by decide) (Nat.le_of_ble_eq_true rfl) hst (fun x hx B hE => ?_)
  subst hx
  have B : zB G x cX6_requireEntry 2 RX6 "requireEntry" rm_X6_requireEntry none := B
  show zV G x 2 (zQ G x (zoxv r) 1 6) h 0 0 0 [(0, .ref a0), (1, .int a1)] []
  refine z_aload_n B dX6_requireEntry_0 rfl 0 rfl ?_
  obtain ⟨w1, ew1, hf⟩ := zbs hf
  refine z_gP B fl_RX6_36 ew1 rfl dX6_requireEntry_1 ?_
  refine z_iload_n B dX6_requireEntry_4 rfl 1 rfl ?_
  obtain ⟨w2, h3, ew2, hf⟩ := zb2s hf
  refine z_callVi B [.int a1] [] cw_X3_hasEntry mv_RX6_396 (tX3_hasEntry hst ew2) rfl (by decide) (kfX3_hasEntry ew2) ⟨rfl, rfl, (Nat.le_of_ble_eq_true rfl), (Nat.le_of_ble_eq_true rfl), (Nat.le_of_ble_eq_true rfl), (Nat.le_of_ble_eq_true rfl)⟩ rfl rfl (Nat.le_of_ble_eq_true rfl) dX6_requireEntry_5 ?_
  rcases zite hf with ⟨c4, hf⟩ | ⟨c4, hf⟩
  · refine z_if_ne B 22 dX6_requireEntry_8 (by decide) (fun e => absurd c4 e) (fun _ => ?_)
    cases hf
    exact z_throwW B hE rfl th_RX6_337_341 sl_399 dX6_requireEntry_11 dX6_requireEntry_14 dX6_requireEntry_15 dX6_requireEntry_18 dX6_requireEntry_21 (Nat.le_of_ble_eq_true rfl) (Nat.le_of_ble_eq_true rfl) (Nat.le_of_ble_eq_true rfl) (Nat.le_of_ble_eq_true rfl) (Nat.le_of_ble_eq_true rfl) (Nat.le_of_ble_eq_true rfl)
  refine z_if_ne B 22 dX6_requireEntry_8 (by decide) (fun _ => ?_) (fun e => absurd e c4)
  cases hf
  exact z_vret B dX6_requireEntry_22 (Nat.le_of_ble_eq_true rfl) (Nat.le_of_ble_eq_true rfl)
abbrev rm_X1_weight : Room := { frames := 1, cells := 0, slots := 0, locals := 15 }
set_option maxRecDepth 100000 in
set_option maxHeartbeats 4000000 in
theorem tX1_weight {l : Launch} {G : zG} (hst : l.stackTraces = false) {h : zH} {a0 : Nat} {a1 : Int32} {r : Int32 × zH} (hf : fX1_weight h a0 a1 = some r) : zMet l G yX1_weight (.code yX1_weight cX1_weight 6 (some .int)) rm_X1_weight 0 0 [.ref a0, .int a1] h (zoi r) := by
  unfold fX1_weight at hf
  obtain ⟨-, hf⟩ := zck hf
  refine z_enter (by decide) (Nat.le_of_ble_eq_true rfl) hst (fun x hx B hE => ?_)
  subst hx
  have B : zB G x cX1_weight 6 RX1 "weight" rm_X1_weight (some .int) := B
  show zV G x 6 (zQ G x (zoi r) 0 0) h 0 0 0 [(0, .ref a0), (1, .int a1)] []
  refine z_iload_n B dX1_weight_0 rfl 1 rfl ?_
  refine z_aload_n B dX1_weight_1 rfl 0 rfl ?_
  obtain ⟨w1, ew1, hf⟩ := zbs hf
  refine z_gI B fl_RX1_35 ew1 rfl dX1_weight_2 ?_
  refine z_isub B dX1_weight_5 ?_
  refine z_iconst (v := 1) B dX1_weight_6 (by decide) ?_
  refine z_iadd B dX1_weight_7 ?_
  refine z_i2l B dX1_weight_8 ?_
  refine z_lstore_n (lv' := [(2, .long (((((a1 : Int32) - w1) : Int32) + 1) : Int32).toInt64), (0, .ref a0), (1, .int a1)]) B dX1_weight_9 rfl (by decide) rfl ?_
  refine z_aload_n B dX1_weight_10 rfl 1 rfl ?_
  obtain ⟨w2, ew2, hf⟩ := zbs hf
  refine z_gI B fl_RX1_25 ew2 rfl dX1_weight_11 ?_
  refine z_i2l B dX1_weight_14 ?_
  refine z_lload_n B dX1_weight_15 rfl 0 rfl ?_
  refine z_lmul B dX1_weight_16 ?_
  refine z_iconst (v := 1) B dX1_weight_17 (by decide) ?_
  refine z_aload_n B dX1_weight_18 rfl 1 rfl ?_
  obtain ⟨w3, ew3, hf⟩ := zbs hf
  refine z_gI B fl_RX1_32 ew3 rfl dX1_weight_19 ?_
  refine z_iconst (v := 1) B dX1_weight_22 (by decide) ?_
  refine z_iadd B dX1_weight_23 ?_
  refine z_max B mm_RX1_58 kw_max1 kw_m kw_max2 dX1_weight_24 (Nat.le_of_ble_eq_true rfl) (Nat.le_of_ble_eq_true rfl) (Nat.le_of_ble_eq_true rfl) (Nat.le_of_ble_eq_true rfl) ?_
  refine z_i2l B dX1_weight_27 ?_
  rcases zite hf with ⟨c5, hf⟩ | ⟨c5, hf⟩
  · cases hf
  refine z_ldiv B dX1_weight_28 c5 ?_
  refine z_lstore (lv' := [(4, .long (((((w2 : Int32).toInt64 : Int64) * (((((a1 : Int32) - w1) : Int32) + 1) : Int32).toInt64) : Int64) / ((if (1 : Int32) < ((w3 : Int32) + 1) then ((w3 : Int32) + 1) else 1) : Int32).toInt64)), (2, .long (((((a1 : Int32) - w1) : Int32) + 1) : Int32).toInt64), (0, .ref a0), (1, .int a1)]) B dX1_weight_29 (by decide) rfl ?_
  refine z_lload B dX1_weight_31 0 rfl ?_
  refine z_ldc2 B dX1_weight_33 kl_RX1_64 ?_
  refine z_lcmp B dX1_weight_36 ?_
  rcases zite hf with ⟨c4, hf⟩ | ⟨c4, hf⟩
  · refine z_if_le B 45 dX1_weight_37 (by decide) (fun _ => ?_) (fun e => absurd c4 e)
    refine z_lload B dX1_weight_45 0 rfl ?_
    refine z_l2i B dX1_weight_47 ?_
    cases hf
    exact z_iret B dX1_weight_48 (Nat.le_of_ble_eq_true rfl) (Nat.le_of_ble_eq_true rfl)
  refine z_if_le B 45 dX1_weight_37 (by decide) (fun e => absurd e c4) (fun _ => ?_)
  refine z_ldc B dX1_weight_40 kc_RX1_66 ?_
  refine z_goto B 48 dX1_weight_42 (by decide) ?_
  cases hf
  exact z_iret B dX1_weight_48 (Nat.le_of_ble_eq_true rfl) (Nat.le_of_ble_eq_true rfl)
abbrev rm_X6_entry : Room := { frames := 7, cells := 2, slots := 12, locals := 103 }
set_option maxRecDepth 100000 in
set_option maxHeartbeats 4000000 in
theorem tX6_entry {l : Launch} {G : zG} (hst : l.stackTraces = false) {h : zH} {a0 : Nat} {a1 : Int32} {a2 : Int32} {r : (Int32 ⊕ String) × zH} (hf : fX6_entry h a0 a1 a2 = some r) : zMet l G yX6_entry (.code yX6_entry cX6_entry 4 (some .int)) rm_X6_entry 2 12 [.ref a0, .int a1, .int a2] h (zoxi r) := by
  unfold fX6_entry at hf
  obtain ⟨-, hf⟩ := zck hf
  refine z_enter (by decide) (Nat.le_of_ble_eq_true rfl) hst (fun x hx B hE => ?_)
  subst hx
  have B : zB G x cX6_entry 4 RX6 "entry" rm_X6_entry (some .int) := B
  show zV G x 4 (zQ G x (zoxi r) 2 12) h 0 0 0 [(0, .ref a0), (1, .int a1), (2, .int a2)] []
  refine z_aload_n B dX6_entry_0 rfl 0 rfl ?_
  refine z_iload_n B dX6_entry_1 rfl 1 rfl ?_
  rcases zb4s hf with ⟨E2, h1, eh1, rfl⟩ | ⟨h1, eh1, hf⟩
  · exact z_callVX B hE [.int a1] [] cw_X6_requireEntry mv_RX6_156 (tX6_requireEntry hst eh1) rfl (by decide) (kfX6_requireEntry eh1) ⟨rfl, rfl, (Nat.le_of_ble_eq_true rfl), (Nat.le_of_ble_eq_true rfl), (Nat.le_of_ble_eq_true rfl), (Nat.le_of_ble_eq_true rfl)⟩ rfl rfl (Nat.le_of_ble_eq_true rfl) dX6_entry_2 (Nat.le_of_ble_eq_true rfl) (Nat.le_of_ble_eq_true rfl)
  refine z_callVv B [.int a1] [] cw_X6_requireEntry mv_RX6_156 (tX6_requireEntry hst eh1) rfl (by decide) (kfX6_requireEntry eh1) ⟨rfl, rfl, (Nat.le_of_ble_eq_true rfl), (Nat.le_of_ble_eq_true rfl), (Nat.le_of_ble_eq_true rfl), (Nat.le_of_ble_eq_true rfl)⟩ rfl rfl (Nat.le_of_ble_eq_true rfl) dX6_entry_2 ?_
  refine z_aload_n B dX6_entry_5 rfl 0 rfl ?_
  obtain ⟨w3, ew3, hf⟩ := zbs hf
  refine z_gP B fl_RX6_36 ew3 rfl dX6_entry_6 ?_
  obtain ⟨w4, ew4, hf⟩ := zbs hf
  refine z_gPR B fr_RX6_159 ew4 rfl dX6_entry_9 ?_
  refine z_iload_n B dX6_entry_12 rfl 1 rfl ?_
  obtain ⟨w5, ew5, hf⟩ := zbs hf
  refine z_aP B ew5 dX6_entry_13 ?_
  refine z_astore_n (lv' := [(3, .ref w5), (0, .ref a0), (1, .int a1), (2, .int a2)]) B dX6_entry_14 rfl (by decide) rfl ?_
  refine z_iload_n B dX6_entry_15 rfl 3 rfl ?_
  rcases zite hf with ⟨c6, hf⟩ | ⟨c6, hf⟩
  · refine z_tabIn B 0 60 dX6_entry_16 c6 (by decide) (by decide) rfl (by decide) ?_
    refine z_aload_n B dX6_entry_60 rfl 0 rfl ?_
    obtain ⟨w7, ew7, hf⟩ := zbs hf
    refine z_gI B fl_RX6_163 ew7 rfl dX6_entry_61 ?_
    cases hf
    exact z_iret B dX6_entry_64 (Nat.le_of_ble_eq_true rfl) (Nat.le_of_ble_eq_true rfl)
  rcases zite hf with ⟨c8, hf⟩ | ⟨c8, hf⟩
  · refine z_tabIn B 1 65 dX6_entry_16 c8 (by decide) (by decide) rfl (by decide) ?_
    refine z_aload_n B dX6_entry_65 rfl 0 rfl ?_
    obtain ⟨w9, ew9, hf⟩ := zbs hf
    refine z_gI B fl_RX6_168 ew9 rfl dX6_entry_66 ?_
    cases hf
    exact z_iret B dX6_entry_69 (Nat.le_of_ble_eq_true rfl) (Nat.le_of_ble_eq_true rfl)
  rcases zite hf with ⟨c10, hf⟩ | ⟨c10, hf⟩
  · refine z_tabIn B 2 70 dX6_entry_16 c10 (by decide) (by decide) rfl (by decide) ?_
    refine z_aload_n B dX6_entry_70 rfl 0 rfl ?_
    obtain ⟨w11, ew11, hf⟩ := zbs hf
    refine z_gI B fl_RX6_171 ew11 rfl dX6_entry_71 ?_
    cases hf
    exact z_iret B dX6_entry_74 (Nat.le_of_ble_eq_true rfl) (Nat.le_of_ble_eq_true rfl)
  rcases zite hf with ⟨c12, hf⟩ | ⟨c12, hf⟩
  · refine z_tabIn B 3 75 dX6_entry_16 c12 (by decide) (by decide) rfl (by decide) ?_
    refine z_aload_n B dX6_entry_75 rfl 0 rfl ?_
    obtain ⟨w13, ew13, hf⟩ := zbs hf
    refine z_gI B fl_RX6_174 ew13 rfl dX6_entry_76 ?_
    rcases zite hf with ⟨c14, hf⟩ | ⟨c14, hf⟩
    · refine z_if_eq B 86 dX6_entry_79 (by decide) (fun _ => ?_) (fun e => absurd c14 e)
      refine z_iconst (v := 0) B dX6_entry_86 (by decide) ?_
      cases hf
      exact z_iret B dX6_entry_87 (Nat.le_of_ble_eq_true rfl) (Nat.le_of_ble_eq_true rfl)
    refine z_if_eq B 86 dX6_entry_79 (by decide) (fun e => absurd e c14) (fun _ => ?_)
    refine z_iconst (v := 1) B dX6_entry_82 (by decide) ?_
    refine z_goto B 87 dX6_entry_83 (by decide) ?_
    cases hf
    exact z_iret B dX6_entry_87 (Nat.le_of_ble_eq_true rfl) (Nat.le_of_ble_eq_true rfl)
  rcases zite hf with ⟨c15, hf⟩ | ⟨c15, hf⟩
  · refine z_tabIn B 4 88 dX6_entry_16 c15 (by decide) (by decide) rfl (by decide) ?_
    refine z_aload_n B dX6_entry_88 rfl 0 rfl ?_
    obtain ⟨w16, ew16, hf⟩ := zbs hf
    refine z_gI B fl_RX6_178 ew16 rfl dX6_entry_89 ?_
    cases hf
    exact z_iret B dX6_entry_92 (Nat.le_of_ble_eq_true rfl) (Nat.le_of_ble_eq_true rfl)
  rcases zite hf with ⟨c17, hf⟩ | ⟨c17, hf⟩
  · refine z_tabIn B 5 93 dX6_entry_16 c17 (by decide) (by decide) rfl (by decide) ?_
    refine z_aload_n B dX6_entry_93 rfl 0 rfl ?_
    obtain ⟨w18, ew18, hf⟩ := zbs hf
    refine z_gI B fl_RX6_181 ew18 rfl dX6_entry_94 ?_
    cases hf
    exact z_iret B dX6_entry_97 (Nat.le_of_ble_eq_true rfl) (Nat.le_of_ble_eq_true rfl)
  rcases zite hf with ⟨c19, hf⟩ | ⟨c19, hf⟩
  · refine z_tabIn B 6 98 dX6_entry_16 c19 (by decide) (by decide) rfl (by decide) ?_
    refine z_aload_n B dX6_entry_98 rfl 0 rfl ?_
    refine z_aload_n B dX6_entry_99 rfl 1 rfl ?_
    obtain ⟨w20, ew20, hf⟩ := zbs hf
    refine z_gP B fl_RX6_36 ew20 rfl dX6_entry_100 ?_
    obtain ⟨w21, ew21, hf⟩ := zbs hf
    refine z_gI B fl_RX6_116 ew21 rfl dX6_entry_103 ?_
    obtain ⟨w22, h23, ew22, hf⟩ := zb2s hf
    refine z_callVi B [.int w21] [] cw_X1_weight mv_RX6_184 (tX1_weight hst ew22) rfl (by decide) (kfX1_weight ew22) ⟨rfl, rfl, (Nat.le_of_ble_eq_true rfl), (Nat.le_of_ble_eq_true rfl), (Nat.le_of_ble_eq_true rfl), (Nat.le_of_ble_eq_true rfl)⟩ rfl rfl (Nat.le_of_ble_eq_true rfl) dX6_entry_106 ?_
    cases hf
    exact z_iret B dX6_entry_109 (Nat.le_of_ble_eq_true rfl) (Nat.le_of_ble_eq_true rfl)
  refine z_tabOut B 110 dX6_entry_16 (z_outL 0 7 (by decide) (fun j hj0 hj => by rcases (show j = 0 ∨ j = 1 ∨ j = 2 ∨ j = 3 ∨ j = 4 ∨ j = 5 ∨ j = 6 by omega) with rfl | rfl | rfl | rfl | rfl | rfl | rfl <;> assumption)) (by decide) ?_
  cases hf
  exact z_throw B hE rfl th_RX6_67_71 sl_188 dX6_entry_110 dX6_entry_113 dX6_entry_114 dX6_entry_116 dX6_entry_119 (Nat.le_of_ble_eq_true rfl) (Nat.le_of_ble_eq_true rfl) (Nat.le_of_ble_eq_true rfl) (Nat.le_of_ble_eq_true rfl) (Nat.le_of_ble_eq_true rfl) (Nat.le_of_ble_eq_true rfl)
abbrev rm_X6_requireFormat : Room := { frames := 6, cells := 1, slots := 6, locals := 82 }
set_option maxRecDepth 100000 in
set_option maxHeartbeats 4000000 in
theorem tX6_requireFormat {l : Launch} {G : zG} (hst : l.stackTraces = false) {h : zH} {a0 : Nat} {a1 : Int32} {r : Option String × zH} (hf : fX6_requireFormat h a0 a1 = some r) : zMet l G yX6_requireFormat (.code yX6_requireFormat cX6_requireFormat 2 none) rm_X6_requireFormat 1 6 [.ref a0, .int a1] h (zoxv r) := by
  unfold fX6_requireFormat at hf
  obtain ⟨-, hf⟩ := zck hf
  refine z_enter (by decide) (Nat.le_of_ble_eq_true rfl) hst (fun x hx B hE => ?_)
  subst hx
  have B : zB G x cX6_requireFormat 2 RX6 "requireFormat" rm_X6_requireFormat none := B
  show zV G x 2 (zQ G x (zoxv r) 1 6) h 0 0 0 [(0, .ref a0), (1, .int a1)] []
  refine z_aload_n B dX6_requireFormat_0 rfl 0 rfl ?_
  obtain ⟨w1, ew1, hf⟩ := zbs hf
  refine z_gP B fl_RX6_57 ew1 rfl dX6_requireFormat_1 ?_
  refine z_iload_n B dX6_requireFormat_4 rfl 1 rfl ?_
  obtain ⟨w2, h3, ew2, hf⟩ := zb2s hf
  refine z_callVi B [.int a1] [] cw_X0_hasFormat mv_RX6_384 (tX0_hasFormat hst ew2) rfl (by decide) (kfX0_hasFormat ew2) ⟨rfl, rfl, (Nat.le_of_ble_eq_true rfl), (Nat.le_of_ble_eq_true rfl), (Nat.le_of_ble_eq_true rfl), (Nat.le_of_ble_eq_true rfl)⟩ rfl rfl (Nat.le_of_ble_eq_true rfl) dX6_requireFormat_5 ?_
  rcases zite hf with ⟨c4, hf⟩ | ⟨c4, hf⟩
  · refine z_if_ne B 22 dX6_requireFormat_8 (by decide) (fun e => absurd c4 e) (fun _ => ?_)
    cases hf
    exact z_throwW B hE rfl th_RX6_337_341 sl_387 dX6_requireFormat_11 dX6_requireFormat_14 dX6_requireFormat_15 dX6_requireFormat_18 dX6_requireFormat_21 (Nat.le_of_ble_eq_true rfl) (Nat.le_of_ble_eq_true rfl) (Nat.le_of_ble_eq_true rfl) (Nat.le_of_ble_eq_true rfl) (Nat.le_of_ble_eq_true rfl) (Nat.le_of_ble_eq_true rfl)
  refine z_if_ne B 22 dX6_requireFormat_8 (by decide) (fun _ => ?_) (fun e => absurd e c4)
  cases hf
  exact z_vret B dX6_requireFormat_22 (Nat.le_of_ble_eq_true rfl) (Nat.le_of_ble_eq_true rfl)
abbrev rm_X1_holds : Room := { frames := 0, cells := 0, slots := 0, locals := 0 }
set_option maxRecDepth 100000 in
set_option maxHeartbeats 4000000 in
theorem tX1_holds {l : Launch} {G : zG} (hst : l.stackTraces = false) {h : zH} {a0 : Nat} {a1 : Int32} {r : Int32 × zH} (hf : fX1_holds h a0 a1 = some r) : zMet l G yX1_holds (.code yX1_holds cX1_holds 2 (some .boolean)) rm_X1_holds 0 0 [.ref a0, .int a1] h (zoi r) := by
  unfold fX1_holds at hf
  obtain ⟨-, hf⟩ := zck hf
  refine z_enter (by decide) (Nat.le_of_ble_eq_true rfl) hst (fun x hx B hE => ?_)
  subst hx
  have B : zB G x cX1_holds 2 RX1 "holds" rm_X1_holds (some .boolean) := B
  show zV G x 2 (zQ G x (zoi r) 0 0) h 0 0 0 [(0, .ref a0), (1, .int a1)] []
  refine z_iload_n B dX1_holds_0 rfl 1 rfl ?_
  rcases zite hf with ⟨c1, hf⟩ | ⟨c1, hf⟩
  · refine z_if_lt B 26 dX1_holds_1 (by decide) (fun _ => ?_) (fun e => absurd c1 e)
    refine z_iconst (v := 0) B dX1_holds_26 (by decide) ?_
    cases hf
    exact z_zret B dX1_holds_27 (Or.inl rfl) (Nat.le_of_ble_eq_true rfl) (Nat.le_of_ble_eq_true rfl)
  refine z_if_lt B 26 dX1_holds_1 (by decide) (fun e => absurd e c1) (fun _ => ?_)
  refine z_iload_n B dX1_holds_4 rfl 1 rfl ?_
  refine z_bipush (v := 8) B dX1_holds_5 (by decide) ?_
  rcases zite hf with ⟨c2, hf⟩ | ⟨c2, hf⟩
  · refine z_icmp_ge B 26 dX1_holds_7 (by decide) (fun _ => ?_) (fun e => absurd c2 e)
    refine z_iconst (v := 0) B dX1_holds_26 (by decide) ?_
    cases hf
    exact z_zret B dX1_holds_27 (Or.inl rfl) (Nat.le_of_ble_eq_true rfl) (Nat.le_of_ble_eq_true rfl)
  refine z_icmp_ge B 26 dX1_holds_7 (by decide) (fun e => absurd e c2) (fun _ => ?_)
  refine z_aload_n B dX1_holds_10 rfl 0 rfl ?_
  obtain ⟨w3, ew3, hf⟩ := zbs hf
  refine z_gI B fl_RX1_18 ew3 rfl dX1_holds_11 ?_
  refine z_iload_n B dX1_holds_14 rfl 1 rfl ?_
  refine z_ishr B dX1_holds_15 ?_
  refine z_iconst (v := 1) B dX1_holds_16 (by decide) ?_
  refine z_iand B dX1_holds_17 ?_
  refine z_iconst (v := 1) B dX1_holds_18 (by decide) ?_
  rcases zite hf with ⟨c4, hf⟩ | ⟨c4, hf⟩
  · refine z_icmp_ne B 26 dX1_holds_19 (by decide) (fun e => absurd c4 e) (fun _ => ?_)
    refine z_iconst (v := 1) B dX1_holds_22 (by decide) ?_
    refine z_goto B 27 dX1_holds_23 (by decide) ?_
    cases hf
    exact z_zret B dX1_holds_27 (Or.inr rfl) (Nat.le_of_ble_eq_true rfl) (Nat.le_of_ble_eq_true rfl)
  refine z_icmp_ne B 26 dX1_holds_19 (by decide) (fun _ => ?_) (fun e => absurd e c4)
  refine z_iconst (v := 0) B dX1_holds_26 (by decide) ?_
  cases hf
  exact z_zret B dX1_holds_27 (Or.inl rfl) (Nat.le_of_ble_eq_true rfl) (Nat.le_of_ble_eq_true rfl)
abbrev rm_X6_form : Room := { frames := 7, cells := 2, slots := 12, locals := 103 }
set_option maxRecDepth 100000 in
set_option maxHeartbeats 4000000 in
theorem tX6_form {l : Launch} {G : zG} (hst : l.stackTraces = false) {h : zH} {a0 : Nat} {a1 : Int32} {a2 : Int32} {a3 : Int32} {r : (Int32 ⊕ String) × zH} (hf : fX6_form h a0 a1 a2 a3 = some r) : zMet l G yX6_form (.code yX6_form cX6_form 5 (some .int)) rm_X6_form 2 12 [.ref a0, .int a1, .int a2, .int a3] h (zoxi r) := by
  unfold fX6_form at hf
  obtain ⟨-, hf⟩ := zck hf
  refine z_enter (by decide) (Nat.le_of_ble_eq_true rfl) hst (fun x hx B hE => ?_)
  subst hx
  have B : zB G x cX6_form 5 RX6 "form" rm_X6_form (some .int) := B
  show zV G x 5 (zQ G x (zoxi r) 2 12) h 0 0 0 [(0, .ref a0), (1, .int a1), (2, .int a2), (3, .int a3)] []
  refine z_aload_n B dX6_form_0 rfl 0 rfl ?_
  refine z_iload_n B dX6_form_1 rfl 1 rfl ?_
  rcases zb4s hf with ⟨E2, h1, eh1, rfl⟩ | ⟨h1, eh1, hf⟩
  · exact z_callVX B hE [.int a1] [] cw_X6_requireEntry mv_RX6_156 (tX6_requireEntry hst eh1) rfl (by decide) (kfX6_requireEntry eh1) ⟨rfl, rfl, (Nat.le_of_ble_eq_true rfl), (Nat.le_of_ble_eq_true rfl), (Nat.le_of_ble_eq_true rfl), (Nat.le_of_ble_eq_true rfl)⟩ rfl rfl (Nat.le_of_ble_eq_true rfl) dX6_form_2 (Nat.le_of_ble_eq_true rfl) (Nat.le_of_ble_eq_true rfl)
  refine z_callVv B [.int a1] [] cw_X6_requireEntry mv_RX6_156 (tX6_requireEntry hst eh1) rfl (by decide) (kfX6_requireEntry eh1) ⟨rfl, rfl, (Nat.le_of_ble_eq_true rfl), (Nat.le_of_ble_eq_true rfl), (Nat.le_of_ble_eq_true rfl), (Nat.le_of_ble_eq_true rfl)⟩ rfl rfl (Nat.le_of_ble_eq_true rfl) dX6_form_2 ?_
  refine z_aload_n B dX6_form_5 rfl 0 rfl ?_
  refine z_iload_n B dX6_form_6 rfl 2 rfl ?_
  rcases zb4s hf with ⟨E4, h3, eh3, rfl⟩ | ⟨h3, eh3, hf⟩
  · exact z_callVX B hE [.int a2] [] cw_X6_requireFormat mv_RX6_190 (tX6_requireFormat hst eh3) rfl (by decide) (kfX6_requireFormat eh3) ⟨rfl, rfl, (Nat.le_of_ble_eq_true rfl), (Nat.le_of_ble_eq_true rfl), (Nat.le_of_ble_eq_true rfl), (Nat.le_of_ble_eq_true rfl)⟩ rfl rfl (Nat.le_of_ble_eq_true rfl) dX6_form_7 (Nat.le_of_ble_eq_true rfl) (Nat.le_of_ble_eq_true rfl)
  refine z_callVv B [.int a2] [] cw_X6_requireFormat mv_RX6_190 (tX6_requireFormat hst eh3) rfl (by decide) (kfX6_requireFormat eh3) ⟨rfl, rfl, (Nat.le_of_ble_eq_true rfl), (Nat.le_of_ble_eq_true rfl), (Nat.le_of_ble_eq_true rfl), (Nat.le_of_ble_eq_true rfl)⟩ rfl rfl (Nat.le_of_ble_eq_true rfl) dX6_form_7 ?_
  refine z_aload_n B dX6_form_10 rfl 0 rfl ?_
  obtain ⟨w5, ew5, hf⟩ := zbs hf
  refine z_gP B fl_RX6_36 ew5 rfl dX6_form_11 ?_
  obtain ⟨w6, ew6, hf⟩ := zbs hf
  refine z_gPR B fr_RX6_159 ew6 rfl dX6_form_14 ?_
  refine z_iload_n B dX6_form_17 rfl 1 rfl ?_
  obtain ⟨w7, ew7, hf⟩ := zbs hf
  refine z_aP B ew7 dX6_form_18 ?_
  refine z_astore (lv' := [(4, .ref w7), (0, .ref a0), (1, .int a1), (2, .int a2), (3, .int a3)]) B dX6_form_19 (by decide) rfl ?_
  refine z_aload B dX6_form_21 0 rfl ?_
  refine z_iload_n B dX6_form_23 rfl 3 rfl ?_
  obtain ⟨w8, h9, ew8, hf⟩ := zb2s hf
  refine z_callVi B [.int a2] [] cw_X1_holds mv_RX6_193 (tX1_holds hst ew8) rfl (by decide) (kfX1_holds ew8) ⟨rfl, rfl, (Nat.le_of_ble_eq_true rfl), (Nat.le_of_ble_eq_true rfl), (Nat.le_of_ble_eq_true rfl), (Nat.le_of_ble_eq_true rfl)⟩ rfl rfl (Nat.le_of_ble_eq_true rfl) dX6_form_24 ?_
  rcases zite hf with ⟨c10, hf⟩ | ⟨c10, hf⟩
  · refine z_if_ne B 33 dX6_form_27 (by decide) (fun e => absurd c10 e) (fun _ => ?_)
    refine z_bipush (v := (-9)) B dX6_form_30 (by decide) ?_
    cases hf
    exact z_iret B dX6_form_32 (Nat.le_of_ble_eq_true rfl) (Nat.le_of_ble_eq_true rfl)
  refine z_if_ne B 33 dX6_form_27 (by decide) (fun _ => ?_) (fun e => absurd e c10)
  refine z_iload_n B dX6_form_33 rfl 4 rfl ?_
  rcases zite hf with ⟨c11, hf⟩ | ⟨c11, hf⟩
  · refine z_if_eq B 47 dX6_form_34 (by decide) (fun _ => ?_) (fun e => absurd c11 e)
    refine z_aload B dX6_form_47 0 rfl ?_
    obtain ⟨w12, ew12, hf⟩ := zbs hf
    refine z_gPR B fr_RX6_200 ew12 rfl dX6_form_49 ?_
    refine z_iload_n B dX6_form_52 rfl 3 rfl ?_
    obtain ⟨w13, ew13, hf⟩ := zbs hf
    refine z_aI B ew13 dX6_form_53 ?_
    cases hf
    exact z_iret B dX6_form_54 (Nat.le_of_ble_eq_true rfl) (Nat.le_of_ble_eq_true rfl)
  refine z_if_eq B 47 dX6_form_34 (by decide) (fun e => absurd e c11) (fun _ => ?_)
  refine z_aload B dX6_form_37 0 rfl ?_
  obtain ⟨w14, ew14, hf⟩ := zbs hf
  refine z_gPR B fr_RX6_197 ew14 rfl dX6_form_39 ?_
  refine z_iload_n B dX6_form_42 rfl 3 rfl ?_
  obtain ⟨w15, ew15, hf⟩ := zbs hf
  refine z_aI B ew15 dX6_form_43 ?_
  refine z_goto B 54 dX6_form_44 (by decide) ?_
  cases hf
  exact z_iret B dX6_form_54 (Nat.le_of_ble_eq_true rfl) (Nat.le_of_ble_eq_true rfl)
abbrev rm_X6_isNewSize : Room := { frames := 0, cells := 0, slots := 0, locals := 0 }
set_option maxRecDepth 100000 in
set_option maxHeartbeats 4000000 in
theorem tX6_isNewSize {l : Launch} {G : zG} (hst : l.stackTraces = false) {h : zH} {a0 : Int32} {r : Int32 × zH} (hf : fX6_isNewSize h a0 = some r) : zMet l G yX6_isNewSize (.code yX6_isNewSize cX6_isNewSize 1 (some .boolean)) rm_X6_isNewSize 0 0 [.int a0] h (zoi r) := by
  unfold fX6_isNewSize at hf
  refine z_enter (by decide) (Nat.le_of_ble_eq_true rfl) hst (fun x hx B hE => ?_)
  subst hx
  have B : zB G x cX6_isNewSize 1 RX6 "isNewSize" rm_X6_isNewSize (some .boolean) := B
  show zV G x 1 (zQ G x (zoi r) 0 0) h 0 0 0 [(0, .int a0)] []
  refine z_iload_n B dX6_isNewSize_0 rfl 0 rfl ?_
  refine z_iconst (v := 1) B dX6_isNewSize_1 (by decide) ?_
  rcases zite hf with ⟨c1, hf⟩ | ⟨c1, hf⟩
  · refine z_icmp_lt B 16 dX6_isNewSize_2 (by decide) (fun _ => ?_) (fun e => absurd c1 e)
    refine z_iconst (v := 0) B dX6_isNewSize_16 (by decide) ?_
    cases hf
    exact z_zret B dX6_isNewSize_17 (Or.inl rfl) (Nat.le_of_ble_eq_true rfl) (Nat.le_of_ble_eq_true rfl)
  refine z_icmp_lt B 16 dX6_isNewSize_2 (by decide) (fun e => absurd e c1) (fun _ => ?_)
  refine z_iload_n B dX6_isNewSize_5 rfl 0 rfl ?_
  refine z_sipush (v := 9999) B dX6_isNewSize_6 (by decide) ?_
  rcases zite hf with ⟨c2, hf⟩ | ⟨c2, hf⟩
  · refine z_icmp_gt B 16 dX6_isNewSize_9 (by decide) (fun _ => ?_) (fun e => absurd c2 e)
    refine z_iconst (v := 0) B dX6_isNewSize_16 (by decide) ?_
    cases hf
    exact z_zret B dX6_isNewSize_17 (Or.inl rfl) (Nat.le_of_ble_eq_true rfl) (Nat.le_of_ble_eq_true rfl)
  refine z_icmp_gt B 16 dX6_isNewSize_9 (by decide) (fun e => absurd e c2) (fun _ => ?_)
  refine z_iconst (v := 1) B dX6_isNewSize_12 (by decide) ?_
  refine z_goto B 17 dX6_isNewSize_13 (by decide) ?_
  cases hf
  exact z_zret B dX6_isNewSize_17 (Or.inr rfl) (Nat.le_of_ble_eq_true rfl) (Nat.le_of_ble_eq_true rfl)
abbrev rm_X6_requireNewSize : Room := { frames := 6, cells := 1, slots := 6, locals := 82 }
set_option maxRecDepth 100000 in
set_option maxHeartbeats 4000000 in
theorem tX6_requireNewSize {l : Launch} {G : zG} (hst : l.stackTraces = false) {h : zH} {a0 : Int32} {r : Option String × zH} (hf : fX6_requireNewSize h a0 = some r) : zMet l G yX6_requireNewSize (.code yX6_requireNewSize cX6_requireNewSize 1 none) rm_X6_requireNewSize 1 6 [.int a0] h (zoxv r) := by
  unfold fX6_requireNewSize at hf
  refine z_enter (by decide) (Nat.le_of_ble_eq_true rfl) hst (fun x hx B hE => ?_)
  subst hx
  have B : zB G x cX6_requireNewSize 1 RX6 "requireNewSize" rm_X6_requireNewSize none := B
  show zV G x 1 (zQ G x (zoxv r) 1 6) h 0 0 0 [(0, .int a0)] []
  refine z_iload_n B dX6_requireNewSize_0 rfl 0 rfl ?_
  obtain ⟨w1, h2, ew1, hf⟩ := zb2s hf
  refine z_callSi B [.int a0] [] cw_X6_isNewSize mt_RX6_403 (tX6_isNewSize hst ew1) ⟨rfl, rfl, (Nat.le_of_ble_eq_true rfl), (Nat.le_of_ble_eq_true rfl), (Nat.le_of_ble_eq_true rfl), (Nat.le_of_ble_eq_true rfl)⟩ rfl rfl (Nat.le_of_ble_eq_true rfl) dX6_requireNewSize_1 ?_
  rcases zite hf with ⟨c3, hf⟩ | ⟨c3, hf⟩
  · refine z_if_ne B 18 dX6_requireNewSize_4 (by decide) (fun e => absurd c3 e) (fun _ => ?_)
    cases hf
    exact z_throwW B hE rfl th_RX6_67_71 sl_406 dX6_requireNewSize_7 dX6_requireNewSize_10 dX6_requireNewSize_11 dX6_requireNewSize_14 dX6_requireNewSize_17 (Nat.le_of_ble_eq_true rfl) (Nat.le_of_ble_eq_true rfl) (Nat.le_of_ble_eq_true rfl) (Nat.le_of_ble_eq_true rfl) (Nat.le_of_ble_eq_true rfl) (Nat.le_of_ble_eq_true rfl)
  refine z_if_ne B 18 dX6_requireNewSize_4 (by decide) (fun _ => ?_) (fun e => absurd e c3)
  cases hf
  exact z_vret B dX6_requireNewSize_18 (Nat.le_of_ble_eq_true rfl) (Nat.le_of_ble_eq_true rfl)
abbrev rm_X3_isFull : Room := { frames := 0, cells := 0, slots := 0, locals := 0 }
set_option maxRecDepth 100000 in
set_option maxHeartbeats 4000000 in
theorem tX3_isFull {l : Launch} {G : zG} (hst : l.stackTraces = false) {h : zH} {a0 : Nat} {r : Int32 × zH} (hf : fX3_isFull h a0 = some r) : zMet l G yX3_isFull (.code yX3_isFull cX3_isFull 1 (some .boolean)) rm_X3_isFull 0 0 [.ref a0] h (zoi r) := by
  unfold fX3_isFull at hf
  obtain ⟨-, hf⟩ := zck hf
  refine z_enter (by decide) (Nat.le_of_ble_eq_true rfl) hst (fun x hx B hE => ?_)
  subst hx
  have B : zB G x cX3_isFull 1 RX3 "isFull" rm_X3_isFull (some .boolean) := B
  show zV G x 1 (zQ G x (zoi r) 0 0) h 0 0 0 [(0, .ref a0)] []
  refine z_aload_n B dX3_isFull_0 rfl 0 rfl ?_
  obtain ⟨w1, ew1, hf⟩ := zbs hf
  refine z_gI B fl_RX3_22 ew1 rfl dX3_isFull_1 ?_
  refine z_bipush (v := 12) B dX3_isFull_4 (by decide) ?_
  rcases zite hf with ⟨c2, hf⟩ | ⟨c2, hf⟩
  · refine z_icmp_lt B 13 dX3_isFull_6 (by decide) (fun _ => ?_) (fun e => absurd c2 e)
    refine z_iconst (v := 0) B dX3_isFull_13 (by decide) ?_
    cases hf
    exact z_zret B dX3_isFull_14 (Or.inl rfl) (Nat.le_of_ble_eq_true rfl) (Nat.le_of_ble_eq_true rfl)
  refine z_icmp_lt B 13 dX3_isFull_6 (by decide) (fun e => absurd e c2) (fun _ => ?_)
  refine z_iconst (v := 1) B dX3_isFull_9 (by decide) ?_
  refine z_goto B 14 dX3_isFull_10 (by decide) ?_
  cases hf
  exact z_zret B dX3_isFull_14 (Or.inr rfl) (Nat.le_of_ble_eq_true rfl) (Nat.le_of_ble_eq_true rfl)
abbrev rm_X3_pinnedCount : Room := { frames := 0, cells := 0, slots := 0, locals := 0 }
set_option maxRecDepth 100000 in
set_option maxHeartbeats 4000000 in
theorem fX3_pinnedCount_L4_ok {G : zG} {x : zX} (B : zB G x cX3_pinnedCount 3 RX3 "pinnedCount" rm_X3_pinnedCount (some .int)) (hst : (zl x).stackTraces = false) (hE : ∀ e ∈ (zc x).exceptionTable.toList, False) {r : Int32 × zH} {k : zH → Int32 → Int32 → Option (Int32 × zH)} {u0 : Nat} (hk : ∀ h v1 v2, k h v1 v2 = some r → zV G x 3 (zQ G x (zoi r) 0 0) h 0 0 33 [(0, .ref u0), (1, .int v1), (2, .int v2)] []) : ∀ n h v1 v2, fX3_pinnedCount_L4 k u0 n h v1 v2 = some r → zV G x 3 (zQ G x (zoi r) 0 0) h 0 0 4 [(0, .ref u0), (1, .int v1), (2, .int v2)] [] := by
  intro n
  induction n with
  | zero =>
    intro h v1 v2 hf
    have hf : (none : Option (Int32 × zH)) = some r := hf
    cases hf
  | succ n ih =>
    intro h v1 v2 hf
    rw [fX3_pinnedCount_L4] at hf
    refine z_iload_n B dX3_pinnedCount_4 rfl 2 rfl ?_
    refine z_aload_n B dX3_pinnedCount_5 rfl 0 rfl ?_
    obtain ⟨w1, ew1, hf⟩ := zbs hf
    refine z_gI B fl_RX3_22 ew1 rfl dX3_pinnedCount_6 ?_
    rcases zite hf with ⟨c2, hf⟩ | ⟨c2, hf⟩
    · refine z_icmp_ge B 33 dX3_pinnedCount_9 (by decide) (fun _ => ?_) (fun e => absurd c2 e)
      exact hk _ _ _ hf
    refine z_icmp_ge B 33 dX3_pinnedCount_9 (by decide) (fun e => absurd e c2) (fun _ => ?_)
    refine z_aload_n B dX3_pinnedCount_12 rfl 0 rfl ?_
    obtain ⟨w3, ew3, hf⟩ := zbs hf
    refine z_gP B fl_RX3_11 ew3 rfl dX3_pinnedCount_13 ?_
    refine z_iload_n B dX3_pinnedCount_16 rfl 2 rfl ?_
    obtain ⟨w4, ew4, hf⟩ := zbs hf
    refine z_aP B ew4 dX3_pinnedCount_17 ?_
    obtain ⟨w5, ew5, hf⟩ := zbs hf
    refine z_gI B fl_RX3_54 ew5 rfl dX3_pinnedCount_18 ?_
    rcases zite hf with ⟨c6, hf⟩ | ⟨c6, hf⟩
    · refine z_if_eq B 27 dX3_pinnedCount_21 (by decide) (fun _ => ?_) (fun e => absurd c6 e)
      refine z_iinc (v' := (v2 + 1)) (lv' := [(2, .int (v2 + 1)), (0, .ref u0), (1, .int v1)]) B dX3_pinnedCount_27 2 rfl rfl (by decide) rfl ?_
      refine z_goto B 4 dX3_pinnedCount_30 (by decide) ?_
      refine zV.sub [1, 2, 0] rfl ?_
      exact ih _ _ _ hf
    refine z_if_eq B 27 dX3_pinnedCount_21 (by decide) (fun e => absurd e c6) (fun _ => ?_)
    refine z_iinc (v' := (v1 + 1)) (lv' := [(1, .int (v1 + 1)), (0, .ref u0), (2, .int v2)]) B dX3_pinnedCount_24 1 rfl rfl (by decide) rfl ?_
    refine z_iinc (v' := (v2 + 1)) (lv' := [(2, .int (v2 + 1)), (1, .int (v1 + 1)), (0, .ref u0)]) B dX3_pinnedCount_27 2 rfl rfl (by decide) rfl ?_
    refine z_goto B 4 dX3_pinnedCount_30 (by decide) ?_
    refine zV.sub [2, 1, 0] rfl ?_
    exact ih _ _ _ hf
set_option maxRecDepth 100000 in
set_option maxHeartbeats 4000000 in
theorem tX3_pinnedCount {l : Launch} {G : zG} (hst : l.stackTraces = false) {h : zH} {a0 : Nat} {r : Int32 × zH} (hf : fX3_pinnedCount h a0 = some r) : zMet l G yX3_pinnedCount (.code yX3_pinnedCount cX3_pinnedCount 3 (some .int)) rm_X3_pinnedCount 0 0 [.ref a0] h (zoi r) := by
  unfold fX3_pinnedCount at hf
  obtain ⟨-, hf⟩ := zck hf
  refine z_enter (by decide) (Nat.le_of_ble_eq_true rfl) hst (fun x hx B hE => ?_)
  subst hx
  have B : zB G x cX3_pinnedCount 3 RX3 "pinnedCount" rm_X3_pinnedCount (some .int) := B
  show zV G x 3 (zQ G x (zoi r) 0 0) h 0 0 0 [(0, .ref a0)] []
  refine z_iconst (v := 0) B dX3_pinnedCount_0 (by decide) ?_
  refine z_istore_n (lv' := [(1, .int 0), (0, .ref a0)]) B dX3_pinnedCount_1 rfl (by decide) rfl ?_
  refine z_iconst (v := 0) B dX3_pinnedCount_2 (by decide) ?_
  refine z_istore_n (lv' := [(2, .int 0), (1, .int 0), (0, .ref a0)]) B dX3_pinnedCount_3 rfl (by decide) rfl ?_
  refine zV.sub [2, 1, 0] rfl ?_
  refine fX3_pinnedCount_L4_ok B hst hE (fun h1 y2 y3 hf => ?_) _ _ _ _ hf
  refine z_iload_n B dX3_pinnedCount_33 rfl 1 rfl ?_
  cases hf
  exact z_iret B dX3_pinnedCount_34 (Nat.le_of_ble_eq_true rfl) (Nat.le_of_ble_eq_true rfl)
abbrev rm_X1_holdsDerived : Room := { frames := 0, cells := 0, slots := 0, locals := 0 }
set_option maxRecDepth 100000 in
set_option maxHeartbeats 4000000 in
theorem tX1_holdsDerived {l : Launch} {G : zG} (hst : l.stackTraces = false) {h : zH} {a0 : Nat} {a1 : Int32} {r : Int32 × zH} (hf : fX1_holdsDerived h a0 a1 = some r) : zMet l G yX1_holdsDerived (.code yX1_holdsDerived cX1_holdsDerived 2 (some .boolean)) rm_X1_holdsDerived 0 0 [.ref a0, .int a1] h (zoi r) := by
  unfold fX1_holdsDerived at hf
  obtain ⟨-, hf⟩ := zck hf
  refine z_enter (by decide) (Nat.le_of_ble_eq_true rfl) hst (fun x hx B hE => ?_)
  subst hx
  have B : zB G x cX1_holdsDerived 2 RX1 "holdsDerived" rm_X1_holdsDerived (some .boolean) := B
  show zV G x 2 (zQ G x (zoi r) 0 0) h 0 0 0 [(0, .ref a0), (1, .int a1)] []
  refine z_iload_n B dX1_holdsDerived_0 rfl 1 rfl ?_
  rcases zite hf with ⟨c1, hf⟩ | ⟨c1, hf⟩
  · refine z_if_lt B 26 dX1_holdsDerived_1 (by decide) (fun _ => ?_) (fun e => absurd c1 e)
    refine z_iconst (v := 0) B dX1_holdsDerived_26 (by decide) ?_
    cases hf
    exact z_zret B dX1_holdsDerived_27 (Or.inl rfl) (Nat.le_of_ble_eq_true rfl) (Nat.le_of_ble_eq_true rfl)
  refine z_if_lt B 26 dX1_holdsDerived_1 (by decide) (fun e => absurd e c1) (fun _ => ?_)
  refine z_iload_n B dX1_holdsDerived_4 rfl 1 rfl ?_
  refine z_bipush (v := 8) B dX1_holdsDerived_5 (by decide) ?_
  rcases zite hf with ⟨c2, hf⟩ | ⟨c2, hf⟩
  · refine z_icmp_ge B 26 dX1_holdsDerived_7 (by decide) (fun _ => ?_) (fun e => absurd c2 e)
    refine z_iconst (v := 0) B dX1_holdsDerived_26 (by decide) ?_
    cases hf
    exact z_zret B dX1_holdsDerived_27 (Or.inl rfl) (Nat.le_of_ble_eq_true rfl) (Nat.le_of_ble_eq_true rfl)
  refine z_icmp_ge B 26 dX1_holdsDerived_7 (by decide) (fun e => absurd e c2) (fun _ => ?_)
  refine z_aload_n B dX1_holdsDerived_10 rfl 0 rfl ?_
  obtain ⟨w3, ew3, hf⟩ := zbs hf
  refine z_gI B fl_RX1_22 ew3 rfl dX1_holdsDerived_11 ?_
  refine z_iload_n B dX1_holdsDerived_14 rfl 1 rfl ?_
  refine z_ishr B dX1_holdsDerived_15 ?_
  refine z_iconst (v := 1) B dX1_holdsDerived_16 (by decide) ?_
  refine z_iand B dX1_holdsDerived_17 ?_
  refine z_iconst (v := 1) B dX1_holdsDerived_18 (by decide) ?_
  rcases zite hf with ⟨c4, hf⟩ | ⟨c4, hf⟩
  · refine z_icmp_ne B 26 dX1_holdsDerived_19 (by decide) (fun e => absurd c4 e) (fun _ => ?_)
    refine z_iconst (v := 1) B dX1_holdsDerived_22 (by decide) ?_
    refine z_goto B 27 dX1_holdsDerived_23 (by decide) ?_
    cases hf
    exact z_zret B dX1_holdsDerived_27 (Or.inr rfl) (Nat.le_of_ble_eq_true rfl) (Nat.le_of_ble_eq_true rfl)
  refine z_icmp_ne B 26 dX1_holdsDerived_19 (by decide) (fun _ => ?_) (fun e => absurd e c4)
  refine z_iconst (v := 0) B dX1_holdsDerived_26 (by decide) ?_
  cases hf
  exact z_zret B dX1_holdsDerived_27 (Or.inl rfl) (Nat.le_of_ble_eq_true rfl) (Nat.le_of_ble_eq_true rfl)
abbrev rm_X1_originalSize : Room := { frames := 1, cells := 0, slots := 0, locals := 21 }
set_option maxRecDepth 100000 in
set_option maxHeartbeats 4000000 in
theorem fX1_originalSize_L7_ok {G : zG} {x : zX} (B : zB G x cX1_originalSize 3 RX1 "originalSize" rm_X1_originalSize (some .int)) (hst : (zl x).stackTraces = false) (hE : ∀ e ∈ (zc x).exceptionTable.toList, False) {r : Int32 × zH} {k : zH → Int32 → Int32 → Option (Int32 × zH)} {u0 : Nat} (hk : ∀ h v1 v2, k h v1 v2 = some r → zV G x 3 (zQ G x (zoi r) 0 0) h 0 0 36 [(0, .ref u0), (1, .int v1), (2, .int v2)] []) : ∀ n h v1 v2, fX1_originalSize_L7 k u0 n h v1 v2 = some r → zV G x 3 (zQ G x (zoi r) 0 0) h 0 0 7 [(0, .ref u0), (1, .int v1), (2, .int v2)] [] := by
  intro n
  induction n with
  | zero =>
    intro h v1 v2 hf
    have hf : (none : Option (Int32 × zH)) = some r := hf
    cases hf
  | succ n ih =>
    intro h v1 v2 hf
    rw [fX1_originalSize_L7] at hf
    refine z_iload_n B dX1_originalSize_7 rfl 2 rfl ?_
    refine z_bipush (v := 8) B dX1_originalSize_8 (by decide) ?_
    rcases zite hf with ⟨c1, hf⟩ | ⟨c1, hf⟩
    · refine z_icmp_ge B 36 dX1_originalSize_10 (by decide) (fun _ => ?_) (fun e => absurd c1 e)
      exact hk _ _ _ hf
    refine z_icmp_ge B 36 dX1_originalSize_10 (by decide) (fun e => absurd e c1) (fun _ => ?_)
    refine z_aload_n B dX1_originalSize_13 rfl 0 rfl ?_
    refine z_iload_n B dX1_originalSize_14 rfl 2 rfl ?_
    obtain ⟨w2, h3, ew2, hf⟩ := zb2s hf
    refine z_callVi B [.int v2] [] cw_X1_holdsDerived mv_RX1_55 (tX1_holdsDerived hst ew2) rfl (by decide) (kfX1_holdsDerived ew2) ⟨rfl, rfl, (Nat.le_of_ble_eq_true rfl), (Nat.le_of_ble_eq_true rfl), (Nat.le_of_ble_eq_true rfl), (Nat.le_of_ble_eq_true rfl)⟩ rfl rfl (Nat.le_of_ble_eq_true rfl) dX1_originalSize_15 ?_
    rcases zite hf with ⟨c4, hf⟩ | ⟨c4, hf⟩
    · refine z_if_eq B 30 dX1_originalSize_18 (by decide) (fun _ => ?_) (fun e => absurd c4 e)
      refine z_iinc (v' := (v2 + 1)) (lv' := [(2, .int (v2 + 1)), (0, .ref u0), (1, .int v1)]) B dX1_originalSize_30 2 rfl rfl (by decide) rfl ?_
      refine z_goto B 7 dX1_originalSize_33 (by decide) ?_
      refine zV.sub [1, 2, 0] rfl ?_
      exact ih _ _ _ hf
    refine z_if_eq B 30 dX1_originalSize_18 (by decide) (fun e => absurd e c4) (fun _ => ?_)
    refine z_iload_n B dX1_originalSize_21 rfl 1 rfl ?_
    refine z_aload_n B dX1_originalSize_22 rfl 0 rfl ?_
    obtain ⟨w5, ew5, hf⟩ := zbs hf
    refine z_gP B fl_RX1_9 ew5 rfl dX1_originalSize_23 ?_
    refine z_iload_n B dX1_originalSize_26 rfl 2 rfl ?_
    obtain ⟨w6, ew6, hf⟩ := zbs hf
    refine z_aI B ew6 dX1_originalSize_27 ?_
    refine z_isub B dX1_originalSize_28 ?_
    refine z_istore_n (lv' := [(1, .int ((v1 : Int32) - w6)), (0, .ref u0), (2, .int v2)]) B dX1_originalSize_29 rfl (by decide) rfl ?_
    refine z_iinc (v' := (v2 + 1)) (lv' := [(2, .int (v2 + 1)), (1, .int ((v1 : Int32) - w6)), (0, .ref u0)]) B dX1_originalSize_30 2 rfl rfl (by decide) rfl ?_
    refine z_goto B 7 dX1_originalSize_33 (by decide) ?_
    refine zV.sub [2, 1, 0] rfl ?_
    exact ih _ _ _ hf
set_option maxRecDepth 100000 in
set_option maxHeartbeats 4000000 in
theorem tX1_originalSize {l : Launch} {G : zG} (hst : l.stackTraces = false) {h : zH} {a0 : Nat} {r : Int32 × zH} (hf : fX1_originalSize h a0 = some r) : zMet l G yX1_originalSize (.code yX1_originalSize cX1_originalSize 3 (some .int)) rm_X1_originalSize 0 0 [.ref a0] h (zoi r) := by
  unfold fX1_originalSize at hf
  obtain ⟨-, hf⟩ := zck hf
  refine z_enter (by decide) (Nat.le_of_ble_eq_true rfl) hst (fun x hx B hE => ?_)
  subst hx
  have B : zB G x cX1_originalSize 3 RX1 "originalSize" rm_X1_originalSize (some .int) := B
  show zV G x 3 (zQ G x (zoi r) 0 0) h 0 0 0 [(0, .ref a0)] []
  refine z_aload_n B dX1_originalSize_0 rfl 0 rfl ?_
  obtain ⟨w1, ew1, hf⟩ := zbs hf
  refine z_gI B fl_RX1_25 ew1 rfl dX1_originalSize_1 ?_
  refine z_istore_n (lv' := [(1, .int w1), (0, .ref a0)]) B dX1_originalSize_4 rfl (by decide) rfl ?_
  refine z_iconst (v := 0) B dX1_originalSize_5 (by decide) ?_
  refine z_istore_n (lv' := [(2, .int 0), (1, .int w1), (0, .ref a0)]) B dX1_originalSize_6 rfl (by decide) rfl ?_
  refine zV.sub [2, 1, 0] rfl ?_
  refine fX1_originalSize_L7_ok B hst hE (fun h2 y3 y4 hf => ?_) _ _ _ _ hf
  refine z_iload_n B dX1_originalSize_36 rfl 1 rfl ?_
  cases hf
  exact z_iret B dX1_originalSize_37 (Nat.le_of_ble_eq_true rfl) (Nat.le_of_ble_eq_true rfl)
abbrev rm_X3_leastSize : Room := { frames := 2, cells := 0, slots := 0, locals := 43 }
set_option maxRecDepth 100000 in
set_option maxHeartbeats 4000000 in
theorem fX3_leastSize_L5_ok {G : zG} {x : zX} (B : zB G x cX3_leastSize 5 RX3 "leastSize" rm_X3_leastSize (some .int)) (hst : (zl x).stackTraces = false) (hE : ∀ e ∈ (zc x).exceptionTable.toList, False) {r : Int32 × zH} {k : zH → Int32 → Int32 → Option (Int32 × zH)} {u0 : Nat} {u1 : Int32} {u2 : Int32} (hk : ∀ h v3 v4, k h v3 v4 = some r → zV G x 5 (zQ G x (zoi r) 0 0) h 0 0 72 [(0, .ref u0), (1, .int u1), (2, .int u2), (3, .int v3), (4, .int v4)] []) : ∀ n h v3 v4, fX3_leastSize_L5 k u0 u1 u2 n h v3 v4 = some r → zV G x 5 (zQ G x (zoi r) 0 0) h 0 0 5 [(0, .ref u0), (1, .int u1), (2, .int u2), (3, .int v3), (4, .int v4)] [] := by
  intro n
  induction n with
  | zero =>
    intro h v3 v4 hf
    have hf : (none : Option (Int32 × zH)) = some r := hf
    cases hf
  | succ n ih =>
    intro h v3 v4 hf
    rw [fX3_leastSize_L5] at hf
    refine z_iload B dX3_leastSize_5 4 rfl ?_
    refine z_aload_n B dX3_leastSize_7 rfl 0 rfl ?_
    obtain ⟨w1, ew1, hf⟩ := zbs hf
    refine z_gI B fl_RX3_22 ew1 rfl dX3_leastSize_8 ?_
    rcases zite hf with ⟨c2, hf⟩ | ⟨c2, hf⟩
    · refine z_icmp_ge B 72 dX3_leastSize_11 (by decide) (fun _ => ?_) (fun e => absurd c2 e)
      exact hk _ _ _ hf
    refine z_icmp_ge B 72 dX3_leastSize_11 (by decide) (fun e => absurd e c2) (fun _ => ?_)
    refine z_iload B dX3_leastSize_14 4 rfl ?_
    refine z_iload_n B dX3_leastSize_16 rfl 1 rfl ?_
    rcases zite hf with ⟨c3, hf⟩ | ⟨c3, hf⟩
    · refine z_icmp_ne B 36 dX3_leastSize_17 (by decide) (fun e => absurd c3 e) (fun _ => ?_)
      refine z_iload_n B dX3_leastSize_20 rfl 3 rfl ?_
      refine z_aload_n B dX3_leastSize_21 rfl 0 rfl ?_
      obtain ⟨w4, ew4, hf⟩ := zbs hf
      refine z_gP B fl_RX3_11 ew4 rfl dX3_leastSize_22 ?_
      refine z_iload B dX3_leastSize_25 4 rfl ?_
      obtain ⟨w5, ew5, hf⟩ := zbs hf
      refine z_aP B ew5 dX3_leastSize_27 ?_
      obtain ⟨w6, ew6, hf⟩ := zbs hf
      refine z_gI B fl_RX3_51 ew6 rfl dX3_leastSize_28 ?_
      refine z_iadd B dX3_leastSize_31 ?_
      refine z_istore_n (lv' := [(3, .int ((v3 : Int32) + w6)), (0, .ref u0), (1, .int u1), (2, .int u2), (4, .int v4)]) B dX3_leastSize_32 rfl (by decide) rfl ?_
      refine z_goto B 66 dX3_leastSize_33 (by decide) ?_
      refine z_iinc (v' := (v4 + 1)) (lv' := [(4, .int (v4 + 1)), (3, .int ((v3 : Int32) + w6)), (0, .ref u0), (1, .int u1), (2, .int u2)]) B dX3_leastSize_66 4 rfl rfl (by decide) rfl ?_
      refine z_goto B 5 dX3_leastSize_69 (by decide) ?_
      refine zV.sub [2, 3, 4, 1, 0] rfl ?_
      exact ih _ _ _ hf
    refine z_icmp_ne B 36 dX3_leastSize_17 (by decide) (fun _ => ?_) (fun e => absurd e c3)
    refine z_iload_n B dX3_leastSize_36 rfl 2 rfl ?_
    rcases zite hf with ⟨c7, hf⟩ | ⟨c7, hf⟩
    · refine z_if_ne B 53 dX3_leastSize_37 (by decide) (fun e => absurd c7 e) (fun _ => ?_)
      refine z_aload_n B dX3_leastSize_40 rfl 0 rfl ?_
      obtain ⟨w8, ew8, hf⟩ := zbs hf
      refine z_gP B fl_RX3_11 ew8 rfl dX3_leastSize_41 ?_
      refine z_iload B dX3_leastSize_44 4 rfl ?_
      obtain ⟨w9, ew9, hf⟩ := zbs hf
      refine z_aP B ew9 dX3_leastSize_46 ?_
      obtain ⟨w10, ew10, hf⟩ := zbs hf
      refine z_gI B fl_RX3_54 ew10 rfl dX3_leastSize_47 ?_
      rcases zite hf with ⟨c11, hf⟩ | ⟨c11, hf⟩
      · refine z_if_eq B 66 dX3_leastSize_50 (by decide) (fun _ => ?_) (fun e => absurd c11 e)
        refine z_iinc (v' := (v4 + 1)) (lv' := [(4, .int (v4 + 1)), (0, .ref u0), (1, .int u1), (2, .int u2), (3, .int v3)]) B dX3_leastSize_66 4 rfl rfl (by decide) rfl ?_
        refine z_goto B 5 dX3_leastSize_69 (by decide) ?_
        refine zV.sub [1, 2, 3, 4, 0] rfl ?_
        exact ih _ _ _ hf
      refine z_if_eq B 66 dX3_leastSize_50 (by decide) (fun e => absurd e c11) (fun _ => ?_)
      refine z_iload_n B dX3_leastSize_53 rfl 3 rfl ?_
      refine z_aload_n B dX3_leastSize_54 rfl 0 rfl ?_
      obtain ⟨w12, ew12, hf⟩ := zbs hf
      refine z_gP B fl_RX3_11 ew12 rfl dX3_leastSize_55 ?_
      refine z_iload B dX3_leastSize_58 4 rfl ?_
      obtain ⟨w13, ew13, hf⟩ := zbs hf
      refine z_aP B ew13 dX3_leastSize_60 ?_
      obtain ⟨w14, h15, ew14, hf⟩ := zb2s hf
      refine z_callVi B [] [.int v3] cw_X1_originalSize mv_RX3_62 (tX1_originalSize hst ew14) rfl (by decide) (kfX1_originalSize ew14) ⟨rfl, rfl, (Nat.le_of_ble_eq_true rfl), (Nat.le_of_ble_eq_true rfl), (Nat.le_of_ble_eq_true rfl), (Nat.le_of_ble_eq_true rfl)⟩ rfl rfl (Nat.le_of_ble_eq_true rfl) dX3_leastSize_61 ?_
      refine z_iadd B dX3_leastSize_64 ?_
      refine z_istore_n (lv' := [(3, .int ((v3 : Int32) + w14)), (0, .ref u0), (1, .int u1), (2, .int u2), (4, .int v4)]) B dX3_leastSize_65 rfl (by decide) rfl ?_
      refine z_iinc (v' := (v4 + 1)) (lv' := [(4, .int (v4 + 1)), (3, .int ((v3 : Int32) + w14)), (0, .ref u0), (1, .int u1), (2, .int u2)]) B dX3_leastSize_66 4 rfl rfl (by decide) rfl ?_
      refine z_goto B 5 dX3_leastSize_69 (by decide) ?_
      refine zV.sub [2, 3, 4, 1, 0] rfl ?_
      exact ih _ _ _ hf
    refine z_if_ne B 53 dX3_leastSize_37 (by decide) (fun _ => ?_) (fun e => absurd e c7)
    refine z_iload_n B dX3_leastSize_53 rfl 3 rfl ?_
    refine z_aload_n B dX3_leastSize_54 rfl 0 rfl ?_
    obtain ⟨w16, ew16, hf⟩ := zbs hf
    refine z_gP B fl_RX3_11 ew16 rfl dX3_leastSize_55 ?_
    refine z_iload B dX3_leastSize_58 4 rfl ?_
    obtain ⟨w17, ew17, hf⟩ := zbs hf
    refine z_aP B ew17 dX3_leastSize_60 ?_
    obtain ⟨w18, h19, ew18, hf⟩ := zb2s hf
    refine z_callVi B [] [.int v3] cw_X1_originalSize mv_RX3_62 (tX1_originalSize hst ew18) rfl (by decide) (kfX1_originalSize ew18) ⟨rfl, rfl, (Nat.le_of_ble_eq_true rfl), (Nat.le_of_ble_eq_true rfl), (Nat.le_of_ble_eq_true rfl), (Nat.le_of_ble_eq_true rfl)⟩ rfl rfl (Nat.le_of_ble_eq_true rfl) dX3_leastSize_61 ?_
    refine z_iadd B dX3_leastSize_64 ?_
    refine z_istore_n (lv' := [(3, .int ((v3 : Int32) + w18)), (0, .ref u0), (1, .int u1), (2, .int u2), (4, .int v4)]) B dX3_leastSize_65 rfl (by decide) rfl ?_
    refine z_iinc (v' := (v4 + 1)) (lv' := [(4, .int (v4 + 1)), (3, .int ((v3 : Int32) + w18)), (0, .ref u0), (1, .int u1), (2, .int u2)]) B dX3_leastSize_66 4 rfl rfl (by decide) rfl ?_
    refine z_goto B 5 dX3_leastSize_69 (by decide) ?_
    refine zV.sub [2, 3, 4, 1, 0] rfl ?_
    exact ih _ _ _ hf
set_option maxRecDepth 100000 in
set_option maxHeartbeats 4000000 in
theorem tX3_leastSize {l : Launch} {G : zG} (hst : l.stackTraces = false) {h : zH} {a0 : Nat} {a1 : Int32} {a2 : Int32} {r : Int32 × zH} (hf : fX3_leastSize h a0 a1 a2 = some r) : zMet l G yX3_leastSize (.code yX3_leastSize cX3_leastSize 5 (some .int)) rm_X3_leastSize 0 0 [.ref a0, .int a1, .int a2] h (zoi r) := by
  unfold fX3_leastSize at hf
  obtain ⟨-, hf⟩ := zck hf
  refine z_enter (by decide) (Nat.le_of_ble_eq_true rfl) hst (fun x hx B hE => ?_)
  subst hx
  have B : zB G x cX3_leastSize 5 RX3 "leastSize" rm_X3_leastSize (some .int) := B
  show zV G x 5 (zQ G x (zoi r) 0 0) h 0 0 0 [(0, .ref a0), (1, .int a1), (2, .int a2)] []
  refine z_iconst (v := 0) B dX3_leastSize_0 (by decide) ?_
  refine z_istore_n (lv' := [(3, .int 0), (0, .ref a0), (1, .int a1), (2, .int a2)]) B dX3_leastSize_1 rfl (by decide) rfl ?_
  refine z_iconst (v := 0) B dX3_leastSize_2 (by decide) ?_
  refine z_istore (lv' := [(4, .int 0), (3, .int 0), (0, .ref a0), (1, .int a1), (2, .int a2)]) B dX3_leastSize_3 (by decide) rfl ?_
  refine zV.sub [2, 3, 4, 1, 0] rfl ?_
  refine fX3_leastSize_L5_ok B hst hE (fun h1 y2 y3 hf => ?_) _ _ _ _ hf
  refine z_iload_n B dX3_leastSize_72 rfl 3 rfl ?_
  cases hf
  exact z_iret B dX3_leastSize_73 (Nat.le_of_ble_eq_true rfl) (Nat.le_of_ble_eq_true rfl)
abbrev rm_X3_canAddEntry : Room := { frames := 3, cells := 0, slots := 0, locals := 67 }
set_option maxRecDepth 100000 in
set_option maxHeartbeats 4000000 in
theorem tX3_canAddEntry {l : Launch} {G : zG} (hst : l.stackTraces = false) {h : zH} {a0 : Nat} {a1 : Int32} {r : Int32 × zH} (hf : fX3_canAddEntry h a0 a1 = some r) : zMet l G yX3_canAddEntry (.code yX3_canAddEntry cX3_canAddEntry 3 (some .boolean)) rm_X3_canAddEntry 0 0 [.ref a0, .int a1] h (zoi r) := by
  unfold fX3_canAddEntry at hf
  obtain ⟨-, hf⟩ := zck hf
  refine z_enter (by decide) (Nat.le_of_ble_eq_true rfl) hst (fun x hx B hE => ?_)
  subst hx
  have B : zB G x cX3_canAddEntry 3 RX3 "canAddEntry" rm_X3_canAddEntry (some .boolean) := B
  show zV G x 3 (zQ G x (zoi r) 0 0) h 0 0 0 [(0, .ref a0), (1, .int a1)] []
  refine z_aload_n B dX3_canAddEntry_0 rfl 0 rfl ?_
  obtain ⟨w1, h2, ew1, hf⟩ := zb2s hf
  refine z_callVi B [] [] cw_X3_isFull mv_RX3_66 (tX3_isFull hst ew1) rfl (by decide) (kfX3_isFull ew1) ⟨rfl, rfl, (Nat.le_of_ble_eq_true rfl), (Nat.le_of_ble_eq_true rfl), (Nat.le_of_ble_eq_true rfl), (Nat.le_of_ble_eq_true rfl)⟩ rfl rfl (Nat.le_of_ble_eq_true rfl) dX3_canAddEntry_1 ?_
  rcases zite hf with ⟨c3, hf⟩ | ⟨c3, hf⟩
  · refine z_if_eq B 18 dX3_canAddEntry_4 (by decide) (fun _ => ?_) (fun e => absurd c3 e)
    refine z_iconst (v := 1) B dX3_canAddEntry_18 (by decide) ?_
    refine z_goto B 23 dX3_canAddEntry_19 (by decide) ?_
    refine z_istore_n (lv' := [(2, .int 1), (0, .ref a0), (1, .int a1)]) B dX3_canAddEntry_23 rfl (by decide) rfl ?_
    refine z_iload_n B dX3_canAddEntry_24 rfl 0 rfl ?_
    refine z_if_eq B 47 dX3_canAddEntry_25 (by decide) (fun e => absurd e (by decide)) (fun _ => ?_)
    refine z_aload_n B dX3_canAddEntry_28 rfl 1 rfl ?_
    refine z_iconst (v := (-1)) B dX3_canAddEntry_29 (by decide) ?_
    refine z_iconst (v := 0) B dX3_canAddEntry_30 (by decide) ?_
    obtain ⟨w4, h5, ew4, hf⟩ := zb2s hf
    refine z_callVi B [.int (-1), .int 0] [] cw_X3_leastSize mv_RX3_73 (tX3_leastSize hst ew4) rfl (by decide) (kfX3_leastSize ew4) ⟨rfl, rfl, (Nat.le_of_ble_eq_true rfl), (Nat.le_of_ble_eq_true rfl), (Nat.le_of_ble_eq_true rfl), (Nat.le_of_ble_eq_true rfl)⟩ rfl rfl (Nat.le_of_ble_eq_true rfl) dX3_canAddEntry_31 ?_
    refine z_iload_n B dX3_canAddEntry_34 rfl 2 rfl ?_
    refine z_iadd B dX3_canAddEntry_35 ?_
    refine z_aload_n B dX3_canAddEntry_36 rfl 1 rfl ?_
    obtain ⟨w6, ew6, hf⟩ := zbs hf
    refine z_gI B fl_RX3_37 ew6 rfl dX3_canAddEntry_37 ?_
    rcases zite hf with ⟨c7, hf⟩ | ⟨c7, hf⟩
    · refine z_icmp_gt B 47 dX3_canAddEntry_40 (by decide) (fun _ => ?_) (fun e => absurd c7 e)
      refine z_iconst (v := 0) B dX3_canAddEntry_47 (by decide) ?_
      cases hf
      exact z_zret B dX3_canAddEntry_48 (Or.inl rfl) (Nat.le_of_ble_eq_true rfl) (Nat.le_of_ble_eq_true rfl)
    refine z_icmp_gt B 47 dX3_canAddEntry_40 (by decide) (fun e => absurd e c7) (fun _ => ?_)
    refine z_iconst (v := 1) B dX3_canAddEntry_43 (by decide) ?_
    refine z_goto B 48 dX3_canAddEntry_44 (by decide) ?_
    cases hf
    exact z_zret B dX3_canAddEntry_48 (Or.inr rfl) (Nat.le_of_ble_eq_true rfl) (Nat.le_of_ble_eq_true rfl)
  refine z_if_eq B 18 dX3_canAddEntry_4 (by decide) (fun e => absurd e c3) (fun _ => ?_)
  refine z_aload_n B dX3_canAddEntry_7 rfl 0 rfl ?_
  obtain ⟨w8, h9, ew8, hf⟩ := zb2s hf
  refine z_callVi B [] [] cw_X3_pinnedCount mv_RX3_70 (tX3_pinnedCount hst ew8) rfl (by decide) (kfX3_pinnedCount ew8) ⟨rfl, rfl, (Nat.le_of_ble_eq_true rfl), (Nat.le_of_ble_eq_true rfl), (Nat.le_of_ble_eq_true rfl), (Nat.le_of_ble_eq_true rfl)⟩ rfl rfl (Nat.le_of_ble_eq_true rfl) dX3_canAddEntry_8 ?_
  refine z_aload_n B dX3_canAddEntry_11 rfl 0 rfl ?_
  obtain ⟨w10, ew10, hf⟩ := zbs hf
  refine z_gI B fl_RX3_22 ew10 rfl dX3_canAddEntry_12 ?_
  rcases zite hf with ⟨c11, hf⟩ | ⟨c11, hf⟩
  · refine z_icmp_ge B 22 dX3_canAddEntry_15 (by decide) (fun _ => ?_) (fun e => absurd c11 e)
    refine z_iconst (v := 0) B dX3_canAddEntry_22 (by decide) ?_
    refine z_istore_n (lv' := [(2, .int 0), (0, .ref a0), (1, .int a1)]) B dX3_canAddEntry_23 rfl (by decide) rfl ?_
    refine z_iload_n B dX3_canAddEntry_24 rfl 0 rfl ?_
    refine z_if_eq B 47 dX3_canAddEntry_25 (by decide) (fun _ => ?_) (fun e => absurd e (by decide))
    refine z_iconst (v := 0) B dX3_canAddEntry_47 (by decide) ?_
    cases hf
    exact z_zret B dX3_canAddEntry_48 (Or.inl rfl) (Nat.le_of_ble_eq_true rfl) (Nat.le_of_ble_eq_true rfl)
  refine z_icmp_ge B 22 dX3_canAddEntry_15 (by decide) (fun e => absurd e c11) (fun _ => ?_)
  refine z_iconst (v := 1) B dX3_canAddEntry_18 (by decide) ?_
  refine z_goto B 23 dX3_canAddEntry_19 (by decide) ?_
  refine z_istore_n (lv' := [(2, .int 1), (0, .ref a0), (1, .int a1)]) B dX3_canAddEntry_23 rfl (by decide) rfl ?_
  refine z_iload_n B dX3_canAddEntry_24 rfl 0 rfl ?_
  refine z_if_eq B 47 dX3_canAddEntry_25 (by decide) (fun e => absurd e (by decide)) (fun _ => ?_)
  refine z_aload_n B dX3_canAddEntry_28 rfl 1 rfl ?_
  refine z_iconst (v := (-1)) B dX3_canAddEntry_29 (by decide) ?_
  refine z_iconst (v := 0) B dX3_canAddEntry_30 (by decide) ?_
  obtain ⟨w12, h13, ew12, hf⟩ := zb2s hf
  refine z_callVi B [.int (-1), .int 0] [] cw_X3_leastSize mv_RX3_73 (tX3_leastSize hst ew12) rfl (by decide) (kfX3_leastSize ew12) ⟨rfl, rfl, (Nat.le_of_ble_eq_true rfl), (Nat.le_of_ble_eq_true rfl), (Nat.le_of_ble_eq_true rfl), (Nat.le_of_ble_eq_true rfl)⟩ rfl rfl (Nat.le_of_ble_eq_true rfl) dX3_canAddEntry_31 ?_
  refine z_iload_n B dX3_canAddEntry_34 rfl 2 rfl ?_
  refine z_iadd B dX3_canAddEntry_35 ?_
  refine z_aload_n B dX3_canAddEntry_36 rfl 1 rfl ?_
  obtain ⟨w14, ew14, hf⟩ := zbs hf
  refine z_gI B fl_RX3_37 ew14 rfl dX3_canAddEntry_37 ?_
  rcases zite hf with ⟨c15, hf⟩ | ⟨c15, hf⟩
  · refine z_icmp_gt B 47 dX3_canAddEntry_40 (by decide) (fun _ => ?_) (fun e => absurd c15 e)
    refine z_iconst (v := 0) B dX3_canAddEntry_47 (by decide) ?_
    cases hf
    exact z_zret B dX3_canAddEntry_48 (Or.inl rfl) (Nat.le_of_ble_eq_true rfl) (Nat.le_of_ble_eq_true rfl)
  refine z_icmp_gt B 47 dX3_canAddEntry_40 (by decide) (fun e => absurd e c15) (fun _ => ?_)
  refine z_iconst (v := 1) B dX3_canAddEntry_43 (by decide) ?_
  refine z_goto B 48 dX3_canAddEntry_44 (by decide) ?_
  cases hf
  exact z_zret B dX3_canAddEntry_48 (Or.inr rfl) (Nat.le_of_ble_eq_true rfl) (Nat.le_of_ble_eq_true rfl)
abbrev rm_X6_forgetOldest : Room := { frames := 0, cells := 0, slots := 0, locals := 0 }
set_option maxRecDepth 100000 in
set_option maxHeartbeats 4000000 in
theorem fX6_forgetOldest_L9_ok {G : zG} {x : zX} (B : zB G x cX6_forgetOldest 3 RX6 "forgetOldest" rm_X6_forgetOldest none) (hst : (zl x).stackTraces = false) (hE : ∀ e ∈ (zc x).exceptionTable.toList, False) {r : zH} {k : zH → Int32 → Option (zH)} {u0 : Nat} {u1 : Nat} (hk : ∀ h v2, k h v2 = some r → zV G x 3 (zQ G x (zov r) 0 0) h 0 0 38 [(0, .ref u0), (1, .ref u1), (2, .int v2)] []) : ∀ n h v2, fX6_forgetOldest_L9 k u0 u1 n h v2 = some r → zV G x 3 (zQ G x (zov r) 0 0) h 0 0 9 [(0, .ref u0), (1, .ref u1), (2, .int v2)] [] := by
  intro n
  induction n with
  | zero =>
    intro h v2 hf
    have hf : (none : Option (zH)) = some r := hf
    cases hf
  | succ n ih =>
    intro h v2 hf
    rw [fX6_forgetOldest_L9] at hf
    refine z_iload_n B dX6_forgetOldest_9 rfl 2 rfl ?_
    refine z_aload_n B dX6_forgetOldest_10 rfl 0 rfl ?_
    obtain ⟨w1, ew1, hf⟩ := zbs hf
    refine z_gP B fl_RX6_43 ew1 rfl dX6_forgetOldest_11 ?_
    obtain ⟨w2, ew2, hf⟩ := zbs hf
    refine z_len B ew2 dX6_forgetOldest_14 ?_
    rcases zite hf with ⟨c3, hf⟩ | ⟨c3, hf⟩
    · refine z_icmp_ge B 38 dX6_forgetOldest_15 (by decide) (fun _ => ?_) (fun e => absurd c3 e)
      exact hk _ _ hf
    refine z_icmp_ge B 38 dX6_forgetOldest_15 (by decide) (fun e => absurd e c3) (fun _ => ?_)
    refine z_aload_n B dX6_forgetOldest_18 rfl 0 rfl ?_
    obtain ⟨w4, ew4, hf⟩ := zbs hf
    refine z_gP B fl_RX6_43 ew4 rfl dX6_forgetOldest_19 ?_
    refine z_iload_n B dX6_forgetOldest_22 rfl 2 rfl ?_
    refine z_iconst (v := 1) B dX6_forgetOldest_23 (by decide) ?_
    refine z_isub B dX6_forgetOldest_24 ?_
    refine z_aload_n B dX6_forgetOldest_25 rfl 0 rfl ?_
    obtain ⟨w5, ew5, hf⟩ := zbs hf
    refine z_gP B fl_RX6_43 ew5 rfl dX6_forgetOldest_26 ?_
    refine z_iload_n B dX6_forgetOldest_29 rfl 2 rfl ?_
    obtain ⟨w6, ew6, hf⟩ := zbs hf
    refine z_aP B ew6 dX6_forgetOldest_30 ?_
    obtain ⟨h7, eh7, hf⟩ := zbs hf
    refine z_bP B eh7 dX6_forgetOldest_31 ?_
    refine z_iinc (v' := (v2 + 1)) (lv' := [(2, .int (v2 + 1)), (0, .ref u0), (1, .ref u1)]) B dX6_forgetOldest_32 2 rfl rfl (by decide) rfl ?_
    refine z_goto B 9 dX6_forgetOldest_35 (by decide) ?_
    refine zV.sub [1, 2, 0] rfl ?_
    exact ih _ _ hf
set_option maxRecDepth 100000 in
set_option maxHeartbeats 4000000 in
theorem tX6_forgetOldest {l : Launch} {G : zG} (hst : l.stackTraces = false) {h : zH} {a0 : Nat} {r : zH} (hf : fX6_forgetOldest h a0 = some r) : zMet l G yX6_forgetOldest (.code yX6_forgetOldest cX6_forgetOldest 3 none) rm_X6_forgetOldest 0 0 [.ref a0] h (zov r) := by
  unfold fX6_forgetOldest at hf
  obtain ⟨-, hf⟩ := zck hf
  refine z_enter (by decide) (Nat.le_of_ble_eq_true rfl) hst (fun x hx B hE => ?_)
  subst hx
  have B : zB G x cX6_forgetOldest 3 RX6 "forgetOldest" rm_X6_forgetOldest none := B
  show zV G x 3 (zQ G x (zov r) 0 0) h 0 0 0 [(0, .ref a0)] []
  refine z_aload_n B dX6_forgetOldest_0 rfl 0 rfl ?_
  obtain ⟨w1, ew1, hf⟩ := zbs hf
  refine z_gP B fl_RX6_43 ew1 rfl dX6_forgetOldest_1 ?_
  refine z_iconst (v := 0) B dX6_forgetOldest_4 (by decide) ?_
  obtain ⟨w2, ew2, hf⟩ := zbs hf
  refine z_aP B ew2 dX6_forgetOldest_5 ?_
  refine z_astore_n (lv' := [(1, .ref w2), (0, .ref a0)]) B dX6_forgetOldest_6 rfl (by decide) rfl ?_
  refine z_iconst (v := 1) B dX6_forgetOldest_7 (by decide) ?_
  refine z_istore_n (lv' := [(2, .int 1), (1, .ref w2), (0, .ref a0)]) B dX6_forgetOldest_8 rfl (by decide) rfl ?_
  refine zV.sub [2, 1, 0] rfl ?_
  refine fX6_forgetOldest_L9_ok B hst hE (fun h3 y4 hf => ?_) _ _ _ hf
  refine z_aload_n B dX6_forgetOldest_38 rfl 0 rfl ?_
  obtain ⟨w5, ew5, hf⟩ := zbs hf
  refine z_gP B fl_RX6_43 ew5 rfl dX6_forgetOldest_39 ?_
  refine z_aload_n B dX6_forgetOldest_42 rfl 0 rfl ?_
  obtain ⟨w6, ew6, hf⟩ := zbs hf
  refine z_gP B fl_RX6_43 ew6 rfl dX6_forgetOldest_43 ?_
  obtain ⟨w7, ew7, hf⟩ := zbs hf
  refine z_len B ew7 dX6_forgetOldest_46 ?_
  refine z_iconst (v := 1) B dX6_forgetOldest_47 (by decide) ?_
  refine z_isub B dX6_forgetOldest_48 ?_
  refine z_aload_n B dX6_forgetOldest_49 rfl 1 rfl ?_
  obtain ⟨h8, eh8, hf⟩ := zbs hf
  refine z_bP B eh8 dX6_forgetOldest_50 ?_
  refine z_aload_n B dX6_forgetOldest_51 rfl 0 rfl ?_
  refine z_aload_n B dX6_forgetOldest_52 rfl 0 rfl ?_
  obtain ⟨w9, ew9, hf⟩ := zbs hf
  refine z_gP B fl_RX6_43 ew9 rfl dX6_forgetOldest_53 ?_
  obtain ⟨w10, ew10, hf⟩ := zbs hf
  refine z_len B ew10 dX6_forgetOldest_56 ?_
  refine z_iconst (v := 1) B dX6_forgetOldest_57 (by decide) ?_
  refine z_isub B dX6_forgetOldest_58 ?_
  obtain ⟨h11, eh11, hf⟩ := zbs hf
  refine z_pI B fl_RX6_266 eh11 rfl dX6_forgetOldest_59 ?_
  cases hf
  exact z_vret B dX6_forgetOldest_62 (Nat.le_of_ble_eq_true rfl) (Nat.le_of_ble_eq_true rfl)
abbrev rm_X1_takeOver : Room := { frames := 1, cells := 0, slots := 0, locals := 18 }
set_option maxRecDepth 100000 in
set_option maxHeartbeats 4000000 in
theorem tX1_takeOver {l : Launch} {G : zG} (hst : l.stackTraces = false) {h : zH} {a0 : Nat} {a1 : Nat} {r : zH} (hf : fX1_takeOver h a0 a1 = some r) : zMet l G yX1_takeOver (.code yX1_takeOver cX1_takeOver 2 none) rm_X1_takeOver 0 0 [.ref a0, .ref a1] h (zov r) := by
  unfold fX1_takeOver at hf
  obtain ⟨-, hf⟩ := zck hf
  refine z_enter (by decide) (Nat.le_of_ble_eq_true rfl) hst (fun x hx B hE => ?_)
  subst hx
  have B : zB G x cX1_takeOver 2 RX1 "takeOver" rm_X1_takeOver none := B
  show zV G x 2 (zQ G x (zov r) 0 0) h 0 0 0 [(0, .ref a0), (1, .ref a1)] []
  refine z_aload_n B dX1_takeOver_0 rfl 1 rfl ?_
  obtain ⟨w1, ew1, hf⟩ := zbs hf
  refine z_gP B fl_RX1_9 ew1 rfl dX1_takeOver_1 ?_
  refine z_iconst (v := 0) B dX1_takeOver_4 (by decide) ?_
  refine z_aload_n B dX1_takeOver_5 rfl 0 rfl ?_
  obtain ⟨w2, ew2, hf⟩ := zbs hf
  refine z_gP B fl_RX1_9 ew2 rfl dX1_takeOver_6 ?_
  refine z_iconst (v := 0) B dX1_takeOver_9 (by decide) ?_
  refine z_bipush (v := 8) B dX1_takeOver_10 (by decide) ?_
  obtain ⟨h3, eh3, hf⟩ := zbs hf
  refine z_cp B eh3 ac_RX1_45 kw_c1 kw_c2 kw_c3 dX1_takeOver_12 (Nat.le_of_ble_eq_true rfl) (Nat.le_of_ble_eq_true rfl) ?_
  refine z_aload_n B dX1_takeOver_15 rfl 1 rfl ?_
  obtain ⟨w4, ew4, hf⟩ := zbs hf
  refine z_gP B fl_RX1_15 ew4 rfl dX1_takeOver_16 ?_
  refine z_iconst (v := 0) B dX1_takeOver_19 (by decide) ?_
  refine z_aload_n B dX1_takeOver_20 rfl 0 rfl ?_
  obtain ⟨w5, ew5, hf⟩ := zbs hf
  refine z_gP B fl_RX1_15 ew5 rfl dX1_takeOver_21 ?_
  refine z_iconst (v := 0) B dX1_takeOver_24 (by decide) ?_
  refine z_bipush (v := 8) B dX1_takeOver_25 (by decide) ?_
  obtain ⟨h6, eh6, hf⟩ := zbs hf
  refine z_cp B eh6 ac_RX1_45 kw_c1 kw_c2 kw_c3 dX1_takeOver_27 (Nat.le_of_ble_eq_true rfl) (Nat.le_of_ble_eq_true rfl) ?_
  refine z_aload_n B dX1_takeOver_30 rfl 0 rfl ?_
  refine z_aload_n B dX1_takeOver_31 rfl 1 rfl ?_
  obtain ⟨w7, ew7, hf⟩ := zbs hf
  refine z_gI B fl_RX1_18 ew7 rfl dX1_takeOver_32 ?_
  obtain ⟨h8, eh8, hf⟩ := zbs hf
  refine z_pI B fl_RX1_18 eh8 rfl dX1_takeOver_35 ?_
  refine z_aload_n B dX1_takeOver_38 rfl 0 rfl ?_
  refine z_aload_n B dX1_takeOver_39 rfl 1 rfl ?_
  obtain ⟨w9, ew9, hf⟩ := zbs hf
  refine z_gI B fl_RX1_22 ew9 rfl dX1_takeOver_40 ?_
  obtain ⟨h10, eh10, hf⟩ := zbs hf
  refine z_pI B fl_RX1_22 eh10 rfl dX1_takeOver_43 ?_
  refine z_aload_n B dX1_takeOver_46 rfl 0 rfl ?_
  refine z_aload_n B dX1_takeOver_47 rfl 1 rfl ?_
  obtain ⟨w11, ew11, hf⟩ := zbs hf
  refine z_gI B fl_RX1_25 ew11 rfl dX1_takeOver_48 ?_
  obtain ⟨h12, eh12, hf⟩ := zbs hf
  refine z_pI B fl_RX1_25 eh12 rfl dX1_takeOver_51 ?_
  refine z_aload_n B dX1_takeOver_54 rfl 0 rfl ?_
  refine z_aload_n B dX1_takeOver_55 rfl 1 rfl ?_
  obtain ⟨w13, ew13, hf⟩ := zbs hf
  refine z_gI B fl_RX1_28 ew13 rfl dX1_takeOver_56 ?_
  obtain ⟨h14, eh14, hf⟩ := zbs hf
  refine z_pZ B fl_RX1_28 eh14 rfl dX1_takeOver_59 ?_
  refine z_aload_n B dX1_takeOver_62 rfl 0 rfl ?_
  refine z_aload_n B dX1_takeOver_63 rfl 1 rfl ?_
  obtain ⟨w15, ew15, hf⟩ := zbs hf
  refine z_gI B fl_RX1_32 ew15 rfl dX1_takeOver_64 ?_
  obtain ⟨h16, eh16, hf⟩ := zbs hf
  refine z_pI B fl_RX1_32 eh16 rfl dX1_takeOver_67 ?_
  refine z_aload_n B dX1_takeOver_70 rfl 0 rfl ?_
  refine z_aload_n B dX1_takeOver_71 rfl 1 rfl ?_
  obtain ⟨w17, ew17, hf⟩ := zbs hf
  refine z_gI B fl_RX1_35 ew17 rfl dX1_takeOver_72 ?_
  obtain ⟨h18, eh18, hf⟩ := zbs hf
  refine z_pI B fl_RX1_35 eh18 rfl dX1_takeOver_75 ?_
  cases hf
  exact z_vret B dX1_takeOver_78 (Nat.le_of_ble_eq_true rfl) (Nat.le_of_ble_eq_true rfl)
abbrev rm_X3_takeOver : Room := { frames := 2, cells := 0, slots := 0, locals := 39 }
set_option maxRecDepth 100000 in
set_option maxHeartbeats 4000000 in
theorem fX3_takeOver_L49_ok {G : zG} {x : zX} (B : zB G x cX3_takeOver 3 RX3 "takeOver" rm_X3_takeOver none) (hst : (zl x).stackTraces = false) (hE : ∀ e ∈ (zc x).exceptionTable.toList, False) {r : zH} {k : zH → Int32 → Option (zH)} {u0 : Nat} {u1 : Nat} (hk : ∀ h v2, k h v2 = some r → zV G x 3 (zQ G x (zov r) 0 0) h 0 0 78 [(0, .ref u0), (1, .ref u1), (2, .int v2)] []) : ∀ n h v2, fX3_takeOver_L49 k u0 u1 n h v2 = some r → zV G x 3 (zQ G x (zov r) 0 0) h 0 0 49 [(0, .ref u0), (1, .ref u1), (2, .int v2)] [] := by
  intro n
  induction n with
  | zero =>
    intro h v2 hf
    have hf : (none : Option (zH)) = some r := hf
    cases hf
  | succ n ih =>
    intro h v2 hf
    rw [fX3_takeOver_L49] at hf
    refine z_iload_n B dX3_takeOver_49 rfl 2 rfl ?_
    refine z_aload_n B dX3_takeOver_50 rfl 0 rfl ?_
    obtain ⟨w1, ew1, hf⟩ := zbs hf
    refine z_gI B fl_RX3_22 ew1 rfl dX3_takeOver_51 ?_
    rcases zite hf with ⟨c2, hf⟩ | ⟨c2, hf⟩
    · refine z_icmp_ge B 78 dX3_takeOver_54 (by decide) (fun _ => ?_) (fun e => absurd c2 e)
      exact hk _ _ hf
    refine z_icmp_ge B 78 dX3_takeOver_54 (by decide) (fun e => absurd e c2) (fun _ => ?_)
    refine z_aload_n B dX3_takeOver_57 rfl 0 rfl ?_
    obtain ⟨w3, ew3, hf⟩ := zbs hf
    refine z_gP B fl_RX3_11 ew3 rfl dX3_takeOver_58 ?_
    refine z_iload_n B dX3_takeOver_61 rfl 2 rfl ?_
    obtain ⟨w4, ew4, hf⟩ := zbs hf
    refine z_aP B ew4 dX3_takeOver_62 ?_
    refine z_aload_n B dX3_takeOver_63 rfl 1 rfl ?_
    obtain ⟨w5, ew5, hf⟩ := zbs hf
    refine z_gP B fl_RX3_11 ew5 rfl dX3_takeOver_64 ?_
    refine z_iload_n B dX3_takeOver_67 rfl 2 rfl ?_
    obtain ⟨w6, ew6, hf⟩ := zbs hf
    refine z_aP B ew6 dX3_takeOver_68 ?_
    obtain ⟨h7, eh7, hf⟩ := zbs hf
    refine z_callVv B [.ref w6] [] cw_X1_takeOver mv_RX3_47 (tX1_takeOver hst eh7) rfl (by decide) (kfX1_takeOver eh7) ⟨rfl, rfl, (Nat.le_of_ble_eq_true rfl), (Nat.le_of_ble_eq_true rfl), (Nat.le_of_ble_eq_true rfl), (Nat.le_of_ble_eq_true rfl)⟩ rfl rfl (Nat.le_of_ble_eq_true rfl) dX3_takeOver_69 ?_
    refine z_iinc (v' := (v2 + 1)) (lv' := [(2, .int (v2 + 1)), (0, .ref u0), (1, .ref u1)]) B dX3_takeOver_72 2 rfl rfl (by decide) rfl ?_
    refine z_goto B 49 dX3_takeOver_75 (by decide) ?_
    refine zV.sub [1, 2, 0] rfl ?_
    exact ih _ _ hf
set_option maxRecDepth 100000 in
set_option maxHeartbeats 4000000 in
theorem tX3_takeOver {l : Launch} {G : zG} (hst : l.stackTraces = false) {h : zH} {a0 : Nat} {a1 : Nat} {r : zH} (hf : fX3_takeOver h a0 a1 = some r) : zMet l G yX3_takeOver (.code yX3_takeOver cX3_takeOver 3 none) rm_X3_takeOver 0 0 [.ref a0, .ref a1] h (zov r) := by
  unfold fX3_takeOver at hf
  obtain ⟨-, hf⟩ := zck hf
  refine z_enter (by decide) (Nat.le_of_ble_eq_true rfl) hst (fun x hx B hE => ?_)
  subst hx
  have B : zB G x cX3_takeOver 3 RX3 "takeOver" rm_X3_takeOver none := B
  show zV G x 3 (zQ G x (zov r) 0 0) h 0 0 0 [(0, .ref a0), (1, .ref a1)] []
  refine z_aload_n B dX3_takeOver_0 rfl 0 rfl ?_
  refine z_aload_n B dX3_takeOver_1 rfl 1 rfl ?_
  obtain ⟨w1, ew1, hf⟩ := zbs hf
  refine z_gI B fl_RX3_22 ew1 rfl dX3_takeOver_2 ?_
  obtain ⟨h2, eh2, hf⟩ := zbs hf
  refine z_pI B fl_RX3_22 eh2 rfl dX3_takeOver_5 ?_
  refine z_aload_n B dX3_takeOver_8 rfl 0 rfl ?_
  refine z_aload_n B dX3_takeOver_9 rfl 1 rfl ?_
  obtain ⟨w3, ew3, hf⟩ := zbs hf
  refine z_gI B fl_RX3_26 ew3 rfl dX3_takeOver_10 ?_
  obtain ⟨h4, eh4, hf⟩ := zbs hf
  refine z_pI B fl_RX3_26 eh4 rfl dX3_takeOver_13 ?_
  refine z_aload_n B dX3_takeOver_16 rfl 0 rfl ?_
  refine z_aload_n B dX3_takeOver_17 rfl 1 rfl ?_
  obtain ⟨w5, ew5, hf⟩ := zbs hf
  refine z_gI B fl_RX3_29 ew5 rfl dX3_takeOver_18 ?_
  obtain ⟨h6, eh6, hf⟩ := zbs hf
  refine z_pI B fl_RX3_29 eh6 rfl dX3_takeOver_21 ?_
  refine z_aload_n B dX3_takeOver_24 rfl 0 rfl ?_
  refine z_aload_n B dX3_takeOver_25 rfl 1 rfl ?_
  obtain ⟨w7, ew7, hf⟩ := zbs hf
  refine z_gI B fl_RX3_37 ew7 rfl dX3_takeOver_26 ?_
  obtain ⟨h8, eh8, hf⟩ := zbs hf
  refine z_pI B fl_RX3_37 eh8 rfl dX3_takeOver_29 ?_
  refine z_aload_n B dX3_takeOver_32 rfl 1 rfl ?_
  obtain ⟨w9, ew9, hf⟩ := zbs hf
  refine z_gP B fl_RX3_17 ew9 rfl dX3_takeOver_33 ?_
  refine z_iconst (v := 0) B dX3_takeOver_36 (by decide) ?_
  refine z_aload_n B dX3_takeOver_37 rfl 0 rfl ?_
  obtain ⟨w10, ew10, hf⟩ := zbs hf
  refine z_gP B fl_RX3_17 ew10 rfl dX3_takeOver_38 ?_
  refine z_iconst (v := 0) B dX3_takeOver_41 (by decide) ?_
  refine z_bipush (v := 20) B dX3_takeOver_42 (by decide) ?_
  obtain ⟨h11, eh11, hf⟩ := zbs hf
  refine z_cp B eh11 ac_RX3_41 kw_c1 kw_c2 kw_c3 dX3_takeOver_44 (Nat.le_of_ble_eq_true rfl) (Nat.le_of_ble_eq_true rfl) ?_
  refine z_iconst (v := 0) B dX3_takeOver_47 (by decide) ?_
  refine z_istore_n (lv' := [(2, .int 0), (0, .ref a0), (1, .ref a1)]) B dX3_takeOver_48 rfl (by decide) rfl ?_
  refine zV.sub [1, 2, 0] rfl ?_
  refine fX3_takeOver_L49_ok B hst hE (fun h12 y13 hf => ?_) _ _ _ hf
  cases hf
  exact z_vret B dX3_takeOver_78 (Nat.le_of_ble_eq_true rfl) (Nat.le_of_ble_eq_true rfl)
abbrev rm_X6_rememberNow : Room := { frames := 3, cells := 0, slots := 0, locals := 61 }
set_option maxRecDepth 100000 in
set_option maxHeartbeats 4000000 in
theorem tX6_rememberNow {l : Launch} {G : zG} (hst : l.stackTraces = false) {h : zH} {a0 : Nat} {r : zH} (hf : fX6_rememberNow h a0 = some r) : zMet l G yX6_rememberNow (.code yX6_rememberNow cX6_rememberNow 1 none) rm_X6_rememberNow 0 0 [.ref a0] h (zov r) := by
  unfold fX6_rememberNow at hf
  obtain ⟨-, hf⟩ := zck hf
  refine z_enter (by decide) (Nat.le_of_ble_eq_true rfl) hst (fun x hx B hE => ?_)
  subst hx
  have B : zB G x cX6_rememberNow 1 RX6 "rememberNow" rm_X6_rememberNow none := B
  show zV G x 1 (zQ G x (zov r) 0 0) h 0 0 0 [(0, .ref a0)] []
  refine z_aload_n B dX6_rememberNow_0 rfl 0 rfl ?_
  obtain ⟨w1, ew1, hf⟩ := zbs hf
  refine z_gI B fl_RX6_266 ew1 rfl dX6_rememberNow_1 ?_
  refine z_aload_n B dX6_rememberNow_4 rfl 0 rfl ?_
  obtain ⟨w2, ew2, hf⟩ := zbs hf
  refine z_gP B fl_RX6_43 ew2 rfl dX6_rememberNow_5 ?_
  obtain ⟨w3, ew3, hf⟩ := zbs hf
  refine z_len B ew3 dX6_rememberNow_8 ?_
  rcases zite hf with ⟨c4, hf⟩ | ⟨c4, hf⟩
  · refine z_icmp_lt B 16 dX6_rememberNow_9 (by decide) (fun _ => ?_) (fun e => absurd c4 e)
    refine z_aload_n B dX6_rememberNow_16 rfl 0 rfl ?_
    obtain ⟨w5, ew5, hf⟩ := zbs hf
    refine z_gP B fl_RX6_43 ew5 rfl dX6_rememberNow_17 ?_
    refine z_aload_n B dX6_rememberNow_20 rfl 0 rfl ?_
    obtain ⟨w6, ew6, hf⟩ := zbs hf
    refine z_gI B fl_RX6_266 ew6 rfl dX6_rememberNow_21 ?_
    obtain ⟨w7, ew7, hf⟩ := zbs hf
    refine z_aP B ew7 dX6_rememberNow_24 ?_
    refine z_aload_n B dX6_rememberNow_25 rfl 0 rfl ?_
    obtain ⟨w8, ew8, hf⟩ := zbs hf
    refine z_gP B fl_RX6_36 ew8 rfl dX6_rememberNow_26 ?_
    obtain ⟨h9, eh9, hf⟩ := zbs hf
    refine z_callVv B [.ref w8] [] cw_X3_takeOver mv_RX6_271 (tX3_takeOver hst eh9) rfl (by decide) (kfX3_takeOver eh9) ⟨rfl, rfl, (Nat.le_of_ble_eq_true rfl), (Nat.le_of_ble_eq_true rfl), (Nat.le_of_ble_eq_true rfl), (Nat.le_of_ble_eq_true rfl)⟩ rfl rfl (Nat.le_of_ble_eq_true rfl) dX6_rememberNow_29 ?_
    refine z_aload_n B dX6_rememberNow_32 rfl 0 rfl ?_
    refine z_dup B dX6_rememberNow_33 rfl ?_
    obtain ⟨w10, ew10, hf⟩ := zbs hf
    refine z_gI B fl_RX6_266 ew10 rfl dX6_rememberNow_34 ?_
    refine z_iconst (v := 1) B dX6_rememberNow_37 (by decide) ?_
    refine z_iadd B dX6_rememberNow_38 ?_
    obtain ⟨h11, eh11, hf⟩ := zbs hf
    refine z_pI B fl_RX6_266 eh11 rfl dX6_rememberNow_39 ?_
    cases hf
    exact z_vret B dX6_rememberNow_42 (Nat.le_of_ble_eq_true rfl) (Nat.le_of_ble_eq_true rfl)
  refine z_icmp_lt B 16 dX6_rememberNow_9 (by decide) (fun e => absurd e c4) (fun _ => ?_)
  refine z_aload_n B dX6_rememberNow_12 rfl 0 rfl ?_
  obtain ⟨h12, eh12, hf⟩ := zbs hf
  refine z_callVv B [] [] cw_X6_forgetOldest mv_RX6_377 (tX6_forgetOldest hst eh12) rfl (by decide) (kfX6_forgetOldest eh12) ⟨rfl, rfl, (Nat.le_of_ble_eq_true rfl), (Nat.le_of_ble_eq_true rfl), (Nat.le_of_ble_eq_true rfl), (Nat.le_of_ble_eq_true rfl)⟩ rfl rfl (Nat.le_of_ble_eq_true rfl) dX6_rememberNow_13 ?_
  refine z_aload_n B dX6_rememberNow_16 rfl 0 rfl ?_
  obtain ⟨w13, ew13, hf⟩ := zbs hf
  refine z_gP B fl_RX6_43 ew13 rfl dX6_rememberNow_17 ?_
  refine z_aload_n B dX6_rememberNow_20 rfl 0 rfl ?_
  obtain ⟨w14, ew14, hf⟩ := zbs hf
  refine z_gI B fl_RX6_266 ew14 rfl dX6_rememberNow_21 ?_
  obtain ⟨w15, ew15, hf⟩ := zbs hf
  refine z_aP B ew15 dX6_rememberNow_24 ?_
  refine z_aload_n B dX6_rememberNow_25 rfl 0 rfl ?_
  obtain ⟨w16, ew16, hf⟩ := zbs hf
  refine z_gP B fl_RX6_36 ew16 rfl dX6_rememberNow_26 ?_
  obtain ⟨h17, eh17, hf⟩ := zbs hf
  refine z_callVv B [.ref w16] [] cw_X3_takeOver mv_RX6_271 (tX3_takeOver hst eh17) rfl (by decide) (kfX3_takeOver eh17) ⟨rfl, rfl, (Nat.le_of_ble_eq_true rfl), (Nat.le_of_ble_eq_true rfl), (Nat.le_of_ble_eq_true rfl), (Nat.le_of_ble_eq_true rfl)⟩ rfl rfl (Nat.le_of_ble_eq_true rfl) dX6_rememberNow_29 ?_
  refine z_aload_n B dX6_rememberNow_32 rfl 0 rfl ?_
  refine z_dup B dX6_rememberNow_33 rfl ?_
  obtain ⟨w18, ew18, hf⟩ := zbs hf
  refine z_gI B fl_RX6_266 ew18 rfl dX6_rememberNow_34 ?_
  refine z_iconst (v := 1) B dX6_rememberNow_37 (by decide) ?_
  refine z_iadd B dX6_rememberNow_38 ?_
  obtain ⟨h19, eh19, hf⟩ := zbs hf
  refine z_pI B fl_RX6_266 eh19 rfl dX6_rememberNow_39 ?_
  cases hf
  exact z_vret B dX6_rememberNow_42 (Nat.le_of_ble_eq_true rfl) (Nat.le_of_ble_eq_true rfl)
abbrev rm_X3_heaviest : Room := { frames := 2, cells := 0, slots := 0, locals := 40 }
set_option maxRecDepth 100000 in
set_option maxHeartbeats 4000000 in
theorem fX3_heaviest_L7_ok {G : zG} {x : zX} (B : zB G x cX3_heaviest 6 RX3 "heaviest" rm_X3_heaviest (some .int)) (hst : (zl x).stackTraces = false) (hE : ∀ e ∈ (zc x).exceptionTable.toList, False) {r : Int32 × zH} {k : zH → Int32 → Int32 → Int32 → Option (Int32 × zH)} {u0 : Nat} {u1 : Int32} (hk : ∀ h v2 v3 v4, k h v2 v3 v4 = some r → zV G x 6 (zQ G x (zoi r) 0 0) h 0 0 69 [(0, .ref u0), (1, .int u1), (2, .int v2), (3, .int v3), (4, .int v4)] []) : ∀ n h v2 v3 v4, fX3_heaviest_L7 k u0 u1 n h v2 v3 v4 = some r → zV G x 6 (zQ G x (zoi r) 0 0) h 0 0 7 [(0, .ref u0), (1, .int u1), (2, .int v2), (3, .int v3), (4, .int v4)] [] := by
  intro n
  induction n with
  | zero =>
    intro h v2 v3 v4 hf
    have hf : (none : Option (Int32 × zH)) = some r := hf
    cases hf
  | succ n ih =>
    intro h v2 v3 v4 hf
    rw [fX3_heaviest_L7] at hf
    refine z_iload B dX3_heaviest_7 4 rfl ?_
    refine z_aload_n B dX3_heaviest_9 rfl 0 rfl ?_
    obtain ⟨w1, ew1, hf⟩ := zbs hf
    refine z_gI B fl_RX3_22 ew1 rfl dX3_heaviest_10 ?_
    rcases zite hf with ⟨c2, hf⟩ | ⟨c2, hf⟩
    · refine z_icmp_ge B 69 dX3_heaviest_13 (by decide) (fun _ => ?_) (fun e => absurd c2 e)
      exact hk _ _ _ _ hf
    refine z_icmp_ge B 69 dX3_heaviest_13 (by decide) (fun e => absurd e c2) (fun _ => ?_)
    refine z_aload_n B dX3_heaviest_16 rfl 0 rfl ?_
    obtain ⟨w3, ew3, hf⟩ := zbs hf
    refine z_gP B fl_RX3_11 ew3 rfl dX3_heaviest_17 ?_
    refine z_iload B dX3_heaviest_20 4 rfl ?_
    obtain ⟨w4, ew4, hf⟩ := zbs hf
    refine z_aP B ew4 dX3_heaviest_22 ?_
    refine z_aload_n B dX3_heaviest_23 rfl 0 rfl ?_
    obtain ⟨w5, ew5, hf⟩ := zbs hf
    refine z_gI B fl_RX3_26 ew5 rfl dX3_heaviest_24 ?_
    obtain ⟨w6, h7, ew6, hf⟩ := zb2s hf
    refine z_callVi B [.int w5] [] cw_X1_weight mv_RX3_138 (tX1_weight hst ew6) rfl (by decide) (kfX1_weight ew6) ⟨rfl, rfl, (Nat.le_of_ble_eq_true rfl), (Nat.le_of_ble_eq_true rfl), (Nat.le_of_ble_eq_true rfl), (Nat.le_of_ble_eq_true rfl)⟩ rfl rfl (Nat.le_of_ble_eq_true rfl) dX3_heaviest_27 ?_
    refine z_istore (lv' := [(5, .int w6), (0, .ref u0), (1, .int u1), (2, .int v2), (3, .int v3), (4, .int v4)]) B dX3_heaviest_30 (by decide) rfl ?_
    refine z_iload B dX3_heaviest_32 5 rfl ?_
    refine z_iload_n B dX3_heaviest_34 rfl 2 rfl ?_
    rcases zite hf with ⟨c8, hf⟩ | ⟨c8, hf⟩
    · refine z_icmp_eq B 63 dX3_heaviest_35 (by decide) (fun _ => ?_) (fun e => absurd c8 e)
      refine z_iinc (v' := (v4 + 1)) (lv' := [(4, .int (v4 + 1)), (5, .int w6), (0, .ref u0), (1, .int u1), (2, .int v2), (3, .int v3)]) B dX3_heaviest_63 5 rfl rfl (by decide) rfl ?_
      refine z_goto B 7 dX3_heaviest_66 (by decide) ?_
      refine zV.sub [2, 3, 4, 5, 0] rfl ?_
      exact ih _ _ _ _ hf
    refine z_icmp_eq B 63 dX3_heaviest_35 (by decide) (fun e => absurd e c8) (fun _ => ?_)
    refine z_aload_n B dX3_heaviest_38 rfl 1 rfl ?_
    obtain ⟨w9, ew9, hf⟩ := zbs hf
    refine z_gP B fl_RX3_11 ew9 rfl dX3_heaviest_39 ?_
    refine z_iload B dX3_heaviest_42 5 rfl ?_
    obtain ⟨w10, ew10, hf⟩ := zbs hf
    refine z_aP B ew10 dX3_heaviest_44 ?_
    obtain ⟨w11, ew11, hf⟩ := zbs hf
    refine z_gI B fl_RX3_54 ew11 rfl dX3_heaviest_45 ?_
    rcases zite hf with ⟨c12, hf⟩ | ⟨c12, hf⟩
    · refine z_if_ne B 63 dX3_heaviest_48 (by decide) (fun e => absurd c12 e) (fun _ => ?_)
      refine z_iload B dX3_heaviest_51 0 rfl ?_
      refine z_iload_n B dX3_heaviest_53 rfl 4 rfl ?_
      rcases zite hf with ⟨c13, hf⟩ | ⟨c13, hf⟩
      · refine z_icmp_lt B 63 dX3_heaviest_54 (by decide) (fun _ => ?_) (fun e => absurd c13 e)
        refine z_iinc (v' := (v4 + 1)) (lv' := [(4, .int (v4 + 1)), (5, .int w6), (0, .ref u0), (1, .int u1), (2, .int v2), (3, .int v3)]) B dX3_heaviest_63 5 rfl rfl (by decide) rfl ?_
        refine z_goto B 7 dX3_heaviest_66 (by decide) ?_
        refine zV.sub [2, 3, 4, 5, 0] rfl ?_
        exact ih _ _ _ _ hf
      refine z_icmp_lt B 63 dX3_heaviest_54 (by decide) (fun e => absurd e c13) (fun _ => ?_)
      refine z_iload B dX3_heaviest_57 5 rfl ?_
      refine z_istore_n (lv' := [(2, .int v4), (5, .int w6), (0, .ref u0), (1, .int u1), (3, .int v3), (4, .int v4)]) B dX3_heaviest_59 rfl (by decide) rfl ?_
      refine z_iload B dX3_heaviest_60 1 rfl ?_
      refine z_istore_n (lv' := [(3, .int w6), (2, .int v4), (5, .int w6), (0, .ref u0), (1, .int u1), (4, .int v4)]) B dX3_heaviest_62 rfl (by decide) rfl ?_
      refine z_iinc (v' := (v4 + 1)) (lv' := [(4, .int (v4 + 1)), (3, .int w6), (2, .int v4), (5, .int w6), (0, .ref u0), (1, .int u1)]) B dX3_heaviest_63 5 rfl rfl (by decide) rfl ?_
      refine z_goto B 7 dX3_heaviest_66 (by decide) ?_
      refine zV.sub [4, 5, 2, 1, 0] rfl ?_
      exact ih _ _ _ _ hf
    refine z_if_ne B 63 dX3_heaviest_48 (by decide) (fun _ => ?_) (fun e => absurd e c12)
    refine z_iinc (v' := (v4 + 1)) (lv' := [(4, .int (v4 + 1)), (5, .int w6), (0, .ref u0), (1, .int u1), (2, .int v2), (3, .int v3)]) B dX3_heaviest_63 5 rfl rfl (by decide) rfl ?_
    refine z_goto B 7 dX3_heaviest_66 (by decide) ?_
    refine zV.sub [2, 3, 4, 5, 0] rfl ?_
    exact ih _ _ _ _ hf
set_option maxRecDepth 100000 in
set_option maxHeartbeats 4000000 in
theorem tX3_heaviest {l : Launch} {G : zG} (hst : l.stackTraces = false) {h : zH} {a0 : Nat} {a1 : Int32} {r : Int32 × zH} (hf : fX3_heaviest h a0 a1 = some r) : zMet l G yX3_heaviest (.code yX3_heaviest cX3_heaviest 6 (some .int)) rm_X3_heaviest 0 0 [.ref a0, .int a1] h (zoi r) := by
  unfold fX3_heaviest at hf
  obtain ⟨-, hf⟩ := zck hf
  refine z_enter (by decide) (Nat.le_of_ble_eq_true rfl) hst (fun x hx B hE => ?_)
  subst hx
  have B : zB G x cX3_heaviest 6 RX3 "heaviest" rm_X3_heaviest (some .int) := B
  show zV G x 6 (zQ G x (zoi r) 0 0) h 0 0 0 [(0, .ref a0), (1, .int a1)] []
  refine z_iconst (v := (-1)) B dX3_heaviest_0 (by decide) ?_
  refine z_istore_n (lv' := [(2, .int (-1)), (0, .ref a0), (1, .int a1)]) B dX3_heaviest_1 rfl (by decide) rfl ?_
  refine z_iconst (v := 0) B dX3_heaviest_2 (by decide) ?_
  refine z_istore_n (lv' := [(3, .int 0), (2, .int (-1)), (0, .ref a0), (1, .int a1)]) B dX3_heaviest_3 rfl (by decide) rfl ?_
  refine z_iconst (v := 0) B dX3_heaviest_4 (by decide) ?_
  refine z_istore (lv' := [(4, .int 0), (3, .int 0), (2, .int (-1)), (0, .ref a0), (1, .int a1)]) B dX3_heaviest_5 (by decide) rfl ?_
  refine zV.sub [3, 4, 2, 1, 0] rfl ?_
  refine fX3_heaviest_L7_ok B hst hE (fun h1 y2 y3 y4 hf => ?_) _ _ _ _ _ hf
  refine z_iload_n B dX3_heaviest_69 rfl 2 rfl ?_
  cases hf
  exact z_iret B dX3_heaviest_70 (Nat.le_of_ble_eq_true rfl) (Nat.le_of_ble_eq_true rfl)
abbrev rm_X3_dropEntry : Room := { frames := 1, cells := 0, slots := 0, locals := 21 }
set_option maxRecDepth 100000 in
set_option maxHeartbeats 4000000 in
theorem fX3_dropEntry_L20_ok {G : zG} {x : zX} (B : zB G x cX3_dropEntry 4 RX3 "dropEntry" rm_X3_dropEntry none) (hst : (zl x).stackTraces = false) (hE : ∀ e ∈ (zc x).exceptionTable.toList, False) {r : zH} {k : zH → Int32 → Option (zH)} {u0 : Nat} {u1 : Int32} {u2 : Nat} (hk : ∀ h v3, k h v3 = some r → zV G x 4 (zQ G x (zov r) 0 0) h 0 0 48 [(0, .ref u0), (1, .int u1), (2, .ref u2), (3, .int v3)] []) : ∀ n h v3, fX3_dropEntry_L20 k u0 u1 u2 n h v3 = some r → zV G x 4 (zQ G x (zov r) 0 0) h 0 0 20 [(0, .ref u0), (1, .int u1), (2, .ref u2), (3, .int v3)] [] := by
  intro n
  induction n with
  | zero =>
    intro h v3 hf
    have hf : (none : Option (zH)) = some r := hf
    cases hf
  | succ n ih =>
    intro h v3 hf
    rw [fX3_dropEntry_L20] at hf
    refine z_iload_n B dX3_dropEntry_20 rfl 3 rfl ?_
    refine z_aload_n B dX3_dropEntry_21 rfl 0 rfl ?_
    obtain ⟨w1, ew1, hf⟩ := zbs hf
    refine z_gI B fl_RX3_22 ew1 rfl dX3_dropEntry_22 ?_
    rcases zite hf with ⟨c2, hf⟩ | ⟨c2, hf⟩
    · refine z_icmp_ge B 48 dX3_dropEntry_25 (by decide) (fun _ => ?_) (fun e => absurd c2 e)
      exact hk _ _ hf
    refine z_icmp_ge B 48 dX3_dropEntry_25 (by decide) (fun e => absurd e c2) (fun _ => ?_)
    refine z_aload_n B dX3_dropEntry_28 rfl 0 rfl ?_
    obtain ⟨w3, ew3, hf⟩ := zbs hf
    refine z_gP B fl_RX3_11 ew3 rfl dX3_dropEntry_29 ?_
    refine z_iload_n B dX3_dropEntry_32 rfl 3 rfl ?_
    refine z_iconst (v := 1) B dX3_dropEntry_33 (by decide) ?_
    refine z_isub B dX3_dropEntry_34 ?_
    refine z_aload_n B dX3_dropEntry_35 rfl 0 rfl ?_
    obtain ⟨w4, ew4, hf⟩ := zbs hf
    refine z_gP B fl_RX3_11 ew4 rfl dX3_dropEntry_36 ?_
    refine z_iload_n B dX3_dropEntry_39 rfl 3 rfl ?_
    obtain ⟨w5, ew5, hf⟩ := zbs hf
    refine z_aP B ew5 dX3_dropEntry_40 ?_
    obtain ⟨h6, eh6, hf⟩ := zbs hf
    refine z_bP B eh6 dX3_dropEntry_41 ?_
    refine z_iinc (v' := (v3 + 1)) (lv' := [(3, .int (v3 + 1)), (0, .ref u0), (1, .int u1), (2, .ref u2)]) B dX3_dropEntry_42 3 rfl rfl (by decide) rfl ?_
    refine z_goto B 20 dX3_dropEntry_45 (by decide) ?_
    refine zV.sub [1, 2, 3, 0] rfl ?_
    exact ih _ _ hf
set_option maxRecDepth 100000 in
set_option maxHeartbeats 4000000 in
theorem tX3_dropEntry {l : Launch} {G : zG} (hst : l.stackTraces = false) {h : zH} {a0 : Nat} {a1 : Int32} {r : zH} (hf : fX3_dropEntry h a0 a1 = some r) : zMet l G yX3_dropEntry (.code yX3_dropEntry cX3_dropEntry 4 none) rm_X3_dropEntry 0 0 [.ref a0, .int a1] h (zov r) := by
  unfold fX3_dropEntry at hf
  obtain ⟨-, hf⟩ := zck hf
  refine z_enter (by decide) (Nat.le_of_ble_eq_true rfl) hst (fun x hx B hE => ?_)
  subst hx
  have B : zB G x cX3_dropEntry 4 RX3 "dropEntry" rm_X3_dropEntry none := B
  show zV G x 4 (zQ G x (zov r) 0 0) h 0 0 0 [(0, .ref a0), (1, .int a1)] []
  refine z_aload_n B dX3_dropEntry_0 rfl 0 rfl ?_
  refine z_iload_n B dX3_dropEntry_1 rfl 1 rfl ?_
  obtain ⟨w1, h2, ew1, hf⟩ := zb2s hf
  refine z_callVi B [.int a1] [] cw_X3_hasEntry mv_RX3_58 (tX3_hasEntry hst ew1) rfl (by decide) (kfX3_hasEntry ew1) ⟨rfl, rfl, (Nat.le_of_ble_eq_true rfl), (Nat.le_of_ble_eq_true rfl), (Nat.le_of_ble_eq_true rfl), (Nat.le_of_ble_eq_true rfl)⟩ rfl rfl (Nat.le_of_ble_eq_true rfl) dX3_dropEntry_2 ?_
  rcases zite hf with ⟨c3, hf⟩ | ⟨c3, hf⟩
  · refine z_if_ne B 9 dX3_dropEntry_5 (by decide) (fun e => absurd c3 e) (fun _ => ?_)
    cases hf
    exact z_vret B dX3_dropEntry_8 (Nat.le_of_ble_eq_true rfl) (Nat.le_of_ble_eq_true rfl)
  refine z_if_ne B 9 dX3_dropEntry_5 (by decide) (fun _ => ?_) (fun e => absurd e c3)
  refine z_aload_n B dX3_dropEntry_9 rfl 0 rfl ?_
  obtain ⟨w4, ew4, hf⟩ := zbs hf
  refine z_gP B fl_RX3_11 ew4 rfl dX3_dropEntry_10 ?_
  refine z_iload_n B dX3_dropEntry_13 rfl 1 rfl ?_
  obtain ⟨w5, ew5, hf⟩ := zbs hf
  refine z_aP B ew5 dX3_dropEntry_14 ?_
  refine z_astore_n (lv' := [(2, .ref w5), (0, .ref a0), (1, .int a1)]) B dX3_dropEntry_15 rfl (by decide) rfl ?_
  refine z_iload_n B dX3_dropEntry_16 rfl 2 rfl ?_
  refine z_iconst (v := 1) B dX3_dropEntry_17 (by decide) ?_
  refine z_iadd B dX3_dropEntry_18 ?_
  refine z_istore_n (lv' := [(3, .int ((a1 : Int32) + 1)), (2, .ref w5), (0, .ref a0), (1, .int a1)]) B dX3_dropEntry_19 rfl (by decide) rfl ?_
  refine zV.sub [2, 3, 1, 0] rfl ?_
  refine fX3_dropEntry_L20_ok B hst hE (fun h6 y7 hf => ?_) _ _ _ hf
  refine z_aload_n B dX3_dropEntry_48 rfl 0 rfl ?_
  obtain ⟨w8, ew8, hf⟩ := zbs hf
  refine z_gP B fl_RX3_11 ew8 rfl dX3_dropEntry_49 ?_
  refine z_aload_n B dX3_dropEntry_52 rfl 0 rfl ?_
  obtain ⟨w9, ew9, hf⟩ := zbs hf
  refine z_gI B fl_RX3_22 ew9 rfl dX3_dropEntry_53 ?_
  refine z_iconst (v := 1) B dX3_dropEntry_56 (by decide) ?_
  refine z_isub B dX3_dropEntry_57 ?_
  refine z_aload_n B dX3_dropEntry_58 rfl 2 rfl ?_
  obtain ⟨h10, eh10, hf⟩ := zbs hf
  refine z_bP B eh10 dX3_dropEntry_59 ?_
  refine z_aload_n B dX3_dropEntry_60 rfl 0 rfl ?_
  refine z_dup B dX3_dropEntry_61 rfl ?_
  obtain ⟨w11, ew11, hf⟩ := zbs hf
  refine z_gI B fl_RX3_22 ew11 rfl dX3_dropEntry_62 ?_
  refine z_iconst (v := 1) B dX3_dropEntry_65 (by decide) ?_
  refine z_isub B dX3_dropEntry_66 ?_
  obtain ⟨h12, eh12, hf⟩ := zbs hf
  refine z_pI B fl_RX3_22 eh12 rfl dX3_dropEntry_67 ?_
  cases hf
  exact z_vret B dX3_dropEntry_70 (Nat.le_of_ble_eq_true rfl) (Nat.le_of_ble_eq_true rfl)
abbrev rm_X1_largestDerived : Room := { frames := 1, cells := 0, slots := 0, locals := 21 }
set_option maxRecDepth 100000 in
set_option maxHeartbeats 4000000 in
theorem fX1_largestDerived_L4_ok {G : zG} {x : zX} (B : zB G x cX1_largestDerived 3 RX1 "largestDerived" rm_X1_largestDerived (some .int)) (hst : (zl x).stackTraces = false) (hE : ∀ e ∈ (zc x).exceptionTable.toList, False) {r : Int32 × zH} {k : zH → Int32 → Int32 → Option (Int32 × zH)} {u0 : Nat} (hk : ∀ h v1 v2, k h v1 v2 = some r → zV G x 3 (zQ G x (zoi r) 0 0) h 0 0 46 [(0, .ref u0), (1, .int v1), (2, .int v2)] []) : ∀ n h v1 v2, fX1_largestDerived_L4 k u0 n h v1 v2 = some r → zV G x 3 (zQ G x (zoi r) 0 0) h 0 0 4 [(0, .ref u0), (1, .int v1), (2, .int v2)] [] := by
  intro n
  induction n with
  | zero =>
    intro h v1 v2 hf
    have hf : (none : Option (Int32 × zH)) = some r := hf
    cases hf
  | succ n ih =>
    intro h v1 v2 hf
    rw [fX1_largestDerived_L4] at hf
    refine z_iload_n B dX1_largestDerived_4 rfl 2 rfl ?_
    refine z_bipush (v := 8) B dX1_largestDerived_5 (by decide) ?_
    rcases zite hf with ⟨c1, hf⟩ | ⟨c1, hf⟩
    · refine z_icmp_ge B 46 dX1_largestDerived_7 (by decide) (fun _ => ?_) (fun e => absurd c1 e)
      exact hk _ _ _ hf
    refine z_icmp_ge B 46 dX1_largestDerived_7 (by decide) (fun e => absurd e c1) (fun _ => ?_)
    refine z_aload_n B dX1_largestDerived_10 rfl 0 rfl ?_
    refine z_iload_n B dX1_largestDerived_11 rfl 2 rfl ?_
    obtain ⟨w2, h3, ew2, hf⟩ := zb2s hf
    refine z_callVi B [.int v2] [] cw_X1_holdsDerived mv_RX1_55 (tX1_holdsDerived hst ew2) rfl (by decide) (kfX1_holdsDerived ew2) ⟨rfl, rfl, (Nat.le_of_ble_eq_true rfl), (Nat.le_of_ble_eq_true rfl), (Nat.le_of_ble_eq_true rfl), (Nat.le_of_ble_eq_true rfl)⟩ rfl rfl (Nat.le_of_ble_eq_true rfl) dX1_largestDerived_12 ?_
    rcases zite hf with ⟨c4, hf⟩ | ⟨c4, hf⟩
    · refine z_if_eq B 40 dX1_largestDerived_15 (by decide) (fun _ => ?_) (fun e => absurd c4 e)
      refine z_iinc (v' := (v2 + 1)) (lv' := [(2, .int (v2 + 1)), (0, .ref u0), (1, .int v1)]) B dX1_largestDerived_40 2 rfl rfl (by decide) rfl ?_
      refine z_goto B 4 dX1_largestDerived_43 (by decide) ?_
      refine zV.sub [1, 2, 0] rfl ?_
      exact ih _ _ _ hf
    refine z_if_eq B 40 dX1_largestDerived_15 (by decide) (fun e => absurd e c4) (fun _ => ?_)
    refine z_iload_n B dX1_largestDerived_18 rfl 1 rfl ?_
    refine z_iconst (v := (-1)) B dX1_largestDerived_19 (by decide) ?_
    rcases zite hf with ⟨c5, hf⟩ | ⟨c5, hf⟩
    · refine z_icmp_eq B 38 dX1_largestDerived_20 (by decide) (fun _ => ?_) (fun e => absurd c5 e)
      refine z_iload_n B dX1_largestDerived_38 rfl 2 rfl ?_
      refine z_istore_n (lv' := [(1, .int v2), (0, .ref u0), (2, .int v2)]) B dX1_largestDerived_39 rfl (by decide) rfl ?_
      refine z_iinc (v' := (v2 + 1)) (lv' := [(2, .int (v2 + 1)), (1, .int v2), (0, .ref u0)]) B dX1_largestDerived_40 2 rfl rfl (by decide) rfl ?_
      refine z_goto B 4 dX1_largestDerived_43 (by decide) ?_
      refine zV.sub [2, 1, 0] rfl ?_
      exact ih _ _ _ hf
    refine z_icmp_eq B 38 dX1_largestDerived_20 (by decide) (fun e => absurd e c5) (fun _ => ?_)
    refine z_aload_n B dX1_largestDerived_23 rfl 0 rfl ?_
    obtain ⟨w6, ew6, hf⟩ := zbs hf
    refine z_gP B fl_RX1_9 ew6 rfl dX1_largestDerived_24 ?_
    refine z_iload_n B dX1_largestDerived_27 rfl 2 rfl ?_
    obtain ⟨w7, ew7, hf⟩ := zbs hf
    refine z_aI B ew7 dX1_largestDerived_28 ?_
    refine z_aload_n B dX1_largestDerived_29 rfl 0 rfl ?_
    obtain ⟨w8, ew8, hf⟩ := zbs hf
    refine z_gP B fl_RX1_9 ew8 rfl dX1_largestDerived_30 ?_
    refine z_iload_n B dX1_largestDerived_33 rfl 1 rfl ?_
    obtain ⟨w9, ew9, hf⟩ := zbs hf
    refine z_aI B ew9 dX1_largestDerived_34 ?_
    rcases zite hf with ⟨c10, hf⟩ | ⟨c10, hf⟩
    · refine z_icmp_le B 40 dX1_largestDerived_35 (by decide) (fun _ => ?_) (fun e => absurd c10 e)
      refine z_iinc (v' := (v2 + 1)) (lv' := [(2, .int (v2 + 1)), (0, .ref u0), (1, .int v1)]) B dX1_largestDerived_40 2 rfl rfl (by decide) rfl ?_
      refine z_goto B 4 dX1_largestDerived_43 (by decide) ?_
      refine zV.sub [1, 2, 0] rfl ?_
      exact ih _ _ _ hf
    refine z_icmp_le B 40 dX1_largestDerived_35 (by decide) (fun e => absurd e c10) (fun _ => ?_)
    refine z_iload_n B dX1_largestDerived_38 rfl 2 rfl ?_
    refine z_istore_n (lv' := [(1, .int v2), (0, .ref u0), (2, .int v2)]) B dX1_largestDerived_39 rfl (by decide) rfl ?_
    refine z_iinc (v' := (v2 + 1)) (lv' := [(2, .int (v2 + 1)), (1, .int v2), (0, .ref u0)]) B dX1_largestDerived_40 2 rfl rfl (by decide) rfl ?_
    refine z_goto B 4 dX1_largestDerived_43 (by decide) ?_
    refine zV.sub [2, 1, 0] rfl ?_
    exact ih _ _ _ hf
set_option maxRecDepth 100000 in
set_option maxHeartbeats 4000000 in
theorem tX1_largestDerived {l : Launch} {G : zG} (hst : l.stackTraces = false) {h : zH} {a0 : Nat} {r : Int32 × zH} (hf : fX1_largestDerived h a0 = some r) : zMet l G yX1_largestDerived (.code yX1_largestDerived cX1_largestDerived 3 (some .int)) rm_X1_largestDerived 0 0 [.ref a0] h (zoi r) := by
  unfold fX1_largestDerived at hf
  obtain ⟨-, hf⟩ := zck hf
  refine z_enter (by decide) (Nat.le_of_ble_eq_true rfl) hst (fun x hx B hE => ?_)
  subst hx
  have B : zB G x cX1_largestDerived 3 RX1 "largestDerived" rm_X1_largestDerived (some .int) := B
  show zV G x 3 (zQ G x (zoi r) 0 0) h 0 0 0 [(0, .ref a0)] []
  refine z_iconst (v := (-1)) B dX1_largestDerived_0 (by decide) ?_
  refine z_istore_n (lv' := [(1, .int (-1)), (0, .ref a0)]) B dX1_largestDerived_1 rfl (by decide) rfl ?_
  refine z_iconst (v := 0) B dX1_largestDerived_2 (by decide) ?_
  refine z_istore_n (lv' := [(2, .int 0), (1, .int (-1)), (0, .ref a0)]) B dX1_largestDerived_3 rfl (by decide) rfl ?_
  refine zV.sub [2, 1, 0] rfl ?_
  refine fX1_largestDerived_L4_ok B hst hE (fun h1 y2 y3 hf => ?_) _ _ _ _ hf
  refine z_iload_n B dX1_largestDerived_46 rfl 1 rfl ?_
  cases hf
  exact z_iret B dX1_largestDerived_47 (Nat.le_of_ble_eq_true rfl) (Nat.le_of_ble_eq_true rfl)
abbrev rm_X1_dropForm : Room := { frames := 1, cells := 0, slots := 0, locals := 21 }
set_option maxRecDepth 100000 in
set_option maxHeartbeats 4000000 in
theorem tX1_dropForm {l : Launch} {G : zG} (hst : l.stackTraces = false) {h : zH} {a0 : Nat} {a1 : Int32} {r : zH} (hf : fX1_dropForm h a0 a1 = some r) : zMet l G yX1_dropForm (.code yX1_dropForm cX1_dropForm 2 none) rm_X1_dropForm 0 0 [.ref a0, .int a1] h (zov r) := by
  unfold fX1_dropForm at hf
  obtain ⟨-, hf⟩ := zck hf
  refine z_enter (by decide) (Nat.le_of_ble_eq_true rfl) hst (fun x hx B hE => ?_)
  subst hx
  have B : zB G x cX1_dropForm 2 RX1 "dropForm" rm_X1_dropForm none := B
  show zV G x 2 (zQ G x (zov r) 0 0) h 0 0 0 [(0, .ref a0), (1, .int a1)] []
  refine z_aload_n B dX1_dropForm_0 rfl 0 rfl ?_
  refine z_iload_n B dX1_dropForm_1 rfl 1 rfl ?_
  obtain ⟨w1, h2, ew1, hf⟩ := zb2s hf
  refine z_callVi B [.int a1] [] cw_X1_holds mv_RX1_51 (tX1_holds hst ew1) rfl (by decide) (kfX1_holds ew1) ⟨rfl, rfl, (Nat.le_of_ble_eq_true rfl), (Nat.le_of_ble_eq_true rfl), (Nat.le_of_ble_eq_true rfl), (Nat.le_of_ble_eq_true rfl)⟩ rfl rfl (Nat.le_of_ble_eq_true rfl) dX1_dropForm_2 ?_
  rcases zite hf with ⟨c3, hf⟩ | ⟨c3, hf⟩
  · refine z_if_ne B 9 dX1_dropForm_5 (by decide) (fun e => absurd c3 e) (fun _ => ?_)
    cases hf
    exact z_vret B dX1_dropForm_8 (Nat.le_of_ble_eq_true rfl) (Nat.le_of_ble_eq_true rfl)
  refine z_if_ne B 9 dX1_dropForm_5 (by decide) (fun _ => ?_) (fun e => absurd e c3)
  refine z_aload_n B dX1_dropForm_9 rfl 0 rfl ?_
  refine z_dup B dX1_dropForm_10 rfl ?_
  obtain ⟨w4, ew4, hf⟩ := zbs hf
  refine z_gI B fl_RX1_25 ew4 rfl dX1_dropForm_11 ?_
  refine z_aload_n B dX1_dropForm_14 rfl 0 rfl ?_
  obtain ⟨w5, ew5, hf⟩ := zbs hf
  refine z_gP B fl_RX1_9 ew5 rfl dX1_dropForm_15 ?_
  refine z_iload_n B dX1_dropForm_18 rfl 1 rfl ?_
  obtain ⟨w6, ew6, hf⟩ := zbs hf
  refine z_aI B ew6 dX1_dropForm_19 ?_
  refine z_isub B dX1_dropForm_20 ?_
  obtain ⟨h7, eh7, hf⟩ := zbs hf
  refine z_pI B fl_RX1_25 eh7 rfl dX1_dropForm_21 ?_
  refine z_aload_n B dX1_dropForm_24 rfl 0 rfl ?_
  refine z_dup B dX1_dropForm_25 rfl ?_
  obtain ⟨w8, ew8, hf⟩ := zbs hf
  refine z_gI B fl_RX1_18 ew8 rfl dX1_dropForm_26 ?_
  refine z_iconst (v := 1) B dX1_dropForm_29 (by decide) ?_
  refine z_iload_n B dX1_dropForm_30 rfl 1 rfl ?_
  refine z_ishl B dX1_dropForm_31 ?_
  refine z_iconst (v := (-1)) B dX1_dropForm_32 (by decide) ?_
  refine z_ixor B dX1_dropForm_33 ?_
  refine z_iand B dX1_dropForm_34 ?_
  obtain ⟨h9, eh9, hf⟩ := zbs hf
  refine z_pI B fl_RX1_18 eh9 rfl dX1_dropForm_35 ?_
  refine z_aload_n B dX1_dropForm_38 rfl 0 rfl ?_
  refine z_dup B dX1_dropForm_39 rfl ?_
  obtain ⟨w10, ew10, hf⟩ := zbs hf
  refine z_gI B fl_RX1_22 ew10 rfl dX1_dropForm_40 ?_
  refine z_iconst (v := 1) B dX1_dropForm_43 (by decide) ?_
  refine z_iload_n B dX1_dropForm_44 rfl 1 rfl ?_
  refine z_ishl B dX1_dropForm_45 ?_
  refine z_iconst (v := (-1)) B dX1_dropForm_46 (by decide) ?_
  refine z_ixor B dX1_dropForm_47 ?_
  refine z_iand B dX1_dropForm_48 ?_
  obtain ⟨h11, eh11, hf⟩ := zbs hf
  refine z_pI B fl_RX1_22 eh11 rfl dX1_dropForm_49 ?_
  cases hf
  exact z_vret B dX1_dropForm_52 (Nat.le_of_ble_eq_true rfl) (Nat.le_of_ble_eq_true rfl)
abbrev rm_X3_dropLargestDerived : Room := { frames := 2, cells := 0, slots := 0, locals := 43 }
set_option maxRecDepth 100000 in
set_option maxHeartbeats 4000000 in
theorem fX3_dropLargestDerived_L7_ok {G : zG} {x : zX} (B : zB G x cX3_dropLargestDerived 6 RX3 "dropLargestDerived" rm_X3_dropLargestDerived (some .boolean)) (hst : (zl x).stackTraces = false) (hE : ∀ e ∈ (zc x).exceptionTable.toList, False) {r : Int32 × zH} {k : zH → Int32 → Int32 → Int32 → Option (Int32 × zH)} {u0 : Nat} {u1 : Int32} (hk : ∀ h v2 v3 v4, k h v2 v3 v4 = some r → zV G x 6 (zQ G x (zoi r) 0 0) h 0 0 80 [(0, .ref u0), (1, .int u1), (2, .int v2), (3, .int v3), (4, .int v4)] []) : ∀ n h v2 v3 v4, fX3_dropLargestDerived_L7 k u0 u1 n h v2 v3 v4 = some r → zV G x 6 (zQ G x (zoi r) 0 0) h 0 0 7 [(0, .ref u0), (1, .int u1), (2, .int v2), (3, .int v3), (4, .int v4)] [] := by
  intro n
  induction n with
  | zero =>
    intro h v2 v3 v4 hf
    have hf : (none : Option (Int32 × zH)) = some r := hf
    cases hf
  | succ n ih =>
    intro h v2 v3 v4 hf
    rw [fX3_dropLargestDerived_L7] at hf
    refine z_iload B dX3_dropLargestDerived_7 4 rfl ?_
    refine z_aload_n B dX3_dropLargestDerived_9 rfl 0 rfl ?_
    obtain ⟨w1, ew1, hf⟩ := zbs hf
    refine z_gI B fl_RX3_22 ew1 rfl dX3_dropLargestDerived_10 ?_
    rcases zite hf with ⟨c2, hf⟩ | ⟨c2, hf⟩
    · refine z_icmp_ge B 80 dX3_dropLargestDerived_13 (by decide) (fun _ => ?_) (fun e => absurd c2 e)
      exact hk _ _ _ _ hf
    refine z_icmp_ge B 80 dX3_dropLargestDerived_13 (by decide) (fun e => absurd e c2) (fun _ => ?_)
    refine z_aload_n B dX3_dropLargestDerived_16 rfl 0 rfl ?_
    obtain ⟨w3, ew3, hf⟩ := zbs hf
    refine z_gP B fl_RX3_11 ew3 rfl dX3_dropLargestDerived_17 ?_
    refine z_iload B dX3_dropLargestDerived_20 4 rfl ?_
    obtain ⟨w4, ew4, hf⟩ := zbs hf
    refine z_aP B ew4 dX3_dropLargestDerived_22 ?_
    obtain ⟨w5, h6, ew5, hf⟩ := zb2s hf
    refine z_callVi B [] [] cw_X1_largestDerived mv_RX3_135 (tX1_largestDerived hst ew5) rfl (by decide) (kfX1_largestDerived ew5) ⟨rfl, rfl, (Nat.le_of_ble_eq_true rfl), (Nat.le_of_ble_eq_true rfl), (Nat.le_of_ble_eq_true rfl), (Nat.le_of_ble_eq_true rfl)⟩ rfl rfl (Nat.le_of_ble_eq_true rfl) dX3_dropLargestDerived_23 ?_
    refine z_istore (lv' := [(5, .int w5), (0, .ref u0), (1, .int u1), (2, .int v2), (3, .int v3), (4, .int v4)]) B dX3_dropLargestDerived_26 (by decide) rfl ?_
    refine z_iload B dX3_dropLargestDerived_28 5 rfl ?_
    refine z_iload_n B dX3_dropLargestDerived_30 rfl 2 rfl ?_
    rcases zite hf with ⟨c7, hf⟩ | ⟨c7, hf⟩
    · refine z_icmp_eq B 74 dX3_dropLargestDerived_31 (by decide) (fun _ => ?_) (fun e => absurd c7 e)
      refine z_iinc (v' := (v4 + 1)) (lv' := [(4, .int (v4 + 1)), (5, .int w5), (0, .ref u0), (1, .int u1), (2, .int v2), (3, .int v3)]) B dX3_dropLargestDerived_74 5 rfl rfl (by decide) rfl ?_
      refine z_goto B 7 dX3_dropLargestDerived_77 (by decide) ?_
      refine zV.sub [2, 3, 4, 5, 0] rfl ?_
      exact ih _ _ _ _ hf
    refine z_icmp_eq B 74 dX3_dropLargestDerived_31 (by decide) (fun e => absurd e c7) (fun _ => ?_)
    refine z_iload B dX3_dropLargestDerived_34 0 rfl ?_
    refine z_iconst (v := (-1)) B dX3_dropLargestDerived_36 (by decide) ?_
    rcases zite hf with ⟨c8, hf⟩ | ⟨c8, hf⟩
    · refine z_icmp_eq B 74 dX3_dropLargestDerived_37 (by decide) (fun _ => ?_) (fun e => absurd c8 e)
      refine z_iinc (v' := (v4 + 1)) (lv' := [(4, .int (v4 + 1)), (5, .int w5), (0, .ref u0), (1, .int u1), (2, .int v2), (3, .int v3)]) B dX3_dropLargestDerived_74 5 rfl rfl (by decide) rfl ?_
      refine z_goto B 7 dX3_dropLargestDerived_77 (by decide) ?_
      refine zV.sub [2, 3, 4, 5, 0] rfl ?_
      exact ih _ _ _ _ hf
    refine z_icmp_eq B 74 dX3_dropLargestDerived_37 (by decide) (fun e => absurd e c8) (fun _ => ?_)
    refine z_aload_n B dX3_dropLargestDerived_40 rfl 1 rfl ?_
    obtain ⟨w9, ew9, hf⟩ := zbs hf
    refine z_gP B fl_RX3_11 ew9 rfl dX3_dropLargestDerived_41 ?_
    refine z_iload B dX3_dropLargestDerived_44 5 rfl ?_
    obtain ⟨w10, ew10, hf⟩ := zbs hf
    refine z_aP B ew10 dX3_dropLargestDerived_46 ?_
    obtain ⟨w11, ew11, hf⟩ := zbs hf
    refine z_gPR B fr_RX3_102 ew11 rfl dX3_dropLargestDerived_47 ?_
    refine z_iload B dX3_dropLargestDerived_50 0 rfl ?_
    obtain ⟨w12, ew12, hf⟩ := zbs hf
    refine z_aI B ew12 dX3_dropLargestDerived_52 ?_
    refine z_iload_n B dX3_dropLargestDerived_53 rfl 4 rfl ?_
    rcases zite hf with ⟨c13, hf⟩ | ⟨c13, hf⟩
    · refine z_icmp_lt B 74 dX3_dropLargestDerived_54 (by decide) (fun _ => ?_) (fun e => absurd c13 e)
      refine z_iinc (v' := (v4 + 1)) (lv' := [(4, .int (v4 + 1)), (5, .int w5), (0, .ref u0), (1, .int u1), (2, .int v2), (3, .int v3)]) B dX3_dropLargestDerived_74 5 rfl rfl (by decide) rfl ?_
      refine z_goto B 7 dX3_dropLargestDerived_77 (by decide) ?_
      refine zV.sub [2, 3, 4, 5, 0] rfl ?_
      exact ih _ _ _ _ hf
    refine z_icmp_lt B 74 dX3_dropLargestDerived_54 (by decide) (fun e => absurd e c13) (fun _ => ?_)
    refine z_iload B dX3_dropLargestDerived_57 5 rfl ?_
    refine z_istore_n (lv' := [(2, .int v4), (5, .int w5), (0, .ref u0), (1, .int u1), (3, .int v3), (4, .int v4)]) B dX3_dropLargestDerived_59 rfl (by decide) rfl ?_
    refine z_aload_n B dX3_dropLargestDerived_60 rfl 2 rfl ?_
    obtain ⟨w14, ew14, hf⟩ := zbs hf
    refine z_gP B fl_RX3_11 ew14 rfl dX3_dropLargestDerived_61 ?_
    refine z_iload B dX3_dropLargestDerived_64 5 rfl ?_
    obtain ⟨w15, ew15, hf⟩ := zbs hf
    refine z_aP B ew15 dX3_dropLargestDerived_66 ?_
    obtain ⟨w16, ew16, hf⟩ := zbs hf
    refine z_gPR B fr_RX3_102 ew16 rfl dX3_dropLargestDerived_67 ?_
    refine z_iload B dX3_dropLargestDerived_70 1 rfl ?_
    obtain ⟨w17, ew17, hf⟩ := zbs hf
    refine z_aI B ew17 dX3_dropLargestDerived_72 ?_
    refine z_istore_n (lv' := [(3, .int w17), (2, .int v4), (5, .int w5), (0, .ref u0), (1, .int u1), (4, .int v4)]) B dX3_dropLargestDerived_73 rfl (by decide) rfl ?_
    refine z_iinc (v' := (v4 + 1)) (lv' := [(4, .int (v4 + 1)), (3, .int w17), (2, .int v4), (5, .int w5), (0, .ref u0), (1, .int u1)]) B dX3_dropLargestDerived_74 5 rfl rfl (by decide) rfl ?_
    refine z_goto B 7 dX3_dropLargestDerived_77 (by decide) ?_
    refine zV.sub [4, 5, 2, 1, 0] rfl ?_
    exact ih _ _ _ _ hf
set_option maxRecDepth 100000 in
set_option maxHeartbeats 4000000 in
theorem tX3_dropLargestDerived {l : Launch} {G : zG} (hst : l.stackTraces = false) {h : zH} {a0 : Nat} {a1 : Int32} {r : Int32 × zH} (hf : fX3_dropLargestDerived h a0 a1 = some r) : zMet l G yX3_dropLargestDerived (.code yX3_dropLargestDerived cX3_dropLargestDerived 6 (some .boolean)) rm_X3_dropLargestDerived 0 0 [.ref a0, .int a1] h (zoi r) := by
  unfold fX3_dropLargestDerived at hf
  obtain ⟨-, hf⟩ := zck hf
  refine z_enter (by decide) (Nat.le_of_ble_eq_true rfl) hst (fun x hx B hE => ?_)
  subst hx
  have B : zB G x cX3_dropLargestDerived 6 RX3 "dropLargestDerived" rm_X3_dropLargestDerived (some .boolean) := B
  show zV G x 6 (zQ G x (zoi r) 0 0) h 0 0 0 [(0, .ref a0), (1, .int a1)] []
  refine z_iconst (v := (-1)) B dX3_dropLargestDerived_0 (by decide) ?_
  refine z_istore_n (lv' := [(2, .int (-1)), (0, .ref a0), (1, .int a1)]) B dX3_dropLargestDerived_1 rfl (by decide) rfl ?_
  refine z_iconst (v := 0) B dX3_dropLargestDerived_2 (by decide) ?_
  refine z_istore_n (lv' := [(3, .int 0), (2, .int (-1)), (0, .ref a0), (1, .int a1)]) B dX3_dropLargestDerived_3 rfl (by decide) rfl ?_
  refine z_iconst (v := 0) B dX3_dropLargestDerived_4 (by decide) ?_
  refine z_istore (lv' := [(4, .int 0), (3, .int 0), (2, .int (-1)), (0, .ref a0), (1, .int a1)]) B dX3_dropLargestDerived_5 (by decide) rfl ?_
  refine zV.sub [3, 4, 2, 1, 0] rfl ?_
  refine fX3_dropLargestDerived_L7_ok B hst hE (fun h1 y2 y3 y4 hf => ?_) _ _ _ _ _ hf
  refine z_iload_n B dX3_dropLargestDerived_80 rfl 2 rfl ?_
  refine z_iconst (v := (-1)) B dX3_dropLargestDerived_81 (by decide) ?_
  rcases zite hf with ⟨c5, hf⟩ | ⟨c5, hf⟩
  · refine z_icmp_ne B 87 dX3_dropLargestDerived_82 (by decide) (fun e => absurd c5 e) (fun _ => ?_)
    refine z_iconst (v := 0) B dX3_dropLargestDerived_85 (by decide) ?_
    cases hf
    exact z_zret B dX3_dropLargestDerived_86 (Or.inl rfl) (Nat.le_of_ble_eq_true rfl) (Nat.le_of_ble_eq_true rfl)
  refine z_icmp_ne B 87 dX3_dropLargestDerived_82 (by decide) (fun _ => ?_) (fun e => absurd e c5)
  refine z_aload_n B dX3_dropLargestDerived_87 rfl 0 rfl ?_
  obtain ⟨w6, ew6, hf⟩ := zbs hf
  refine z_gP B fl_RX3_11 ew6 rfl dX3_dropLargestDerived_88 ?_
  refine z_iload_n B dX3_dropLargestDerived_91 rfl 2 rfl ?_
  obtain ⟨w7, ew7, hf⟩ := zbs hf
  refine z_aP B ew7 dX3_dropLargestDerived_92 ?_
  refine z_aload_n B dX3_dropLargestDerived_93 rfl 0 rfl ?_
  obtain ⟨w8, ew8, hf⟩ := zbs hf
  refine z_gP B fl_RX3_11 ew8 rfl dX3_dropLargestDerived_94 ?_
  refine z_iload_n B dX3_dropLargestDerived_97 rfl 2 rfl ?_
  obtain ⟨w9, ew9, hf⟩ := zbs hf
  refine z_aP B ew9 dX3_dropLargestDerived_98 ?_
  obtain ⟨w10, h11, ew10, hf⟩ := zb2s hf
  refine z_callVi B [] [.ref w7] cw_X1_largestDerived mv_RX3_135 (tX1_largestDerived hst ew10) rfl (by decide) (kfX1_largestDerived ew10) ⟨rfl, rfl, (Nat.le_of_ble_eq_true rfl), (Nat.le_of_ble_eq_true rfl), (Nat.le_of_ble_eq_true rfl), (Nat.le_of_ble_eq_true rfl)⟩ rfl rfl (Nat.le_of_ble_eq_true rfl) dX3_dropLargestDerived_99 ?_
  obtain ⟨h12, eh12, hf⟩ := zbs hf
  refine z_callVv B [.int w10] [] cw_X1_dropForm mv_RX3_105 (tX1_dropForm hst eh12) rfl (by decide) (kfX1_dropForm eh12) ⟨rfl, rfl, (Nat.le_of_ble_eq_true rfl), (Nat.le_of_ble_eq_true rfl), (Nat.le_of_ble_eq_true rfl), (Nat.le_of_ble_eq_true rfl)⟩ rfl rfl (Nat.le_of_ble_eq_true rfl) dX3_dropLargestDerived_102 ?_
  refine z_iconst (v := 1) B dX3_dropLargestDerived_105 (by decide) ?_
  cases hf
  exact z_zret B dX3_dropLargestDerived_106 (Or.inr rfl) (Nat.le_of_ble_eq_true rfl) (Nat.le_of_ble_eq_true rfl)
abbrev rm_X3_makeRoom : Room := { frames := 3, cells := 0, slots := 0, locals := 68 }
set_option maxRecDepth 100000 in
set_option maxHeartbeats 4000000 in
theorem fX3_makeRoom_L2_ok {G : zG} {x : zX} (B : zB G x cX3_makeRoom 4 RX3 "makeRoom" rm_X3_makeRoom none) (hst : (zl x).stackTraces = false) (hE : ∀ e ∈ (zc x).exceptionTable.toList, False) {r : zH} {k : zH → Int32 → Option (zH)} {u0 : Nat} {u1 : Int32} {u2 : Int32} (hk : ∀ h v3, k h v3 = some r → zV G x 4 (zQ G x (zov r) 0 0) h 0 0 44 [(0, .ref u0), (1, .int u1), (2, .int u2), (3, .int v3)] []) : ∀ n h v3, fX3_makeRoom_L2 k u0 u1 u2 n h v3 = some r → zV G x 4 (zQ G x (zov r) 0 0) h 0 0 2 [(0, .ref u0), (1, .int u1), (2, .int u2), (3, .int v3)] [] := by
  intro n
  induction n with
  | zero =>
    intro h v3 hf
    have hf : (none : Option (zH)) = some r := hf
    cases hf
  | succ n ih =>
    intro h v3 hf
    rw [fX3_makeRoom_L2] at hf
    refine z_iload_n B dX3_makeRoom_2 rfl 3 rfl ?_
    refine z_bipush (v := 108) B dX3_makeRoom_3 (by decide) ?_
    rcases zite hf with ⟨c1, hf⟩ | ⟨c1, hf⟩
    · refine z_icmp_ge B 44 dX3_makeRoom_5 (by decide) (fun _ => ?_) (fun e => absurd c1 e)
      exact hk _ _ hf
    refine z_icmp_ge B 44 dX3_makeRoom_5 (by decide) (fun e => absurd e c1) (fun _ => ?_)
    refine z_aload_n B dX3_makeRoom_8 rfl 0 rfl ?_
    obtain ⟨w2, h3, ew2, hf⟩ := zb2s hf
    refine z_callVi B [] [] cw_X3_usedSize mv_RX3_129 (tX3_usedSize hst ew2) rfl (by decide) (kfX3_usedSize ew2) ⟨rfl, rfl, (Nat.le_of_ble_eq_true rfl), (Nat.le_of_ble_eq_true rfl), (Nat.le_of_ble_eq_true rfl), (Nat.le_of_ble_eq_true rfl)⟩ rfl rfl (Nat.le_of_ble_eq_true rfl) dX3_makeRoom_9 ?_
    refine z_iload_n B dX3_makeRoom_12 rfl 1 rfl ?_
    refine z_iadd B dX3_makeRoom_13 ?_
    refine z_aload_n B dX3_makeRoom_14 rfl 0 rfl ?_
    obtain ⟨w4, ew4, hf⟩ := zbs hf
    refine z_gI B fl_RX3_37 ew4 rfl dX3_makeRoom_15 ?_
    rcases zite hf with ⟨c5, hf⟩ | ⟨c5, hf⟩
    · refine z_icmp_le B 44 dX3_makeRoom_18 (by decide) (fun _ => ?_) (fun e => absurd c5 e)
      exact hk _ _ hf
    refine z_icmp_le B 44 dX3_makeRoom_18 (by decide) (fun e => absurd e c5) (fun _ => ?_)
    refine z_aload_n B dX3_makeRoom_21 rfl 0 rfl ?_
    refine z_iload_n B dX3_makeRoom_22 rfl 2 rfl ?_
    obtain ⟨w6, h7, ew6, hf⟩ := zb2s hf
    refine z_callVi B [.int u2] [] cw_X3_dropLargestDerived mv_RX3_132 (tX3_dropLargestDerived hst ew6) rfl (by decide) (kfX3_dropLargestDerived ew6) ⟨rfl, rfl, (Nat.le_of_ble_eq_true rfl), (Nat.le_of_ble_eq_true rfl), (Nat.le_of_ble_eq_true rfl), (Nat.le_of_ble_eq_true rfl)⟩ rfl rfl (Nat.le_of_ble_eq_true rfl) dX3_makeRoom_23 ?_
    rcases zite hf with ⟨c8, hf⟩ | ⟨c8, hf⟩
    · refine z_if_ne B 38 dX3_makeRoom_26 (by decide) (fun e => absurd c8 e) (fun _ => ?_)
      refine z_aload_n B dX3_makeRoom_29 rfl 0 rfl ?_
      refine z_aload_n B dX3_makeRoom_30 rfl 0 rfl ?_
      refine z_iload_n B dX3_makeRoom_31 rfl 2 rfl ?_
      obtain ⟨w9, h10, ew9, hf⟩ := zb2s hf
      refine z_callVi B [.int u2] [.ref u0] cw_X3_heaviest mv_RX3_77 (tX3_heaviest hst ew9) rfl (by decide) (kfX3_heaviest ew9) ⟨rfl, rfl, (Nat.le_of_ble_eq_true rfl), (Nat.le_of_ble_eq_true rfl), (Nat.le_of_ble_eq_true rfl), (Nat.le_of_ble_eq_true rfl)⟩ rfl rfl (Nat.le_of_ble_eq_true rfl) dX3_makeRoom_32 ?_
      obtain ⟨h11, eh11, hf⟩ := zbs hf
      refine z_callVv B [.int w9] [] cw_X3_dropEntry mv_RX3_81 (tX3_dropEntry hst eh11) rfl (by decide) (kfX3_dropEntry eh11) ⟨rfl, rfl, (Nat.le_of_ble_eq_true rfl), (Nat.le_of_ble_eq_true rfl), (Nat.le_of_ble_eq_true rfl), (Nat.le_of_ble_eq_true rfl)⟩ rfl rfl (Nat.le_of_ble_eq_true rfl) dX3_makeRoom_35 ?_
      refine z_iinc (v' := (v3 + 1)) (lv' := [(3, .int (v3 + 1)), (0, .ref u0), (1, .int u1), (2, .int u2)]) B dX3_makeRoom_38 3 rfl rfl (by decide) rfl ?_
      refine z_goto B 2 dX3_makeRoom_41 (by decide) ?_
      refine zV.sub [1, 2, 3, 0] rfl ?_
      exact ih _ _ hf
    refine z_if_ne B 38 dX3_makeRoom_26 (by decide) (fun _ => ?_) (fun e => absurd e c8)
    refine z_iinc (v' := (v3 + 1)) (lv' := [(3, .int (v3 + 1)), (0, .ref u0), (1, .int u1), (2, .int u2)]) B dX3_makeRoom_38 3 rfl rfl (by decide) rfl ?_
    refine z_goto B 2 dX3_makeRoom_41 (by decide) ?_
    refine zV.sub [1, 2, 3, 0] rfl ?_
    exact ih _ _ hf
set_option maxRecDepth 100000 in
set_option maxHeartbeats 4000000 in
theorem tX3_makeRoom {l : Launch} {G : zG} (hst : l.stackTraces = false) {h : zH} {a0 : Nat} {a1 : Int32} {a2 : Int32} {r : zH} (hf : fX3_makeRoom h a0 a1 a2 = some r) : zMet l G yX3_makeRoom (.code yX3_makeRoom cX3_makeRoom 4 none) rm_X3_makeRoom 0 0 [.ref a0, .int a1, .int a2] h (zov r) := by
  unfold fX3_makeRoom at hf
  obtain ⟨-, hf⟩ := zck hf
  refine z_enter (by decide) (Nat.le_of_ble_eq_true rfl) hst (fun x hx B hE => ?_)
  subst hx
  have B : zB G x cX3_makeRoom 4 RX3 "makeRoom" rm_X3_makeRoom none := B
  show zV G x 4 (zQ G x (zov r) 0 0) h 0 0 0 [(0, .ref a0), (1, .int a1), (2, .int a2)] []
  refine z_iconst (v := 0) B dX3_makeRoom_0 (by decide) ?_
  refine z_istore_n (lv' := [(3, .int 0), (0, .ref a0), (1, .int a1), (2, .int a2)]) B dX3_makeRoom_1 rfl (by decide) rfl ?_
  refine zV.sub [1, 2, 3, 0] rfl ?_
  refine fX3_makeRoom_L2_ok B hst hE (fun h1 y2 hf => ?_) _ _ _ hf
  cases hf
  exact z_vret B dX3_makeRoom_44 (Nat.le_of_ble_eq_true rfl) (Nat.le_of_ble_eq_true rfl)
abbrev rm_X1_putForm : Room := { frames := 1, cells := 0, slots := 0, locals := 21 }
set_option maxRecDepth 100000 in
set_option maxHeartbeats 4000000 in
theorem tX1_putForm {l : Launch} {G : zG} (hst : l.stackTraces = false) {h : zH} {a0 : Nat} {a1 : Int32} {a2 : Int32} {a3 : Int32} {a4 : Int32} {r : zH} (hf : fX1_putForm h a0 a1 a2 a3 a4 = some r) : zMet l G yX1_putForm (.code yX1_putForm cX1_putForm 5 none) rm_X1_putForm 0 0 [.ref a0, .int a1, .int a2, .int a3, .int a4] h (zov r) := by
  unfold fX1_putForm at hf
  obtain ⟨-, hf⟩ := zck hf
  refine z_enter (by decide) (Nat.le_of_ble_eq_true rfl) hst (fun x hx B hE => ?_)
  subst hx
  have B : zB G x cX1_putForm 5 RX1 "putForm" rm_X1_putForm none := B
  show zV G x 5 (zQ G x (zov r) 0 0) h 0 0 0 [(0, .ref a0), (1, .int a1), (2, .int a2), (3, .int a3), (4, .int a4)] []
  refine z_iload_n B dX1_putForm_0 rfl 1 rfl ?_
  rcases zite hf with ⟨c1, hf⟩ | ⟨c1, hf⟩
  · refine z_if_lt B 18 dX1_putForm_1 (by decide) (fun _ => ?_) (fun e => absurd c1 e)
    cases hf
    exact z_vret B dX1_putForm_18 (Nat.le_of_ble_eq_true rfl) (Nat.le_of_ble_eq_true rfl)
  refine z_if_lt B 18 dX1_putForm_1 (by decide) (fun e => absurd e c1) (fun _ => ?_)
  refine z_iload_n B dX1_putForm_4 rfl 1 rfl ?_
  refine z_bipush (v := 8) B dX1_putForm_5 (by decide) ?_
  rcases zite hf with ⟨c2, hf⟩ | ⟨c2, hf⟩
  · refine z_icmp_ge B 18 dX1_putForm_7 (by decide) (fun _ => ?_) (fun e => absurd c2 e)
    cases hf
    exact z_vret B dX1_putForm_18 (Nat.le_of_ble_eq_true rfl) (Nat.le_of_ble_eq_true rfl)
  refine z_icmp_ge B 18 dX1_putForm_7 (by decide) (fun e => absurd e c2) (fun _ => ?_)
  refine z_aload_n B dX1_putForm_10 rfl 0 rfl ?_
  refine z_iload_n B dX1_putForm_11 rfl 1 rfl ?_
  obtain ⟨w3, h4, ew3, hf⟩ := zb2s hf
  refine z_callVi B [.int a1] [] cw_X1_holds mv_RX1_51 (tX1_holds hst ew3) rfl (by decide) (kfX1_holds ew3) ⟨rfl, rfl, (Nat.le_of_ble_eq_true rfl), (Nat.le_of_ble_eq_true rfl), (Nat.le_of_ble_eq_true rfl), (Nat.le_of_ble_eq_true rfl)⟩ rfl rfl (Nat.le_of_ble_eq_true rfl) dX1_putForm_12 ?_
  rcases zite hf with ⟨c5, hf⟩ | ⟨c5, hf⟩
  · refine z_if_eq B 19 dX1_putForm_15 (by decide) (fun _ => ?_) (fun e => absurd c5 e)
    refine z_aload_n B dX1_putForm_19 rfl 0 rfl ?_
    obtain ⟨w6, ew6, hf⟩ := zbs hf
    refine z_gP B fl_RX1_9 ew6 rfl dX1_putForm_20 ?_
    refine z_iload_n B dX1_putForm_23 rfl 1 rfl ?_
    refine z_iload_n B dX1_putForm_24 rfl 2 rfl ?_
    obtain ⟨h7, eh7, hf⟩ := zbs hf
    refine z_bI B eh7 dX1_putForm_25 ?_
    refine z_aload_n B dX1_putForm_26 rfl 0 rfl ?_
    obtain ⟨w8, ew8, hf⟩ := zbs hf
    refine z_gP B fl_RX1_15 ew8 rfl dX1_putForm_27 ?_
    refine z_iload_n B dX1_putForm_30 rfl 1 rfl ?_
    refine z_iload_n B dX1_putForm_31 rfl 3 rfl ?_
    obtain ⟨h9, eh9, hf⟩ := zbs hf
    refine z_bI B eh9 dX1_putForm_32 ?_
    refine z_aload_n B dX1_putForm_33 rfl 0 rfl ?_
    refine z_dup B dX1_putForm_34 rfl ?_
    obtain ⟨w10, ew10, hf⟩ := zbs hf
    refine z_gI B fl_RX1_25 ew10 rfl dX1_putForm_35 ?_
    refine z_iload_n B dX1_putForm_38 rfl 2 rfl ?_
    refine z_iadd B dX1_putForm_39 ?_
    obtain ⟨h11, eh11, hf⟩ := zbs hf
    refine z_pI B fl_RX1_25 eh11 rfl dX1_putForm_40 ?_
    refine z_aload_n B dX1_putForm_43 rfl 0 rfl ?_
    refine z_dup B dX1_putForm_44 rfl ?_
    obtain ⟨w12, ew12, hf⟩ := zbs hf
    refine z_gI B fl_RX1_18 ew12 rfl dX1_putForm_45 ?_
    refine z_iconst (v := 1) B dX1_putForm_48 (by decide) ?_
    refine z_iload_n B dX1_putForm_49 rfl 1 rfl ?_
    refine z_ishl B dX1_putForm_50 ?_
    refine z_ior B dX1_putForm_51 ?_
    obtain ⟨h13, eh13, hf⟩ := zbs hf
    refine z_pI B fl_RX1_18 eh13 rfl dX1_putForm_52 ?_
    refine z_iload B dX1_putForm_55 4 rfl ?_
    rcases zite hf with ⟨c14, hf⟩ | ⟨c14, hf⟩
    · refine z_if_eq B 72 dX1_putForm_57 (by decide) (fun _ => ?_) (fun e => absurd c14 e)
      cases hf
      exact z_vret B dX1_putForm_72 (Nat.le_of_ble_eq_true rfl) (Nat.le_of_ble_eq_true rfl)
    refine z_if_eq B 72 dX1_putForm_57 (by decide) (fun e => absurd e c14) (fun _ => ?_)
    refine z_aload_n B dX1_putForm_60 rfl 0 rfl ?_
    refine z_dup B dX1_putForm_61 rfl ?_
    obtain ⟨w15, ew15, hf⟩ := zbs hf
    refine z_gI B fl_RX1_22 ew15 rfl dX1_putForm_62 ?_
    refine z_iconst (v := 1) B dX1_putForm_65 (by decide) ?_
    refine z_iload_n B dX1_putForm_66 rfl 1 rfl ?_
    refine z_ishl B dX1_putForm_67 ?_
    refine z_ior B dX1_putForm_68 ?_
    obtain ⟨h16, eh16, hf⟩ := zbs hf
    refine z_pI B fl_RX1_22 eh16 rfl dX1_putForm_69 ?_
    cases hf
    exact z_vret B dX1_putForm_72 (Nat.le_of_ble_eq_true rfl) (Nat.le_of_ble_eq_true rfl)
  refine z_if_eq B 19 dX1_putForm_15 (by decide) (fun e => absurd e c5) (fun _ => ?_)
  cases hf
  exact z_vret B dX1_putForm_18 (Nat.le_of_ble_eq_true rfl) (Nat.le_of_ble_eq_true rfl)
abbrev rm_X1_begin : Room := { frames := 2, cells := 0, slots := 0, locals := 45 }
set_option maxRecDepth 100000 in
set_option maxHeartbeats 4000000 in
theorem tX1_begin {l : Launch} {G : zG} (hst : l.stackTraces = false) {h : zH} {a0 : Nat} {a1 : Int32} {a2 : Int32} {a3 : Int32} {r : zH} (hf : fX1_begin h a0 a1 a2 a3 = some r) : zMet l G yX1_begin (.code yX1_begin cX1_begin 4 none) rm_X1_begin 0 0 [.ref a0, .int a1, .int a2, .int a3] h (zov r) := by
  unfold fX1_begin at hf
  obtain ⟨-, hf⟩ := zck hf
  refine z_enter (by decide) (Nat.le_of_ble_eq_true rfl) hst (fun x hx B hE => ?_)
  subst hx
  have B : zB G x cX1_begin 4 RX1 "begin" rm_X1_begin none := B
  show zV G x 4 (zQ G x (zov r) 0 0) h 0 0 0 [(0, .ref a0), (1, .int a1), (2, .int a2), (3, .int a3)] []
  refine z_aload_n B dX1_begin_0 rfl 0 rfl ?_
  refine z_iconst (v := 0) B dX1_begin_1 (by decide) ?_
  obtain ⟨h1, eh1, hf⟩ := zbs hf
  refine z_pI B fl_RX1_18 eh1 rfl dX1_begin_2 ?_
  refine z_aload_n B dX1_begin_5 rfl 0 rfl ?_
  refine z_iconst (v := 0) B dX1_begin_6 (by decide) ?_
  obtain ⟨h2, eh2, hf⟩ := zbs hf
  refine z_pI B fl_RX1_22 eh2 rfl dX1_begin_7 ?_
  refine z_aload_n B dX1_begin_10 rfl 0 rfl ?_
  refine z_iconst (v := 0) B dX1_begin_11 (by decide) ?_
  obtain ⟨h3, eh3, hf⟩ := zbs hf
  refine z_pI B fl_RX1_25 eh3 rfl dX1_begin_12 ?_
  refine z_aload_n B dX1_begin_15 rfl 0 rfl ?_
  refine z_iconst (v := 0) B dX1_begin_16 (by decide) ?_
  obtain ⟨h4, eh4, hf⟩ := zbs hf
  refine z_pZ B fl_RX1_28 eh4 rfl dX1_begin_17 ?_
  refine z_aload_n B dX1_begin_20 rfl 0 rfl ?_
  refine z_iconst (v := 0) B dX1_begin_21 (by decide) ?_
  obtain ⟨h5, eh5, hf⟩ := zbs hf
  refine z_pI B fl_RX1_32 eh5 rfl dX1_begin_22 ?_
  refine z_aload_n B dX1_begin_25 rfl 0 rfl ?_
  refine z_iload_n B dX1_begin_26 rfl 3 rfl ?_
  obtain ⟨h6, eh6, hf⟩ := zbs hf
  refine z_pI B fl_RX1_35 eh6 rfl dX1_begin_27 ?_
  refine z_aload_n B dX1_begin_30 rfl 0 rfl ?_
  refine z_iconst (v := (-1)) B dX1_begin_31 (by decide) ?_
  obtain ⟨h7, eh7, hf⟩ := zbs hf
  refine z_pI B fl_RX1_38 eh7 rfl dX1_begin_32 ?_
  refine z_aload_n B dX1_begin_35 rfl 0 rfl ?_
  refine z_iload_n B dX1_begin_36 rfl 1 rfl ?_
  refine z_iload_n B dX1_begin_37 rfl 2 rfl ?_
  refine z_iconst (v := 0) B dX1_begin_38 (by decide) ?_
  refine z_iconst (v := 0) B dX1_begin_39 (by decide) ?_
  obtain ⟨h8, eh8, hf⟩ := zbs hf
  refine z_callVv B [.int a1, .int a2, .int 0, .int 0] [] cw_X1_putForm mv_RX1_41 (tX1_putForm hst eh8) rfl (by decide) (kfX1_putForm eh8) ⟨rfl, rfl, (Nat.le_of_ble_eq_true rfl), (Nat.le_of_ble_eq_true rfl), (Nat.le_of_ble_eq_true rfl), (Nat.le_of_ble_eq_true rfl)⟩ rfl rfl (Nat.le_of_ble_eq_true rfl) dX1_begin_40 ?_
  cases hf
  exact z_vret B dX1_begin_43 (Nat.le_of_ble_eq_true rfl) (Nat.le_of_ble_eq_true rfl)
abbrev rm_X3_moveToFront : Room := { frames := 1, cells := 0, slots := 0, locals := 21 }
set_option maxRecDepth 100000 in
set_option maxHeartbeats 4000000 in
theorem fX3_moveToFront_L18_ok {G : zG} {x : zX} (B : zB G x cX3_moveToFront 4 RX3 "moveToFront" rm_X3_moveToFront none) (hst : (zl x).stackTraces = false) (hE : ∀ e ∈ (zc x).exceptionTable.toList, False) {r : zH} {k : zH → Int32 → Option (zH)} {u0 : Nat} {u1 : Int32} {u2 : Nat} (hk : ∀ h v3, k h v3 = some r → zV G x 4 (zQ G x (zov r) 0 0) h 0 0 42 [(0, .ref u0), (1, .int u1), (2, .ref u2), (3, .int v3)] []) : ∀ n h v3, fX3_moveToFront_L18 k u0 u1 u2 n h v3 = some r → zV G x 4 (zQ G x (zov r) 0 0) h 0 0 18 [(0, .ref u0), (1, .int u1), (2, .ref u2), (3, .int v3)] [] := by
  intro n
  induction n with
  | zero =>
    intro h v3 hf
    have hf : (none : Option (zH)) = some r := hf
    cases hf
  | succ n ih =>
    intro h v3 hf
    rw [fX3_moveToFront_L18] at hf
    refine z_iload_n B dX3_moveToFront_18 rfl 3 rfl ?_
    rcases zite hf with ⟨c1, hf⟩ | ⟨c1, hf⟩
    · refine z_if_le B 42 dX3_moveToFront_19 (by decide) (fun _ => ?_) (fun e => absurd c1 e)
      exact hk _ _ hf
    refine z_if_le B 42 dX3_moveToFront_19 (by decide) (fun e => absurd e c1) (fun _ => ?_)
    refine z_aload_n B dX3_moveToFront_22 rfl 0 rfl ?_
    obtain ⟨w2, ew2, hf⟩ := zbs hf
    refine z_gP B fl_RX3_11 ew2 rfl dX3_moveToFront_23 ?_
    refine z_iload_n B dX3_moveToFront_26 rfl 3 rfl ?_
    refine z_aload_n B dX3_moveToFront_27 rfl 0 rfl ?_
    obtain ⟨w3, ew3, hf⟩ := zbs hf
    refine z_gP B fl_RX3_11 ew3 rfl dX3_moveToFront_28 ?_
    refine z_iload_n B dX3_moveToFront_31 rfl 3 rfl ?_
    refine z_iconst (v := 1) B dX3_moveToFront_32 (by decide) ?_
    refine z_isub B dX3_moveToFront_33 ?_
    obtain ⟨w4, ew4, hf⟩ := zbs hf
    refine z_aP B ew4 dX3_moveToFront_34 ?_
    obtain ⟨h5, eh5, hf⟩ := zbs hf
    refine z_bP B eh5 dX3_moveToFront_35 ?_
    refine z_iinc (v' := (v3 + (-1))) (lv' := [(3, .int (v3 + (-1))), (0, .ref u0), (1, .int u1), (2, .ref u2)]) B dX3_moveToFront_36 3 rfl (zdec _) (by decide) rfl ?_
    refine z_goto B 18 dX3_moveToFront_39 (by decide) ?_
    refine zV.sub [1, 2, 3, 0] rfl ?_
    exact ih _ _ hf
set_option maxRecDepth 100000 in
set_option maxHeartbeats 4000000 in
theorem tX3_moveToFront {l : Launch} {G : zG} (hst : l.stackTraces = false) {h : zH} {a0 : Nat} {a1 : Int32} {r : zH} (hf : fX3_moveToFront h a0 a1 = some r) : zMet l G yX3_moveToFront (.code yX3_moveToFront cX3_moveToFront 4 none) rm_X3_moveToFront 0 0 [.ref a0, .int a1] h (zov r) := by
  unfold fX3_moveToFront at hf
  obtain ⟨-, hf⟩ := zck hf
  refine z_enter (by decide) (Nat.le_of_ble_eq_true rfl) hst (fun x hx B hE => ?_)
  subst hx
  have B : zB G x cX3_moveToFront 4 RX3 "moveToFront" rm_X3_moveToFront none := B
  show zV G x 4 (zQ G x (zov r) 0 0) h 0 0 0 [(0, .ref a0), (1, .int a1)] []
  refine z_aload_n B dX3_moveToFront_0 rfl 0 rfl ?_
  refine z_iload_n B dX3_moveToFront_1 rfl 1 rfl ?_
  obtain ⟨w1, h2, ew1, hf⟩ := zb2s hf
  refine z_callVi B [.int a1] [] cw_X3_hasEntry mv_RX3_58 (tX3_hasEntry hst ew1) rfl (by decide) (kfX3_hasEntry ew1) ⟨rfl, rfl, (Nat.le_of_ble_eq_true rfl), (Nat.le_of_ble_eq_true rfl), (Nat.le_of_ble_eq_true rfl), (Nat.le_of_ble_eq_true rfl)⟩ rfl rfl (Nat.le_of_ble_eq_true rfl) dX3_moveToFront_2 ?_
  rcases zite hf with ⟨c3, hf⟩ | ⟨c3, hf⟩
  · refine z_if_ne B 9 dX3_moveToFront_5 (by decide) (fun e => absurd c3 e) (fun _ => ?_)
    cases hf
    exact z_vret B dX3_moveToFront_8 (Nat.le_of_ble_eq_true rfl) (Nat.le_of_ble_eq_true rfl)
  refine z_if_ne B 9 dX3_moveToFront_5 (by decide) (fun _ => ?_) (fun e => absurd e c3)
  refine z_aload_n B dX3_moveToFront_9 rfl 0 rfl ?_
  obtain ⟨w4, ew4, hf⟩ := zbs hf
  refine z_gP B fl_RX3_11 ew4 rfl dX3_moveToFront_10 ?_
  refine z_iload_n B dX3_moveToFront_13 rfl 1 rfl ?_
  obtain ⟨w5, ew5, hf⟩ := zbs hf
  refine z_aP B ew5 dX3_moveToFront_14 ?_
  refine z_astore_n (lv' := [(2, .ref w5), (0, .ref a0), (1, .int a1)]) B dX3_moveToFront_15 rfl (by decide) rfl ?_
  refine z_iload_n B dX3_moveToFront_16 rfl 2 rfl ?_
  refine z_istore_n (lv' := [(3, .int a1), (2, .ref w5), (0, .ref a0), (1, .int a1)]) B dX3_moveToFront_17 rfl (by decide) rfl ?_
  refine zV.sub [2, 3, 1, 0] rfl ?_
  refine fX3_moveToFront_L18_ok B hst hE (fun h6 y7 hf => ?_) _ _ _ hf
  refine z_aload_n B dX3_moveToFront_42 rfl 0 rfl ?_
  obtain ⟨w8, ew8, hf⟩ := zbs hf
  refine z_gP B fl_RX3_11 ew8 rfl dX3_moveToFront_43 ?_
  refine z_iconst (v := 0) B dX3_moveToFront_46 (by decide) ?_
  refine z_aload_n B dX3_moveToFront_47 rfl 2 rfl ?_
  obtain ⟨h9, eh9, hf⟩ := zbs hf
  refine z_bP B eh9 dX3_moveToFront_48 ?_
  cases hf
  exact z_vret B dX3_moveToFront_49 (Nat.le_of_ble_eq_true rfl) (Nat.le_of_ble_eq_true rfl)
