theorem dX6_way_0 : zD cX6_way 0 (.aload_n 0) 1 1 := ⟨by decide +kernel, rfl⟩
theorem dX6_way_1 : zD cX6_way 1 (.iload_n 1) 1 2 := ⟨by decide +kernel, rfl⟩
theorem dX6_way_2 : zD cX6_way 2 (.invokevirtual 156) 3 5 := ⟨by decide +kernel, rfl⟩
theorem dX6_way_5 : zD cX6_way 5 (.aload_n 0) 1 6 := ⟨by decide +kernel, rfl⟩
theorem dX6_way_6 : zD cX6_way 6 (.iload_n 2) 1 7 := ⟨by decide +kernel, rfl⟩
theorem dX6_way_7 : zD cX6_way 7 (.invokevirtual 145) 3 10 := ⟨by decide +kernel, rfl⟩
theorem dX6_way_10 : zD cX6_way 10 (.iload_n 3) 1 11 := ⟨by decide +kernel, rfl⟩
theorem dX6_way_11 : zD cX6_way 11 (.ifCond .lt 8) 3 14 := ⟨by decide +kernel, rfl⟩
theorem dX6_way_14 : zD cX6_way 14 (.iload_n 3) 1 15 := ⟨by decide +kernel, rfl⟩
theorem dX6_way_15 : zD cX6_way 15 (.iconst 4) 1 16 := ⟨by decide +kernel, rfl⟩
theorem dX6_way_16 : zD cX6_way 16 (.if_icmp .le 13) 3 19 := ⟨by decide +kernel, rfl⟩
theorem dX6_way_19 : zD cX6_way 19 (.new 67) 3 22 := ⟨by decide +kernel, rfl⟩
theorem dX6_way_22 : zD cX6_way 22 (.dup) 1 23 := ⟨by decide +kernel, rfl⟩
theorem dX6_way_23 : zD cX6_way 23 (.ldc 143) 2 25 := ⟨by decide +kernel, rfl⟩
theorem dX6_way_25 : zD cX6_way 25 (.invokespecial 71) 3 28 := ⟨by decide +kernel, rfl⟩
theorem dX6_way_28 : zD cX6_way 28 (.athrow) 1 29 := ⟨by decide +kernel, rfl⟩
theorem dX6_way_29 : zD cX6_way 29 (.aload_n 0) 1 30 := ⟨by decide +kernel, rfl⟩
theorem dX6_way_30 : zD cX6_way 30 (.aload_n 0) 1 31 := ⟨by decide +kernel, rfl⟩
theorem dX6_way_31 : zD cX6_way 31 (.getfield 36) 3 34 := ⟨by decide +kernel, rfl⟩
theorem dX6_way_34 : zD cX6_way 34 (.iload_n 1) 1 35 := ⟨by decide +kernel, rfl⟩
theorem dX6_way_35 : zD cX6_way 35 (.iload_n 2) 1 36 := ⟨by decide +kernel, rfl⟩
theorem dX6_way_36 : zD cX6_way 36 (.invokevirtual 227) 3 39 := ⟨by decide +kernel, rfl⟩
theorem dX6_way_39 : zD cX6_way 39 (.ifCond .ne 6) 3 42 := ⟨by decide +kernel, rfl⟩
theorem dX6_way_42 : zD cX6_way 42 (.bipush (-9)) 2 44 := ⟨by decide +kernel, rfl⟩
theorem dX6_way_44 : zD cX6_way 44 (.ireturn) 1 45 := ⟨by decide +kernel, rfl⟩
theorem dX6_way_45 : zD cX6_way 45 (.iload_n 3) 1 46 := ⟨by decide +kernel, rfl⟩
theorem dX6_way_46 : zD cX6_way 46 (.tableswitch 62 0 3 #[30, 38, 46, 54]) 30 76 := ⟨by decide +kernel, rfl⟩
theorem dX6_way_76 : zD cX6_way 76 (.aload_n 0) 1 77 := ⟨by decide +kernel, rfl⟩
theorem dX6_way_77 : zD cX6_way 77 (.getfield 29) 3 80 := ⟨by decide +kernel, rfl⟩
theorem dX6_way_80 : zD cX6_way 80 (.getfield 318) 3 83 := ⟨by decide +kernel, rfl⟩
theorem dX6_way_83 : zD cX6_way 83 (.ireturn) 1 84 := ⟨by decide +kernel, rfl⟩
theorem dX6_way_84 : zD cX6_way 84 (.aload_n 0) 1 85 := ⟨by decide +kernel, rfl⟩
theorem dX6_way_85 : zD cX6_way 85 (.getfield 29) 3 88 := ⟨by decide +kernel, rfl⟩
theorem dX6_way_88 : zD cX6_way 88 (.getfield 321) 3 91 := ⟨by decide +kernel, rfl⟩
theorem dX6_way_91 : zD cX6_way 91 (.ireturn) 1 92 := ⟨by decide +kernel, rfl⟩
theorem dX6_way_92 : zD cX6_way 92 (.aload_n 0) 1 93 := ⟨by decide +kernel, rfl⟩
theorem dX6_way_93 : zD cX6_way 93 (.getfield 29) 3 96 := ⟨by decide +kernel, rfl⟩
theorem dX6_way_96 : zD cX6_way 96 (.getfield 237) 3 99 := ⟨by decide +kernel, rfl⟩
theorem dX6_way_99 : zD cX6_way 99 (.ireturn) 1 100 := ⟨by decide +kernel, rfl⟩
theorem dX6_way_100 : zD cX6_way 100 (.aload_n 0) 1 101 := ⟨by decide +kernel, rfl⟩
theorem dX6_way_101 : zD cX6_way 101 (.getfield 29) 3 104 := ⟨by decide +kernel, rfl⟩
theorem dX6_way_104 : zD cX6_way 104 (.getfield 324) 3 107 := ⟨by decide +kernel, rfl⟩
theorem dX6_way_107 : zD cX6_way 107 (.ireturn) 1 108 := ⟨by decide +kernel, rfl⟩
theorem dX6_way_108 : zD cX6_way 108 (.aload_n 0) 1 109 := ⟨by decide +kernel, rfl⟩
theorem dX6_way_109 : zD cX6_way 109 (.getfield 29) 3 112 := ⟨by decide +kernel, rfl⟩
theorem dX6_way_112 : zD cX6_way 112 (.getfield 325) 3 115 := ⟨by decide +kernel, rfl⟩
theorem dX6_way_115 : zD cX6_way 115 (.ireturn) 1 116 := ⟨by decide +kernel, rfl⟩
theorem dX6_bestFor_0 : zD cX6_bestFor 0 (.aload_n 0) 1 1 := ⟨by decide +kernel, rfl⟩
theorem dX6_bestFor_1 : zD cX6_bestFor 1 (.iload_n 1) 1 2 := ⟨by decide +kernel, rfl⟩
theorem dX6_bestFor_2 : zD cX6_bestFor 2 (.invokevirtual 145) 3 5 := ⟨by decide +kernel, rfl⟩
theorem dX6_bestFor_5 : zD cX6_bestFor 5 (.bipush (-9)) 2 7 := ⟨by decide +kernel, rfl⟩
theorem dX6_bestFor_7 : zD cX6_bestFor 7 (.istore_n 2) 1 8 := ⟨by decide +kernel, rfl⟩
theorem dX6_bestFor_8 : zD cX6_bestFor 8 (.iconst 0) 1 9 := ⟨by decide +kernel, rfl⟩
theorem dX6_bestFor_9 : zD cX6_bestFor 9 (.istore_n 3) 1 10 := ⟨by decide +kernel, rfl⟩
theorem dX6_bestFor_10 : zD cX6_bestFor 10 (.iconst 0) 1 11 := ⟨by decide +kernel, rfl⟩
theorem dX6_bestFor_11 : zD cX6_bestFor 11 (.istore 4) 2 13 := ⟨by decide +kernel, rfl⟩
theorem dX6_bestFor_13 : zD cX6_bestFor 13 (.iconst 0) 1 14 := ⟨by decide +kernel, rfl⟩
theorem dX6_bestFor_14 : zD cX6_bestFor 14 (.istore 5) 2 16 := ⟨by decide +kernel, rfl⟩
theorem dX6_bestFor_16 : zD cX6_bestFor 16 (.iload 5) 2 18 := ⟨by decide +kernel, rfl⟩
theorem dX6_bestFor_18 : zD cX6_bestFor 18 (.aload_n 0) 1 19 := ⟨by decide +kernel, rfl⟩
theorem dX6_bestFor_19 : zD cX6_bestFor 19 (.getfield 36) 3 22 := ⟨by decide +kernel, rfl⟩
theorem dX6_bestFor_22 : zD cX6_bestFor 22 (.getfield 106) 3 25 := ⟨by decide +kernel, rfl⟩
theorem dX6_bestFor_25 : zD cX6_bestFor 25 (.if_icmp .ge 83) 3 28 := ⟨by decide +kernel, rfl⟩
theorem dX6_bestFor_28 : zD cX6_bestFor 28 (.aload_n 0) 1 29 := ⟨by decide +kernel, rfl⟩
theorem dX6_bestFor_29 : zD cX6_bestFor 29 (.aload_n 0) 1 30 := ⟨by decide +kernel, rfl⟩
theorem dX6_bestFor_30 : zD cX6_bestFor 30 (.getfield 36) 3 33 := ⟨by decide +kernel, rfl⟩
theorem dX6_bestFor_33 : zD cX6_bestFor 33 (.iload 5) 2 35 := ⟨by decide +kernel, rfl⟩
theorem dX6_bestFor_35 : zD cX6_bestFor 35 (.iload_n 1) 1 36 := ⟨by decide +kernel, rfl⟩
theorem dX6_bestFor_36 : zD cX6_bestFor 36 (.invokevirtual 227) 3 39 := ⟨by decide +kernel, rfl⟩
theorem dX6_bestFor_39 : zD cX6_bestFor 39 (.ifCond .eq 63) 3 42 := ⟨by decide +kernel, rfl⟩
theorem dX6_bestFor_42 : zD cX6_bestFor 42 (.iload_n 2) 1 43 := ⟨by decide +kernel, rfl⟩
theorem dX6_bestFor_43 : zD cX6_bestFor 43 (.bipush (-9)) 2 45 := ⟨by decide +kernel, rfl⟩
theorem dX6_bestFor_45 : zD cX6_bestFor 45 (.if_icmp .eq 37) 3 48 := ⟨by decide +kernel, rfl⟩
theorem dX6_bestFor_48 : zD cX6_bestFor 48 (.aload_n 0) 1 49 := ⟨by decide +kernel, rfl⟩
theorem dX6_bestFor_49 : zD cX6_bestFor 49 (.getfield 29) 3 52 := ⟨by decide +kernel, rfl⟩
theorem dX6_bestFor_52 : zD cX6_bestFor 52 (.getfield 318) 3 55 := ⟨by decide +kernel, rfl⟩
theorem dX6_bestFor_55 : zD cX6_bestFor 55 (.iload_n 3) 1 56 := ⟨by decide +kernel, rfl⟩
theorem dX6_bestFor_56 : zD cX6_bestFor 56 (.if_icmp .lt 26) 3 59 := ⟨by decide +kernel, rfl⟩
theorem dX6_bestFor_59 : zD cX6_bestFor 59 (.aload_n 0) 1 60 := ⟨by decide +kernel, rfl⟩
theorem dX6_bestFor_60 : zD cX6_bestFor 60 (.getfield 29) 3 63 := ⟨by decide +kernel, rfl⟩
theorem dX6_bestFor_63 : zD cX6_bestFor 63 (.getfield 318) 3 66 := ⟨by decide +kernel, rfl⟩
theorem dX6_bestFor_66 : zD cX6_bestFor 66 (.iload_n 3) 1 67 := ⟨by decide +kernel, rfl⟩
theorem dX6_bestFor_67 : zD cX6_bestFor 67 (.if_icmp .ne 35) 3 70 := ⟨by decide +kernel, rfl⟩
theorem dX6_bestFor_70 : zD cX6_bestFor 70 (.aload_n 0) 1 71 := ⟨by decide +kernel, rfl⟩
theorem dX6_bestFor_71 : zD cX6_bestFor 71 (.getfield 29) 3 74 := ⟨by decide +kernel, rfl⟩
theorem dX6_bestFor_74 : zD cX6_bestFor 74 (.getfield 325) 3 77 := ⟨by decide +kernel, rfl⟩
theorem dX6_bestFor_77 : zD cX6_bestFor 77 (.iload 4) 2 79 := ⟨by decide +kernel, rfl⟩
theorem dX6_bestFor_79 : zD cX6_bestFor 79 (.if_icmp .ge 23) 3 82 := ⟨by decide +kernel, rfl⟩
theorem dX6_bestFor_82 : zD cX6_bestFor 82 (.iload 5) 2 84 := ⟨by decide +kernel, rfl⟩
theorem dX6_bestFor_84 : zD cX6_bestFor 84 (.istore_n 2) 1 85 := ⟨by decide +kernel, rfl⟩
theorem dX6_bestFor_85 : zD cX6_bestFor 85 (.aload_n 0) 1 86 := ⟨by decide +kernel, rfl⟩
theorem dX6_bestFor_86 : zD cX6_bestFor 86 (.getfield 29) 3 89 := ⟨by decide +kernel, rfl⟩
theorem dX6_bestFor_89 : zD cX6_bestFor 89 (.getfield 318) 3 92 := ⟨by decide +kernel, rfl⟩
theorem dX6_bestFor_92 : zD cX6_bestFor 92 (.istore_n 3) 1 93 := ⟨by decide +kernel, rfl⟩
theorem dX6_bestFor_93 : zD cX6_bestFor 93 (.aload_n 0) 1 94 := ⟨by decide +kernel, rfl⟩
theorem dX6_bestFor_94 : zD cX6_bestFor 94 (.getfield 29) 3 97 := ⟨by decide +kernel, rfl⟩
theorem dX6_bestFor_97 : zD cX6_bestFor 97 (.getfield 325) 3 100 := ⟨by decide +kernel, rfl⟩
theorem dX6_bestFor_100 : zD cX6_bestFor 100 (.istore 4) 2 102 := ⟨by decide +kernel, rfl⟩
theorem dX6_bestFor_102 : zD cX6_bestFor 102 (.iinc 5 1) 3 105 := ⟨by decide +kernel, rfl⟩
theorem dX6_bestFor_105 : zD cX6_bestFor 105 (.goto (-89)) 3 108 := ⟨by decide +kernel, rfl⟩
theorem dX6_bestFor_108 : zD cX6_bestFor 108 (.iload_n 2) 1 109 := ⟨by decide +kernel, rfl⟩
theorem dX6_bestFor_109 : zD cX6_bestFor 109 (.ireturn) 1 110 := ⟨by decide +kernel, rfl⟩
theorem dX3_tagEntries_0 : zD cX3_tagEntries 0 (.iconst 0) 1 1 := ⟨by decide +kernel, rfl⟩
theorem dX3_tagEntries_1 : zD cX3_tagEntries 1 (.istore_n 1) 1 2 := ⟨by decide +kernel, rfl⟩
theorem dX3_tagEntries_2 : zD cX3_tagEntries 2 (.iload_n 1) 1 3 := ⟨by decide +kernel, rfl⟩
theorem dX3_tagEntries_3 : zD cX3_tagEntries 3 (.aload_n 0) 1 4 := ⟨by decide +kernel, rfl⟩
theorem dX3_tagEntries_4 : zD cX3_tagEntries 4 (.getfield 22) 3 7 := ⟨by decide +kernel, rfl⟩
theorem dX3_tagEntries_7 : zD cX3_tagEntries 7 (.if_icmp .ge 19) 3 10 := ⟨by decide +kernel, rfl⟩
theorem dX3_tagEntries_10 : zD cX3_tagEntries 10 (.aload_n 0) 1 11 := ⟨by decide +kernel, rfl⟩
theorem dX3_tagEntries_11 : zD cX3_tagEntries 11 (.getfield 11) 3 14 := ⟨by decide +kernel, rfl⟩
theorem dX3_tagEntries_14 : zD cX3_tagEntries 14 (.iload_n 1) 1 15 := ⟨by decide +kernel, rfl⟩
theorem dX3_tagEntries_15 : zD cX3_tagEntries 15 (.aaload) 1 16 := ⟨by decide +kernel, rfl⟩
theorem dX3_tagEntries_16 : zD cX3_tagEntries 16 (.iload_n 1) 1 17 := ⟨by decide +kernel, rfl⟩
theorem dX3_tagEntries_17 : zD cX3_tagEntries 17 (.putfield 141) 3 20 := ⟨by decide +kernel, rfl⟩
theorem dX3_tagEntries_20 : zD cX3_tagEntries 20 (.iinc 1 1) 3 23 := ⟨by decide +kernel, rfl⟩
theorem dX3_tagEntries_23 : zD cX3_tagEntries 23 (.goto (-21)) 3 26 := ⟨by decide +kernel, rfl⟩
theorem dX3_tagEntries_26 : zD cX3_tagEntries 26 (.return_) 1 27 := ⟨by decide +kernel, rfl⟩
theorem dX3_tagSet_0 : zD cX3_tagSet 0 (.iconst 0) 1 1 := ⟨by decide +kernel, rfl⟩
theorem dX3_tagSet_1 : zD cX3_tagSet 1 (.istore_n 1) 1 2 := ⟨by decide +kernel, rfl⟩
theorem dX3_tagSet_2 : zD cX3_tagSet 2 (.iconst 0) 1 3 := ⟨by decide +kernel, rfl⟩
theorem dX3_tagSet_3 : zD cX3_tagSet 3 (.istore_n 2) 1 4 := ⟨by decide +kernel, rfl⟩
theorem dX3_tagSet_4 : zD cX3_tagSet 4 (.iload_n 2) 1 5 := ⟨by decide +kernel, rfl⟩
theorem dX3_tagSet_5 : zD cX3_tagSet 5 (.aload_n 0) 1 6 := ⟨by decide +kernel, rfl⟩
theorem dX3_tagSet_6 : zD cX3_tagSet 6 (.getfield 22) 3 9 := ⟨by decide +kernel, rfl⟩
theorem dX3_tagSet_9 : zD cX3_tagSet 9 (.if_icmp .ge 36) 3 12 := ⟨by decide +kernel, rfl⟩
theorem dX3_tagSet_12 : zD cX3_tagSet 12 (.aload_n 0) 1 13 := ⟨by decide +kernel, rfl⟩
theorem dX3_tagSet_13 : zD cX3_tagSet 13 (.getfield 11) 3 16 := ⟨by decide +kernel, rfl⟩
theorem dX3_tagSet_16 : zD cX3_tagSet 16 (.iload_n 2) 1 17 := ⟨by decide +kernel, rfl⟩
theorem dX3_tagSet_17 : zD cX3_tagSet 17 (.aaload) 1 18 := ⟨by decide +kernel, rfl⟩
theorem dX3_tagSet_18 : zD cX3_tagSet 18 (.getfield 141) 3 21 := ⟨by decide +kernel, rfl⟩
theorem dX3_tagSet_21 : zD cX3_tagSet 21 (.iconst (-1)) 1 22 := ⟨by decide +kernel, rfl⟩
theorem dX3_tagSet_22 : zD cX3_tagSet 22 (.if_icmp .eq 17) 3 25 := ⟨by decide +kernel, rfl⟩
theorem dX3_tagSet_25 : zD cX3_tagSet 25 (.iload_n 1) 1 26 := ⟨by decide +kernel, rfl⟩
theorem dX3_tagSet_26 : zD cX3_tagSet 26 (.iconst 1) 1 27 := ⟨by decide +kernel, rfl⟩
theorem dX3_tagSet_27 : zD cX3_tagSet 27 (.aload_n 0) 1 28 := ⟨by decide +kernel, rfl⟩
theorem dX3_tagSet_28 : zD cX3_tagSet 28 (.getfield 11) 3 31 := ⟨by decide +kernel, rfl⟩
theorem dX3_tagSet_31 : zD cX3_tagSet 31 (.iload_n 2) 1 32 := ⟨by decide +kernel, rfl⟩
theorem dX3_tagSet_32 : zD cX3_tagSet 32 (.aaload) 1 33 := ⟨by decide +kernel, rfl⟩
theorem dX3_tagSet_33 : zD cX3_tagSet 33 (.getfield 141) 3 36 := ⟨by decide +kernel, rfl⟩
theorem dX3_tagSet_36 : zD cX3_tagSet 36 (.ishl) 1 37 := ⟨by decide +kernel, rfl⟩
theorem dX3_tagSet_37 : zD cX3_tagSet 37 (.ior) 1 38 := ⟨by decide +kernel, rfl⟩
theorem dX3_tagSet_38 : zD cX3_tagSet 38 (.istore_n 1) 1 39 := ⟨by decide +kernel, rfl⟩
theorem dX3_tagSet_39 : zD cX3_tagSet 39 (.iinc 2 1) 3 42 := ⟨by decide +kernel, rfl⟩
theorem dX3_tagSet_42 : zD cX3_tagSet 42 (.goto (-38)) 3 45 := ⟨by decide +kernel, rfl⟩
theorem dX3_tagSet_45 : zD cX3_tagSet 45 (.iload_n 1) 1 46 := ⟨by decide +kernel, rfl⟩
theorem dX3_tagSet_46 : zD cX3_tagSet 46 (.ireturn) 1 47 := ⟨by decide +kernel, rfl⟩
theorem dX6_victims_0 : zD cX6_victims 0 (.iload_n 1) 1 1 := ⟨by decide +kernel, rfl⟩
theorem dX6_victims_1 : zD cX6_victims 1 (.invokestatic 203) 3 4 := ⟨by decide +kernel, rfl⟩
theorem dX6_victims_4 : zD cX6_victims 4 (.aload_n 0) 1 5 := ⟨by decide +kernel, rfl⟩
theorem dX6_victims_5 : zD cX6_victims 5 (.getfield 36) 3 8 := ⟨by decide +kernel, rfl⟩
theorem dX6_victims_8 : zD cX6_victims 8 (.iload_n 1) 1 9 := ⟨by decide +kernel, rfl⟩
theorem dX6_victims_9 : zD cX6_victims 9 (.invokevirtual 206) 3 12 := ⟨by decide +kernel, rfl⟩
theorem dX6_victims_12 : zD cX6_victims 12 (.ifCond .ne 6) 3 15 := ⟨by decide +kernel, rfl⟩
theorem dX6_victims_15 : zD cX6_victims 15 (.bipush (-9)) 2 17 := ⟨by decide +kernel, rfl⟩
theorem dX6_victims_17 : zD cX6_victims 17 (.ireturn) 1 18 := ⟨by decide +kernel, rfl⟩
theorem dX6_victims_18 : zD cX6_victims 18 (.aload_n 0) 1 19 := ⟨by decide +kernel, rfl⟩
theorem dX6_victims_19 : zD cX6_victims 19 (.getfield 40) 3 22 := ⟨by decide +kernel, rfl⟩
theorem dX6_victims_22 : zD cX6_victims 22 (.aload_n 0) 1 23 := ⟨by decide +kernel, rfl⟩
theorem dX6_victims_23 : zD cX6_victims 23 (.getfield 36) 3 26 := ⟨by decide +kernel, rfl⟩
theorem dX6_victims_26 : zD cX6_victims 26 (.invokevirtual 271) 3 29 := ⟨by decide +kernel, rfl⟩
theorem dX6_victims_29 : zD cX6_victims 29 (.aload_n 0) 1 30 := ⟨by decide +kernel, rfl⟩
theorem dX6_victims_30 : zD cX6_victims 30 (.getfield 40) 3 33 := ⟨by decide +kernel, rfl⟩
theorem dX6_victims_33 : zD cX6_victims 33 (.invokevirtual 327) 3 36 := ⟨by decide +kernel, rfl⟩
theorem dX6_victims_36 : zD cX6_victims 36 (.aload_n 0) 1 37 := ⟨by decide +kernel, rfl⟩
theorem dX6_victims_37 : zD cX6_victims 37 (.getfield 40) 3 40 := ⟨by decide +kernel, rfl⟩
theorem dX6_victims_40 : zD cX6_victims 40 (.iconst 0) 1 41 := ⟨by decide +kernel, rfl⟩
theorem dX6_victims_41 : zD cX6_victims 41 (.iload_n 1) 1 42 := ⟨by decide +kernel, rfl⟩
theorem dX6_victims_42 : zD cX6_victims 42 (.invokevirtual 214) 3 45 := ⟨by decide +kernel, rfl⟩
theorem dX6_victims_45 : zD cX6_victims 45 (.iconst 1) 1 46 := ⟨by decide +kernel, rfl⟩
theorem dX6_victims_46 : zD cX6_victims 46 (.aload_n 0) 1 47 := ⟨by decide +kernel, rfl⟩
theorem dX6_victims_47 : zD cX6_victims 47 (.getfield 36) 3 50 := ⟨by decide +kernel, rfl⟩
theorem dX6_victims_50 : zD cX6_victims 50 (.getfield 106) 3 53 := ⟨by decide +kernel, rfl⟩
theorem dX6_victims_53 : zD cX6_victims 53 (.ishl) 1 54 := ⟨by decide +kernel, rfl⟩
theorem dX6_victims_54 : zD cX6_victims 54 (.iconst 1) 1 55 := ⟨by decide +kernel, rfl⟩
theorem dX6_victims_55 : zD cX6_victims 55 (.isub) 1 56 := ⟨by decide +kernel, rfl⟩
theorem dX6_victims_56 : zD cX6_victims 56 (.istore_n 2) 1 57 := ⟨by decide +kernel, rfl⟩
theorem dX6_victims_57 : zD cX6_victims 57 (.iload_n 2) 1 58 := ⟨by decide +kernel, rfl⟩
theorem dX6_victims_58 : zD cX6_victims 58 (.aload_n 0) 1 59 := ⟨by decide +kernel, rfl⟩
theorem dX6_victims_59 : zD cX6_victims 59 (.getfield 40) 3 62 := ⟨by decide +kernel, rfl⟩
theorem dX6_victims_62 : zD cX6_victims 62 (.invokevirtual 330) 3 65 := ⟨by decide +kernel, rfl⟩
theorem dX6_victims_65 : zD cX6_victims 65 (.iconst (-1)) 1 66 := ⟨by decide +kernel, rfl⟩
theorem dX6_victims_66 : zD cX6_victims 66 (.ixor) 1 67 := ⟨by decide +kernel, rfl⟩
theorem dX6_victims_67 : zD cX6_victims 67 (.iand) 1 68 := ⟨by decide +kernel, rfl⟩
theorem dX6_victims_68 : zD cX6_victims 68 (.ireturn) 1 69 := ⟨by decide +kernel, rfl⟩
theorem dX6_room_0 : zD cX6_room 0 (.aload_n 0) 1 1 := ⟨by decide +kernel, rfl⟩
theorem dX6_room_1 : zD cX6_room 1 (.getfield 36) 3 4 := ⟨by decide +kernel, rfl⟩
theorem dX6_room_4 : zD cX6_room 4 (.invokevirtual 333) 3 7 := ⟨by decide +kernel, rfl⟩
theorem dX6_room_7 : zD cX6_room 7 (.ifCond .eq 5) 3 10 := ⟨by decide +kernel, rfl⟩
theorem dX6_room_10 : zD cX6_room 10 (.iconst 0) 1 11 := ⟨by decide +kernel, rfl⟩
theorem dX6_room_11 : zD cX6_room 11 (.ireturn) 1 12 := ⟨by decide +kernel, rfl⟩
theorem dX6_room_12 : zD cX6_room 12 (.aload_n 0) 1 13 := ⟨by decide +kernel, rfl⟩
theorem dX6_room_13 : zD cX6_room 13 (.getfield 36) 3 16 := ⟨by decide +kernel, rfl⟩
theorem dX6_room_16 : zD cX6_room 16 (.getfield 109) 3 19 := ⟨by decide +kernel, rfl⟩
theorem dX6_room_19 : zD cX6_room 19 (.aload_n 0) 1 20 := ⟨by decide +kernel, rfl⟩
theorem dX6_room_20 : zD cX6_room 20 (.getfield 36) 3 23 := ⟨by decide +kernel, rfl⟩
theorem dX6_room_23 : zD cX6_room 23 (.iconst (-1)) 1 24 := ⟨by decide +kernel, rfl⟩
theorem dX6_room_24 : zD cX6_room 24 (.iconst 1) 1 25 := ⟨by decide +kernel, rfl⟩
theorem dX6_room_25 : zD cX6_room 25 (.invokevirtual 252) 3 28 := ⟨by decide +kernel, rfl⟩
theorem dX6_room_28 : zD cX6_room 28 (.isub) 1 29 := ⟨by decide +kernel, rfl⟩
theorem dX6_room_29 : zD cX6_room 29 (.istore_n 1) 1 30 := ⟨by decide +kernel, rfl⟩
theorem dX6_room_30 : zD cX6_room 30 (.iconst 0) 1 31 := ⟨by decide +kernel, rfl⟩
theorem dX6_room_31 : zD cX6_room 31 (.iload_n 1) 1 32 := ⟨by decide +kernel, rfl⟩
theorem dX6_room_32 : zD cX6_room 32 (.sipush 9999) 3 35 := ⟨by decide +kernel, rfl⟩
theorem dX6_room_35 : zD cX6_room 35 (.invokestatic 306) 3 38 := ⟨by decide +kernel, rfl⟩
theorem dX6_room_38 : zD cX6_room 38 (.invokestatic 334) 3 41 := ⟨by decide +kernel, rfl⟩
theorem dX6_room_41 : zD cX6_room 41 (.ireturn) 1 42 := ⟨by decide +kernel, rfl⟩
theorem dX3_rankOf_0 : zD cX3_rankOf 0 (.iconst 0) 1 1 := ⟨by decide +kernel, rfl⟩
theorem dX3_rankOf_1 : zD cX3_rankOf 1 (.istore_n 2) 1 2 := ⟨by decide +kernel, rfl⟩
theorem dX3_rankOf_2 : zD cX3_rankOf 2 (.iconst 0) 1 3 := ⟨by decide +kernel, rfl⟩
theorem dX3_rankOf_3 : zD cX3_rankOf 3 (.istore_n 3) 1 4 := ⟨by decide +kernel, rfl⟩
theorem dX3_rankOf_4 : zD cX3_rankOf 4 (.iload_n 3) 1 5 := ⟨by decide +kernel, rfl⟩
theorem dX3_rankOf_5 : zD cX3_rankOf 5 (.aload_n 0) 1 6 := ⟨by decide +kernel, rfl⟩
theorem dX3_rankOf_6 : zD cX3_rankOf 6 (.getfield 22) 3 9 := ⟨by decide +kernel, rfl⟩
theorem dX3_rankOf_9 : zD cX3_rankOf 9 (.if_icmp .ge 56) 3 12 := ⟨by decide +kernel, rfl⟩
theorem dX3_rankOf_12 : zD cX3_rankOf 12 (.aload_n 0) 1 13 := ⟨by decide +kernel, rfl⟩
theorem dX3_rankOf_13 : zD cX3_rankOf 13 (.getfield 11) 3 16 := ⟨by decide +kernel, rfl⟩
theorem dX3_rankOf_16 : zD cX3_rankOf 16 (.iload_n 3) 1 17 := ⟨by decide +kernel, rfl⟩
theorem dX3_rankOf_17 : zD cX3_rankOf 17 (.aaload) 1 18 := ⟨by decide +kernel, rfl⟩
theorem dX3_rankOf_18 : zD cX3_rankOf 18 (.aload_n 0) 1 19 := ⟨by decide +kernel, rfl⟩
theorem dX3_rankOf_19 : zD cX3_rankOf 19 (.getfield 26) 3 22 := ⟨by decide +kernel, rfl⟩
theorem dX3_rankOf_22 : zD cX3_rankOf 22 (.invokevirtual 138) 3 25 := ⟨by decide +kernel, rfl⟩
theorem dX3_rankOf_25 : zD cX3_rankOf 25 (.aload_n 0) 1 26 := ⟨by decide +kernel, rfl⟩
theorem dX3_rankOf_26 : zD cX3_rankOf 26 (.getfield 11) 3 29 := ⟨by decide +kernel, rfl⟩
theorem dX3_rankOf_29 : zD cX3_rankOf 29 (.iload_n 1) 1 30 := ⟨by decide +kernel, rfl⟩
theorem dX3_rankOf_30 : zD cX3_rankOf 30 (.aaload) 1 31 := ⟨by decide +kernel, rfl⟩
theorem dX3_rankOf_31 : zD cX3_rankOf 31 (.aload_n 0) 1 32 := ⟨by decide +kernel, rfl⟩
theorem dX3_rankOf_32 : zD cX3_rankOf 32 (.getfield 26) 3 35 := ⟨by decide +kernel, rfl⟩
theorem dX3_rankOf_35 : zD cX3_rankOf 35 (.invokevirtual 138) 3 38 := ⟨by decide +kernel, rfl⟩
theorem dX3_rankOf_38 : zD cX3_rankOf 38 (.isub) 1 39 := ⟨by decide +kernel, rfl⟩
theorem dX3_rankOf_39 : zD cX3_rankOf 39 (.istore 4) 2 41 := ⟨by decide +kernel, rfl⟩
theorem dX3_rankOf_41 : zD cX3_rankOf 41 (.iload 4) 2 43 := ⟨by decide +kernel, rfl⟩
theorem dX3_rankOf_43 : zD cX3_rankOf 43 (.ifCond .gt 13) 3 46 := ⟨by decide +kernel, rfl⟩
theorem dX3_rankOf_46 : zD cX3_rankOf 46 (.iload 4) 2 48 := ⟨by decide +kernel, rfl⟩
theorem dX3_rankOf_48 : zD cX3_rankOf 48 (.ifCond .ne 11) 3 51 := ⟨by decide +kernel, rfl⟩
theorem dX3_rankOf_51 : zD cX3_rankOf 51 (.iload_n 3) 1 52 := ⟨by decide +kernel, rfl⟩
theorem dX3_rankOf_52 : zD cX3_rankOf 52 (.iload_n 1) 1 53 := ⟨by decide +kernel, rfl⟩
theorem dX3_rankOf_53 : zD cX3_rankOf 53 (.if_icmp .le 6) 3 56 := ⟨by decide +kernel, rfl⟩
theorem dX3_rankOf_56 : zD cX3_rankOf 56 (.iinc 2 1) 3 59 := ⟨by decide +kernel, rfl⟩
theorem dX3_rankOf_59 : zD cX3_rankOf 59 (.iinc 3 1) 3 62 := ⟨by decide +kernel, rfl⟩
theorem dX3_rankOf_62 : zD cX3_rankOf 62 (.goto (-58)) 3 65 := ⟨by decide +kernel, rfl⟩
theorem dX3_rankOf_65 : zD cX3_rankOf 65 (.iload_n 2) 1 66 := ⟨by decide +kernel, rfl⟩
theorem dX3_rankOf_66 : zD cX3_rankOf 66 (.ireturn) 1 67 := ⟨by decide +kernel, rfl⟩
theorem dX6_ranked_0 : zD cX6_ranked 0 (.iload_n 1) 1 1 := ⟨by decide +kernel, rfl⟩
theorem dX6_ranked_1 : zD cX6_ranked 1 (.ifCond .lt 14) 3 4 := ⟨by decide +kernel, rfl⟩
theorem dX6_ranked_4 : zD cX6_ranked 4 (.iload_n 1) 1 5 := ⟨by decide +kernel, rfl⟩
theorem dX6_ranked_5 : zD cX6_ranked 5 (.aload_n 0) 1 6 := ⟨by decide +kernel, rfl⟩
theorem dX6_ranked_6 : zD cX6_ranked 6 (.getfield 36) 3 9 := ⟨by decide +kernel, rfl⟩
theorem dX6_ranked_9 : zD cX6_ranked 9 (.getfield 106) 3 12 := ⟨by decide +kernel, rfl⟩
theorem dX6_ranked_12 : zD cX6_ranked 12 (.if_icmp .lt 14) 3 15 := ⟨by decide +kernel, rfl⟩
theorem dX6_ranked_15 : zD cX6_ranked 15 (.new 337) 3 18 := ⟨by decide +kernel, rfl⟩
theorem dX6_ranked_18 : zD cX6_ranked 18 (.dup) 1 19 := ⟨by decide +kernel, rfl⟩
theorem dX6_ranked_19 : zD cX6_ranked 19 (.ldc_w 339) 3 22 := ⟨by decide +kernel, rfl⟩
theorem dX6_ranked_22 : zD cX6_ranked 22 (.invokespecial 341) 3 25 := ⟨by decide +kernel, rfl⟩
theorem dX6_ranked_25 : zD cX6_ranked 25 (.athrow) 1 26 := ⟨by decide +kernel, rfl⟩
theorem dX6_ranked_26 : zD cX6_ranked 26 (.iconst 0) 1 27 := ⟨by decide +kernel, rfl⟩
theorem dX6_ranked_27 : zD cX6_ranked 27 (.istore_n 2) 1 28 := ⟨by decide +kernel, rfl⟩
theorem dX6_ranked_28 : zD cX6_ranked 28 (.iconst 0) 1 29 := ⟨by decide +kernel, rfl⟩
theorem dX6_ranked_29 : zD cX6_ranked 29 (.istore_n 3) 1 30 := ⟨by decide +kernel, rfl⟩
theorem dX6_ranked_30 : zD cX6_ranked 30 (.iload_n 3) 1 31 := ⟨by decide +kernel, rfl⟩
theorem dX6_ranked_31 : zD cX6_ranked 31 (.aload_n 0) 1 32 := ⟨by decide +kernel, rfl⟩
theorem dX6_ranked_32 : zD cX6_ranked 32 (.getfield 36) 3 35 := ⟨by decide +kernel, rfl⟩
theorem dX6_ranked_35 : zD cX6_ranked 35 (.getfield 106) 3 38 := ⟨by decide +kernel, rfl⟩
theorem dX6_ranked_38 : zD cX6_ranked 38 (.if_icmp .ge 23) 3 41 := ⟨by decide +kernel, rfl⟩
theorem dX6_ranked_41 : zD cX6_ranked 41 (.aload_n 0) 1 42 := ⟨by decide +kernel, rfl⟩
theorem dX6_ranked_42 : zD cX6_ranked 42 (.getfield 36) 3 45 := ⟨by decide +kernel, rfl⟩
theorem dX6_ranked_45 : zD cX6_ranked 45 (.iload_n 3) 1 46 := ⟨by decide +kernel, rfl⟩
theorem dX6_ranked_46 : zD cX6_ranked 46 (.invokevirtual 342) 3 49 := ⟨by decide +kernel, rfl⟩
theorem dX6_ranked_49 : zD cX6_ranked 49 (.iload_n 1) 1 50 := ⟨by decide +kernel, rfl⟩
theorem dX6_ranked_50 : zD cX6_ranked 50 (.if_icmp .ne 5) 3 53 := ⟨by decide +kernel, rfl⟩
theorem dX6_ranked_53 : zD cX6_ranked 53 (.iload_n 3) 1 54 := ⟨by decide +kernel, rfl⟩
theorem dX6_ranked_54 : zD cX6_ranked 54 (.istore_n 2) 1 55 := ⟨by decide +kernel, rfl⟩
theorem dX6_ranked_55 : zD cX6_ranked 55 (.iinc 3 1) 3 58 := ⟨by decide +kernel, rfl⟩
theorem dX6_ranked_58 : zD cX6_ranked 58 (.goto (-28)) 3 61 := ⟨by decide +kernel, rfl⟩
theorem dX6_ranked_61 : zD cX6_ranked 61 (.iload_n 2) 1 62 := ⟨by decide +kernel, rfl⟩
theorem dX6_ranked_62 : zD cX6_ranked 62 (.ireturn) 1 63 := ⟨by decide +kernel, rfl⟩
theorem dX6_scriptRange_0 : zD cX6_scriptRange 0 (.lconst 1) 1 1 := ⟨by decide +kernel, rfl⟩
theorem dX6_scriptRange_1 : zD cX6_scriptRange 1 (.lstore_n 1) 1 2 := ⟨by decide +kernel, rfl⟩
theorem dX6_scriptRange_2 : zD cX6_scriptRange 2 (.iconst 0) 1 3 := ⟨by decide +kernel, rfl⟩
theorem dX6_scriptRange_3 : zD cX6_scriptRange 3 (.istore_n 3) 1 4 := ⟨by decide +kernel, rfl⟩
theorem dX6_scriptRange_4 : zD cX6_scriptRange 4 (.iload_n 3) 1 5 := ⟨by decide +kernel, rfl⟩
theorem dX6_scriptRange_5 : zD cX6_scriptRange 5 (.iload_n 0) 1 6 := ⟨by decide +kernel, rfl⟩
theorem dX6_scriptRange_6 : zD cX6_scriptRange 6 (.if_icmp .ge 15) 3 9 := ⟨by decide +kernel, rfl⟩
theorem dX6_scriptRange_9 : zD cX6_scriptRange 9 (.lload_n 1) 1 10 := ⟨by decide +kernel, rfl⟩
theorem dX6_scriptRange_10 : zD cX6_scriptRange 10 (.ldc2_w 408) 3 13 := ⟨by decide +kernel, rfl⟩
theorem dX6_scriptRange_13 : zD cX6_scriptRange 13 (.lmul) 1 14 := ⟨by decide +kernel, rfl⟩
theorem dX6_scriptRange_14 : zD cX6_scriptRange 14 (.lstore_n 1) 1 15 := ⟨by decide +kernel, rfl⟩
theorem dX6_scriptRange_15 : zD cX6_scriptRange 15 (.iinc 3 1) 3 18 := ⟨by decide +kernel, rfl⟩
theorem dX6_scriptRange_18 : zD cX6_scriptRange 18 (.goto (-14)) 3 21 := ⟨by decide +kernel, rfl⟩
theorem dX6_scriptRange_21 : zD cX6_scriptRange 21 (.lload_n 1) 1 22 := ⟨by decide +kernel, rfl⟩
theorem dX6_scriptRange_22 : zD cX6_scriptRange 22 (.lreturn) 1 23 := ⟨by decide +kernel, rfl⟩
theorem dX6_commandAt_0 : zD cX6_commandAt 0 (.lload_n 0) 1 1 := ⟨by decide +kernel, rfl⟩
theorem dX6_commandAt_1 : zD cX6_commandAt 1 (.lstore_n 3) 1 2 := ⟨by decide +kernel, rfl⟩
theorem dX6_commandAt_2 : zD cX6_commandAt 2 (.iconst 0) 1 3 := ⟨by decide +kernel, rfl⟩
theorem dX6_commandAt_3 : zD cX6_commandAt 3 (.istore 5) 2 5 := ⟨by decide +kernel, rfl⟩
theorem dX6_commandAt_5 : zD cX6_commandAt 5 (.iload 5) 2 7 := ⟨by decide +kernel, rfl⟩
theorem dX6_commandAt_7 : zD cX6_commandAt 7 (.iload_n 2) 1 8 := ⟨by decide +kernel, rfl⟩
theorem dX6_commandAt_8 : zD cX6_commandAt 8 (.if_icmp .ge 15) 3 11 := ⟨by decide +kernel, rfl⟩
theorem dX6_commandAt_11 : zD cX6_commandAt 11 (.lload_n 3) 1 12 := ⟨by decide +kernel, rfl⟩
theorem dX6_commandAt_12 : zD cX6_commandAt 12 (.ldc2_w 408) 3 15 := ⟨by decide +kernel, rfl⟩
theorem dX6_commandAt_15 : zD cX6_commandAt 15 (.ldiv) 1 16 := ⟨by decide +kernel, rfl⟩
theorem dX6_commandAt_16 : zD cX6_commandAt 16 (.lstore_n 3) 1 17 := ⟨by decide +kernel, rfl⟩
theorem dX6_commandAt_17 : zD cX6_commandAt 17 (.iinc 5 1) 3 20 := ⟨by decide +kernel, rfl⟩
theorem dX6_commandAt_20 : zD cX6_commandAt 20 (.goto (-15)) 3 23 := ⟨by decide +kernel, rfl⟩
theorem dX6_commandAt_23 : zD cX6_commandAt 23 (.lload_n 3) 1 24 := ⟨by decide +kernel, rfl⟩
theorem dX6_commandAt_24 : zD cX6_commandAt 24 (.ldc2_w 408) 3 27 := ⟨by decide +kernel, rfl⟩
theorem dX6_commandAt_27 : zD cX6_commandAt 27 (.lrem) 1 28 := ⟨by decide +kernel, rfl⟩
theorem dX6_commandAt_28 : zD cX6_commandAt 28 (.l2i) 1 29 := ⟨by decide +kernel, rfl⟩
theorem dX6_commandAt_29 : zD cX6_commandAt 29 (.ireturn) 1 30 := ⟨by decide +kernel, rfl⟩
theorem dX6_tryCopy_0 : zD cX6_tryCopy 0 (.aload_n 0) 1 1 := ⟨by decide +kernel, rfl⟩
theorem dX6_tryCopy_1 : zD cX6_tryCopy 1 (.getfield 57) 3 4 := ⟨by decide +kernel, rfl⟩
theorem dX6_tryCopy_4 : zD cX6_tryCopy 4 (.iload_n 1) 1 5 := ⟨by decide +kernel, rfl⟩
theorem dX6_tryCopy_5 : zD cX6_tryCopy 5 (.invokevirtual 384) 3 8 := ⟨by decide +kernel, rfl⟩
theorem dX6_tryCopy_8 : zD cX6_tryCopy 8 (.ifCond .eq 21) 3 11 := ⟨by decide +kernel, rfl⟩
theorem dX6_tryCopy_11 : zD cX6_tryCopy 11 (.iload_n 2) 1 12 := ⟨by decide +kernel, rfl⟩
theorem dX6_tryCopy_12 : zD cX6_tryCopy 12 (.invokestatic 403) 3 15 := ⟨by decide +kernel, rfl⟩
theorem dX6_tryCopy_15 : zD cX6_tryCopy 15 (.ifCond .eq 14) 3 18 := ⟨by decide +kernel, rfl⟩
theorem dX6_tryCopy_18 : zD cX6_tryCopy 18 (.aload_n 0) 1 19 := ⟨by decide +kernel, rfl⟩
theorem dX6_tryCopy_19 : zD cX6_tryCopy 19 (.getfield 40) 3 22 := ⟨by decide +kernel, rfl⟩
theorem dX6_tryCopy_22 : zD cX6_tryCopy 22 (.iload_n 2) 1 23 := ⟨by decide +kernel, rfl⟩
theorem dX6_tryCopy_23 : zD cX6_tryCopy 23 (.invokevirtual 206) 3 26 := ⟨by decide +kernel, rfl⟩
theorem dX6_tryCopy_26 : zD cX6_tryCopy 26 (.ifCond .ne 5) 3 29 := ⟨by decide +kernel, rfl⟩
theorem dX6_tryCopy_29 : zD cX6_tryCopy 29 (.iconst 0) 1 30 := ⟨by decide +kernel, rfl⟩
theorem dX6_tryCopy_30 : zD cX6_tryCopy 30 (.ireturn) 1 31 := ⟨by decide +kernel, rfl⟩
theorem dX6_tryCopy_31 : zD cX6_tryCopy 31 (.aload_n 0) 1 32 := ⟨by decide +kernel, rfl⟩
theorem dX6_tryCopy_32 : zD cX6_tryCopy 32 (.getfield 40) 3 35 := ⟨by decide +kernel, rfl⟩
theorem dX6_tryCopy_35 : zD cX6_tryCopy 35 (.iload_n 1) 1 36 := ⟨by decide +kernel, rfl⟩
theorem dX6_tryCopy_36 : zD cX6_tryCopy 36 (.iload_n 2) 1 37 := ⟨by decide +kernel, rfl⟩
theorem dX6_tryCopy_37 : zD cX6_tryCopy 37 (.invokevirtual 214) 3 40 := ⟨by decide +kernel, rfl⟩
theorem dX6_tryCopy_40 : zD cX6_tryCopy 40 (.iconst 1) 1 41 := ⟨by decide +kernel, rfl⟩
theorem dX6_tryCopy_41 : zD cX6_tryCopy 41 (.ireturn) 1 42 := ⟨by decide +kernel, rfl⟩
theorem dX6_tryOffer_0 : zD cX6_tryOffer 0 (.aload_n 0) 1 1 := ⟨by decide +kernel, rfl⟩
theorem dX6_tryOffer_1 : zD cX6_tryOffer 1 (.getfield 57) 3 4 := ⟨by decide +kernel, rfl⟩
theorem dX6_tryOffer_4 : zD cX6_tryOffer 4 (.iload_n 1) 1 5 := ⟨by decide +kernel, rfl⟩
theorem dX6_tryOffer_5 : zD cX6_tryOffer 5 (.invokevirtual 384) 3 8 := ⟨by decide +kernel, rfl⟩
theorem dX6_tryOffer_8 : zD cX6_tryOffer 8 (.ifCond .eq 22) 3 11 := ⟨by decide +kernel, rfl⟩
theorem dX6_tryOffer_11 : zD cX6_tryOffer 11 (.iload_n 2) 1 12 := ⟨by decide +kernel, rfl⟩
theorem dX6_tryOffer_12 : zD cX6_tryOffer 12 (.invokestatic 403) 3 15 := ⟨by decide +kernel, rfl⟩
theorem dX6_tryOffer_15 : zD cX6_tryOffer 15 (.ifCond .eq 15) 3 18 := ⟨by decide +kernel, rfl⟩
theorem dX6_tryOffer_18 : zD cX6_tryOffer 18 (.aload_n 0) 1 19 := ⟨by decide +kernel, rfl⟩
theorem dX6_tryOffer_19 : zD cX6_tryOffer 19 (.getfield 40) 3 22 := ⟨by decide +kernel, rfl⟩
theorem dX6_tryOffer_22 : zD cX6_tryOffer 22 (.iload_n 1) 1 23 := ⟨by decide +kernel, rfl⟩
theorem dX6_tryOffer_23 : zD cX6_tryOffer 23 (.iload_n 2) 1 24 := ⟨by decide +kernel, rfl⟩
theorem dX6_tryOffer_24 : zD cX6_tryOffer 24 (.invokevirtual 218) 3 27 := ⟨by decide +kernel, rfl⟩
theorem dX6_tryOffer_27 : zD cX6_tryOffer 27 (.ifCond .ne 5) 3 30 := ⟨by decide +kernel, rfl⟩
theorem dX6_tryOffer_30 : zD cX6_tryOffer 30 (.iconst 0) 1 31 := ⟨by decide +kernel, rfl⟩
theorem dX6_tryOffer_31 : zD cX6_tryOffer 31 (.ireturn) 1 32 := ⟨by decide +kernel, rfl⟩
theorem dX6_tryOffer_32 : zD cX6_tryOffer 32 (.aload_n 0) 1 33 := ⟨by decide +kernel, rfl⟩
theorem dX6_tryOffer_33 : zD cX6_tryOffer 33 (.getfield 40) 3 36 := ⟨by decide +kernel, rfl⟩
theorem dX6_tryOffer_36 : zD cX6_tryOffer 36 (.iload_n 1) 1 37 := ⟨by decide +kernel, rfl⟩
theorem dX6_tryOffer_37 : zD cX6_tryOffer 37 (.iload_n 2) 1 38 := ⟨by decide +kernel, rfl⟩
theorem dX6_tryOffer_38 : zD cX6_tryOffer 38 (.invokevirtual 224) 3 41 := ⟨by decide +kernel, rfl⟩
theorem dX6_tryOffer_41 : zD cX6_tryOffer 41 (.iconst 1) 1 42 := ⟨by decide +kernel, rfl⟩
theorem dX6_tryOffer_42 : zD cX6_tryOffer 42 (.ireturn) 1 43 := ⟨by decide +kernel, rfl⟩
theorem dX6_tryPaste_0 : zD cX6_tryPaste 0 (.aload_n 0) 1 1 := ⟨by decide +kernel, rfl⟩
theorem dX6_tryPaste_1 : zD cX6_tryPaste 1 (.getfield 40) 3 4 := ⟨by decide +kernel, rfl⟩
theorem dX6_tryPaste_4 : zD cX6_tryPaste 4 (.iload_n 1) 1 5 := ⟨by decide +kernel, rfl⟩
theorem dX6_tryPaste_5 : zD cX6_tryPaste 5 (.invokevirtual 396) 3 8 := ⟨by decide +kernel, rfl⟩
theorem dX6_tryPaste_8 : zD cX6_tryPaste 8 (.ifCond .eq 27) 3 11 := ⟨by decide +kernel, rfl⟩
theorem dX6_tryPaste_11 : zD cX6_tryPaste 11 (.aload_n 0) 1 12 := ⟨by decide +kernel, rfl⟩
theorem dX6_tryPaste_12 : zD cX6_tryPaste 12 (.getfield 57) 3 15 := ⟨by decide +kernel, rfl⟩
theorem dX6_tryPaste_15 : zD cX6_tryPaste 15 (.iload_n 2) 1 16 := ⟨by decide +kernel, rfl⟩
theorem dX6_tryPaste_16 : zD cX6_tryPaste 16 (.invokevirtual 391) 3 19 := ⟨by decide +kernel, rfl⟩
theorem dX6_tryPaste_19 : zD cX6_tryPaste 19 (.ifCond .eq 16) 3 22 := ⟨by decide +kernel, rfl⟩
theorem dX6_tryPaste_22 : zD cX6_tryPaste 22 (.aload_n 0) 1 23 := ⟨by decide +kernel, rfl⟩
theorem dX6_tryPaste_23 : zD cX6_tryPaste 23 (.aload_n 0) 1 24 := ⟨by decide +kernel, rfl⟩
theorem dX6_tryPaste_24 : zD cX6_tryPaste 24 (.getfield 40) 3 27 := ⟨by decide +kernel, rfl⟩
theorem dX6_tryPaste_27 : zD cX6_tryPaste 27 (.iload_n 1) 1 28 := ⟨by decide +kernel, rfl⟩
theorem dX6_tryPaste_28 : zD cX6_tryPaste 28 (.iload_n 2) 1 29 := ⟨by decide +kernel, rfl⟩
theorem dX6_tryPaste_29 : zD cX6_tryPaste 29 (.invokevirtual 227) 3 32 := ⟨by decide +kernel, rfl⟩
theorem dX6_tryPaste_32 : zD cX6_tryPaste 32 (.ifCond .ne 5) 3 35 := ⟨by decide +kernel, rfl⟩
theorem dX6_tryPaste_35 : zD cX6_tryPaste 35 (.iconst 0) 1 36 := ⟨by decide +kernel, rfl⟩
theorem dX6_tryPaste_36 : zD cX6_tryPaste 36 (.ireturn) 1 37 := ⟨by decide +kernel, rfl⟩
theorem dX6_tryPaste_37 : zD cX6_tryPaste 37 (.aload_n 0) 1 38 := ⟨by decide +kernel, rfl⟩
theorem dX6_tryPaste_38 : zD cX6_tryPaste 38 (.getfield 40) 3 41 := ⟨by decide +kernel, rfl⟩
theorem dX6_tryPaste_41 : zD cX6_tryPaste 41 (.iload_n 1) 1 42 := ⟨by decide +kernel, rfl⟩
theorem dX6_tryPaste_42 : zD cX6_tryPaste 42 (.aload_n 0) 1 43 := ⟨by decide +kernel, rfl⟩
theorem dX6_tryPaste_43 : zD cX6_tryPaste 43 (.getfield 29) 3 46 := ⟨by decide +kernel, rfl⟩
theorem dX6_tryPaste_46 : zD cX6_tryPaste 46 (.invokevirtual 233) 3 49 := ⟨by decide +kernel, rfl⟩
theorem dX6_tryPaste_49 : zD cX6_tryPaste 49 (.iconst 1) 1 50 := ⟨by decide +kernel, rfl⟩
theorem dX6_tryPaste_50 : zD cX6_tryPaste 50 (.ireturn) 1 51 := ⟨by decide +kernel, rfl⟩
theorem dX6_tryTogglePin_0 : zD cX6_tryTogglePin 0 (.aload_n 0) 1 1 := ⟨by decide +kernel, rfl⟩
theorem dX6_tryTogglePin_1 : zD cX6_tryTogglePin 1 (.getfield 40) 3 4 := ⟨by decide +kernel, rfl⟩
theorem dX6_tryTogglePin_4 : zD cX6_tryTogglePin 4 (.iload_n 1) 1 5 := ⟨by decide +kernel, rfl⟩
theorem dX6_tryTogglePin_5 : zD cX6_tryTogglePin 5 (.invokevirtual 396) 3 8 := ⟨by decide +kernel, rfl⟩
theorem dX6_tryTogglePin_8 : zD cX6_tryTogglePin 8 (.ifCond .ne 5) 3 11 := ⟨by decide +kernel, rfl⟩
theorem dX6_tryTogglePin_11 : zD cX6_tryTogglePin 11 (.iconst 0) 1 12 := ⟨by decide +kernel, rfl⟩
theorem dX6_tryTogglePin_12 : zD cX6_tryTogglePin 12 (.ireturn) 1 13 := ⟨by decide +kernel, rfl⟩
theorem dX6_tryTogglePin_13 : zD cX6_tryTogglePin 13 (.aload_n 0) 1 14 := ⟨by decide +kernel, rfl⟩
theorem dX6_tryTogglePin_14 : zD cX6_tryTogglePin 14 (.getfield 40) 3 17 := ⟨by decide +kernel, rfl⟩
theorem dX6_tryTogglePin_17 : zD cX6_tryTogglePin 17 (.iload_n 1) 1 18 := ⟨by decide +kernel, rfl⟩
theorem dX6_tryTogglePin_18 : zD cX6_tryTogglePin 18 (.invokevirtual 240) 3 21 := ⟨by decide +kernel, rfl⟩
theorem dX6_tryTogglePin_21 : zD cX6_tryTogglePin 21 (.iconst 1) 1 22 := ⟨by decide +kernel, rfl⟩
theorem dX6_tryTogglePin_22 : zD cX6_tryTogglePin 22 (.ireturn) 1 23 := ⟨by decide +kernel, rfl⟩
theorem dX6_tryRemove_0 : zD cX6_tryRemove 0 (.aload_n 0) 1 1 := ⟨by decide +kernel, rfl⟩
theorem dX6_tryRemove_1 : zD cX6_tryRemove 1 (.getfield 40) 3 4 := ⟨by decide +kernel, rfl⟩
theorem dX6_tryRemove_4 : zD cX6_tryRemove 4 (.iload_n 1) 1 5 := ⟨by decide +kernel, rfl⟩
theorem dX6_tryRemove_5 : zD cX6_tryRemove 5 (.invokevirtual 396) 3 8 := ⟨by decide +kernel, rfl⟩
theorem dX6_tryRemove_8 : zD cX6_tryRemove 8 (.ifCond .ne 5) 3 11 := ⟨by decide +kernel, rfl⟩
theorem dX6_tryRemove_11 : zD cX6_tryRemove 11 (.iconst 0) 1 12 := ⟨by decide +kernel, rfl⟩
theorem dX6_tryRemove_12 : zD cX6_tryRemove 12 (.ireturn) 1 13 := ⟨by decide +kernel, rfl⟩
theorem dX6_tryRemove_13 : zD cX6_tryRemove 13 (.aload_n 0) 1 14 := ⟨by decide +kernel, rfl⟩
theorem dX6_tryRemove_14 : zD cX6_tryRemove 14 (.getfield 40) 3 17 := ⟨by decide +kernel, rfl⟩
theorem dX6_tryRemove_17 : zD cX6_tryRemove 17 (.iload_n 1) 1 18 := ⟨by decide +kernel, rfl⟩
theorem dX6_tryRemove_18 : zD cX6_tryRemove 18 (.invokevirtual 246) 3 21 := ⟨by decide +kernel, rfl⟩
theorem dX6_tryRemove_21 : zD cX6_tryRemove 21 (.iconst 1) 1 22 := ⟨by decide +kernel, rfl⟩
theorem dX6_tryRemove_22 : zD cX6_tryRemove 22 (.ireturn) 1 23 := ⟨by decide +kernel, rfl⟩
theorem dX6_runCommand_0 : zD cX6_runCommand 0 (.iload_n 1) 1 1 := ⟨by decide +kernel, rfl⟩
theorem dX6_runCommand_1 : zD cX6_runCommand 1 (.sipush 10000) 3 4 := ⟨by decide +kernel, rfl⟩
theorem dX6_runCommand_4 : zD cX6_runCommand 4 (.idiv) 1 5 := ⟨by decide +kernel, rfl⟩
theorem dX6_runCommand_5 : zD cX6_runCommand 5 (.bipush 10) 2 7 := ⟨by decide +kernel, rfl⟩
theorem dX6_runCommand_7 : zD cX6_runCommand 7 (.irem) 1 8 := ⟨by decide +kernel, rfl⟩
theorem dX6_runCommand_8 : zD cX6_runCommand 8 (.istore_n 2) 1 9 := ⟨by decide +kernel, rfl⟩
theorem dX6_runCommand_9 : zD cX6_runCommand 9 (.iload_n 1) 1 10 := ⟨by decide +kernel, rfl⟩
theorem dX6_runCommand_10 : zD cX6_runCommand 10 (.bipush 100) 2 12 := ⟨by decide +kernel, rfl⟩
theorem dX6_runCommand_12 : zD cX6_runCommand 12 (.idiv) 1 13 := ⟨by decide +kernel, rfl⟩
theorem dX6_runCommand_13 : zD cX6_runCommand 13 (.bipush 10) 2 15 := ⟨by decide +kernel, rfl⟩
theorem dX6_runCommand_15 : zD cX6_runCommand 15 (.irem) 1 16 := ⟨by decide +kernel, rfl⟩
theorem dX6_runCommand_16 : zD cX6_runCommand 16 (.istore_n 3) 1 17 := ⟨by decide +kernel, rfl⟩
theorem dX6_runCommand_17 : zD cX6_runCommand 17 (.iload_n 1) 1 18 := ⟨by decide +kernel, rfl⟩
theorem dX6_runCommand_18 : zD cX6_runCommand 18 (.sipush 1000) 3 21 := ⟨by decide +kernel, rfl⟩
theorem dX6_runCommand_21 : zD cX6_runCommand 21 (.idiv) 1 22 := ⟨by decide +kernel, rfl⟩
theorem dX6_runCommand_22 : zD cX6_runCommand 22 (.bipush 100) 2 24 := ⟨by decide +kernel, rfl⟩
theorem dX6_runCommand_24 : zD cX6_runCommand 24 (.irem) 1 25 := ⟨by decide +kernel, rfl⟩
theorem dX6_runCommand_25 : zD cX6_runCommand 25 (.istore 4) 2 27 := ⟨by decide +kernel, rfl⟩
theorem dX6_runCommand_27 : zD cX6_runCommand 27 (.iload_n 1) 1 28 := ⟨by decide +kernel, rfl⟩
theorem dX6_runCommand_28 : zD cX6_runCommand 28 (.ldc_w 410) 3 31 := ⟨by decide +kernel, rfl⟩
theorem dX6_runCommand_31 : zD cX6_runCommand 31 (.idiv) 1 32 := ⟨by decide +kernel, rfl⟩
theorem dX6_runCommand_32 : zD cX6_runCommand 32 (.tableswitch 223 1 8 #[48, 59, 70, 93, 116, 139, 160, 181]) 48 80 := ⟨by decide +kernel, rfl⟩
theorem dX6_runCommand_80 : zD cX6_runCommand 80 (.aload_n 0) 1 81 := ⟨by decide +kernel, rfl⟩
theorem dX6_runCommand_81 : zD cX6_runCommand 81 (.iload_n 2) 1 82 := ⟨by decide +kernel, rfl⟩
theorem dX6_runCommand_82 : zD cX6_runCommand 82 (.iload_n 1) 1 83 := ⟨by decide +kernel, rfl⟩
theorem dX6_runCommand_83 : zD cX6_runCommand 83 (.sipush 10000) 3 86 := ⟨by decide +kernel, rfl⟩
theorem dX6_runCommand_86 : zD cX6_runCommand 86 (.irem) 1 87 := ⟨by decide +kernel, rfl⟩
theorem dX6_runCommand_87 : zD cX6_runCommand 87 (.invokevirtual 411) 3 90 := ⟨by decide +kernel, rfl⟩
theorem dX6_runCommand_90 : zD cX6_runCommand 90 (.ireturn) 1 91 := ⟨by decide +kernel, rfl⟩
theorem dX6_runCommand_91 : zD cX6_runCommand 91 (.aload_n 0) 1 92 := ⟨by decide +kernel, rfl⟩
theorem dX6_runCommand_92 : zD cX6_runCommand 92 (.iload_n 2) 1 93 := ⟨by decide +kernel, rfl⟩
theorem dX6_runCommand_93 : zD cX6_runCommand 93 (.iload_n 1) 1 94 := ⟨by decide +kernel, rfl⟩
theorem dX6_runCommand_94 : zD cX6_runCommand 94 (.sipush 10000) 3 97 := ⟨by decide +kernel, rfl⟩
theorem dX6_runCommand_97 : zD cX6_runCommand 97 (.irem) 1 98 := ⟨by decide +kernel, rfl⟩
theorem dX6_runCommand_98 : zD cX6_runCommand 98 (.invokevirtual 414) 3 101 := ⟨by decide +kernel, rfl⟩
theorem dX6_runCommand_101 : zD cX6_runCommand 101 (.ireturn) 1 102 := ⟨by decide +kernel, rfl⟩
theorem dX6_runCommand_102 : zD cX6_runCommand 102 (.iload_n 1) 1 103 := ⟨by decide +kernel, rfl⟩
theorem dX6_runCommand_103 : zD cX6_runCommand 103 (.bipush 100) 2 105 := ⟨by decide +kernel, rfl⟩
theorem dX6_runCommand_105 : zD cX6_runCommand 105 (.irem) 1 106 := ⟨by decide +kernel, rfl⟩
theorem dX6_runCommand_106 : zD cX6_runCommand 106 (.ifCond .ne 17) 3 109 := ⟨by decide +kernel, rfl⟩
theorem dX6_runCommand_109 : zD cX6_runCommand 109 (.aload_n 0) 1 110 := ⟨by decide +kernel, rfl⟩
theorem dX6_runCommand_110 : zD cX6_runCommand 110 (.iload 4) 2 112 := ⟨by decide +kernel, rfl⟩
theorem dX6_runCommand_112 : zD cX6_runCommand 112 (.iload_n 3) 1 113 := ⟨by decide +kernel, rfl⟩
theorem dX6_runCommand_113 : zD cX6_runCommand 113 (.invokevirtual 417) 3 116 := ⟨by decide +kernel, rfl⟩
theorem dX6_runCommand_116 : zD cX6_runCommand 116 (.ifCond .eq 7) 3 119 := ⟨by decide +kernel, rfl⟩
theorem dX6_runCommand_119 : zD cX6_runCommand 119 (.iconst 1) 1 120 := ⟨by decide +kernel, rfl⟩
theorem dX6_runCommand_120 : zD cX6_runCommand 120 (.goto 4) 3 123 := ⟨by decide +kernel, rfl⟩
theorem dX6_runCommand_123 : zD cX6_runCommand 123 (.iconst 0) 1 124 := ⟨by decide +kernel, rfl⟩
theorem dX6_runCommand_124 : zD cX6_runCommand 124 (.ireturn) 1 125 := ⟨by decide +kernel, rfl⟩
theorem dX6_runCommand_125 : zD cX6_runCommand 125 (.iload_n 1) 1 126 := ⟨by decide +kernel, rfl⟩
theorem dX6_runCommand_126 : zD cX6_runCommand 126 (.sipush 1000) 3 129 := ⟨by decide +kernel, rfl⟩
theorem dX6_runCommand_129 : zD cX6_runCommand 129 (.irem) 1 130 := ⟨by decide +kernel, rfl⟩
theorem dX6_runCommand_130 : zD cX6_runCommand 130 (.ifCond .ne 16) 3 133 := ⟨by decide +kernel, rfl⟩
theorem dX6_runCommand_133 : zD cX6_runCommand 133 (.aload_n 0) 1 134 := ⟨by decide +kernel, rfl⟩
theorem dX6_runCommand_134 : zD cX6_runCommand 134 (.iload 4) 2 136 := ⟨by decide +kernel, rfl⟩
theorem dX6_runCommand_136 : zD cX6_runCommand 136 (.invokevirtual 420) 3 139 := ⟨by decide +kernel, rfl⟩
theorem dX6_runCommand_139 : zD cX6_runCommand 139 (.ifCond .eq 7) 3 142 := ⟨by decide +kernel, rfl⟩
theorem dX6_runCommand_142 : zD cX6_runCommand 142 (.iconst 1) 1 143 := ⟨by decide +kernel, rfl⟩
theorem dX6_runCommand_143 : zD cX6_runCommand 143 (.goto 4) 3 146 := ⟨by decide +kernel, rfl⟩
theorem dX6_runCommand_146 : zD cX6_runCommand 146 (.iconst 0) 1 147 := ⟨by decide +kernel, rfl⟩
theorem dX6_runCommand_147 : zD cX6_runCommand 147 (.ireturn) 1 148 := ⟨by decide +kernel, rfl⟩
theorem dX6_runCommand_148 : zD cX6_runCommand 148 (.iload_n 1) 1 149 := ⟨by decide +kernel, rfl⟩
theorem dX6_runCommand_149 : zD cX6_runCommand 149 (.sipush 1000) 3 152 := ⟨by decide +kernel, rfl⟩
theorem dX6_runCommand_152 : zD cX6_runCommand 152 (.irem) 1 153 := ⟨by decide +kernel, rfl⟩
theorem dX6_runCommand_153 : zD cX6_runCommand 153 (.ifCond .ne 16) 3 156 := ⟨by decide +kernel, rfl⟩
theorem dX6_runCommand_156 : zD cX6_runCommand 156 (.aload_n 0) 1 157 := ⟨by decide +kernel, rfl⟩
theorem dX6_runCommand_157 : zD cX6_runCommand 157 (.iload 4) 2 159 := ⟨by decide +kernel, rfl⟩
theorem dX6_runCommand_159 : zD cX6_runCommand 159 (.invokevirtual 423) 3 162 := ⟨by decide +kernel, rfl⟩
theorem dX6_runCommand_162 : zD cX6_runCommand 162 (.ifCond .eq 7) 3 165 := ⟨by decide +kernel, rfl⟩
theorem dX6_runCommand_165 : zD cX6_runCommand 165 (.iconst 1) 1 166 := ⟨by decide +kernel, rfl⟩
theorem dX6_runCommand_166 : zD cX6_runCommand 166 (.goto 4) 3 169 := ⟨by decide +kernel, rfl⟩
theorem dX6_runCommand_169 : zD cX6_runCommand 169 (.iconst 0) 1 170 := ⟨by decide +kernel, rfl⟩
theorem dX6_runCommand_170 : zD cX6_runCommand 170 (.ireturn) 1 171 := ⟨by decide +kernel, rfl⟩
theorem dX6_runCommand_171 : zD cX6_runCommand 171 (.aload_n 0) 1 172 := ⟨by decide +kernel, rfl⟩
theorem dX6_runCommand_172 : zD cX6_runCommand 172 (.getfield 40) 3 175 := ⟨by decide +kernel, rfl⟩
theorem dX6_runCommand_175 : zD cX6_runCommand 175 (.invokevirtual 112) 3 178 := ⟨by decide +kernel, rfl⟩
theorem dX6_runCommand_178 : zD cX6_runCommand 178 (.iload_n 1) 1 179 := ⟨by decide +kernel, rfl⟩
theorem dX6_runCommand_179 : zD cX6_runCommand 179 (.ldc_w 410) 3 182 := ⟨by decide +kernel, rfl⟩
theorem dX6_runCommand_182 : zD cX6_runCommand 182 (.irem) 1 183 := ⟨by decide +kernel, rfl⟩
theorem dX6_runCommand_183 : zD cX6_runCommand 183 (.if_icmp .gt 7) 3 186 := ⟨by decide +kernel, rfl⟩
theorem dX6_runCommand_186 : zD cX6_runCommand 186 (.iconst 1) 1 187 := ⟨by decide +kernel, rfl⟩
theorem dX6_runCommand_187 : zD cX6_runCommand 187 (.goto 4) 3 190 := ⟨by decide +kernel, rfl⟩
theorem dX6_runCommand_190 : zD cX6_runCommand 190 (.iconst 0) 1 191 := ⟨by decide +kernel, rfl⟩
theorem dX6_runCommand_191 : zD cX6_runCommand 191 (.ireturn) 1 192 := ⟨by decide +kernel, rfl⟩
theorem dX6_runCommand_192 : zD cX6_runCommand 192 (.aload_n 0) 1 193 := ⟨by decide +kernel, rfl⟩
theorem dX6_runCommand_193 : zD cX6_runCommand 193 (.getfield 40) 3 196 := ⟨by decide +kernel, rfl⟩
theorem dX6_runCommand_196 : zD cX6_runCommand 196 (.getfield 106) 3 199 := ⟨by decide +kernel, rfl⟩
theorem dX6_runCommand_199 : zD cX6_runCommand 199 (.iload_n 1) 1 200 := ⟨by decide +kernel, rfl⟩
theorem dX6_runCommand_200 : zD cX6_runCommand 200 (.ldc_w 410) 3 203 := ⟨by decide +kernel, rfl⟩
theorem dX6_runCommand_203 : zD cX6_runCommand 203 (.irem) 1 204 := ⟨by decide +kernel, rfl⟩
theorem dX6_runCommand_204 : zD cX6_runCommand 204 (.if_icmp .ne 7) 3 207 := ⟨by decide +kernel, rfl⟩
theorem dX6_runCommand_207 : zD cX6_runCommand 207 (.iconst 1) 1 208 := ⟨by decide +kernel, rfl⟩
theorem dX6_runCommand_208 : zD cX6_runCommand 208 (.goto 4) 3 211 := ⟨by decide +kernel, rfl⟩
theorem dX6_runCommand_211 : zD cX6_runCommand 211 (.iconst 0) 1 212 := ⟨by decide +kernel, rfl⟩
theorem dX6_runCommand_212 : zD cX6_runCommand 212 (.ireturn) 1 213 := ⟨by decide +kernel, rfl⟩
theorem dX6_runCommand_213 : zD cX6_runCommand 213 (.iload_n 1) 1 214 := ⟨by decide +kernel, rfl⟩
theorem dX6_runCommand_214 : zD cX6_runCommand 214 (.bipush 100) 2 216 := ⟨by decide +kernel, rfl⟩
theorem dX6_runCommand_216 : zD cX6_runCommand 216 (.irem) 1 217 := ⟨by decide +kernel, rfl⟩
theorem dX6_runCommand_217 : zD cX6_runCommand 217 (.ifCond .ne 36) 3 220 := ⟨by decide +kernel, rfl⟩
theorem dX6_runCommand_220 : zD cX6_runCommand 220 (.aload_n 0) 1 221 := ⟨by decide +kernel, rfl⟩
theorem dX6_runCommand_221 : zD cX6_runCommand 221 (.getfield 40) 3 224 := ⟨by decide +kernel, rfl⟩
theorem dX6_runCommand_224 : zD cX6_runCommand 224 (.iload 4) 2 226 := ⟨by decide +kernel, rfl⟩
theorem dX6_runCommand_226 : zD cX6_runCommand 226 (.invokevirtual 396) 3 229 := ⟨by decide +kernel, rfl⟩
theorem dX6_runCommand_229 : zD cX6_runCommand 229 (.ifCond .eq 24) 3 232 := ⟨by decide +kernel, rfl⟩
theorem dX6_runCommand_232 : zD cX6_runCommand 232 (.aload_n 0) 1 233 := ⟨by decide +kernel, rfl⟩
theorem dX6_runCommand_233 : zD cX6_runCommand 233 (.getfield 40) 3 236 := ⟨by decide +kernel, rfl⟩
theorem dX6_runCommand_236 : zD cX6_runCommand 236 (.getfield 159) 3 239 := ⟨by decide +kernel, rfl⟩
theorem dX6_runCommand_239 : zD cX6_runCommand 239 (.iload 4) 2 241 := ⟨by decide +kernel, rfl⟩
theorem dX6_runCommand_241 : zD cX6_runCommand 241 (.aaload) 1 242 := ⟨by decide +kernel, rfl⟩
theorem dX6_runCommand_242 : zD cX6_runCommand 242 (.iload_n 3) 1 243 := ⟨by decide +kernel, rfl⟩
theorem dX6_runCommand_243 : zD cX6_runCommand 243 (.invokevirtual 193) 3 246 := ⟨by decide +kernel, rfl⟩
theorem dX6_runCommand_246 : zD cX6_runCommand 246 (.ifCond .eq 7) 3 249 := ⟨by decide +kernel, rfl⟩
theorem dX6_runCommand_249 : zD cX6_runCommand 249 (.iconst 1) 1 250 := ⟨by decide +kernel, rfl⟩
theorem dX6_runCommand_250 : zD cX6_runCommand 250 (.goto 4) 3 253 := ⟨by decide +kernel, rfl⟩
theorem dX6_runCommand_253 : zD cX6_runCommand 253 (.iconst 0) 1 254 := ⟨by decide +kernel, rfl⟩
theorem dX6_runCommand_254 : zD cX6_runCommand 254 (.ireturn) 1 255 := ⟨by decide +kernel, rfl⟩
theorem dX6_runCommand_255 : zD cX6_runCommand 255 (.iconst 0) 1 256 := ⟨by decide +kernel, rfl⟩
theorem dX6_runCommand_256 : zD cX6_runCommand 256 (.ireturn) 1 257 := ⟨by decide +kernel, rfl⟩
theorem dX6_runScript_0 : zD cX6_runScript 0 (.iload_n 1) 1 1 := ⟨by decide +kernel, rfl⟩
theorem dX6_runScript_1 : zD cX6_runScript 1 (.iconst 1) 1 2 := ⟨by decide +kernel, rfl⟩
theorem dX6_runScript_2 : zD cX6_runScript 2 (.if_icmp .lt 8) 3 5 := ⟨by decide +kernel, rfl⟩
theorem dX6_runScript_5 : zD cX6_runScript 5 (.iload_n 1) 1 6 := ⟨by decide +kernel, rfl⟩
theorem dX6_runScript_6 : zD cX6_runScript 6 (.iconst 3) 1 7 := ⟨by decide +kernel, rfl⟩
theorem dX6_runScript_7 : zD cX6_runScript 7 (.if_icmp .le 14) 3 10 := ⟨by decide +kernel, rfl⟩
theorem dX6_runScript_10 : zD cX6_runScript 10 (.new 67) 3 13 := ⟨by decide +kernel, rfl⟩
theorem dX6_runScript_13 : zD cX6_runScript 13 (.dup) 1 14 := ⟨by decide +kernel, rfl⟩
theorem dX6_runScript_14 : zD cX6_runScript 14 (.ldc_w 345) 3 17 := ⟨by decide +kernel, rfl⟩
theorem dX6_runScript_17 : zD cX6_runScript 17 (.invokespecial 71) 3 20 := ⟨by decide +kernel, rfl⟩
theorem dX6_runScript_20 : zD cX6_runScript 20 (.athrow) 1 21 := ⟨by decide +kernel, rfl⟩
theorem dX6_runScript_21 : zD cX6_runScript 21 (.lload_n 2) 1 22 := ⟨by decide +kernel, rfl⟩
theorem dX6_runScript_22 : zD cX6_runScript 22 (.lconst 0) 1 23 := ⟨by decide +kernel, rfl⟩
theorem dX6_runScript_23 : zD cX6_runScript 23 (.lcmp) 1 24 := ⟨by decide +kernel, rfl⟩
theorem dX6_runScript_24 : zD cX6_runScript 24 (.ifCond .lt 12) 3 27 := ⟨by decide +kernel, rfl⟩
theorem dX6_runScript_27 : zD cX6_runScript 27 (.lload_n 2) 1 28 := ⟨by decide +kernel, rfl⟩
theorem dX6_runScript_28 : zD cX6_runScript 28 (.iload_n 1) 1 29 := ⟨by decide +kernel, rfl⟩
theorem dX6_runScript_29 : zD cX6_runScript 29 (.invokestatic 347) 3 32 := ⟨by decide +kernel, rfl⟩
theorem dX6_runScript_32 : zD cX6_runScript 32 (.lcmp) 1 33 := ⟨by decide +kernel, rfl⟩
theorem dX6_runScript_33 : zD cX6_runScript 33 (.ifCond .lt 14) 3 36 := ⟨by decide +kernel, rfl⟩
theorem dX6_runScript_36 : zD cX6_runScript 36 (.new 67) 3 39 := ⟨by decide +kernel, rfl⟩
theorem dX6_runScript_39 : zD cX6_runScript 39 (.dup) 1 40 := ⟨by decide +kernel, rfl⟩
theorem dX6_runScript_40 : zD cX6_runScript 40 (.ldc_w 351) 3 43 := ⟨by decide +kernel, rfl⟩
theorem dX6_runScript_43 : zD cX6_runScript 43 (.invokespecial 71) 3 46 := ⟨by decide +kernel, rfl⟩
theorem dX6_runScript_46 : zD cX6_runScript 46 (.athrow) 1 47 := ⟨by decide +kernel, rfl⟩
theorem dX6_runScript_47 : zD cX6_runScript 47 (.aload_n 0) 1 48 := ⟨by decide +kernel, rfl⟩
theorem dX6_runScript_48 : zD cX6_runScript 48 (.getfield 40) 3 51 := ⟨by decide +kernel, rfl⟩
theorem dX6_runScript_51 : zD cX6_runScript 51 (.aload_n 0) 1 52 := ⟨by decide +kernel, rfl⟩
theorem dX6_runScript_52 : zD cX6_runScript 52 (.getfield 36) 3 55 := ⟨by decide +kernel, rfl⟩
theorem dX6_runScript_55 : zD cX6_runScript 55 (.invokevirtual 271) 3 58 := ⟨by decide +kernel, rfl⟩
theorem dX6_runScript_58 : zD cX6_runScript 58 (.iconst 0) 1 59 := ⟨by decide +kernel, rfl⟩
theorem dX6_runScript_59 : zD cX6_runScript 59 (.istore 4) 2 61 := ⟨by decide +kernel, rfl⟩
theorem dX6_runScript_61 : zD cX6_runScript 61 (.iload 4) 2 63 := ⟨by decide +kernel, rfl⟩
theorem dX6_runScript_63 : zD cX6_runScript 63 (.iload_n 1) 1 64 := ⟨by decide +kernel, rfl⟩
theorem dX6_runScript_64 : zD cX6_runScript 64 (.if_icmp .ge 29) 3 67 := ⟨by decide +kernel, rfl⟩
theorem dX6_runScript_67 : zD cX6_runScript 67 (.aload_n 0) 1 68 := ⟨by decide +kernel, rfl⟩
theorem dX6_runScript_68 : zD cX6_runScript 68 (.lload_n 2) 1 69 := ⟨by decide +kernel, rfl⟩
theorem dX6_runScript_69 : zD cX6_runScript 69 (.iload_n 1) 1 70 := ⟨by decide +kernel, rfl⟩
theorem dX6_runScript_70 : zD cX6_runScript 70 (.iconst 1) 1 71 := ⟨by decide +kernel, rfl⟩
theorem dX6_runScript_71 : zD cX6_runScript 71 (.isub) 1 72 := ⟨by decide +kernel, rfl⟩
theorem dX6_runScript_72 : zD cX6_runScript 72 (.iload 4) 2 74 := ⟨by decide +kernel, rfl⟩
theorem dX6_runScript_74 : zD cX6_runScript 74 (.isub) 1 75 := ⟨by decide +kernel, rfl⟩
theorem dX6_runScript_75 : zD cX6_runScript 75 (.invokestatic 353) 3 78 := ⟨by decide +kernel, rfl⟩
theorem dX6_runScript_78 : zD cX6_runScript 78 (.invokevirtual 357) 3 81 := ⟨by decide +kernel, rfl⟩
theorem dX6_runScript_81 : zD cX6_runScript 81 (.ifCond .ne 6) 3 84 := ⟨by decide +kernel, rfl⟩
theorem dX6_runScript_84 : zD cX6_runScript 84 (.iload 4) 2 86 := ⟨by decide +kernel, rfl⟩
theorem dX6_runScript_86 : zD cX6_runScript 86 (.ireturn) 1 87 := ⟨by decide +kernel, rfl⟩
theorem dX6_runScript_87 : zD cX6_runScript 87 (.iinc 4 1) 3 90 := ⟨by decide +kernel, rfl⟩
theorem dX6_runScript_90 : zD cX6_runScript 90 (.goto (-29)) 3 93 := ⟨by decide +kernel, rfl⟩
theorem dX6_runScript_93 : zD cX6_runScript 93 (.bipush (-9)) 2 95 := ⟨by decide +kernel, rfl⟩
theorem dX6_runScript_95 : zD cX6_runScript 95 (.ireturn) 1 96 := ⟨by decide +kernel, rfl⟩
theorem dX6_runRound_0 : zD cX6_runRound 0 (.iload_n 1) 1 1 := ⟨by decide +kernel, rfl⟩
theorem dX6_runRound_1 : zD cX6_runRound 1 (.iconst 3) 1 2 := ⟨by decide +kernel, rfl⟩
theorem dX6_runRound_2 : zD cX6_runRound 2 (.irem) 1 3 := ⟨by decide +kernel, rfl⟩
theorem dX6_runRound_3 : zD cX6_runRound 3 (.ifCond .eq 25) 3 6 := ⟨by decide +kernel, rfl⟩
theorem dX6_runRound_6 : zD cX6_runRound 6 (.aload_n 0) 1 7 := ⟨by decide +kernel, rfl⟩
theorem dX6_runRound_7 : zD cX6_runRound 7 (.getfield 40) 3 10 := ⟨by decide +kernel, rfl⟩
theorem dX6_runRound_10 : zD cX6_runRound 10 (.getfield 106) 3 13 := ⟨by decide +kernel, rfl⟩
theorem dX6_runRound_13 : zD cX6_runRound 13 (.iconst 1) 1 14 := ⟨by decide +kernel, rfl⟩
theorem dX6_runRound_14 : zD cX6_runRound 14 (.if_icmp .lt 14) 3 17 := ⟨by decide +kernel, rfl⟩
theorem dX6_runRound_17 : zD cX6_runRound 17 (.aload_n 0) 1 18 := ⟨by decide +kernel, rfl⟩
theorem dX6_runRound_18 : zD cX6_runRound 18 (.getfield 57) 3 21 := ⟨by decide +kernel, rfl⟩
theorem dX6_runRound_21 : zD cX6_runRound 21 (.getfield 103) 3 24 := ⟨by decide +kernel, rfl⟩
theorem dX6_runRound_24 : zD cX6_runRound 24 (.iconst 1) 1 25 := ⟨by decide +kernel, rfl⟩
theorem dX6_runRound_25 : zD cX6_runRound 25 (.if_icmp .ge 36) 3 28 := ⟨by decide +kernel, rfl⟩
theorem dX6_runRound_28 : zD cX6_runRound 28 (.aload_n 0) 1 29 := ⟨by decide +kernel, rfl⟩
theorem dX6_runRound_29 : zD cX6_runRound 29 (.iload_n 1) 1 30 := ⟨by decide +kernel, rfl⟩
theorem dX6_runRound_30 : zD cX6_runRound 30 (.iconst 4) 1 31 := ⟨by decide +kernel, rfl⟩
theorem dX6_runRound_31 : zD cX6_runRound 31 (.idiv) 1 32 := ⟨by decide +kernel, rfl⟩
theorem dX6_runRound_32 : zD cX6_runRound 32 (.iconst 1) 1 33 := ⟨by decide +kernel, rfl⟩
theorem dX6_runRound_33 : zD cX6_runRound 33 (.aload_n 0) 1 34 := ⟨by decide +kernel, rfl⟩
theorem dX6_runRound_34 : zD cX6_runRound 34 (.getfield 57) 3 37 := ⟨by decide +kernel, rfl⟩
theorem dX6_runRound_37 : zD cX6_runRound 37 (.getfield 100) 3 40 := ⟨by decide +kernel, rfl⟩
theorem dX6_runRound_40 : zD cX6_runRound 40 (.invokestatic 334) 3 43 := ⟨by decide +kernel, rfl⟩
theorem dX6_runRound_43 : zD cX6_runRound 43 (.irem) 1 44 := ⟨by decide +kernel, rfl⟩
theorem dX6_runRound_44 : zD cX6_runRound 44 (.iconst 1) 1 45 := ⟨by decide +kernel, rfl⟩
theorem dX6_runRound_45 : zD cX6_runRound 45 (.iload_n 1) 1 46 := ⟨by decide +kernel, rfl⟩
theorem dX6_runRound_46 : zD cX6_runRound 46 (.bipush 64) 2 48 := ⟨by decide +kernel, rfl⟩
theorem dX6_runRound_48 : zD cX6_runRound 48 (.idiv) 1 49 := ⟨by decide +kernel, rfl⟩
theorem dX6_runRound_49 : zD cX6_runRound 49 (.sipush 500) 3 52 := ⟨by decide +kernel, rfl⟩
theorem dX6_runRound_52 : zD cX6_runRound 52 (.irem) 1 53 := ⟨by decide +kernel, rfl⟩
theorem dX6_runRound_53 : zD cX6_runRound 53 (.iadd) 1 54 := ⟨by decide +kernel, rfl⟩
theorem dX6_runRound_54 : zD cX6_runRound 54 (.invokevirtual 411) 3 57 := ⟨by decide +kernel, rfl⟩
theorem dX6_runRound_57 : zD cX6_runRound 57 (.pop) 1 58 := ⟨by decide +kernel, rfl⟩
theorem dX6_runRound_58 : zD cX6_runRound 58 (.goto 31) 3 61 := ⟨by decide +kernel, rfl⟩
theorem dX6_runRound_61 : zD cX6_runRound 61 (.aload_n 0) 1 62 := ⟨by decide +kernel, rfl⟩
theorem dX6_runRound_62 : zD cX6_runRound 62 (.iload_n 1) 1 63 := ⟨by decide +kernel, rfl⟩
theorem dX6_runRound_63 : zD cX6_runRound 63 (.iconst 4) 1 64 := ⟨by decide +kernel, rfl⟩
theorem dX6_runRound_64 : zD cX6_runRound 64 (.idiv) 1 65 := ⟨by decide +kernel, rfl⟩
theorem dX6_runRound_65 : zD cX6_runRound 65 (.aload_n 0) 1 66 := ⟨by decide +kernel, rfl⟩
theorem dX6_runRound_66 : zD cX6_runRound 66 (.getfield 40) 3 69 := ⟨by decide +kernel, rfl⟩
theorem dX6_runRound_69 : zD cX6_runRound 69 (.getfield 106) 3 72 := ⟨by decide +kernel, rfl⟩
theorem dX6_runRound_72 : zD cX6_runRound 72 (.irem) 1 73 := ⟨by decide +kernel, rfl⟩
theorem dX6_runRound_73 : zD cX6_runRound 73 (.iload_n 1) 1 74 := ⟨by decide +kernel, rfl⟩
theorem dX6_runRound_74 : zD cX6_runRound 74 (.bipush 64) 2 76 := ⟨by decide +kernel, rfl⟩
theorem dX6_runRound_76 : zD cX6_runRound 76 (.idiv) 1 77 := ⟨by decide +kernel, rfl⟩
theorem dX6_runRound_77 : zD cX6_runRound 77 (.aload_n 0) 1 78 := ⟨by decide +kernel, rfl⟩
theorem dX6_runRound_78 : zD cX6_runRound 78 (.getfield 57) 3 81 := ⟨by decide +kernel, rfl⟩
theorem dX6_runRound_81 : zD cX6_runRound 81 (.getfield 103) 3 84 := ⟨by decide +kernel, rfl⟩
theorem dX6_runRound_84 : zD cX6_runRound 84 (.irem) 1 85 := ⟨by decide +kernel, rfl⟩
theorem dX6_runRound_85 : zD cX6_runRound 85 (.invokevirtual 417) 3 88 := ⟨by decide +kernel, rfl⟩
theorem dX6_runRound_88 : zD cX6_runRound 88 (.pop) 1 89 := ⟨by decide +kernel, rfl⟩
theorem dX6_runRound_89 : zD cX6_runRound 89 (.return_) 1 90 := ⟨by decide +kernel, rfl⟩
theorem dX6_simulate_0 : zD cX6_simulate 0 (.iload_n 3) 1 1 := ⟨by decide +kernel, rfl⟩
theorem dX6_simulate_1 : zD cX6_simulate 1 (.iconst 1) 1 2 := ⟨by decide +kernel, rfl⟩
theorem dX6_simulate_2 : zD cX6_simulate 2 (.if_icmp .lt 9) 3 5 := ⟨by decide +kernel, rfl⟩
theorem dX6_simulate_5 : zD cX6_simulate 5 (.iload_n 3) 1 6 := ⟨by decide +kernel, rfl⟩
theorem dX6_simulate_6 : zD cX6_simulate 6 (.bipush 50) 2 8 := ⟨by decide +kernel, rfl⟩
theorem dX6_simulate_8 : zD cX6_simulate 8 (.if_icmp .le 14) 3 11 := ⟨by decide +kernel, rfl⟩
theorem dX6_simulate_11 : zD cX6_simulate 11 (.new 67) 3 14 := ⟨by decide +kernel, rfl⟩
theorem dX6_simulate_14 : zD cX6_simulate 14 (.dup) 1 15 := ⟨by decide +kernel, rfl⟩
theorem dX6_simulate_15 : zD cX6_simulate 15 (.ldc_w 360) 3 18 := ⟨by decide +kernel, rfl⟩
theorem dX6_simulate_18 : zD cX6_simulate 18 (.invokespecial 71) 3 21 := ⟨by decide +kernel, rfl⟩
theorem dX6_simulate_21 : zD cX6_simulate 21 (.athrow) 1 22 := ⟨by decide +kernel, rfl⟩
theorem dX6_simulate_22 : zD cX6_simulate 22 (.aload_n 0) 1 23 := ⟨by decide +kernel, rfl⟩
theorem dX6_simulate_23 : zD cX6_simulate 23 (.getfield 40) 3 26 := ⟨by decide +kernel, rfl⟩
theorem dX6_simulate_26 : zD cX6_simulate 26 (.aload_n 0) 1 27 := ⟨by decide +kernel, rfl⟩
theorem dX6_simulate_27 : zD cX6_simulate 27 (.getfield 36) 3 30 := ⟨by decide +kernel, rfl⟩
theorem dX6_simulate_30 : zD cX6_simulate 30 (.invokevirtual 271) 3 33 := ⟨by decide +kernel, rfl⟩
theorem dX6_simulate_33 : zD cX6_simulate 33 (.lload_n 1) 1 34 := ⟨by decide +kernel, rfl⟩
theorem dX6_simulate_34 : zD cX6_simulate 34 (.lstore 4) 2 36 := ⟨by decide +kernel, rfl⟩
theorem dX6_simulate_36 : zD cX6_simulate 36 (.iconst 0) 1 37 := ⟨by decide +kernel, rfl⟩
theorem dX6_simulate_37 : zD cX6_simulate 37 (.istore 6) 2 39 := ⟨by decide +kernel, rfl⟩
theorem dX6_simulate_39 : zD cX6_simulate 39 (.iload 6) 2 41 := ⟨by decide +kernel, rfl⟩
theorem dX6_simulate_41 : zD cX6_simulate 41 (.iload_n 3) 1 42 := ⟨by decide +kernel, rfl⟩
theorem dX6_simulate_42 : zD cX6_simulate 42 (.if_icmp .ge 31) 3 45 := ⟨by decide +kernel, rfl⟩
theorem dX6_simulate_45 : zD cX6_simulate 45 (.lload 4) 2 47 := ⟨by decide +kernel, rfl⟩
theorem dX6_simulate_47 : zD cX6_simulate 47 (.ldc2_w 362) 3 50 := ⟨by decide +kernel, rfl⟩
theorem dX6_simulate_50 : zD cX6_simulate 50 (.lmul) 1 51 := ⟨by decide +kernel, rfl⟩
theorem dX6_simulate_51 : zD cX6_simulate 51 (.ldc2_w 364) 3 54 := ⟨by decide +kernel, rfl⟩
theorem dX6_simulate_54 : zD cX6_simulate 54 (.ladd) 1 55 := ⟨by decide +kernel, rfl⟩
theorem dX6_simulate_55 : zD cX6_simulate 55 (.lstore 4) 2 57 := ⟨by decide +kernel, rfl⟩
theorem dX6_simulate_57 : zD cX6_simulate 57 (.aload_n 0) 1 58 := ⟨by decide +kernel, rfl⟩
theorem dX6_simulate_58 : zD cX6_simulate 58 (.lload 4) 2 60 := ⟨by decide +kernel, rfl⟩
theorem dX6_simulate_60 : zD cX6_simulate 60 (.bipush 33) 2 62 := ⟨by decide +kernel, rfl⟩
theorem dX6_simulate_62 : zD cX6_simulate 62 (.lushr) 1 63 := ⟨by decide +kernel, rfl⟩
theorem dX6_simulate_63 : zD cX6_simulate 63 (.l2i) 1 64 := ⟨by decide +kernel, rfl⟩
theorem dX6_simulate_64 : zD cX6_simulate 64 (.invokevirtual 366) 3 67 := ⟨by decide +kernel, rfl⟩
theorem dX6_simulate_67 : zD cX6_simulate 67 (.iinc 6 1) 3 70 := ⟨by decide +kernel, rfl⟩
theorem dX6_simulate_70 : zD cX6_simulate 70 (.goto (-31)) 3 73 := ⟨by decide +kernel, rfl⟩
theorem dX6_simulate_73 : zD cX6_simulate 73 (.aload_n 0) 1 74 := ⟨by decide +kernel, rfl⟩
theorem dX6_simulate_74 : zD cX6_simulate 74 (.getfield 40) 3 77 := ⟨by decide +kernel, rfl⟩
theorem dX6_simulate_77 : zD cX6_simulate 77 (.getfield 119) 3 80 := ⟨by decide +kernel, rfl⟩
theorem dX6_simulate_80 : zD cX6_simulate 80 (.aload_n 0) 1 81 := ⟨by decide +kernel, rfl⟩
theorem dX6_simulate_81 : zD cX6_simulate 81 (.getfield 40) 3 84 := ⟨by decide +kernel, rfl⟩
theorem dX6_simulate_84 : zD cX6_simulate 84 (.invokevirtual 112) 3 87 := ⟨by decide +kernel, rfl⟩
theorem dX6_simulate_87 : zD cX6_simulate 87 (.iadd) 1 88 := ⟨by decide +kernel, rfl⟩
theorem dX6_simulate_88 : zD cX6_simulate 88 (.ireturn) 1 89 := ⟨by decide +kernel, rfl⟩
theorem dX6_requireSlot_0 : zD cX6_requireSlot 0 (.iload_n 0) 1 1 := ⟨by decide +kernel, rfl⟩
theorem dX6_requireSlot_1 : zD cX6_requireSlot 1 (.ifCond .lt 8) 3 4 := ⟨by decide +kernel, rfl⟩
theorem dX6_requireSlot_4 : zD cX6_requireSlot 4 (.iload_n 0) 1 5 := ⟨by decide +kernel, rfl⟩
theorem dX6_requireSlot_5 : zD cX6_requireSlot 5 (.iconst 2) 1 6 := ⟨by decide +kernel, rfl⟩
theorem dX6_requireSlot_6 : zD cX6_requireSlot 6 (.if_icmp .lt 14) 3 9 := ⟨by decide +kernel, rfl⟩
theorem dX6_requireSlot_9 : zD cX6_requireSlot 9 (.new 337) 3 12 := ⟨by decide +kernel, rfl⟩
theorem dX6_requireSlot_12 : zD cX6_requireSlot 12 (.dup) 1 13 := ⟨by decide +kernel, rfl⟩
theorem dX6_requireSlot_13 : zD cX6_requireSlot 13 (.ldc_w 401) 3 16 := ⟨by decide +kernel, rfl⟩
theorem dX6_requireSlot_16 : zD cX6_requireSlot 16 (.invokespecial 341) 3 19 := ⟨by decide +kernel, rfl⟩
theorem dX6_requireSlot_19 : zD cX6_requireSlot 19 (.athrow) 1 20 := ⟨by decide +kernel, rfl⟩
theorem dX6_requireSlot_20 : zD cX6_requireSlot 20 (.return_) 1 21 := ⟨by decide +kernel, rfl⟩
theorem dX6_save_0 : zD cX6_save 0 (.iload_n 1) 1 1 := ⟨by decide +kernel, rfl⟩
theorem dX6_save_1 : zD cX6_save 1 (.invokestatic 369) 3 4 := ⟨by decide +kernel, rfl⟩
theorem dX6_save_4 : zD cX6_save 4 (.aload_n 0) 1 5 := ⟨by decide +kernel, rfl⟩
theorem dX6_save_5 : zD cX6_save 5 (.getfield 47) 3 8 := ⟨by decide +kernel, rfl⟩
theorem dX6_save_8 : zD cX6_save 8 (.iload_n 1) 1 9 := ⟨by decide +kernel, rfl⟩
theorem dX6_save_9 : zD cX6_save 9 (.aaload) 1 10 := ⟨by decide +kernel, rfl⟩
theorem dX6_save_10 : zD cX6_save 10 (.aload_n 0) 1 11 := ⟨by decide +kernel, rfl⟩
theorem dX6_save_11 : zD cX6_save 11 (.getfield 36) 3 14 := ⟨by decide +kernel, rfl⟩
theorem dX6_save_14 : zD cX6_save 14 (.invokevirtual 271) 3 17 := ⟨by decide +kernel, rfl⟩
theorem dX6_save_17 : zD cX6_save 17 (.aload_n 0) 1 18 := ⟨by decide +kernel, rfl⟩
theorem dX6_save_18 : zD cX6_save 18 (.getfield 50) 3 21 := ⟨by decide +kernel, rfl⟩
theorem dX6_save_21 : zD cX6_save 21 (.iload_n 1) 1 22 := ⟨by decide +kernel, rfl⟩
theorem dX6_save_22 : zD cX6_save 22 (.iconst 1) 1 23 := ⟨by decide +kernel, rfl⟩
theorem dX6_save_23 : zD cX6_save 23 (.bastore) 1 24 := ⟨by decide +kernel, rfl⟩
theorem dX6_save_24 : zD cX6_save 24 (.aload_n 0) 1 25 := ⟨by decide +kernel, rfl⟩
theorem dX6_save_25 : zD cX6_save 25 (.getfield 36) 3 28 := ⟨by decide +kernel, rfl⟩
theorem dX6_save_28 : zD cX6_save 28 (.getfield 106) 3 31 := ⟨by decide +kernel, rfl⟩
theorem dX6_save_31 : zD cX6_save 31 (.ireturn) 1 32 := ⟨by decide +kernel, rfl⟩
theorem dX6_restore_0 : zD cX6_restore 0 (.iload_n 1) 1 1 := ⟨by decide +kernel, rfl⟩
theorem dX6_restore_1 : zD cX6_restore 1 (.invokestatic 369) 3 4 := ⟨by decide +kernel, rfl⟩
theorem dX6_restore_4 : zD cX6_restore 4 (.aload_n 0) 1 5 := ⟨by decide +kernel, rfl⟩
theorem dX6_restore_5 : zD cX6_restore 5 (.getfield 50) 3 8 := ⟨by decide +kernel, rfl⟩
theorem dX6_restore_8 : zD cX6_restore 8 (.iload_n 1) 1 9 := ⟨by decide +kernel, rfl⟩
theorem dX6_restore_9 : zD cX6_restore 9 (.baload) 1 10 := ⟨by decide +kernel, rfl⟩
theorem dX6_restore_10 : zD cX6_restore 10 (.ifCond .ne 14) 3 13 := ⟨by decide +kernel, rfl⟩
theorem dX6_restore_13 : zD cX6_restore 13 (.new 78) 3 16 := ⟨by decide +kernel, rfl⟩
theorem dX6_restore_16 : zD cX6_restore 16 (.dup) 1 17 := ⟨by decide +kernel, rfl⟩
theorem dX6_restore_17 : zD cX6_restore 17 (.ldc_w 372) 3 20 := ⟨by decide +kernel, rfl⟩
theorem dX6_restore_20 : zD cX6_restore 20 (.invokespecial 82) 3 23 := ⟨by decide +kernel, rfl⟩
theorem dX6_restore_23 : zD cX6_restore 23 (.athrow) 1 24 := ⟨by decide +kernel, rfl⟩
theorem dX6_restore_24 : zD cX6_restore 24 (.aload_n 0) 1 25 := ⟨by decide +kernel, rfl⟩
theorem dX6_restore_25 : zD cX6_restore 25 (.getfield 36) 3 28 := ⟨by decide +kernel, rfl⟩
theorem dX6_restore_28 : zD cX6_restore 28 (.aload_n 0) 1 29 := ⟨by decide +kernel, rfl⟩
theorem dX6_restore_29 : zD cX6_restore 29 (.getfield 47) 3 32 := ⟨by decide +kernel, rfl⟩
theorem dX6_restore_32 : zD cX6_restore 32 (.iload_n 1) 1 33 := ⟨by decide +kernel, rfl⟩
theorem dX6_restore_33 : zD cX6_restore 33 (.aaload) 1 34 := ⟨by decide +kernel, rfl⟩
theorem dX6_restore_34 : zD cX6_restore 34 (.invokevirtual 271) 3 37 := ⟨by decide +kernel, rfl⟩
theorem dX6_restore_37 : zD cX6_restore 37 (.aload_n 0) 1 38 := ⟨by decide +kernel, rfl⟩
theorem dX6_restore_38 : zD cX6_restore 38 (.iconst 0) 1 39 := ⟨by decide +kernel, rfl⟩
theorem dX6_restore_39 : zD cX6_restore 39 (.putfield 266) 3 42 := ⟨by decide +kernel, rfl⟩
theorem dX6_restore_42 : zD cX6_restore 42 (.aload_n 0) 1 43 := ⟨by decide +kernel, rfl⟩
theorem dX6_restore_43 : zD cX6_restore 43 (.invokevirtual 263) 3 46 := ⟨by decide +kernel, rfl⟩
theorem dX6_restore_46 : zD cX6_restore 46 (.aload_n 0) 1 47 := ⟨by decide +kernel, rfl⟩
theorem dX6_restore_47 : zD cX6_restore 47 (.getfield 36) 3 50 := ⟨by decide +kernel, rfl⟩
theorem dX6_restore_50 : zD cX6_restore 50 (.getfield 106) 3 53 := ⟨by decide +kernel, rfl⟩
theorem dX6_restore_53 : zD cX6_restore 53 (.ireturn) 1 54 := ⟨by decide +kernel, rfl⟩
theorem dX7_init_0 : zD cX7_init 0 (.aload_n 0) 1 1 := ⟨by decide +kernel, rfl⟩
theorem dX7_init_1 : zD cX7_init 1 (.invokespecial 1) 3 4 := ⟨by decide +kernel, rfl⟩
theorem dX7_init_4 : zD cX7_init 4 (.aload_n 0) 1 5 := ⟨by decide +kernel, rfl⟩
theorem dX7_init_5 : zD cX7_init 5 (.sipush 160) 3 8 := ⟨by decide +kernel, rfl⟩
theorem dX7_init_8 : zD cX7_init 8 (.newarray .int) 2 10 := ⟨by decide +kernel, rfl⟩
theorem dX7_init_10 : zD cX7_init 10 (.putfield 7) 3 13 := ⟨by decide +kernel, rfl⟩
theorem dX7_init_13 : zD cX7_init 13 (.aload_n 0) 1 14 := ⟨by decide +kernel, rfl⟩
theorem dX7_init_14 : zD cX7_init 14 (.iconst 1) 1 15 := ⟨by decide +kernel, rfl⟩
theorem dX7_init_15 : zD cX7_init 15 (.putfield 13) 3 18 := ⟨by decide +kernel, rfl⟩
theorem dX7_init_18 : zD cX7_init 18 (.aload_n 0) 1 19 := ⟨by decide +kernel, rfl⟩
theorem dX7_init_19 : zD cX7_init 19 (.bipush 20) 2 21 := ⟨by decide +kernel, rfl⟩
theorem dX7_init_21 : zD cX7_init 21 (.newarray .int) 2 23 := ⟨by decide +kernel, rfl⟩
theorem dX7_init_23 : zD cX7_init 23 (.putfield 17) 3 26 := ⟨by decide +kernel, rfl⟩
theorem dX7_init_26 : zD cX7_init 26 (.aload_n 0) 1 27 := ⟨by decide +kernel, rfl⟩
theorem dX7_init_27 : zD cX7_init 27 (.bipush 20) 2 29 := ⟨by decide +kernel, rfl⟩
theorem dX7_init_29 : zD cX7_init 29 (.newarray .int) 2 31 := ⟨by decide +kernel, rfl⟩
theorem dX7_init_31 : zD cX7_init 31 (.putfield 20) 3 34 := ⟨by decide +kernel, rfl⟩
theorem dX7_init_34 : zD cX7_init 34 (.aload_n 0) 1 35 := ⟨by decide +kernel, rfl⟩
theorem dX7_init_35 : zD cX7_init 35 (.bipush 20) 2 37 := ⟨by decide +kernel, rfl⟩
theorem dX7_init_37 : zD cX7_init 37 (.newarray .int) 2 39 := ⟨by decide +kernel, rfl⟩
theorem dX7_init_39 : zD cX7_init 39 (.putfield 23) 3 42 := ⟨by decide +kernel, rfl⟩
theorem dX7_init_42 : zD cX7_init 42 (.aload_n 0) 1 43 := ⟨by decide +kernel, rfl⟩
theorem dX7_init_43 : zD cX7_init 43 (.bipush 20) 2 45 := ⟨by decide +kernel, rfl⟩
theorem dX7_init_45 : zD cX7_init 45 (.newarray .int) 2 47 := ⟨by decide +kernel, rfl⟩
theorem dX7_init_47 : zD cX7_init 47 (.putfield 26) 3 50 := ⟨by decide +kernel, rfl⟩
theorem dX7_init_50 : zD cX7_init 50 (.aload_n 0) 1 51 := ⟨by decide +kernel, rfl⟩
theorem dX7_init_51 : zD cX7_init 51 (.bipush 6) 2 53 := ⟨by decide +kernel, rfl⟩
theorem dX7_init_53 : zD cX7_init 53 (.newarray .int) 2 55 := ⟨by decide +kernel, rfl⟩
theorem dX7_init_55 : zD cX7_init 55 (.putfield 29) 3 58 := ⟨by decide +kernel, rfl⟩
theorem dX7_init_58 : zD cX7_init 58 (.aload_n 0) 1 59 := ⟨by decide +kernel, rfl⟩
theorem dX7_init_59 : zD cX7_init 59 (.bipush 6) 2 61 := ⟨by decide +kernel, rfl⟩
theorem dX7_init_61 : zD cX7_init 61 (.newarray .int) 2 63 := ⟨by decide +kernel, rfl⟩
theorem dX7_init_63 : zD cX7_init 63 (.putfield 32) 3 66 := ⟨by decide +kernel, rfl⟩
theorem dX7_init_66 : zD cX7_init 66 (.aload_n 0) 1 67 := ⟨by decide +kernel, rfl⟩
theorem dX7_init_67 : zD cX7_init 67 (.bipush 20) 2 69 := ⟨by decide +kernel, rfl⟩
theorem dX7_init_69 : zD cX7_init 69 (.newarray .int) 2 71 := ⟨by decide +kernel, rfl⟩
theorem dX7_init_71 : zD cX7_init 71 (.putfield 35) 3 74 := ⟨by decide +kernel, rfl⟩
theorem dX7_init_74 : zD cX7_init 74 (.aload_n 0) 1 75 := ⟨by decide +kernel, rfl⟩
theorem dX7_init_75 : zD cX7_init 75 (.bipush 20) 2 77 := ⟨by decide +kernel, rfl⟩
theorem dX7_init_77 : zD cX7_init 77 (.newarray .int) 2 79 := ⟨by decide +kernel, rfl⟩
theorem dX7_init_79 : zD cX7_init 79 (.putfield 38) 3 82 := ⟨by decide +kernel, rfl⟩
theorem dX7_init_82 : zD cX7_init 82 (.aload_n 0) 1 83 := ⟨by decide +kernel, rfl⟩
theorem dX7_init_83 : zD cX7_init 83 (.bipush 20) 2 85 := ⟨by decide +kernel, rfl⟩
theorem dX7_init_85 : zD cX7_init 85 (.newarray .int) 2 87 := ⟨by decide +kernel, rfl⟩
theorem dX7_init_87 : zD cX7_init 87 (.putfield 41) 3 90 := ⟨by decide +kernel, rfl⟩
theorem dX7_init_90 : zD cX7_init 90 (.aload_n 0) 1 91 := ⟨by decide +kernel, rfl⟩
theorem dX7_init_91 : zD cX7_init 91 (.bipush 20) 2 93 := ⟨by decide +kernel, rfl⟩
theorem dX7_init_93 : zD cX7_init 93 (.newarray .int) 2 95 := ⟨by decide +kernel, rfl⟩
theorem dX7_init_95 : zD cX7_init 95 (.putfield 44) 3 98 := ⟨by decide +kernel, rfl⟩
theorem dX7_init_98 : zD cX7_init 98 (.aload_n 0) 1 99 := ⟨by decide +kernel, rfl⟩
theorem dX7_init_99 : zD cX7_init 99 (.bipush 20) 2 101 := ⟨by decide +kernel, rfl⟩
theorem dX7_init_101 : zD cX7_init 101 (.newarray .int) 2 103 := ⟨by decide +kernel, rfl⟩
theorem dX7_init_103 : zD cX7_init 103 (.putfield 47) 3 106 := ⟨by decide +kernel, rfl⟩
theorem dX7_init_106 : zD cX7_init 106 (.aload_n 0) 1 107 := ⟨by decide +kernel, rfl⟩
theorem dX7_init_107 : zD cX7_init 107 (.bipush 6) 2 109 := ⟨by decide +kernel, rfl⟩
theorem dX7_init_109 : zD cX7_init 109 (.newarray .int) 2 111 := ⟨by decide +kernel, rfl⟩
theorem dX7_init_111 : zD cX7_init 111 (.putfield 50) 3 114 := ⟨by decide +kernel, rfl⟩
theorem dX7_init_114 : zD cX7_init 114 (.aload_n 0) 1 115 := ⟨by decide +kernel, rfl⟩
theorem dX7_init_115 : zD cX7_init 115 (.bipush 6) 2 117 := ⟨by decide +kernel, rfl⟩
theorem dX7_init_117 : zD cX7_init 117 (.newarray .int) 2 119 := ⟨by decide +kernel, rfl⟩
theorem dX7_init_119 : zD cX7_init 119 (.putfield 53) 3 122 := ⟨by decide +kernel, rfl⟩
theorem dX7_init_122 : zD cX7_init 122 (.aload_n 0) 1 123 := ⟨by decide +kernel, rfl⟩
theorem dX7_init_123 : zD cX7_init 123 (.sipush 360) 3 126 := ⟨by decide +kernel, rfl⟩
theorem dX7_init_126 : zD cX7_init 126 (.newarray .int) 2 128 := ⟨by decide +kernel, rfl⟩
theorem dX7_init_128 : zD cX7_init 128 (.putfield 56) 3 131 := ⟨by decide +kernel, rfl⟩
theorem dX7_init_131 : zD cX7_init 131 (.aload_n 0) 1 132 := ⟨by decide +kernel, rfl⟩
theorem dX7_init_132 : zD cX7_init 132 (.sipush 360) 3 135 := ⟨by decide +kernel, rfl⟩
theorem dX7_init_135 : zD cX7_init 135 (.newarray .int) 2 137 := ⟨by decide +kernel, rfl⟩
theorem dX7_init_137 : zD cX7_init 137 (.putfield 59) 3 140 := ⟨by decide +kernel, rfl⟩
theorem dX7_init_140 : zD cX7_init 140 (.aload_n 0) 1 141 := ⟨by decide +kernel, rfl⟩
theorem dX7_init_141 : zD cX7_init 141 (.sipush 360) 3 144 := ⟨by decide +kernel, rfl⟩
theorem dX7_init_144 : zD cX7_init 144 (.newarray .int) 2 146 := ⟨by decide +kernel, rfl⟩
theorem dX7_init_146 : zD cX7_init 146 (.putfield 62) 3 149 := ⟨by decide +kernel, rfl⟩
theorem dX7_init_149 : zD cX7_init 149 (.aload_n 0) 1 150 := ⟨by decide +kernel, rfl⟩
theorem dX7_init_150 : zD cX7_init 150 (.sipush 5040) 3 153 := ⟨by decide +kernel, rfl⟩
theorem dX7_init_153 : zD cX7_init 153 (.newarray .int) 2 155 := ⟨by decide +kernel, rfl⟩
theorem dX7_init_155 : zD cX7_init 155 (.putfield 65) 3 158 := ⟨by decide +kernel, rfl⟩
theorem dX7_init_158 : zD cX7_init 158 (.aload_n 0) 1 159 := ⟨by decide +kernel, rfl⟩
theorem dX7_init_159 : zD cX7_init 159 (.sipush 720) 3 162 := ⟨by decide +kernel, rfl⟩
theorem dX7_init_162 : zD cX7_init 162 (.newarray .int) 2 164 := ⟨by decide +kernel, rfl⟩
theorem dX7_init_164 : zD cX7_init 164 (.putfield 68) 3 167 := ⟨by decide +kernel, rfl⟩
theorem dX7_init_167 : zD cX7_init 167 (.aload_n 0) 1 168 := ⟨by decide +kernel, rfl⟩
theorem dX7_init_168 : zD cX7_init 168 (.iconst 2) 1 169 := ⟨by decide +kernel, rfl⟩
theorem dX7_init_169 : zD cX7_init 169 (.newarray .boolean) 2 171 := ⟨by decide +kernel, rfl⟩
theorem dX7_init_171 : zD cX7_init 171 (.putfield 71) 3 174 := ⟨by decide +kernel, rfl⟩
theorem dX7_init_174 : zD cX7_init 174 (.aload_n 0) 1 175 := ⟨by decide +kernel, rfl⟩
theorem dX7_init_175 : zD cX7_init 175 (.bipush 64) 2 177 := ⟨by decide +kernel, rfl⟩
theorem dX7_init_177 : zD cX7_init 177 (.newarray .int) 2 179 := ⟨by decide +kernel, rfl⟩
theorem dX7_init_179 : zD cX7_init 179 (.putfield 75) 3 182 := ⟨by decide +kernel, rfl⟩
theorem dX7_init_182 : zD cX7_init 182 (.aload_n 0) 1 183 := ⟨by decide +kernel, rfl⟩
theorem dX7_init_183 : zD cX7_init 183 (.bipush 64) 2 185 := ⟨by decide +kernel, rfl⟩
theorem dX7_init_185 : zD cX7_init 185 (.newarray .int) 2 187 := ⟨by decide +kernel, rfl⟩
theorem dX7_init_187 : zD cX7_init 187 (.putfield 78) 3 190 := ⟨by decide +kernel, rfl⟩
theorem dX7_init_190 : zD cX7_init 190 (.aload_n 0) 1 191 := ⟨by decide +kernel, rfl⟩
theorem dX7_init_191 : zD cX7_init 191 (.sipush 360) 3 194 := ⟨by decide +kernel, rfl⟩
theorem dX7_init_194 : zD cX7_init 194 (.newarray .int) 2 196 := ⟨by decide +kernel, rfl⟩
theorem dX7_init_196 : zD cX7_init 196 (.putfield 81) 3 199 := ⟨by decide +kernel, rfl⟩
theorem dX7_init_199 : zD cX7_init 199 (.aload_n 0) 1 200 := ⟨by decide +kernel, rfl⟩
theorem dX7_init_200 : zD cX7_init 200 (.getfield 56) 3 203 := ⟨by decide +kernel, rfl⟩
theorem dX7_init_203 : zD cX7_init 203 (.iconst 3) 1 204 := ⟨by decide +kernel, rfl⟩
theorem dX7_init_204 : zD cX7_init 204 (.sipush 1000) 3 207 := ⟨by decide +kernel, rfl⟩
theorem dX7_init_207 : zD cX7_init 207 (.iastore) 1 208 := ⟨by decide +kernel, rfl⟩
theorem dX7_init_208 : zD cX7_init 208 (.return_) 1 209 := ⟨by decide +kernel, rfl⟩
theorem dX7_thrown_0 : zD cX7_thrown 0 (.aload_n 0) 1 1 := ⟨by decide +kernel, rfl⟩
theorem dX7_thrown_1 : zD cX7_thrown 1 (.getfield 84) 3 4 := ⟨by decide +kernel, rfl⟩
theorem dX7_thrown_4 : zD cX7_thrown 4 (.ireturn) 1 5 := ⟨by decide +kernel, rfl⟩
theorem dX7_refused_0 : zD cX7_refused 0 (.aload_n 0) 1 1 := ⟨by decide +kernel, rfl⟩
theorem dX7_refused_1 : zD cX7_refused 1 (.iload_n 1) 1 2 := ⟨by decide +kernel, rfl⟩
theorem dX7_refused_2 : zD cX7_refused 2 (.putfield 84) 3 5 := ⟨by decide +kernel, rfl⟩
theorem dX7_refused_5 : zD cX7_refused 5 (.iload_n 1) 1 6 := ⟨by decide +kernel, rfl⟩
theorem dX7_refused_6 : zD cX7_refused 6 (.ifCond .le 7) 3 9 := ⟨by decide +kernel, rfl⟩
theorem dX7_refused_9 : zD cX7_refused 9 (.iconst 1) 1 10 := ⟨by decide +kernel, rfl⟩
theorem dX7_refused_10 : zD cX7_refused 10 (.goto 4) 3 13 := ⟨by decide +kernel, rfl⟩
theorem dX7_refused_13 : zD cX7_refused 13 (.iconst 0) 1 14 := ⟨by decide +kernel, rfl⟩
theorem dX7_refused_14 : zD cX7_refused 14 (.ireturn) 1 15 := ⟨by decide +kernel, rfl⟩
theorem dX7_in_0 : zD cX7_in 0 (.lload_n 0) 1 1 := ⟨by decide +kernel, rfl⟩
theorem dX7_in_1 : zD cX7_in 1 (.lload_n 2) 1 2 := ⟨by decide +kernel, rfl⟩
theorem dX7_in_2 : zD cX7_in 2 (.lcmp) 1 3 := ⟨by decide +kernel, rfl⟩
theorem dX7_in_3 : zD cX7_in 3 (.ifCond .lt 14) 3 6 := ⟨by decide +kernel, rfl⟩
theorem dX7_in_6 : zD cX7_in 6 (.lload_n 0) 1 7 := ⟨by decide +kernel, rfl⟩
theorem dX7_in_7 : zD cX7_in 7 (.lload 4) 2 9 := ⟨by decide +kernel, rfl⟩
theorem dX7_in_9 : zD cX7_in 9 (.lcmp) 1 10 := ⟨by decide +kernel, rfl⟩
theorem dX7_in_10 : zD cX7_in 10 (.ifCond .gt 7) 3 13 := ⟨by decide +kernel, rfl⟩
theorem dX7_in_13 : zD cX7_in 13 (.iconst 1) 1 14 := ⟨by decide +kernel, rfl⟩
theorem dX7_in_14 : zD cX7_in 14 (.goto 4) 3 17 := ⟨by decide +kernel, rfl⟩
theorem dX7_in_17 : zD cX7_in 17 (.iconst 0) 1 18 := ⟨by decide +kernel, rfl⟩
theorem dX7_in_18 : zD cX7_in 18 (.ireturn) 1 19 := ⟨by decide +kernel, rfl⟩
theorem dX7_copyRow_0 : zD cX7_copyRow 0 (.iconst 0) 1 1 := ⟨by decide +kernel, rfl⟩
theorem dX7_copyRow_1 : zD cX7_copyRow 1 (.istore 5) 2 3 := ⟨by decide +kernel, rfl⟩
theorem dX7_copyRow_3 : zD cX7_copyRow 3 (.iload 5) 2 5 := ⟨by decide +kernel, rfl⟩
theorem dX7_copyRow_5 : zD cX7_copyRow 5 (.iload 4) 2 7 := ⟨by decide +kernel, rfl⟩
theorem dX7_copyRow_7 : zD cX7_copyRow 7 (.if_icmp .ge 21) 3 10 := ⟨by decide +kernel, rfl⟩
theorem dX7_copyRow_10 : zD cX7_copyRow 10 (.aload_n 2) 1 11 := ⟨by decide +kernel, rfl⟩
theorem dX7_copyRow_11 : zD cX7_copyRow 11 (.iload_n 3) 1 12 := ⟨by decide +kernel, rfl⟩
theorem dX7_copyRow_12 : zD cX7_copyRow 12 (.iload 5) 2 14 := ⟨by decide +kernel, rfl⟩
theorem dX7_copyRow_14 : zD cX7_copyRow 14 (.iadd) 1 15 := ⟨by decide +kernel, rfl⟩
theorem dX7_copyRow_15 : zD cX7_copyRow 15 (.aload_n 0) 1 16 := ⟨by decide +kernel, rfl⟩
theorem dX7_copyRow_16 : zD cX7_copyRow 16 (.iload_n 1) 1 17 := ⟨by decide +kernel, rfl⟩
theorem dX7_copyRow_17 : zD cX7_copyRow 17 (.iload 5) 2 19 := ⟨by decide +kernel, rfl⟩
theorem dX7_copyRow_19 : zD cX7_copyRow 19 (.iadd) 1 20 := ⟨by decide +kernel, rfl⟩
theorem dX7_copyRow_20 : zD cX7_copyRow 20 (.iaload) 1 21 := ⟨by decide +kernel, rfl⟩
theorem dX7_copyRow_21 : zD cX7_copyRow 21 (.iastore) 1 22 := ⟨by decide +kernel, rfl⟩
theorem dX7_copyRow_22 : zD cX7_copyRow 22 (.iinc 5 1) 3 25 := ⟨by decide +kernel, rfl⟩
theorem dX7_copyRow_25 : zD cX7_copyRow 25 (.goto (-22)) 3 28 := ⟨by decide +kernel, rfl⟩
theorem dX7_copyRow_28 : zD cX7_copyRow 28 (.return_) 1 29 := ⟨by decide +kernel, rfl⟩
theorem dX7_note_0 : zD cX7_note 0 (.aload_n 0) 1 1 := ⟨by decide +kernel, rfl⟩
theorem dX7_note_1 : zD cX7_note 1 (.getfield 87) 3 4 := ⟨by decide +kernel, rfl⟩
theorem dX7_note_4 : zD cX7_note 4 (.bipush 14) 2 6 := ⟨by decide +kernel, rfl⟩
theorem dX7_note_6 : zD cX7_note 6 (.if_icmp .ne 31) 3 9 := ⟨by decide +kernel, rfl⟩
theorem dX7_note_9 : zD cX7_note 9 (.aload_n 0) 1 10 := ⟨by decide +kernel, rfl⟩
theorem dX7_note_10 : zD cX7_note 10 (.getfield 65) 3 13 := ⟨by decide +kernel, rfl⟩
theorem dX7_note_13 : zD cX7_note 13 (.sipush 360) 3 16 := ⟨by decide +kernel, rfl⟩
theorem dX7_note_16 : zD cX7_note 16 (.aload_n 0) 1 17 := ⟨by decide +kernel, rfl⟩
theorem dX7_note_17 : zD cX7_note 17 (.getfield 65) 3 20 := ⟨by decide +kernel, rfl⟩
theorem dX7_note_20 : zD cX7_note 20 (.iconst 0) 1 21 := ⟨by decide +kernel, rfl⟩
theorem dX7_note_21 : zD cX7_note 21 (.sipush 4680) 3 24 := ⟨by decide +kernel, rfl⟩
theorem dX7_note_24 : zD cX7_note 24 (.invokestatic 90) 3 27 := ⟨by decide +kernel, rfl⟩
theorem dX7_note_27 : zD cX7_note 27 (.aload_n 0) 1 28 := ⟨by decide +kernel, rfl⟩
theorem dX7_note_28 : zD cX7_note 28 (.dup) 1 29 := ⟨by decide +kernel, rfl⟩
theorem dX7_note_29 : zD cX7_note 29 (.getfield 87) 3 32 := ⟨by decide +kernel, rfl⟩
theorem dX7_note_32 : zD cX7_note 32 (.iconst 1) 1 33 := ⟨by decide +kernel, rfl⟩
theorem dX7_note_33 : zD cX7_note 33 (.isub) 1 34 := ⟨by decide +kernel, rfl⟩
theorem dX7_note_34 : zD cX7_note 34 (.putfield 87) 3 37 := ⟨by decide +kernel, rfl⟩
theorem dX7_note_37 : zD cX7_note 37 (.aload_n 0) 1 38 := ⟨by decide +kernel, rfl⟩
theorem dX7_note_38 : zD cX7_note 38 (.getfield 56) 3 41 := ⟨by decide +kernel, rfl⟩
theorem dX7_note_41 : zD cX7_note 41 (.iconst 0) 1 42 := ⟨by decide +kernel, rfl⟩
theorem dX7_note_42 : zD cX7_note 42 (.aload_n 0) 1 43 := ⟨by decide +kernel, rfl⟩
theorem dX7_note_43 : zD cX7_note 43 (.getfield 65) 3 46 := ⟨by decide +kernel, rfl⟩
theorem dX7_note_46 : zD cX7_note 46 (.sipush 360) 3 49 := ⟨by decide +kernel, rfl⟩
theorem dX7_note_49 : zD cX7_note 49 (.aload_n 0) 1 50 := ⟨by decide +kernel, rfl⟩
theorem dX7_note_50 : zD cX7_note 50 (.getfield 87) 3 53 := ⟨by decide +kernel, rfl⟩
theorem dX7_note_53 : zD cX7_note 53 (.imul) 1 54 := ⟨by decide +kernel, rfl⟩
theorem dX7_note_54 : zD cX7_note 54 (.sipush 360) 3 57 := ⟨by decide +kernel, rfl⟩
theorem dX7_note_57 : zD cX7_note 57 (.invokestatic 90) 3 60 := ⟨by decide +kernel, rfl⟩
theorem dX7_note_60 : zD cX7_note 60 (.aload_n 0) 1 61 := ⟨by decide +kernel, rfl⟩
theorem dX7_note_61 : zD cX7_note 61 (.dup) 1 62 := ⟨by decide +kernel, rfl⟩
theorem dX7_note_62 : zD cX7_note 62 (.getfield 87) 3 65 := ⟨by decide +kernel, rfl⟩
theorem dX7_note_65 : zD cX7_note 65 (.iconst 1) 1 66 := ⟨by decide +kernel, rfl⟩
theorem dX7_note_66 : zD cX7_note 66 (.iadd) 1 67 := ⟨by decide +kernel, rfl⟩
theorem dX7_note_67 : zD cX7_note 67 (.putfield 87) 3 70 := ⟨by decide +kernel, rfl⟩
theorem dX7_note_70 : zD cX7_note 70 (.return_) 1 71 := ⟨by decide +kernel, rfl⟩
theorem dX7_accept_0 : zD cX7_accept 0 (.aload_n 0) 1 1 := ⟨by decide +kernel, rfl⟩
theorem dX7_accept_1 : zD cX7_accept 1 (.invokevirtual 94) 3 4 := ⟨by decide +kernel, rfl⟩
theorem dX7_accept_4 : zD cX7_accept 4 (.aload_n 0) 1 5 := ⟨by decide +kernel, rfl⟩
theorem dX7_accept_5 : zD cX7_accept 5 (.getfield 59) 3 8 := ⟨by decide +kernel, rfl⟩
theorem dX7_accept_8 : zD cX7_accept 8 (.iconst 0) 1 9 := ⟨by decide +kernel, rfl⟩
theorem dX7_accept_9 : zD cX7_accept 9 (.aload_n 0) 1 10 := ⟨by decide +kernel, rfl⟩
theorem dX7_accept_10 : zD cX7_accept 10 (.getfield 56) 3 13 := ⟨by decide +kernel, rfl⟩
theorem dX7_accept_13 : zD cX7_accept 13 (.iconst 0) 1 14 := ⟨by decide +kernel, rfl⟩
theorem dX7_accept_14 : zD cX7_accept 14 (.sipush 360) 3 17 := ⟨by decide +kernel, rfl⟩
theorem dX7_accept_17 : zD cX7_accept 17 (.invokestatic 90) 3 20 := ⟨by decide +kernel, rfl⟩
theorem dX7_accept_20 : zD cX7_accept 20 (.return_) 1 21 := ⟨by decide +kernel, rfl⟩
theorem dX7_at_0 : zD cX7_at 0 (.bipush 24) 2 2 := ⟨by decide +kernel, rfl⟩
theorem dX7_at_2 : zD cX7_at 2 (.bipush 28) 2 4 := ⟨by decide +kernel, rfl⟩
theorem dX7_at_4 : zD cX7_at 4 (.iload_n 0) 1 5 := ⟨by decide +kernel, rfl⟩
theorem dX7_at_5 : zD cX7_at 5 (.imul) 1 6 := ⟨by decide +kernel, rfl⟩
theorem dX7_at_6 : zD cX7_at 6 (.iadd) 1 7 := ⟨by decide +kernel, rfl⟩
theorem dX7_at_7 : zD cX7_at 7 (.ireturn) 1 8 := ⟨by decide +kernel, rfl⟩
theorem dX7_isFormat_0 : zD cX7_isFormat 0 (.iload_n 1) 1 1 := ⟨by decide +kernel, rfl⟩
theorem dX7_isFormat_1 : zD cX7_isFormat 1 (.i2l) 1 2 := ⟨by decide +kernel, rfl⟩
theorem dX7_isFormat_2 : zD cX7_isFormat 2 (.lconst 0) 1 3 := ⟨by decide +kernel, rfl⟩
theorem dX7_isFormat_3 : zD cX7_isFormat 3 (.aload_n 0) 1 4 := ⟨by decide +kernel, rfl⟩
theorem dX7_isFormat_4 : zD cX7_isFormat 4 (.getfield 13) 3 7 := ⟨by decide +kernel, rfl⟩
theorem dX7_isFormat_7 : zD cX7_isFormat 7 (.iconst 1) 1 8 := ⟨by decide +kernel, rfl⟩
theorem dX7_isFormat_8 : zD cX7_isFormat 8 (.isub) 1 9 := ⟨by decide +kernel, rfl⟩
theorem dX7_isFormat_9 : zD cX7_isFormat 9 (.i2l) 1 10 := ⟨by decide +kernel, rfl⟩
theorem dX7_isFormat_10 : zD cX7_isFormat 10 (.invokestatic 97) 3 13 := ⟨by decide +kernel, rfl⟩
theorem dX7_isFormat_13 : zD cX7_isFormat 13 (.ireturn) 1 14 := ⟨by decide +kernel, rfl⟩
theorem dX7_isConversion_0 : zD cX7_isConversion 0 (.iload_n 1) 1 1 := ⟨by decide +kernel, rfl⟩
theorem dX7_isConversion_1 : zD cX7_isConversion 1 (.i2l) 1 2 := ⟨by decide +kernel, rfl⟩
theorem dX7_isConversion_2 : zD cX7_isConversion 2 (.lconst 0) 1 3 := ⟨by decide +kernel, rfl⟩
theorem dX7_isConversion_3 : zD cX7_isConversion 3 (.aload_n 0) 1 4 := ⟨by decide +kernel, rfl⟩
theorem dX7_isConversion_4 : zD cX7_isConversion 4 (.getfield 101) 3 7 := ⟨by decide +kernel, rfl⟩
theorem dX7_isConversion_7 : zD cX7_isConversion 7 (.iconst 1) 1 8 := ⟨by decide +kernel, rfl⟩
theorem dX7_isConversion_8 : zD cX7_isConversion 8 (.isub) 1 9 := ⟨by decide +kernel, rfl⟩
theorem dX7_isConversion_9 : zD cX7_isConversion 9 (.i2l) 1 10 := ⟨by decide +kernel, rfl⟩
theorem dX7_isConversion_10 : zD cX7_isConversion 10 (.invokestatic 97) 3 13 := ⟨by decide +kernel, rfl⟩
theorem dX7_isConversion_13 : zD cX7_isConversion 13 (.ireturn) 1 14 := ⟨by decide +kernel, rfl⟩
theorem dX7_isPlace_0 : zD cX7_isPlace 0 (.iload_n 1) 1 1 := ⟨by decide +kernel, rfl⟩
theorem dX7_isPlace_1 : zD cX7_isPlace 1 (.i2l) 1 2 := ⟨by decide +kernel, rfl⟩
theorem dX7_isPlace_2 : zD cX7_isPlace 2 (.lconst 0) 1 3 := ⟨by decide +kernel, rfl⟩
theorem dX7_isPlace_3 : zD cX7_isPlace 3 (.aload_n 0) 1 4 := ⟨by decide +kernel, rfl⟩
theorem dX7_isPlace_4 : zD cX7_isPlace 4 (.getfield 104) 3 7 := ⟨by decide +kernel, rfl⟩
theorem dX7_isPlace_7 : zD cX7_isPlace 7 (.iconst 1) 1 8 := ⟨by decide +kernel, rfl⟩
theorem dX7_isPlace_8 : zD cX7_isPlace 8 (.isub) 1 9 := ⟨by decide +kernel, rfl⟩
theorem dX7_isPlace_9 : zD cX7_isPlace 9 (.i2l) 1 10 := ⟨by decide +kernel, rfl⟩
theorem dX7_isPlace_10 : zD cX7_isPlace 10 (.invokestatic 97) 3 13 := ⟨by decide +kernel, rfl⟩
theorem dX7_isPlace_13 : zD cX7_isPlace 13 (.ireturn) 1 14 := ⟨by decide +kernel, rfl⟩
theorem dX7_isEntry_0 : zD cX7_isEntry 0 (.iload_n 1) 1 1 := ⟨by decide +kernel, rfl⟩
theorem dX7_isEntry_1 : zD cX7_isEntry 1 (.i2l) 1 2 := ⟨by decide +kernel, rfl⟩
theorem dX7_isEntry_2 : zD cX7_isEntry 2 (.lconst 0) 1 3 := ⟨by decide +kernel, rfl⟩
theorem dX7_isEntry_3 : zD cX7_isEntry 3 (.aload_n 0) 1 4 := ⟨by decide +kernel, rfl⟩
theorem dX7_isEntry_4 : zD cX7_isEntry 4 (.iconst 0) 1 5 := ⟨by decide +kernel, rfl⟩
theorem dX7_isEntry_5 : zD cX7_isEntry 5 (.iaload) 1 6 := ⟨by decide +kernel, rfl⟩
theorem dX7_isEntry_6 : zD cX7_isEntry 6 (.iconst 1) 1 7 := ⟨by decide +kernel, rfl⟩
theorem dX7_isEntry_7 : zD cX7_isEntry 7 (.isub) 1 8 := ⟨by decide +kernel, rfl⟩
theorem dX7_isEntry_8 : zD cX7_isEntry 8 (.i2l) 1 9 := ⟨by decide +kernel, rfl⟩
theorem dX7_isEntry_9 : zD cX7_isEntry 9 (.invokestatic 97) 3 12 := ⟨by decide +kernel, rfl⟩
theorem dX7_isEntry_12 : zD cX7_isEntry 12 (.ireturn) 1 13 := ⟨by decide +kernel, rfl⟩
theorem dX7_append_0 : zD cX7_append 0 (.aload_n 0) 1 1 := ⟨by decide +kernel, rfl⟩
theorem dX7_append_1 : zD cX7_append 1 (.iload_n 1) 1 2 := ⟨by decide +kernel, rfl⟩
theorem dX7_append_2 : zD cX7_append 2 (.i2l) 1 3 := ⟨by decide +kernel, rfl⟩
theorem dX7_append_3 : zD cX7_append 3 (.lconst 0) 1 4 := ⟨by decide +kernel, rfl⟩
theorem dX7_append_4 : zD cX7_append 4 (.ldc2_w 107) 3 7 := ⟨by decide +kernel, rfl⟩
theorem dX7_append_7 : zD cX7_append 7 (.invokestatic 97) 3 10 := ⟨by decide +kernel, rfl⟩
theorem dX7_append_10 : zD cX7_append 10 (.ifCond .ne 7) 3 13 := ⟨by decide +kernel, rfl⟩
theorem dX7_append_13 : zD cX7_append 13 (.iconst 1) 1 14 := ⟨by decide +kernel, rfl⟩
theorem dX7_append_14 : zD cX7_append 14 (.goto 18) 3 17 := ⟨by decide +kernel, rfl⟩
theorem dX7_append_17 : zD cX7_append 17 (.aload_n 0) 1 18 := ⟨by decide +kernel, rfl⟩
theorem dX7_append_18 : zD cX7_append 18 (.getfield 109) 3 21 := ⟨by decide +kernel, rfl⟩
theorem dX7_append_21 : zD cX7_append 21 (.sipush 160) 3 24 := ⟨by decide +kernel, rfl⟩
theorem dX7_append_24 : zD cX7_append 24 (.if_icmp .ne 7) 3 27 := ⟨by decide +kernel, rfl⟩
theorem dX7_append_27 : zD cX7_append 27 (.iconst 2) 1 28 := ⟨by decide +kernel, rfl⟩
theorem dX7_append_28 : zD cX7_append 28 (.goto 4) 3 31 := ⟨by decide +kernel, rfl⟩
theorem dX7_append_31 : zD cX7_append 31 (.iconst 0) 1 32 := ⟨by decide +kernel, rfl⟩
theorem dX7_append_32 : zD cX7_append 32 (.invokevirtual 112) 3 35 := ⟨by decide +kernel, rfl⟩
theorem dX7_append_35 : zD cX7_append 35 (.ifCond .eq 5) 3 38 := ⟨by decide +kernel, rfl⟩
theorem dX7_append_38 : zD cX7_append 38 (.iconst 0) 1 39 := ⟨by decide +kernel, rfl⟩
theorem dX7_append_39 : zD cX7_append 39 (.ireturn) 1 40 := ⟨by decide +kernel, rfl⟩
theorem dX7_append_40 : zD cX7_append 40 (.aload_n 0) 1 41 := ⟨by decide +kernel, rfl⟩
theorem dX7_append_41 : zD cX7_append 41 (.getfield 7) 3 44 := ⟨by decide +kernel, rfl⟩
theorem dX7_append_44 : zD cX7_append 44 (.aload_n 0) 1 45 := ⟨by decide +kernel, rfl⟩
theorem dX7_append_45 : zD cX7_append 45 (.getfield 109) 3 48 := ⟨by decide +kernel, rfl⟩
theorem dX7_append_48 : zD cX7_append 48 (.iload_n 1) 1 49 := ⟨by decide +kernel, rfl⟩
theorem dX7_append_49 : zD cX7_append 49 (.iastore) 1 50 := ⟨by decide +kernel, rfl⟩
theorem dX7_append_50 : zD cX7_append 50 (.aload_n 0) 1 51 := ⟨by decide +kernel, rfl⟩
theorem dX7_append_51 : zD cX7_append 51 (.dup) 1 52 := ⟨by decide +kernel, rfl⟩
theorem dX7_append_52 : zD cX7_append 52 (.getfield 109) 3 55 := ⟨by decide +kernel, rfl⟩
theorem dX7_append_55 : zD cX7_append 55 (.iconst 1) 1 56 := ⟨by decide +kernel, rfl⟩
theorem dX7_append_56 : zD cX7_append 56 (.iadd) 1 57 := ⟨by decide +kernel, rfl⟩
theorem dX7_append_57 : zD cX7_append 57 (.putfield 109) 3 60 := ⟨by decide +kernel, rfl⟩
theorem dX7_append_60 : zD cX7_append 60 (.aload_n 0) 1 61 := ⟨by decide +kernel, rfl⟩
theorem dX7_append_61 : zD cX7_append 61 (.getfield 109) 3 64 := ⟨by decide +kernel, rfl⟩
theorem dX7_append_64 : zD cX7_append 64 (.ireturn) 1 65 := ⟨by decide +kernel, rfl⟩
def fX6_way (h : zH) (a0 : Nat) (a1 : Int32) (a2 : Int32) (a3 : Int32) : Option ((Int32 ⊕ String) × zH) :=
    if zkd h a0 = 7 then
    zb4 (fX6_requireEntry h (a0) (a1)) fun h1 =>
    zb4 (fX6_requirePlace h1 (a0) (a2)) fun h3 =>
    if (a3 : Int32) < 0 then
    some (.inr "java/lang/IllegalArgumentException", zoff h3)
    else
    if (a3 : Int32) ≤ 4 then
    (zgP h3 6 a0 4).bind fun w7 =>
    zb2 (fX6_findWay h3 (a0) (w7) (a1) (a2)) fun w8 h9 =>
    if (w8 : Int32) = 0 then
    some (.inl (-9), h9)
    else
    if (a3 : Int32) = 0 then
    (zgP h9 6 a0 3).bind fun w12 =>
    (zgI h9 5 w12 0).bind fun w13 =>
    some (.inl w13, h9)
    else
    if (a3 : Int32) = 1 then
    (zgP h9 6 a0 3).bind fun w15 =>
    (zgI h9 5 w15 1).bind fun w16 =>
    some (.inl w16, h9)
    else
    if (a3 : Int32) = 2 then
    (zgP h9 6 a0 3).bind fun w18 =>
    (zgI h9 5 w18 2).bind fun w19 =>
    some (.inl w19, h9)
    else
    if (a3 : Int32) = 3 then
    (zgP h9 6 a0 3).bind fun w21 =>
    (zgI h9 5 w21 3).bind fun w22 =>
    some (.inl w22, h9)
    else
    (zgP h9 6 a0 3).bind fun w23 =>
    (zgI h9 5 w23 4).bind fun w24 =>
    some (.inl w24, h9)
    else
    some (.inr "java/lang/IllegalArgumentException", zoff h3)
    else none
theorem kfX6_way {h : zH} {a0 : Nat} {a1 : Int32} {a2 : Int32} {a3 : Int32} {r : (Int32 ⊕ String) × zH} (hf : fX6_way h a0 a1 a2 a3 = some r) : zkd h a0 = 7 := by
  unfold fX6_way at hf
  exact (zck hf).1
def fX6_bestFor_L16 (k : zH → Int32 → Int32 → Int32 → Int32 → Option ((Int32 ⊕ String) × zH)) (u0 : Nat) (u1 : Int32) : Nat → zH → Int32 → Int32 → Int32 → Int32 → Option ((Int32 ⊕ String) × zH)
  | 0, _, _, _, _, _ => none
  | n + 1, h, v2, v3, v4, v5 => (zgP h 6 u0 4).bind fun w1 =>
    (zgI h 3 w1 2).bind fun w2 =>
    if (w2 : Int32) ≤ v5 then
    k h (v2) (v3) (v4) (v5)
    else
    (zgP h 6 u0 4).bind fun w4 =>
    zb2 (fX6_findWay h (u0) (w4) (v5) (u1)) fun w5 h6 =>
    if (w5 : Int32) = 0 then
    fX6_bestFor_L16 k u0 u1 n h6 (v2) (v3) (v4) ((v5 + 1))
    else
    if (v2 : Int32) = (-9) then
    (zgP h6 6 u0 3).bind fun w9 =>
    (zgI h6 5 w9 0).bind fun w10 =>
    (zgP h6 6 u0 3).bind fun w11 =>
    (zgI h6 5 w11 4).bind fun w12 =>
    fX6_bestFor_L16 k u0 u1 n h6 (v5) (w10) (w12) ((v5 + 1))
    else
    (zgP h6 6 u0 3).bind fun w13 =>
    (zgI h6 5 w13 0).bind fun w14 =>
    if (w14 : Int32) < v3 then
    (zgP h6 6 u0 3).bind fun w16 =>
    (zgI h6 5 w16 0).bind fun w17 =>
    (zgP h6 6 u0 3).bind fun w18 =>
    (zgI h6 5 w18 4).bind fun w19 =>
    fX6_bestFor_L16 k u0 u1 n h6 (v5) (w17) (w19) ((v5 + 1))
    else
    (zgP h6 6 u0 3).bind fun w20 =>
    (zgI h6 5 w20 0).bind fun w21 =>
    if (w21 : Int32) = v3 then
    (zgP h6 6 u0 3).bind fun w23 =>
    (zgI h6 5 w23 4).bind fun w24 =>
    if (v4 : Int32) ≤ w24 then
    fX6_bestFor_L16 k u0 u1 n h6 (v2) (v3) (v4) ((v5 + 1))
    else
    (zgP h6 6 u0 3).bind fun w26 =>
    (zgI h6 5 w26 0).bind fun w27 =>
    (zgP h6 6 u0 3).bind fun w28 =>
    (zgI h6 5 w28 4).bind fun w29 =>
    fX6_bestFor_L16 k u0 u1 n h6 (v5) (w27) (w29) ((v5 + 1))
    else
    fX6_bestFor_L16 k u0 u1 n h6 (v2) (v3) (v4) ((v5 + 1))
def fX6_bestFor (h : zH) (a0 : Nat) (a1 : Int32) : Option ((Int32 ⊕ String) × zH) :=
    if zkd h a0 = 7 then
    zb4 (fX6_requirePlace h (a0) (a1)) fun h1 =>
    fX6_bestFor_L16 (fun h3 y4 y5 y6 y7 =>
    some (.inl y4, h3)) (a0) (a1) zF h1 ((-9)) (0) (0) (0)
    else none
theorem kfX6_bestFor {h : zH} {a0 : Nat} {a1 : Int32} {r : (Int32 ⊕ String) × zH} (hf : fX6_bestFor h a0 a1 = some r) : zkd h a0 = 7 := by
  unfold fX6_bestFor at hf
  exact (zck hf).1
def fX3_tagEntries_L2 (k : zH → Int32 → Option (zH)) (u0 : Nat) : Nat → zH → Int32 → Option (zH)
  | 0, _, _ => none
  | n + 1, h, v1 => (zgI h 3 u0 2).bind fun w1 =>
    if (w1 : Int32) ≤ v1 then
    k h (v1)
    else
    (zgP h 3 u0 0).bind fun w3 =>
    (zaP h w3 (v1)).bind fun w4 =>
    (zpI h 1 w4 8 v1).bind fun h5 =>
    fX3_tagEntries_L2 k u0 n h5 ((v1 + 1))
def fX3_tagEntries (h : zH) (a0 : Nat) : Option (zH) :=
    if zkd h a0 = 4 then
    fX3_tagEntries_L2 (fun h1 y2 =>
    some h1) (a0) zF h (0)
    else none
theorem kfX3_tagEntries {h : zH} {a0 : Nat} {r : zH} (hf : fX3_tagEntries h a0 = some r) : zkd h a0 = 4 := by
  unfold fX3_tagEntries at hf
  exact (zck hf).1
def fX3_tagSet_L4 (k : zH → Int32 → Int32 → Option (Int32 × zH)) (u0 : Nat) : Nat → zH → Int32 → Int32 → Option (Int32 × zH)
  | 0, _, _, _ => none
  | n + 1, h, v1, v2 => (zgI h 3 u0 2).bind fun w1 =>
    if (w1 : Int32) ≤ v2 then
    k h (v1) (v2)
    else
    (zgP h 3 u0 0).bind fun w3 =>
    (zaP h w3 (v2)).bind fun w4 =>
    (zgI h 1 w4 8).bind fun w5 =>
    if (w5 : Int32) = (-1) then
    fX3_tagSet_L4 k u0 n h (v1) ((v2 + 1))
    else
    (zgP h 3 u0 0).bind fun w7 =>
    (zaP h w7 (v2)).bind fun w8 =>
    (zgI h 1 w8 8).bind fun w9 =>
    fX3_tagSet_L4 k u0 n h (((v1 : Int32) ||| ((1 : Int32) <<< (w9 &&& 31)))) ((v2 + 1))
def fX3_tagSet (h : zH) (a0 : Nat) : Option (Int32 × zH) :=
    if zkd h a0 = 4 then
    fX3_tagSet_L4 (fun h1 y2 y3 =>
    some (y2, h1)) (a0) zF h (0) (0)
    else none
theorem kfX3_tagSet {h : zH} {a0 : Nat} {r : Int32 × zH} (hf : fX3_tagSet h a0 = some r) : zkd h a0 = 4 := by
  unfold fX3_tagSet at hf
  exact (zck hf).1
def fX6_victims (h : zH) (a0 : Nat) (a1 : Int32) : Option ((Int32 ⊕ String) × zH) :=
    if zkd h a0 = 7 then
    zb4 (fX6_requireNewSize h (a1)) fun h1 =>
    (zgP h1 6 a0 4).bind fun w3 =>
    zb2 (fX3_canAddEntry h1 (w3) (a1)) fun w4 h5 =>
    if (w4 : Int32) = 0 then
    some (.inl (-9), h5)
    else
    (zgP h5 6 a0 5).bind fun w7 =>
    (zgP h5 6 a0 4).bind fun w8 =>
    (fX3_takeOver h5 (w7) (w8)).bind fun h9 =>
    (zgP h9 6 a0 5).bind fun w10 =>
    (fX3_tagEntries h9 (w10)).bind fun h11 =>
    (zgP h11 6 a0 5).bind fun w12 =>
    (fX3_addEntry h11 (w12) (0) (a1)).bind fun h13 =>
    (zgP h13 6 a0 4).bind fun w14 =>
    (zgI h13 3 w14 2).bind fun w15 =>
    (zgP h13 6 a0 5).bind fun w16 =>
    zb2 (fX3_tagSet h13 (w16)) fun w17 h18 =>
    some (.inl ((((((1 : Int32) <<< (w15 &&& 31)) : Int32) - 1) : Int32) &&& ((w17 : Int32) ^^^ (-1))), h18)
    else none
theorem kfX6_victims {h : zH} {a0 : Nat} {a1 : Int32} {r : (Int32 ⊕ String) × zH} (hf : fX6_victims h a0 a1 = some r) : zkd h a0 = 7 := by
  unfold fX6_victims at hf
  exact (zck hf).1
def fX6_room (h : zH) (a0 : Nat) : Option (Int32 × zH) :=
    if zkd h a0 = 7 then
    (zgP h 6 a0 4).bind fun w1 =>
    zb2 (fX3_isFull h (w1)) fun w2 h3 =>
    if (w2 : Int32) = 0 then
    (zgP h3 6 a0 4).bind fun w5 =>
    (zgI h3 3 w5 5).bind fun w6 =>
    (zgP h3 6 a0 4).bind fun w7 =>
    zb2 (fX3_leastSize h3 (w7) ((-1)) (1)) fun w8 h9 =>
    some ((if (0 : Int32) < (if (9999 : Int32) < ((w6 : Int32) - w8) then 9999 else ((w6 : Int32) - w8)) then (if (9999 : Int32) < ((w6 : Int32) - w8) then 9999 else ((w6 : Int32) - w8)) else 0), h9)
    else
    some (0, h3)
    else none
theorem kfX6_room {h : zH} {a0 : Nat} {r : Int32 × zH} (hf : fX6_room h a0 = some r) : zkd h a0 = 7 := by
  unfold fX6_room at hf
  exact (zck hf).1
def fX3_rankOf_L4 (k : zH → Int32 → Int32 → Option (Int32 × zH)) (u0 : Nat) (u1 : Int32) : Nat → zH → Int32 → Int32 → Option (Int32 × zH)
  | 0, _, _, _ => none
  | n + 1, h, v2, v3 => (zgI h 3 u0 2).bind fun w1 =>
    if (w1 : Int32) ≤ v3 then
    k h (v2) (v3)
    else
    (zgP h 3 u0 0).bind fun w3 =>
    (zaP h w3 (v3)).bind fun w4 =>
    (zgI h 3 u0 3).bind fun w5 =>
    zb2 (fX1_weight h (w4) (w5)) fun w6 h7 =>
    (zgP h7 3 u0 0).bind fun w8 =>
    (zaP h7 w8 (u1)).bind fun w9 =>
    (zgI h7 3 u0 3).bind fun w10 =>
    zb2 (fX1_weight h7 (w9) (w10)) fun w11 h12 =>
    if 0 < (((w6 : Int32) - w11) : Int32) then
    fX3_rankOf_L4 k u0 u1 n h12 ((v2 + 1)) ((v3 + 1))
    else
    if (((w6 : Int32) - w11) : Int32) = 0 then
    if (v3 : Int32) ≤ u1 then
    fX3_rankOf_L4 k u0 u1 n h12 (v2) ((v3 + 1))
    else
    fX3_rankOf_L4 k u0 u1 n h12 ((v2 + 1)) ((v3 + 1))
    else
    fX3_rankOf_L4 k u0 u1 n h12 (v2) ((v3 + 1))
def fX3_rankOf (h : zH) (a0 : Nat) (a1 : Int32) : Option (Int32 × zH) :=
    if zkd h a0 = 4 then
    fX3_rankOf_L4 (fun h1 y2 y3 =>
    some (y2, h1)) (a0) (a1) zF h (0) (0)
    else none
theorem kfX3_rankOf {h : zH} {a0 : Nat} {a1 : Int32} {r : Int32 × zH} (hf : fX3_rankOf h a0 a1 = some r) : zkd h a0 = 4 := by
  unfold fX3_rankOf at hf
  exact (zck hf).1
def fX6_ranked_L30 (k : zH → Int32 → Int32 → Option ((Int32 ⊕ String) × zH)) (u0 : Nat) (u1 : Int32) : Nat → zH → Int32 → Int32 → Option ((Int32 ⊕ String) × zH)
  | 0, _, _, _ => none
  | n + 1, h, v2, v3 => (zgP h 6 u0 4).bind fun w1 =>
    (zgI h 3 w1 2).bind fun w2 =>
    if (w2 : Int32) ≤ v3 then
    k h (v2) (v3)
    else
    (zgP h 6 u0 4).bind fun w4 =>
    zb2 (fX3_rankOf h (w4) (v3)) fun w5 h6 =>
    if (w5 : Int32) = u1 then
    fX6_ranked_L30 k u0 u1 n h6 (v3) ((v3 + 1))
    else
    fX6_ranked_L30 k u0 u1 n h6 (v2) ((v3 + 1))
def fX6_ranked (h : zH) (a0 : Nat) (a1 : Int32) : Option ((Int32 ⊕ String) × zH) :=
    if zkd h a0 = 7 then
    if (a1 : Int32) < 0 then
    some (.inr "java/lang/IndexOutOfBoundsException", zoff h)
    else
    (zgP h 6 a0 4).bind fun w2 =>
    (zgI h 3 w2 2).bind fun w3 =>
    if (a1 : Int32) < w3 then
    fX6_ranked_L30 (fun h5 y6 y7 =>
    some (.inl y6, h5)) (a0) (a1) zF h (0) (0)
    else
    some (.inr "java/lang/IndexOutOfBoundsException", zoff h)
    else none
theorem kfX6_ranked {h : zH} {a0 : Nat} {a1 : Int32} {r : (Int32 ⊕ String) × zH} (hf : fX6_ranked h a0 a1 = some r) : zkd h a0 = 7 := by
  unfold fX6_ranked at hf
  exact (zck hf).1
def fX6_scriptRange_L4 (k : zH → Int64 → Int32 → Option (Int64 × zH)) (u0 : Int32) : Nat → zH → Int64 → Int32 → Option (Int64 × zH)
  | 0, _, _, _ => none
  | n + 1, h, v1, v3 => if (u0 : Int32) ≤ v3 then
    k h (v1) (v3)
    else
    fX6_scriptRange_L4 k u0 n h (((v1 : Int64) * 1000000)) ((v3 + 1))
def fX6_scriptRange (h : zH) (a0 : Int32) : Option (Int64 × zH) :=
    fX6_scriptRange_L4 (fun h1 y2 y3 =>
    some (y2, h1)) (a0) zF h (1) (0)
def fX6_commandAt_L5 (k : zH → Int64 → Int32 → Option (Int32 × zH)) (u0 : Int64) (u2 : Int32) : Nat → zH → Int64 → Int32 → Option (Int32 × zH)
  | 0, _, _, _ => none
  | n + 1, h, v3, v5 => if (u2 : Int32) ≤ v5 then
    k h (v3) (v5)
    else
    fX6_commandAt_L5 k u0 u2 n h (((v3 : Int64) / 1000000)) ((v5 + 1))
def fX6_commandAt (h : zH) (a0 : Int64) (a2 : Int32) : Option (Int32 × zH) :=
    fX6_commandAt_L5 (fun h1 y2 y3 =>
    some ((((y2 : Int64) - y2 / 1000000 * 1000000) : Int64).toInt32, h1)) (a0) (a2) zF h (a0) (0)
def fX6_tryCopy (h : zH) (a0 : Nat) (a1 : Int32) (a2 : Int32) : Option (Int32 × zH) :=
    if zkd h a0 = 7 then
    (zgP h 6 a0 9).bind fun w1 =>
    zb2 (fX0_hasFormat h (w1) (a1)) fun w2 h3 =>
    if (w2 : Int32) = 0 then
    some (0, h3)
    else
    zb2 (fX6_isNewSize h3 (a2)) fun w5 h6 =>
    if (w5 : Int32) = 0 then
    some (0, h6)
    else
    (zgP h6 6 a0 5).bind fun w8 =>
    zb2 (fX3_canAddEntry h6 (w8) (a2)) fun w9 h10 =>
    if (w9 : Int32) = 0 then
    some (0, h10)
    else
    (zgP h10 6 a0 5).bind fun w12 =>
    (fX3_addEntry h10 (w12) (a1) (a2)).bind fun h13 =>
    some (1, h13)
    else none
theorem kfX6_tryCopy {h : zH} {a0 : Nat} {a1 : Int32} {a2 : Int32} {r : Int32 × zH} (hf : fX6_tryCopy h a0 a1 a2 = some r) : zkd h a0 = 7 := by
  unfold fX6_tryCopy at hf
  exact (zck hf).1
def fX6_tryOffer (h : zH) (a0 : Nat) (a1 : Int32) (a2 : Int32) : Option (Int32 × zH) :=
    if zkd h a0 = 7 then
    (zgP h 6 a0 9).bind fun w1 =>
    zb2 (fX0_hasFormat h (w1) (a1)) fun w2 h3 =>
    if (w2 : Int32) = 0 then
    some (0, h3)
    else
    zb2 (fX6_isNewSize h3 (a2)) fun w5 h6 =>
    if (w5 : Int32) = 0 then
    some (0, h6)
    else
    (zgP h6 6 a0 5).bind fun w8 =>
    zb2 (fX3_canAddForm h6 (w8) (a1) (a2)) fun w9 h10 =>
    if (w9 : Int32) = 0 then
    some (0, h10)
    else
    (zgP h10 6 a0 5).bind fun w12 =>
    (fX3_addForm h10 (w12) (a1) (a2)).bind fun h13 =>
    some (1, h13)
    else none
theorem kfX6_tryOffer {h : zH} {a0 : Nat} {a1 : Int32} {a2 : Int32} {r : Int32 × zH} (hf : fX6_tryOffer h a0 a1 a2 = some r) : zkd h a0 = 7 := by
  unfold fX6_tryOffer at hf
  exact (zck hf).1
def fX6_tryPaste (h : zH) (a0 : Nat) (a1 : Int32) (a2 : Int32) : Option (Int32 × zH) :=
    if zkd h a0 = 7 then
    (zgP h 6 a0 5).bind fun w1 =>
    zb2 (fX3_hasEntry h (w1) (a1)) fun w2 h3 =>
    if (w2 : Int32) = 0 then
    some (0, h3)
    else
    (zgP h3 6 a0 9).bind fun w5 =>
    zb2 (fX0_hasPlace h3 (w5) (a2)) fun w6 h7 =>
    if (w6 : Int32) = 0 then
    some (0, h7)
    else
    (zgP h7 6 a0 5).bind fun w9 =>
    zb2 (fX6_findWay h7 (a0) (w9) (a1) (a2)) fun w10 h11 =>
    if (w10 : Int32) = 0 then
    some (0, h11)
    else
    (zgP h11 6 a0 5).bind fun w13 =>
    (zgP h11 6 a0 3).bind fun w14 =>
    (fX3_useEntry h11 (w13) (a1) (w14)).bind fun h15 =>
    some (1, h15)
    else none
theorem kfX6_tryPaste {h : zH} {a0 : Nat} {a1 : Int32} {a2 : Int32} {r : Int32 × zH} (hf : fX6_tryPaste h a0 a1 a2 = some r) : zkd h a0 = 7 := by
  unfold fX6_tryPaste at hf
  exact (zck hf).1
def fX6_tryTogglePin (h : zH) (a0 : Nat) (a1 : Int32) : Option (Int32 × zH) :=
    if zkd h a0 = 7 then
    (zgP h 6 a0 5).bind fun w1 =>
    zb2 (fX3_hasEntry h (w1) (a1)) fun w2 h3 =>
    if (w2 : Int32) = 0 then
    some (0, h3)
    else
    (zgP h3 6 a0 5).bind fun w5 =>
    (fX3_switchPin h3 (w5) (a1)).bind fun h6 =>
    some (1, h6)
    else none
theorem kfX6_tryTogglePin {h : zH} {a0 : Nat} {a1 : Int32} {r : Int32 × zH} (hf : fX6_tryTogglePin h a0 a1 = some r) : zkd h a0 = 7 := by
  unfold fX6_tryTogglePin at hf
  exact (zck hf).1
def fX6_tryRemove (h : zH) (a0 : Nat) (a1 : Int32) : Option (Int32 × zH) :=
    if zkd h a0 = 7 then
    (zgP h 6 a0 5).bind fun w1 =>
    zb2 (fX3_hasEntry h (w1) (a1)) fun w2 h3 =>
    if (w2 : Int32) = 0 then
    some (0, h3)
    else
    (zgP h3 6 a0 5).bind fun w5 =>
    (fX3_dropEntry h3 (w5) (a1)).bind fun h6 =>
    some (1, h6)
    else none
theorem kfX6_tryRemove {h : zH} {a0 : Nat} {a1 : Int32} {r : Int32 × zH} (hf : fX6_tryRemove h a0 a1 = some r) : zkd h a0 = 7 := by
  unfold fX6_tryRemove at hf
  exact (zck hf).1
def fX6_runCommand (h : zH) (a0 : Nat) (a1 : Int32) : Option (Int32 × zH) :=
    if zkd h a0 = 7 then
    if (((a1 : Int32) / 100000) : Int32) = 1 then
    zb2 (fX6_tryCopy h (a0) (((((a1 : Int32) / 10000) : Int32) - ((a1 : Int32) / 10000) / 10 * 10)) (((a1 : Int32) - a1 / 10000 * 10000))) fun w2 h3 =>
    if (w2 : Int32) = 0 ∨ w2 = 1 then some (w2, h3) else none
    else
    if (((a1 : Int32) / 100000) : Int32) = 2 then
    zb2 (fX6_tryOffer h (a0) (((((a1 : Int32) / 10000) : Int32) - ((a1 : Int32) / 10000) / 10 * 10)) (((a1 : Int32) - a1 / 10000 * 10000))) fun w6 h7 =>
    if (w6 : Int32) = 0 ∨ w6 = 1 then some (w6, h7) else none
    else
    if (((a1 : Int32) / 100000) : Int32) = 3 then
    if (((a1 : Int32) - a1 / 100 * 100) : Int32) = 0 then
    zb2 (fX6_tryPaste h (a0) (((((a1 : Int32) / 1000) : Int32) - ((a1 : Int32) / 1000) / 100 * 100)) (((((a1 : Int32) / 100) : Int32) - ((a1 : Int32) / 100) / 10 * 10))) fun w11 h12 =>
    if (w11 : Int32) = 0 then
    some (0, h12)
    else
    some (1, h12)
    else
    some (0, h)
    else
    if (((a1 : Int32) / 100000) : Int32) = 4 then
    if (((a1 : Int32) - a1 / 1000 * 1000) : Int32) = 0 then
    zb2 (fX6_tryTogglePin h (a0) (((((a1 : Int32) / 1000) : Int32) - ((a1 : Int32) / 1000) / 100 * 100))) fun w16 h17 =>
    if (w16 : Int32) = 0 then
    some (0, h17)
    else
    some (1, h17)
    else
    some (0, h)
    else
    if (((a1 : Int32) / 100000) : Int32) = 5 then
    if (((a1 : Int32) - a1 / 1000 * 1000) : Int32) = 0 then
    zb2 (fX6_tryRemove h (a0) (((((a1 : Int32) / 1000) : Int32) - ((a1 : Int32) / 1000) / 100 * 100))) fun w21 h22 =>
    if (w21 : Int32) = 0 then
    some (0, h22)
    else
    some (1, h22)
    else
    some (0, h)
    else
    if (((a1 : Int32) / 100000) : Int32) = 6 then
    (zgP h 6 a0 5).bind fun w25 =>
    zb2 (fX3_usedSize h (w25)) fun w26 h27 =>
    if (((a1 : Int32) - a1 / 100000 * 100000) : Int32) < w26 then
    some (0, h27)
    else
    some (1, h27)
    else
    if (((a1 : Int32) / 100000) : Int32) = 7 then
    (zgP h 6 a0 5).bind fun w30 =>
    (zgI h 3 w30 2).bind fun w31 =>
    if (w31 : Int32) = ((a1 : Int32) - a1 / 100000 * 100000) then
    some (1, h)
    else
    some (0, h)
    else
    if (((a1 : Int32) / 100000) : Int32) = 8 then
    if (((a1 : Int32) - a1 / 100 * 100) : Int32) = 0 then
    (zgP h 6 a0 5).bind fun w35 =>
    zb2 (fX3_hasEntry h (w35) (((((a1 : Int32) / 1000) : Int32) - ((a1 : Int32) / 1000) / 100 * 100))) fun w36 h37 =>
    if (w36 : Int32) = 0 then
    some (0, h37)
    else
    (zgP h37 6 a0 5).bind fun w39 =>
    (zgP h37 3 w39 0).bind fun w40 =>
    (zaP h37 w40 (((((a1 : Int32) / 1000) : Int32) - ((a1 : Int32) / 1000) / 100 * 100))).bind fun w41 =>
    zb2 (fX1_holds h37 (w41) (((((a1 : Int32) / 100) : Int32) - ((a1 : Int32) / 100) / 10 * 10))) fun w42 h43 =>
    if (w42 : Int32) = 0 then
    some (0, h43)
    else
    some (1, h43)
    else
    some (0, h)
    else
    some (0, h)
    else none
theorem kfX6_runCommand {h : zH} {a0 : Nat} {a1 : Int32} {r : Int32 × zH} (hf : fX6_runCommand h a0 a1 = some r) : zkd h a0 = 7 := by
  unfold fX6_runCommand at hf
  exact (zck hf).1
def fX6_runScript_L61 (k : zH → Int32 → Option ((Int32 ⊕ String) × zH)) (u0 : Nat) (u1 : Int32) (u2 : Int64) : Nat → zH → Int32 → Option ((Int32 ⊕ String) × zH)
  | 0, _, _ => none
  | n + 1, h, v4 => if (u1 : Int32) ≤ v4 then
    k h (v4)
    else
    zb2 (fX6_commandAt h (u2) (((((u1 : Int32) - 1) : Int32) - v4))) fun w2 h3 =>
    zb2 (fX6_runCommand h3 (u0) (w2)) fun w4 h5 =>
    if (w4 : Int32) = 0 then
    some (.inl v4, h5)
    else
    fX6_runScript_L61 k u0 u1 u2 n h5 ((v4 + 1))
def fX6_runScript (h : zH) (a0 : Nat) (a1 : Int32) (a2 : Int64) : Option ((Int32 ⊕ String) × zH) :=
    if zkd h a0 = 7 then
    if (a1 : Int32) < 1 then
    some (.inr "java/lang/IllegalArgumentException", zoff h)
    else
    if (a1 : Int32) ≤ 3 then
    if ((lg_cmp a2 0) : Int32) < 0 then
    some (.inr "java/lang/IllegalArgumentException", zoff h)
    else
    zb2 (fX6_scriptRange h (a1)) fun w4 h5 =>
    if ((lg_cmp a2 w4) : Int32) < 0 then
    (zgP h5 6 a0 5).bind fun w7 =>
    (zgP h5 6 a0 4).bind fun w8 =>
    (fX3_takeOver h5 (w7) (w8)).bind fun h9 =>
    fX6_runScript_L61 (fun h10 y11 =>
    some (.inl (-9), h10)) (a0) (a1) (a2) zF h9 (0)
    else
    some (.inr "java/lang/IllegalArgumentException", zoff h5)
    else
    some (.inr "java/lang/IllegalArgumentException", zoff h)
    else none
theorem kfX6_runScript {h : zH} {a0 : Nat} {a1 : Int32} {a2 : Int64} {r : (Int32 ⊕ String) × zH} (hf : fX6_runScript h a0 a1 a2 = some r) : zkd h a0 = 7 := by
  unfold fX6_runScript at hf
  exact (zck hf).1
def fX6_runRound (h : zH) (a0 : Nat) (a1 : Int32) : Option (zH) :=
    if zkd h a0 = 7 then
    if (((a1 : Int32) - a1 / 3 * 3) : Int32) = 0 then
    (zgP h 6 a0 9).bind fun w2 =>
    (zgI h 0 w2 8).bind fun w3 =>
    if ((if (1 : Int32) < w3 then w3 else 1) : Int32) = 0 then none else
    zb2 (fX6_tryCopy h (a0) (((((a1 : Int32) / 4) : Int32) - ((a1 : Int32) / 4) / (if (1 : Int32) < w3 then w3 else 1) * (if (1 : Int32) < w3 then w3 else 1))) (((1 : Int32) + ((((a1 : Int32) / 64) : Int32) - ((a1 : Int32) / 64) / 500 * 500)))) fun w4 h5 =>
    some h5
    else
    (zgP h 6 a0 5).bind fun w7 =>
    (zgI h 3 w7 2).bind fun w8 =>
    if (w8 : Int32) < 1 then
    (zgP h 6 a0 9).bind fun w10 =>
    (zgI h 0 w10 8).bind fun w11 =>
    if ((if (1 : Int32) < w11 then w11 else 1) : Int32) = 0 then none else
    zb2 (fX6_tryCopy h (a0) (((((a1 : Int32) / 4) : Int32) - ((a1 : Int32) / 4) / (if (1 : Int32) < w11 then w11 else 1) * (if (1 : Int32) < w11 then w11 else 1))) (((1 : Int32) + ((((a1 : Int32) / 64) : Int32) - ((a1 : Int32) / 64) / 500 * 500)))) fun w12 h13 =>
    some h13
    else
    (zgP h 6 a0 9).bind fun w15 =>
    (zgI h 0 w15 10).bind fun w16 =>
    if (1 : Int32) ≤ w16 then
    (zgP h 6 a0 5).bind fun w18 =>
    (zgI h 3 w18 2).bind fun w19 =>
    if (w19 : Int32) = 0 then none else
    (zgP h 6 a0 9).bind fun w20 =>
    (zgI h 0 w20 10).bind fun w21 =>
    if (w21 : Int32) = 0 then none else
    zb2 (fX6_tryPaste h (a0) (((((a1 : Int32) / 4) : Int32) - ((a1 : Int32) / 4) / w19 * w19)) (((((a1 : Int32) / 64) : Int32) - ((a1 : Int32) / 64) / w21 * w21))) fun w22 h23 =>
    some h23
    else
    (zgP h 6 a0 9).bind fun w26 =>
    (zgI h 0 w26 8).bind fun w27 =>
    if ((if (1 : Int32) < w27 then w27 else 1) : Int32) = 0 then none else
    zb2 (fX6_tryCopy h (a0) (((((a1 : Int32) / 4) : Int32) - ((a1 : Int32) / 4) / (if (1 : Int32) < w27 then w27 else 1) * (if (1 : Int32) < w27 then w27 else 1))) (((1 : Int32) + ((((a1 : Int32) / 64) : Int32) - ((a1 : Int32) / 64) / 500 * 500)))) fun w28 h29 =>
    some h29
    else none
theorem kfX6_runRound {h : zH} {a0 : Nat} {a1 : Int32} {r : zH} (hf : fX6_runRound h a0 a1 = some r) : zkd h a0 = 7 := by
  unfold fX6_runRound at hf
  exact (zck hf).1
def fX6_simulate_L39 (k : zH → Int64 → Int32 → Option ((Int32 ⊕ String) × zH)) (u0 : Nat) (u1 : Int64) (u3 : Int32) : Nat → zH → Int64 → Int32 → Option ((Int32 ⊕ String) × zH)
  | 0, _, _, _ => none
  | n + 1, h, v4, v6 => if (u3 : Int32) ≤ v6 then
    k h (v4) (v6)
    else
    (fX6_runRound h (u0) (((((((((v4 : Int64) * 6364136223846793005) : Int64) + 1442695040888963407) : Int64).toUInt64 >>> ((33 : Int32).toInt64.toUInt64 &&& Int64.toUInt64 63)).toInt64) : Int64).toInt32)).bind fun h2 =>
    fX6_simulate_L39 k u0 u1 u3 n h2 (((((v4 : Int64) * 6364136223846793005) : Int64) + 1442695040888963407)) ((v6 + 1))
def fX6_simulate (h : zH) (a0 : Nat) (a1 : Int64) (a3 : Int32) : Option ((Int32 ⊕ String) × zH) :=
    if zkd h a0 = 7 then
    if (a3 : Int32) < 1 then
    some (.inr "java/lang/IllegalArgumentException", zoff h)
    else
    if (a3 : Int32) ≤ 50 then
    (zgP h 6 a0 5).bind fun w3 =>
    (zgP h 6 a0 4).bind fun w4 =>
    (fX3_takeOver h (w3) (w4)).bind fun h5 =>
    fX6_simulate_L39 (fun h6 y7 y8 =>
    (zgP h6 6 a0 5).bind fun w9 =>
    (zgI h6 3 w9 4).bind fun w10 =>
    (zgP h6 6 a0 5).bind fun w11 =>
    zb2 (fX3_usedSize h6 (w11)) fun w12 h13 =>
    some (.inl ((w10 : Int32) + w12), h13)) (a0) (a1) (a3) zF h5 (a1) (0)
    else
    some (.inr "java/lang/IllegalArgumentException", zoff h)
    else none
theorem kfX6_simulate {h : zH} {a0 : Nat} {a1 : Int64} {a3 : Int32} {r : (Int32 ⊕ String) × zH} (hf : fX6_simulate h a0 a1 a3 = some r) : zkd h a0 = 7 := by
  unfold fX6_simulate at hf
  exact (zck hf).1
def fX6_requireSlot (h : zH) (a0 : Int32) : Option (Option String × zH) :=
    if (a0 : Int32) < 0 then
    some (some "java/lang/IndexOutOfBoundsException", zoff h)
    else
    if (a0 : Int32) < 2 then
    some (none, h)
    else
    some (some "java/lang/IndexOutOfBoundsException", zoff h)
def fX6_save (h : zH) (a0 : Nat) (a1 : Int32) : Option ((Int32 ⊕ String) × zH) :=
    if zkd h a0 = 7 then
    zb4 (fX6_requireSlot h (a1)) fun h1 =>
    (zgP h1 6 a0 7).bind fun w3 =>
    (zaP h1 w3 (a1)).bind fun w4 =>
    (zgP h1 6 a0 4).bind fun w5 =>
    (fX3_takeOver h1 (w4) (w5)).bind fun h6 =>
    (zgP h6 6 a0 8).bind fun w7 =>
    (zbZ h6 w7 (a1) (1)).bind fun h8 =>
    (zgP h8 6 a0 4).bind fun w9 =>
    (zgI h8 3 w9 2).bind fun w10 =>
    some (.inl w10, h8)
    else none
theorem kfX6_save {h : zH} {a0 : Nat} {a1 : Int32} {r : (Int32 ⊕ String) × zH} (hf : fX6_save h a0 a1 = some r) : zkd h a0 = 7 := by
  unfold fX6_save at hf
  exact (zck hf).1
def fX6_restore (h : zH) (a0 : Nat) (a1 : Int32) : Option ((Int32 ⊕ String) × zH) :=
    if zkd h a0 = 7 then
    zb4 (fX6_requireSlot h (a1)) fun h1 =>
    (zgP h1 6 a0 8).bind fun w3 =>
    (zaZ h1 w3 (a1)).bind fun w4 =>
    if (w4 : Int32) = 0 then
    some (.inr "java/lang/IllegalStateException", zoff h1)
    else
    (zgP h1 6 a0 4).bind fun w6 =>
    (zgP h1 6 a0 7).bind fun w7 =>
    (zaP h1 w7 (a1)).bind fun w8 =>
    (fX3_takeOver h1 (w6) (w8)).bind fun h9 =>
    (zpI h9 6 a0 11 0).bind fun h10 =>
    (fX6_findPaths h10 (a0)).bind fun h11 =>
    (zgP h11 6 a0 4).bind fun w12 =>
    (zgI h11 3 w12 2).bind fun w13 =>
    some (.inl w13, h11)
    else none
theorem kfX6_restore {h : zH} {a0 : Nat} {a1 : Int32} {r : (Int32 ⊕ String) × zH} (hf : fX6_restore h a0 a1 = some r) : zkd h a0 = 7 := by
  unfold fX6_restore at hf
  exact (zck hf).1
def fX7_init (h : zH) (a0 : Nat) : Option (zH) :=
    if zkd h a0 = 8 then
    (zmk h 9 160).bind fun h1 =>
    (zpP h1 7 a0 1 (zn h)).bind fun h2 =>
    (zpI h2 7 a0 4 1).bind fun h3 =>
    (zmk h3 9 20).bind fun h4 =>
    (zpP h4 7 a0 7 (zn h3)).bind fun h5 =>
    (zmk h5 9 20).bind fun h6 =>
    (zpP h6 7 a0 8 (zn h5)).bind fun h7 =>
    (zmk h7 9 20).bind fun h8 =>
    (zpP h8 7 a0 9 (zn h7)).bind fun h9 =>
    (zmk h9 9 20).bind fun h10 =>
    (zpP h10 7 a0 10 (zn h9)).bind fun h11 =>
    (zmk h11 9 6).bind fun h12 =>
    (zpP h12 7 a0 11 (zn h11)).bind fun h13 =>
    (zmk h13 9 6).bind fun h14 =>
    (zpP h14 7 a0 12 (zn h13)).bind fun h15 =>
    (zmk h15 9 20).bind fun h16 =>
    (zpP h16 7 a0 17 (zn h15)).bind fun h17 =>
    (zmk h17 9 20).bind fun h18 =>
    (zpP h18 7 a0 18 (zn h17)).bind fun h19 =>
    (zmk h19 9 20).bind fun h20 =>
    (zpP h20 7 a0 19 (zn h19)).bind fun h21 =>
    (zmk h21 9 20).bind fun h22 =>
    (zpP h22 7 a0 20 (zn h21)).bind fun h23 =>
    (zmk h23 9 20).bind fun h24 =>
    (zpP h24 7 a0 21 (zn h23)).bind fun h25 =>
    (zmk h25 9 6).bind fun h26 =>
    (zpP h26 7 a0 22 (zn h25)).bind fun h27 =>
    (zmk h27 9 6).bind fun h28 =>
    (zpP h28 7 a0 23 (zn h27)).bind fun h29 =>
    (zmk h29 9 360).bind fun h30 =>
    (zpP h30 7 a0 24 (zn h29)).bind fun h31 =>
    (zmk h31 9 360).bind fun h32 =>
    (zpP h32 7 a0 25 (zn h31)).bind fun h33 =>
    (zmk h33 9 360).bind fun h34 =>
    (zpP h34 7 a0 26 (zn h33)).bind fun h35 =>
    (zmk h35 9 5040).bind fun h36 =>
    (zpP h36 7 a0 27 (zn h35)).bind fun h37 =>
    (zmk h37 9 720).bind fun h38 =>
    (zpP h38 7 a0 29 (zn h37)).bind fun h39 =>
    (zmk h39 11 2).bind fun h40 =>
    (zpP h40 7 a0 30 (zn h39)).bind fun h41 =>
    (zmk h41 9 64).bind fun h42 =>
    (zpP h42 7 a0 31 (zn h41)).bind fun h43 =>
    (zmk h43 9 64).bind fun h44 =>
    (zpP h44 7 a0 32 (zn h43)).bind fun h45 =>
    (zmk h45 9 360).bind fun h46 =>
    (zpP h46 7 a0 38 (zn h45)).bind fun h47 =>
    (zgP h47 7 a0 24).bind fun w48 =>
    (zbI h47 w48 (3) (1000)).bind fun h49 =>
    some h49
    else none
theorem kfX7_init {h : zH} {a0 : Nat} {r : zH} (hf : fX7_init h a0 = some r) : zkd h a0 = 8 := by
  unfold fX7_init at hf
  exact (zck hf).1
def fX7_thrown (h : zH) (a0 : Nat) : Option (Int32 × zH) :=
    if zkd h a0 = 8 then
    (zgI h 7 a0 0).bind fun w1 =>
    some (w1, h)
    else none
theorem kfX7_thrown {h : zH} {a0 : Nat} {r : Int32 × zH} (hf : fX7_thrown h a0 = some r) : zkd h a0 = 8 := by
  unfold fX7_thrown at hf
  exact (zck hf).1
def fX7_refused (h : zH) (a0 : Nat) (a1 : Int32) : Option (Int32 × zH) :=
    if zkd h a0 = 8 then
    (zpI h 7 a0 0 a1).bind fun h1 =>
    if (a1 : Int32) ≤ 0 then
    some (0, h1)
    else
    some (1, h1)
    else none
theorem kfX7_refused {h : zH} {a0 : Nat} {a1 : Int32} {r : Int32 × zH} (hf : fX7_refused h a0 a1 = some r) : zkd h a0 = 8 := by
  unfold fX7_refused at hf
  exact (zck hf).1
def fX7_in (h : zH) (a0 : Int64) (a2 : Int64) (a4 : Int64) : Option (Int32 × zH) :=
    if ((lg_cmp a0 a2) : Int32) < 0 then
    some (0, h)
    else
    if 0 < ((lg_cmp a0 a4) : Int32) then
    some (0, h)
    else
    some (1, h)
def fX7_copyRow_L3 (k : zH → Int32 → Option (zH)) (u0 : Nat) (u1 : Int32) (u2 : Nat) (u3 : Int32) (u4 : Int32) : Nat → zH → Int32 → Option (zH)
  | 0, _, _ => none
  | n + 1, h, v5 => if (u4 : Int32) ≤ v5 then
    k h (v5)
    else
    (zaI h u0 (((u1 : Int32) + v5))).bind fun w2 =>
    (zbI h u2 (((u3 : Int32) + v5)) (w2)).bind fun h3 =>
    fX7_copyRow_L3 k u0 u1 u2 u3 u4 n h3 ((v5 + 1))
def fX7_copyRow (h : zH) (a0 : Nat) (a1 : Int32) (a2 : Nat) (a3 : Int32) (a4 : Int32) : Option (zH) :=
    fX7_copyRow_L3 (fun h1 y2 =>
    some h1) (a0) (a1) (a2) (a3) (a4) zF h (0)
def fX7_note (h : zH) (a0 : Nat) : Option (zH) :=
    if zkd h a0 = 8 then
    (zgI h 7 a0 28).bind fun w1 =>
    if (w1 : Int32) = 14 then
    (zgP h 7 a0 27).bind fun w3 =>
    (zgP h 7 a0 27).bind fun w4 =>
    (fX7_copyRow h (w3) (360) (w4) (0) (4680)).bind fun h5 =>
    (zgI h5 7 a0 28).bind fun w6 =>
    (zpI h5 7 a0 28 ((w6 : Int32) - 1)).bind fun h7 =>
    (zgP h7 7 a0 24).bind fun w8 =>
    (zgP h7 7 a0 27).bind fun w9 =>
    (zgI h7 7 a0 28).bind fun w10 =>
    (fX7_copyRow h7 (w8) (0) (w9) (((360 : Int32) * w10)) (360)).bind fun h11 =>
    (zgI h11 7 a0 28).bind fun w12 =>
    (zpI h11 7 a0 28 ((w12 : Int32) + 1)).bind fun h13 =>
    some h13
    else
    (zgP h 7 a0 24).bind fun w14 =>
    (zgP h 7 a0 27).bind fun w15 =>
    (zgI h 7 a0 28).bind fun w16 =>
    (fX7_copyRow h (w14) (0) (w15) (((360 : Int32) * w16)) (360)).bind fun h17 =>
    (zgI h17 7 a0 28).bind fun w18 =>
    (zpI h17 7 a0 28 ((w18 : Int32) + 1)).bind fun h19 =>
    some h19
    else none
theorem kfX7_note {h : zH} {a0 : Nat} {r : zH} (hf : fX7_note h a0 = some r) : zkd h a0 = 8 := by
  unfold fX7_note at hf
  exact (zck hf).1
def fX7_accept (h : zH) (a0 : Nat) : Option (zH) :=
    if zkd h a0 = 8 then
    (fX7_note h (a0)).bind fun h1 =>
    (zgP h1 7 a0 25).bind fun w2 =>
    (zgP h1 7 a0 24).bind fun w3 =>
    (fX7_copyRow h1 (w2) (0) (w3) (0) (360)).bind fun h4 =>
    some h4
    else none
theorem kfX7_accept {h : zH} {a0 : Nat} {r : zH} (hf : fX7_accept h a0 = some r) : zkd h a0 = 8 := by
  unfold fX7_accept at hf
  exact (zck hf).1
def fX7_at (h : zH) (a0 : Int32) : Option (Int32 × zH) :=
    some (((24 : Int32) + ((28 : Int32) * a0)), h)
def fX7_isFormat (h : zH) (a0 : Nat) (a1 : Int32) : Option (Int32 × zH) :=
    if zkd h a0 = 8 then
    (zgI h 7 a0 4).bind fun w1 =>
    zb2 (fX7_in h ((a1 : Int32).toInt64) (0) ((((w1 : Int32) - 1) : Int32).toInt64)) fun w2 h3 =>
    if (w2 : Int32) = 0 ∨ w2 = 1 then some (w2, h3) else none
    else none
theorem kfX7_isFormat {h : zH} {a0 : Nat} {a1 : Int32} {r : Int32 × zH} (hf : fX7_isFormat h a0 a1 = some r) : zkd h a0 = 8 := by
  unfold fX7_isFormat at hf
  exact (zck hf).1
def fX7_isConversion (h : zH) (a0 : Nat) (a1 : Int32) : Option (Int32 × zH) :=
    if zkd h a0 = 8 then
    (zgI h 7 a0 5).bind fun w1 =>
    zb2 (fX7_in h ((a1 : Int32).toInt64) (0) ((((w1 : Int32) - 1) : Int32).toInt64)) fun w2 h3 =>
    if (w2 : Int32) = 0 ∨ w2 = 1 then some (w2, h3) else none
    else none
theorem kfX7_isConversion {h : zH} {a0 : Nat} {a1 : Int32} {r : Int32 × zH} (hf : fX7_isConversion h a0 a1 = some r) : zkd h a0 = 8 := by
  unfold fX7_isConversion at hf
  exact (zck hf).1
def fX7_isPlace (h : zH) (a0 : Nat) (a1 : Int32) : Option (Int32 × zH) :=
    if zkd h a0 = 8 then
    (zgI h 7 a0 6).bind fun w1 =>
    zb2 (fX7_in h ((a1 : Int32).toInt64) (0) ((((w1 : Int32) - 1) : Int32).toInt64)) fun w2 h3 =>
    if (w2 : Int32) = 0 ∨ w2 = 1 then some (w2, h3) else none
    else none
theorem kfX7_isPlace {h : zH} {a0 : Nat} {a1 : Int32} {r : Int32 × zH} (hf : fX7_isPlace h a0 a1 = some r) : zkd h a0 = 8 := by
  unfold fX7_isPlace at hf
  exact (zck hf).1
def fX7_isEntry (h : zH) (a0 : Nat) (a1 : Int32) : Option (Int32 × zH) :=
    (zaI h a0 (0)).bind fun w1 =>
    zb2 (fX7_in h ((a1 : Int32).toInt64) (0) ((((w1 : Int32) - 1) : Int32).toInt64)) fun w2 h3 =>
    if (w2 : Int32) = 0 ∨ w2 = 1 then some (w2, h3) else none
def fX7_append (h : zH) (a0 : Nat) (a1 : Int32) : Option (Int32 × zH) :=
    if zkd h a0 = 8 then
    zb2 (fX7_in h ((a1 : Int32).toInt64) (0) (255)) fun w1 h2 =>
    if (w1 : Int32) = 0 then
    zb2 (fX7_refused h2 (a0) (1)) fun w4 h5 =>
    if (w4 : Int32) = 0 then
    (zgP h5 7 a0 1).bind fun w7 =>
    (zgI h5 7 a0 2).bind fun w8 =>
    (zbI h5 w7 (w8) (a1)).bind fun h9 =>
    (zgI h9 7 a0 2).bind fun w10 =>
    (zpI h9 7 a0 2 ((w10 : Int32) + 1)).bind fun h11 =>
    (zgI h11 7 a0 2).bind fun w12 =>
    some (w12, h11)
    else
    some (0, h5)
    else
    (zgI h2 7 a0 2).bind fun w13 =>
    if (w13 : Int32) = 160 then
    zb2 (fX7_refused h2 (a0) (2)) fun w15 h16 =>
    if (w15 : Int32) = 0 then
    (zgP h16 7 a0 1).bind fun w18 =>
    (zgI h16 7 a0 2).bind fun w19 =>
    (zbI h16 w18 (w19) (a1)).bind fun h20 =>
    (zgI h20 7 a0 2).bind fun w21 =>
    (zpI h20 7 a0 2 ((w21 : Int32) + 1)).bind fun h22 =>
    (zgI h22 7 a0 2).bind fun w23 =>
    some (w23, h22)
    else
    some (0, h16)
    else
    zb2 (fX7_refused h2 (a0) (0)) fun w24 h25 =>
    if (w24 : Int32) = 0 then
    (zgP h25 7 a0 1).bind fun w27 =>
    (zgI h25 7 a0 2).bind fun w28 =>
    (zbI h25 w27 (w28) (a1)).bind fun h29 =>
    (zgI h29 7 a0 2).bind fun w30 =>
    (zpI h29 7 a0 2 ((w30 : Int32) + 1)).bind fun h31 =>
    (zgI h31 7 a0 2).bind fun w32 =>
    some (w32, h31)
    else
    some (0, h25)
    else none
theorem kfX7_append {h : zH} {a0 : Nat} {a1 : Int32} {r : Int32 × zH} (hf : fX7_append h a0 a1 = some r) : zkd h a0 = 8 := by
  unfold fX7_append at hf
  exact (zck hf).1
abbrev rm_X6_way : Room := { frames := 7, cells := 3, slots := 18, locals := 103 }
set_option maxRecDepth 100000 in
set_option maxHeartbeats 4000000 in
theorem tX6_way {l : Launch} {G : zG} (hst : l.stackTraces = false) {h : zH} {a0 : Nat} {a1 : Int32} {a2 : Int32} {a3 : Int32} {r : (Int32 ⊕ String) × zH} (hf : fX6_way h a0 a1 a2 a3 = some r) : zMet l G yX6_way (.code yX6_way cX6_way 4 (some .int)) rm_X6_way 3 18 [.ref a0, .int a1, .int a2, .int a3] h (zoxi r) := by
  unfold fX6_way at hf
  obtain ⟨-, hf⟩ := zck hf
  refine z_enter (by decide) (Nat.le_of_ble_eq_true rfl) hst (fun x hx B hE => ?_)
  subst hx
  have B : zB G x cX6_way 4 RX6 "way" rm_X6_way (some .int) := B
  show zV G x 4 (zQ G x (zoxi r) 3 18) h 0 0 0 [(0, .ref a0), (1, .int a1), (2, .int a2), (3, .int a3)] []
  refine z_aload_n B dX6_way_0 rfl 0 rfl ?_
  refine z_iload_n B dX6_way_1 rfl 1 rfl ?_
  rcases zb4s hf with ⟨E2, h1, eh1, rfl⟩ | ⟨h1, eh1, hf⟩
  · exact z_callVX B hE [.int a1] [] cw_X6_requireEntry mv_RX6_156 (tX6_requireEntry hst eh1) rfl (by decide) (kfX6_requireEntry eh1) ⟨rfl, rfl, (Nat.le_of_ble_eq_true rfl), (Nat.le_of_ble_eq_true rfl), (Nat.le_of_ble_eq_true rfl), (Nat.le_of_ble_eq_true rfl)⟩ rfl rfl (Nat.le_of_ble_eq_true rfl) dX6_way_2 (Nat.le_of_ble_eq_true rfl) (Nat.le_of_ble_eq_true rfl)
  refine z_callVv B [.int a1] [] cw_X6_requireEntry mv_RX6_156 (tX6_requireEntry hst eh1) rfl (by decide) (kfX6_requireEntry eh1) ⟨rfl, rfl, (Nat.le_of_ble_eq_true rfl), (Nat.le_of_ble_eq_true rfl), (Nat.le_of_ble_eq_true rfl), (Nat.le_of_ble_eq_true rfl)⟩ rfl rfl (Nat.le_of_ble_eq_true rfl) dX6_way_2 ?_
  refine z_aload_n B dX6_way_5 rfl 0 rfl ?_
  refine z_iload_n B dX6_way_6 rfl 2 rfl ?_
  rcases zb4s hf with ⟨E4, h3, eh3, rfl⟩ | ⟨h3, eh3, hf⟩
  · exact z_callVX B hE [.int a2] [] cw_X6_requirePlace mv_RX6_145 (tX6_requirePlace hst eh3) rfl (by decide) (kfX6_requirePlace eh3) ⟨rfl, rfl, (Nat.le_of_ble_eq_true rfl), (Nat.le_of_ble_eq_true rfl), (Nat.le_of_ble_eq_true rfl), (Nat.le_of_ble_eq_true rfl)⟩ rfl rfl (Nat.le_of_ble_eq_true rfl) dX6_way_7 (Nat.le_of_ble_eq_true rfl) (Nat.le_of_ble_eq_true rfl)
  refine z_callVv B [.int a2] [] cw_X6_requirePlace mv_RX6_145 (tX6_requirePlace hst eh3) rfl (by decide) (kfX6_requirePlace eh3) ⟨rfl, rfl, (Nat.le_of_ble_eq_true rfl), (Nat.le_of_ble_eq_true rfl), (Nat.le_of_ble_eq_true rfl), (Nat.le_of_ble_eq_true rfl)⟩ rfl rfl (Nat.le_of_ble_eq_true rfl) dX6_way_7 ?_
  refine z_iload_n B dX6_way_10 rfl 3 rfl ?_
  rcases zite hf with ⟨c5, hf⟩ | ⟨c5, hf⟩
  · refine z_if_lt B 19 dX6_way_11 (by decide) (fun _ => ?_) (fun e => absurd c5 e)
    cases hf
    exact z_throw B hE rfl th_RX6_67_71 sl_143 dX6_way_19 dX6_way_22 dX6_way_23 dX6_way_25 dX6_way_28 (Nat.le_of_ble_eq_true rfl) (Nat.le_of_ble_eq_true rfl) (Nat.le_of_ble_eq_true rfl) (Nat.le_of_ble_eq_true rfl) (Nat.le_of_ble_eq_true rfl) (Nat.le_of_ble_eq_true rfl)
  refine z_if_lt B 19 dX6_way_11 (by decide) (fun e => absurd e c5) (fun _ => ?_)
  refine z_iload_n B dX6_way_14 rfl 3 rfl ?_
  refine z_iconst (v := 4) B dX6_way_15 (by decide) ?_
  rcases zite hf with ⟨c6, hf⟩ | ⟨c6, hf⟩
  · refine z_icmp_le B 29 dX6_way_16 (by decide) (fun _ => ?_) (fun e => absurd c6 e)
    refine z_aload_n B dX6_way_29 rfl 0 rfl ?_
    refine z_aload_n B dX6_way_30 rfl 0 rfl ?_
    obtain ⟨w7, ew7, hf⟩ := zbs hf
    refine z_gP B fl_RX6_36 ew7 rfl dX6_way_31 ?_
    refine z_iload_n B dX6_way_34 rfl 1 rfl ?_
    refine z_iload_n B dX6_way_35 rfl 2 rfl ?_
    obtain ⟨w8, h9, ew8, hf⟩ := zb2s hf
    refine z_callVi B [.ref w7, .int a1, .int a2] [] cw_X6_findWay mv_RX6_227 (tX6_findWay hst ew8) rfl (by decide) (kfX6_findWay ew8) ⟨rfl, rfl, (Nat.le_of_ble_eq_true rfl), (Nat.le_of_ble_eq_true rfl), (Nat.le_of_ble_eq_true rfl), (Nat.le_of_ble_eq_true rfl)⟩ rfl rfl (Nat.le_of_ble_eq_true rfl) dX6_way_36 ?_
    rcases zite hf with ⟨c10, hf⟩ | ⟨c10, hf⟩
    · refine z_if_ne B 45 dX6_way_39 (by decide) (fun e => absurd c10 e) (fun _ => ?_)
      refine z_bipush (v := (-9)) B dX6_way_42 (by decide) ?_
      cases hf
      exact z_iret B dX6_way_44 (Nat.le_of_ble_eq_true rfl) (Nat.le_of_ble_eq_true rfl)
    refine z_if_ne B 45 dX6_way_39 (by decide) (fun _ => ?_) (fun e => absurd e c10)
    refine z_iload_n B dX6_way_45 rfl 3 rfl ?_
    rcases zite hf with ⟨c11, hf⟩ | ⟨c11, hf⟩
    · refine z_tabIn B 0 76 dX6_way_46 c11 (by decide) (by decide) rfl (by decide) ?_
      refine z_aload_n B dX6_way_76 rfl 0 rfl ?_
      obtain ⟨w12, ew12, hf⟩ := zbs hf
      refine z_gP B fl_RX6_29 ew12 rfl dX6_way_77 ?_
      obtain ⟨w13, ew13, hf⟩ := zbs hf
      refine z_gI B fl_RX6_318 ew13 rfl dX6_way_80 ?_
      cases hf
      exact z_iret B dX6_way_83 (Nat.le_of_ble_eq_true rfl) (Nat.le_of_ble_eq_true rfl)
    rcases zite hf with ⟨c14, hf⟩ | ⟨c14, hf⟩
    · refine z_tabIn B 1 84 dX6_way_46 c14 (by decide) (by decide) rfl (by decide) ?_
      refine z_aload_n B dX6_way_84 rfl 0 rfl ?_
      obtain ⟨w15, ew15, hf⟩ := zbs hf
      refine z_gP B fl_RX6_29 ew15 rfl dX6_way_85 ?_
      obtain ⟨w16, ew16, hf⟩ := zbs hf
      refine z_gI B fl_RX6_321 ew16 rfl dX6_way_88 ?_
      cases hf
      exact z_iret B dX6_way_91 (Nat.le_of_ble_eq_true rfl) (Nat.le_of_ble_eq_true rfl)
    rcases zite hf with ⟨c17, hf⟩ | ⟨c17, hf⟩
    · refine z_tabIn B 2 92 dX6_way_46 c17 (by decide) (by decide) rfl (by decide) ?_
      refine z_aload_n B dX6_way_92 rfl 0 rfl ?_
      obtain ⟨w18, ew18, hf⟩ := zbs hf
      refine z_gP B fl_RX6_29 ew18 rfl dX6_way_93 ?_
      obtain ⟨w19, ew19, hf⟩ := zbs hf
      refine z_gI B fl_RX6_237 ew19 rfl dX6_way_96 ?_
      cases hf
      exact z_iret B dX6_way_99 (Nat.le_of_ble_eq_true rfl) (Nat.le_of_ble_eq_true rfl)
    rcases zite hf with ⟨c20, hf⟩ | ⟨c20, hf⟩
    · refine z_tabIn B 3 100 dX6_way_46 c20 (by decide) (by decide) rfl (by decide) ?_
      refine z_aload_n B dX6_way_100 rfl 0 rfl ?_
      obtain ⟨w21, ew21, hf⟩ := zbs hf
      refine z_gP B fl_RX6_29 ew21 rfl dX6_way_101 ?_
      obtain ⟨w22, ew22, hf⟩ := zbs hf
      refine z_gI B fl_RX6_324 ew22 rfl dX6_way_104 ?_
      cases hf
      exact z_iret B dX6_way_107 (Nat.le_of_ble_eq_true rfl) (Nat.le_of_ble_eq_true rfl)
    refine z_tabOut B 108 dX6_way_46 (z_outL 0 4 (by decide) (fun j hj0 hj => by rcases (show j = 0 ∨ j = 1 ∨ j = 2 ∨ j = 3 by omega) with rfl | rfl | rfl | rfl <;> assumption)) (by decide) ?_
    refine z_aload_n B dX6_way_108 rfl 0 rfl ?_
    obtain ⟨w23, ew23, hf⟩ := zbs hf
    refine z_gP B fl_RX6_29 ew23 rfl dX6_way_109 ?_
    obtain ⟨w24, ew24, hf⟩ := zbs hf
    refine z_gI B fl_RX6_325 ew24 rfl dX6_way_112 ?_
    cases hf
    exact z_iret B dX6_way_115 (Nat.le_of_ble_eq_true rfl) (Nat.le_of_ble_eq_true rfl)
  refine z_icmp_le B 29 dX6_way_16 (by decide) (fun e => absurd e c6) (fun _ => ?_)
  cases hf
  exact z_throw B hE rfl th_RX6_67_71 sl_143 dX6_way_19 dX6_way_22 dX6_way_23 dX6_way_25 dX6_way_28 (Nat.le_of_ble_eq_true rfl) (Nat.le_of_ble_eq_true rfl) (Nat.le_of_ble_eq_true rfl) (Nat.le_of_ble_eq_true rfl) (Nat.le_of_ble_eq_true rfl) (Nat.le_of_ble_eq_true rfl)
abbrev rm_X6_bestFor : Room := { frames := 7, cells := 1, slots := 6, locals := 103 }
set_option maxRecDepth 100000 in
set_option maxHeartbeats 4000000 in
theorem fX6_bestFor_L16_ok {G : zG} {x : zX} (B : zB G x cX6_bestFor 6 RX6 "bestFor" rm_X6_bestFor (some .int)) (hst : (zl x).stackTraces = false) (hE : ∀ e ∈ (zc x).exceptionTable.toList, False) {r : (Int32 ⊕ String) × zH} {k : zH → Int32 → Int32 → Int32 → Int32 → Option ((Int32 ⊕ String) × zH)} {u0 : Nat} {u1 : Int32} (hk : ∀ h v2 v3 v4 v5, k h v2 v3 v4 v5 = some r → zV G x 6 (zQ G x (zoxi r) 1 6) h 1 6 108 [(0, .ref u0), (1, .int u1), (2, .int v2), (3, .int v3), (4, .int v4), (5, .int v5)] []) : ∀ n h v2 v3 v4 v5, fX6_bestFor_L16 k u0 u1 n h v2 v3 v4 v5 = some r → zV G x 6 (zQ G x (zoxi r) 1 6) h 1 6 16 [(0, .ref u0), (1, .int u1), (2, .int v2), (3, .int v3), (4, .int v4), (5, .int v5)] [] := by
  intro n
  induction n with
  | zero =>
    intro h v2 v3 v4 v5 hf
    have hf : (none : Option ((Int32 ⊕ String) × zH)) = some r := hf
    cases hf
  | succ n ih =>
    intro h v2 v3 v4 v5 hf
    rw [fX6_bestFor_L16] at hf
    refine z_iload B dX6_bestFor_16 5 rfl ?_
    refine z_aload_n B dX6_bestFor_18 rfl 0 rfl ?_
    obtain ⟨w1, ew1, hf⟩ := zbs hf
    refine z_gP B fl_RX6_36 ew1 rfl dX6_bestFor_19 ?_
    obtain ⟨w2, ew2, hf⟩ := zbs hf
    refine z_gI B fl_RX6_106 ew2 rfl dX6_bestFor_22 ?_
    rcases zite hf with ⟨c3, hf⟩ | ⟨c3, hf⟩
    · refine z_icmp_ge B 108 dX6_bestFor_25 (by decide) (fun _ => ?_) (fun e => absurd c3 e)
      exact hk _ _ _ _ _ hf
    refine z_icmp_ge B 108 dX6_bestFor_25 (by decide) (fun e => absurd e c3) (fun _ => ?_)
    refine z_aload_n B dX6_bestFor_28 rfl 0 rfl ?_
    refine z_aload_n B dX6_bestFor_29 rfl 0 rfl ?_
    obtain ⟨w4, ew4, hf⟩ := zbs hf
    refine z_gP B fl_RX6_36 ew4 rfl dX6_bestFor_30 ?_
    refine z_iload B dX6_bestFor_33 5 rfl ?_
    refine z_iload_n B dX6_bestFor_35 rfl 1 rfl ?_
    obtain ⟨w5, h6, ew5, hf⟩ := zb2s hf
    refine z_callVi B [.ref w4, .int v5, .int u1] [] cw_X6_findWay mv_RX6_227 (tX6_findWay hst ew5) rfl (by decide) (kfX6_findWay ew5) ⟨rfl, rfl, (Nat.le_of_ble_eq_true rfl), (Nat.le_of_ble_eq_true rfl), (Nat.le_of_ble_eq_true rfl), (Nat.le_of_ble_eq_true rfl)⟩ rfl rfl (Nat.le_of_ble_eq_true rfl) dX6_bestFor_36 ?_
    rcases zite hf with ⟨c7, hf⟩ | ⟨c7, hf⟩
    · refine z_if_eq B 102 dX6_bestFor_39 (by decide) (fun _ => ?_) (fun e => absurd c7 e)
      refine z_iinc (v' := (v5 + 1)) (lv' := [(5, .int (v5 + 1)), (0, .ref u0), (1, .int u1), (2, .int v2), (3, .int v3), (4, .int v4)]) B dX6_bestFor_102 5 rfl rfl (by decide) rfl ?_
      refine z_goto B 16 dX6_bestFor_105 (by decide) ?_
      refine zV.sub [1, 2, 3, 4, 5, 0] rfl ?_
      exact ih _ _ _ _ _ hf
    refine z_if_eq B 102 dX6_bestFor_39 (by decide) (fun e => absurd e c7) (fun _ => ?_)
    refine z_iload_n B dX6_bestFor_42 rfl 2 rfl ?_
    refine z_bipush (v := (-9)) B dX6_bestFor_43 (by decide) ?_
    rcases zite hf with ⟨c8, hf⟩ | ⟨c8, hf⟩
    · refine z_icmp_eq B 82 dX6_bestFor_45 (by decide) (fun _ => ?_) (fun e => absurd c8 e)
      refine z_iload B dX6_bestFor_82 5 rfl ?_
      refine z_istore_n (lv' := [(2, .int v5), (0, .ref u0), (1, .int u1), (3, .int v3), (4, .int v4), (5, .int v5)]) B dX6_bestFor_84 rfl (by decide) rfl ?_
      refine z_aload_n B dX6_bestFor_85 rfl 1 rfl ?_
      obtain ⟨w9, ew9, hf⟩ := zbs hf
      refine z_gP B fl_RX6_29 ew9 rfl dX6_bestFor_86 ?_
      obtain ⟨w10, ew10, hf⟩ := zbs hf
      refine z_gI B fl_RX6_318 ew10 rfl dX6_bestFor_89 ?_
      refine z_istore_n (lv' := [(3, .int w10), (2, .int v5), (0, .ref u0), (1, .int u1), (4, .int v4), (5, .int v5)]) B dX6_bestFor_92 rfl (by decide) rfl ?_
      refine z_aload_n B dX6_bestFor_93 rfl 2 rfl ?_
      obtain ⟨w11, ew11, hf⟩ := zbs hf
      refine z_gP B fl_RX6_29 ew11 rfl dX6_bestFor_94 ?_
      obtain ⟨w12, ew12, hf⟩ := zbs hf
      refine z_gI B fl_RX6_325 ew12 rfl dX6_bestFor_97 ?_
      refine z_istore (lv' := [(4, .int w12), (3, .int w10), (2, .int v5), (0, .ref u0), (1, .int u1), (5, .int v5)]) B dX6_bestFor_100 (by decide) rfl ?_
      refine z_iinc (v' := (v5 + 1)) (lv' := [(5, .int (v5 + 1)), (4, .int w12), (3, .int w10), (2, .int v5), (0, .ref u0), (1, .int u1)]) B dX6_bestFor_102 5 rfl rfl (by decide) rfl ?_
      refine z_goto B 16 dX6_bestFor_105 (by decide) ?_
      refine zV.sub [4, 5, 3, 2, 1, 0] rfl ?_
      exact ih _ _ _ _ _ hf
    refine z_icmp_eq B 82 dX6_bestFor_45 (by decide) (fun e => absurd e c8) (fun _ => ?_)
    refine z_aload_n B dX6_bestFor_48 rfl 0 rfl ?_
    obtain ⟨w13, ew13, hf⟩ := zbs hf
    refine z_gP B fl_RX6_29 ew13 rfl dX6_bestFor_49 ?_
    obtain ⟨w14, ew14, hf⟩ := zbs hf
    refine z_gI B fl_RX6_318 ew14 rfl dX6_bestFor_52 ?_
    refine z_iload_n B dX6_bestFor_55 rfl 3 rfl ?_
    rcases zite hf with ⟨c15, hf⟩ | ⟨c15, hf⟩
    · refine z_icmp_lt B 82 dX6_bestFor_56 (by decide) (fun _ => ?_) (fun e => absurd c15 e)
      refine z_iload B dX6_bestFor_82 5 rfl ?_
      refine z_istore_n (lv' := [(2, .int v5), (0, .ref u0), (1, .int u1), (3, .int v3), (4, .int v4), (5, .int v5)]) B dX6_bestFor_84 rfl (by decide) rfl ?_
      refine z_aload_n B dX6_bestFor_85 rfl 1 rfl ?_
      obtain ⟨w16, ew16, hf⟩ := zbs hf
      refine z_gP B fl_RX6_29 ew16 rfl dX6_bestFor_86 ?_
      obtain ⟨w17, ew17, hf⟩ := zbs hf
      refine z_gI B fl_RX6_318 ew17 rfl dX6_bestFor_89 ?_
      refine z_istore_n (lv' := [(3, .int w17), (2, .int v5), (0, .ref u0), (1, .int u1), (4, .int v4), (5, .int v5)]) B dX6_bestFor_92 rfl (by decide) rfl ?_
      refine z_aload_n B dX6_bestFor_93 rfl 2 rfl ?_
      obtain ⟨w18, ew18, hf⟩ := zbs hf
      refine z_gP B fl_RX6_29 ew18 rfl dX6_bestFor_94 ?_
      obtain ⟨w19, ew19, hf⟩ := zbs hf
      refine z_gI B fl_RX6_325 ew19 rfl dX6_bestFor_97 ?_
      refine z_istore (lv' := [(4, .int w19), (3, .int w17), (2, .int v5), (0, .ref u0), (1, .int u1), (5, .int v5)]) B dX6_bestFor_100 (by decide) rfl ?_
      refine z_iinc (v' := (v5 + 1)) (lv' := [(5, .int (v5 + 1)), (4, .int w19), (3, .int w17), (2, .int v5), (0, .ref u0), (1, .int u1)]) B dX6_bestFor_102 5 rfl rfl (by decide) rfl ?_
      refine z_goto B 16 dX6_bestFor_105 (by decide) ?_
      refine zV.sub [4, 5, 3, 2, 1, 0] rfl ?_
      exact ih _ _ _ _ _ hf
    refine z_icmp_lt B 82 dX6_bestFor_56 (by decide) (fun e => absurd e c15) (fun _ => ?_)
    refine z_aload_n B dX6_bestFor_59 rfl 0 rfl ?_
    obtain ⟨w20, ew20, hf⟩ := zbs hf
    refine z_gP B fl_RX6_29 ew20 rfl dX6_bestFor_60 ?_
    obtain ⟨w21, ew21, hf⟩ := zbs hf
    refine z_gI B fl_RX6_318 ew21 rfl dX6_bestFor_63 ?_
    refine z_iload_n B dX6_bestFor_66 rfl 3 rfl ?_
    rcases zite hf with ⟨c22, hf⟩ | ⟨c22, hf⟩
    · refine z_icmp_ne B 102 dX6_bestFor_67 (by decide) (fun e => absurd c22 e) (fun _ => ?_)
      refine z_aload_n B dX6_bestFor_70 rfl 0 rfl ?_
      obtain ⟨w23, ew23, hf⟩ := zbs hf
      refine z_gP B fl_RX6_29 ew23 rfl dX6_bestFor_71 ?_
      obtain ⟨w24, ew24, hf⟩ := zbs hf
      refine z_gI B fl_RX6_325 ew24 rfl dX6_bestFor_74 ?_
      refine z_iload B dX6_bestFor_77 4 rfl ?_
      rcases zite hf with ⟨c25, hf⟩ | ⟨c25, hf⟩
      · refine z_icmp_ge B 102 dX6_bestFor_79 (by decide) (fun _ => ?_) (fun e => absurd c25 e)
        refine z_iinc (v' := (v5 + 1)) (lv' := [(5, .int (v5 + 1)), (0, .ref u0), (1, .int u1), (2, .int v2), (3, .int v3), (4, .int v4)]) B dX6_bestFor_102 5 rfl rfl (by decide) rfl ?_
        refine z_goto B 16 dX6_bestFor_105 (by decide) ?_
        refine zV.sub [1, 2, 3, 4, 5, 0] rfl ?_
        exact ih _ _ _ _ _ hf
      refine z_icmp_ge B 102 dX6_bestFor_79 (by decide) (fun e => absurd e c25) (fun _ => ?_)
      refine z_iload B dX6_bestFor_82 5 rfl ?_
      refine z_istore_n (lv' := [(2, .int v5), (0, .ref u0), (1, .int u1), (3, .int v3), (4, .int v4), (5, .int v5)]) B dX6_bestFor_84 rfl (by decide) rfl ?_
      refine z_aload_n B dX6_bestFor_85 rfl 1 rfl ?_
      obtain ⟨w26, ew26, hf⟩ := zbs hf
      refine z_gP B fl_RX6_29 ew26 rfl dX6_bestFor_86 ?_
      obtain ⟨w27, ew27, hf⟩ := zbs hf
      refine z_gI B fl_RX6_318 ew27 rfl dX6_bestFor_89 ?_
      refine z_istore_n (lv' := [(3, .int w27), (2, .int v5), (0, .ref u0), (1, .int u1), (4, .int v4), (5, .int v5)]) B dX6_bestFor_92 rfl (by decide) rfl ?_
      refine z_aload_n B dX6_bestFor_93 rfl 2 rfl ?_
      obtain ⟨w28, ew28, hf⟩ := zbs hf
      refine z_gP B fl_RX6_29 ew28 rfl dX6_bestFor_94 ?_
      obtain ⟨w29, ew29, hf⟩ := zbs hf
      refine z_gI B fl_RX6_325 ew29 rfl dX6_bestFor_97 ?_
      refine z_istore (lv' := [(4, .int w29), (3, .int w27), (2, .int v5), (0, .ref u0), (1, .int u1), (5, .int v5)]) B dX6_bestFor_100 (by decide) rfl ?_
      refine z_iinc (v' := (v5 + 1)) (lv' := [(5, .int (v5 + 1)), (4, .int w29), (3, .int w27), (2, .int v5), (0, .ref u0), (1, .int u1)]) B dX6_bestFor_102 5 rfl rfl (by decide) rfl ?_
      refine z_goto B 16 dX6_bestFor_105 (by decide) ?_
      refine zV.sub [4, 5, 3, 2, 1, 0] rfl ?_
      exact ih _ _ _ _ _ hf
    refine z_icmp_ne B 102 dX6_bestFor_67 (by decide) (fun _ => ?_) (fun e => absurd e c22)
    refine z_iinc (v' := (v5 + 1)) (lv' := [(5, .int (v5 + 1)), (0, .ref u0), (1, .int u1), (2, .int v2), (3, .int v3), (4, .int v4)]) B dX6_bestFor_102 5 rfl rfl (by decide) rfl ?_
    refine z_goto B 16 dX6_bestFor_105 (by decide) ?_
    refine zV.sub [1, 2, 3, 4, 5, 0] rfl ?_
    exact ih _ _ _ _ _ hf
set_option maxRecDepth 100000 in
set_option maxHeartbeats 4000000 in
theorem tX6_bestFor {l : Launch} {G : zG} (hst : l.stackTraces = false) {h : zH} {a0 : Nat} {a1 : Int32} {r : (Int32 ⊕ String) × zH} (hf : fX6_bestFor h a0 a1 = some r) : zMet l G yX6_bestFor (.code yX6_bestFor cX6_bestFor 6 (some .int)) rm_X6_bestFor 1 6 [.ref a0, .int a1] h (zoxi r) := by
  unfold fX6_bestFor at hf
  obtain ⟨-, hf⟩ := zck hf
  refine z_enter (by decide) (Nat.le_of_ble_eq_true rfl) hst (fun x hx B hE => ?_)
  subst hx
  have B : zB G x cX6_bestFor 6 RX6 "bestFor" rm_X6_bestFor (some .int) := B
  show zV G x 6 (zQ G x (zoxi r) 1 6) h 0 0 0 [(0, .ref a0), (1, .int a1)] []
  refine z_aload_n B dX6_bestFor_0 rfl 0 rfl ?_
  refine z_iload_n B dX6_bestFor_1 rfl 1 rfl ?_
  rcases zb4s hf with ⟨E2, h1, eh1, rfl⟩ | ⟨h1, eh1, hf⟩
  · exact z_callVX B hE [.int a1] [] cw_X6_requirePlace mv_RX6_145 (tX6_requirePlace hst eh1) rfl (by decide) (kfX6_requirePlace eh1) ⟨rfl, rfl, (Nat.le_of_ble_eq_true rfl), (Nat.le_of_ble_eq_true rfl), (Nat.le_of_ble_eq_true rfl), (Nat.le_of_ble_eq_true rfl)⟩ rfl rfl (Nat.le_of_ble_eq_true rfl) dX6_bestFor_2 (Nat.le_of_ble_eq_true rfl) (Nat.le_of_ble_eq_true rfl)
  refine z_callVv B [.int a1] [] cw_X6_requirePlace mv_RX6_145 (tX6_requirePlace hst eh1) rfl (by decide) (kfX6_requirePlace eh1) ⟨rfl, rfl, (Nat.le_of_ble_eq_true rfl), (Nat.le_of_ble_eq_true rfl), (Nat.le_of_ble_eq_true rfl), (Nat.le_of_ble_eq_true rfl)⟩ rfl rfl (Nat.le_of_ble_eq_true rfl) dX6_bestFor_2 ?_
  refine z_bipush (v := (-9)) B dX6_bestFor_5 (by decide) ?_
  refine z_istore_n (lv' := [(2, .int (-9)), (0, .ref a0), (1, .int a1)]) B dX6_bestFor_7 rfl (by decide) rfl ?_
  refine z_iconst (v := 0) B dX6_bestFor_8 (by decide) ?_
  refine z_istore_n (lv' := [(3, .int 0), (2, .int (-9)), (0, .ref a0), (1, .int a1)]) B dX6_bestFor_9 rfl (by decide) rfl ?_
  refine z_iconst (v := 0) B dX6_bestFor_10 (by decide) ?_
  refine z_istore (lv' := [(4, .int 0), (3, .int 0), (2, .int (-9)), (0, .ref a0), (1, .int a1)]) B dX6_bestFor_11 (by decide) rfl ?_
  refine z_iconst (v := 0) B dX6_bestFor_13 (by decide) ?_
  refine z_istore (lv' := [(5, .int 0), (4, .int 0), (3, .int 0), (2, .int (-9)), (0, .ref a0), (1, .int a1)]) B dX6_bestFor_14 (by decide) rfl ?_
  refine zV.sub [4, 5, 3, 2, 1, 0] rfl ?_
  refine fX6_bestFor_L16_ok B hst hE (fun h3 y4 y5 y6 y7 hf => ?_) _ _ _ _ _ _ hf
  refine z_iload_n B dX6_bestFor_108 rfl 2 rfl ?_
  cases hf
  exact z_iret B dX6_bestFor_109 (Nat.le_of_ble_eq_true rfl) (Nat.le_of_ble_eq_true rfl)
abbrev rm_X3_tagEntries : Room := { frames := 0, cells := 0, slots := 0, locals := 0 }
set_option maxRecDepth 100000 in
set_option maxHeartbeats 4000000 in
theorem fX3_tagEntries_L2_ok {G : zG} {x : zX} (B : zB G x cX3_tagEntries 2 RX3 "tagEntries" rm_X3_tagEntries none) (hst : (zl x).stackTraces = false) (hE : ∀ e ∈ (zc x).exceptionTable.toList, False) {r : zH} {k : zH → Int32 → Option (zH)} {u0 : Nat} (hk : ∀ h v1, k h v1 = some r → zV G x 2 (zQ G x (zov r) 0 0) h 0 0 26 [(0, .ref u0), (1, .int v1)] []) : ∀ n h v1, fX3_tagEntries_L2 k u0 n h v1 = some r → zV G x 2 (zQ G x (zov r) 0 0) h 0 0 2 [(0, .ref u0), (1, .int v1)] [] := by
  intro n
  induction n with
  | zero =>
    intro h v1 hf
    have hf : (none : Option (zH)) = some r := hf
    cases hf
  | succ n ih =>
    intro h v1 hf
    rw [fX3_tagEntries_L2] at hf
    refine z_iload_n B dX3_tagEntries_2 rfl 1 rfl ?_
    refine z_aload_n B dX3_tagEntries_3 rfl 0 rfl ?_
    obtain ⟨w1, ew1, hf⟩ := zbs hf
    refine z_gI B fl_RX3_22 ew1 rfl dX3_tagEntries_4 ?_
    rcases zite hf with ⟨c2, hf⟩ | ⟨c2, hf⟩
    · refine z_icmp_ge B 26 dX3_tagEntries_7 (by decide) (fun _ => ?_) (fun e => absurd c2 e)
      exact hk _ _ hf
    refine z_icmp_ge B 26 dX3_tagEntries_7 (by decide) (fun e => absurd e c2) (fun _ => ?_)
    refine z_aload_n B dX3_tagEntries_10 rfl 0 rfl ?_
    obtain ⟨w3, ew3, hf⟩ := zbs hf
    refine z_gP B fl_RX3_11 ew3 rfl dX3_tagEntries_11 ?_
    refine z_iload_n B dX3_tagEntries_14 rfl 1 rfl ?_
    obtain ⟨w4, ew4, hf⟩ := zbs hf
    refine z_aP B ew4 dX3_tagEntries_15 ?_
    refine z_iload_n B dX3_tagEntries_16 rfl 1 rfl ?_
    obtain ⟨h5, eh5, hf⟩ := zbs hf
    refine z_pI B fl_RX3_141 eh5 rfl dX3_tagEntries_17 ?_
    refine z_iinc (v' := (v1 + 1)) (lv' := [(1, .int (v1 + 1)), (0, .ref u0)]) B dX3_tagEntries_20 1 rfl rfl (by decide) rfl ?_
    refine z_goto B 2 dX3_tagEntries_23 (by decide) ?_
    refine zV.sub [1, 0] rfl ?_
    exact ih _ _ hf
set_option maxRecDepth 100000 in
set_option maxHeartbeats 4000000 in
theorem tX3_tagEntries {l : Launch} {G : zG} (hst : l.stackTraces = false) {h : zH} {a0 : Nat} {r : zH} (hf : fX3_tagEntries h a0 = some r) : zMet l G yX3_tagEntries (.code yX3_tagEntries cX3_tagEntries 2 none) rm_X3_tagEntries 0 0 [.ref a0] h (zov r) := by
  unfold fX3_tagEntries at hf
  obtain ⟨-, hf⟩ := zck hf
  refine z_enter (by decide) (Nat.le_of_ble_eq_true rfl) hst (fun x hx B hE => ?_)
  subst hx
  have B : zB G x cX3_tagEntries 2 RX3 "tagEntries" rm_X3_tagEntries none := B
  show zV G x 2 (zQ G x (zov r) 0 0) h 0 0 0 [(0, .ref a0)] []
  refine z_iconst (v := 0) B dX3_tagEntries_0 (by decide) ?_
  refine z_istore_n (lv' := [(1, .int 0), (0, .ref a0)]) B dX3_tagEntries_1 rfl (by decide) rfl ?_
  refine zV.sub [1, 0] rfl ?_
  refine fX3_tagEntries_L2_ok B hst hE (fun h1 y2 hf => ?_) _ _ _ hf
  cases hf
  exact z_vret B dX3_tagEntries_26 (Nat.le_of_ble_eq_true rfl) (Nat.le_of_ble_eq_true rfl)
abbrev rm_X3_tagSet : Room := { frames := 0, cells := 0, slots := 0, locals := 0 }
set_option maxRecDepth 100000 in
set_option maxHeartbeats 4000000 in
theorem fX3_tagSet_L4_ok {G : zG} {x : zX} (B : zB G x cX3_tagSet 3 RX3 "tagSet" rm_X3_tagSet (some .int)) (hst : (zl x).stackTraces = false) (hE : ∀ e ∈ (zc x).exceptionTable.toList, False) {r : Int32 × zH} {k : zH → Int32 → Int32 → Option (Int32 × zH)} {u0 : Nat} (hk : ∀ h v1 v2, k h v1 v2 = some r → zV G x 3 (zQ G x (zoi r) 0 0) h 0 0 45 [(0, .ref u0), (1, .int v1), (2, .int v2)] []) : ∀ n h v1 v2, fX3_tagSet_L4 k u0 n h v1 v2 = some r → zV G x 3 (zQ G x (zoi r) 0 0) h 0 0 4 [(0, .ref u0), (1, .int v1), (2, .int v2)] [] := by
  intro n
  induction n with
  | zero =>
    intro h v1 v2 hf
    have hf : (none : Option (Int32 × zH)) = some r := hf
    cases hf
  | succ n ih =>
    intro h v1 v2 hf
    rw [fX3_tagSet_L4] at hf
    refine z_iload_n B dX3_tagSet_4 rfl 2 rfl ?_
    refine z_aload_n B dX3_tagSet_5 rfl 0 rfl ?_
    obtain ⟨w1, ew1, hf⟩ := zbs hf
    refine z_gI B fl_RX3_22 ew1 rfl dX3_tagSet_6 ?_
    rcases zite hf with ⟨c2, hf⟩ | ⟨c2, hf⟩
    · refine z_icmp_ge B 45 dX3_tagSet_9 (by decide) (fun _ => ?_) (fun e => absurd c2 e)
      exact hk _ _ _ hf
    refine z_icmp_ge B 45 dX3_tagSet_9 (by decide) (fun e => absurd e c2) (fun _ => ?_)
    refine z_aload_n B dX3_tagSet_12 rfl 0 rfl ?_
    obtain ⟨w3, ew3, hf⟩ := zbs hf
    refine z_gP B fl_RX3_11 ew3 rfl dX3_tagSet_13 ?_
    refine z_iload_n B dX3_tagSet_16 rfl 2 rfl ?_
    obtain ⟨w4, ew4, hf⟩ := zbs hf
    refine z_aP B ew4 dX3_tagSet_17 ?_
    obtain ⟨w5, ew5, hf⟩ := zbs hf
    refine z_gI B fl_RX3_141 ew5 rfl dX3_tagSet_18 ?_
    refine z_iconst (v := (-1)) B dX3_tagSet_21 (by decide) ?_
    rcases zite hf with ⟨c6, hf⟩ | ⟨c6, hf⟩
    · refine z_icmp_eq B 39 dX3_tagSet_22 (by decide) (fun _ => ?_) (fun e => absurd c6 e)
      refine z_iinc (v' := (v2 + 1)) (lv' := [(2, .int (v2 + 1)), (0, .ref u0), (1, .int v1)]) B dX3_tagSet_39 2 rfl rfl (by decide) rfl ?_
      refine z_goto B 4 dX3_tagSet_42 (by decide) ?_
      refine zV.sub [1, 2, 0] rfl ?_
      exact ih _ _ _ hf
    refine z_icmp_eq B 39 dX3_tagSet_22 (by decide) (fun e => absurd e c6) (fun _ => ?_)
    refine z_iload_n B dX3_tagSet_25 rfl 1 rfl ?_
    refine z_iconst (v := 1) B dX3_tagSet_26 (by decide) ?_
    refine z_aload_n B dX3_tagSet_27 rfl 0 rfl ?_
    obtain ⟨w7, ew7, hf⟩ := zbs hf
    refine z_gP B fl_RX3_11 ew7 rfl dX3_tagSet_28 ?_
    refine z_iload_n B dX3_tagSet_31 rfl 2 rfl ?_
    obtain ⟨w8, ew8, hf⟩ := zbs hf
    refine z_aP B ew8 dX3_tagSet_32 ?_
    obtain ⟨w9, ew9, hf⟩ := zbs hf
    refine z_gI B fl_RX3_141 ew9 rfl dX3_tagSet_33 ?_
    refine z_ishl B dX3_tagSet_36 ?_
    refine z_ior B dX3_tagSet_37 ?_
    refine z_istore_n (lv' := [(1, .int ((v1 : Int32) ||| ((1 : Int32) <<< (w9 &&& 31)))), (0, .ref u0), (2, .int v2)]) B dX3_tagSet_38 rfl (by decide) rfl ?_
    refine z_iinc (v' := (v2 + 1)) (lv' := [(2, .int (v2 + 1)), (1, .int ((v1 : Int32) ||| ((1 : Int32) <<< (w9 &&& 31)))), (0, .ref u0)]) B dX3_tagSet_39 2 rfl rfl (by decide) rfl ?_
    refine z_goto B 4 dX3_tagSet_42 (by decide) ?_
    refine zV.sub [2, 1, 0] rfl ?_
    exact ih _ _ _ hf
set_option maxRecDepth 100000 in
set_option maxHeartbeats 4000000 in
theorem tX3_tagSet {l : Launch} {G : zG} (hst : l.stackTraces = false) {h : zH} {a0 : Nat} {r : Int32 × zH} (hf : fX3_tagSet h a0 = some r) : zMet l G yX3_tagSet (.code yX3_tagSet cX3_tagSet 3 (some .int)) rm_X3_tagSet 0 0 [.ref a0] h (zoi r) := by
  unfold fX3_tagSet at hf
  obtain ⟨-, hf⟩ := zck hf
  refine z_enter (by decide) (Nat.le_of_ble_eq_true rfl) hst (fun x hx B hE => ?_)
  subst hx
  have B : zB G x cX3_tagSet 3 RX3 "tagSet" rm_X3_tagSet (some .int) := B
  show zV G x 3 (zQ G x (zoi r) 0 0) h 0 0 0 [(0, .ref a0)] []
  refine z_iconst (v := 0) B dX3_tagSet_0 (by decide) ?_
  refine z_istore_n (lv' := [(1, .int 0), (0, .ref a0)]) B dX3_tagSet_1 rfl (by decide) rfl ?_
  refine z_iconst (v := 0) B dX3_tagSet_2 (by decide) ?_
  refine z_istore_n (lv' := [(2, .int 0), (1, .int 0), (0, .ref a0)]) B dX3_tagSet_3 rfl (by decide) rfl ?_
  refine zV.sub [2, 1, 0] rfl ?_
  refine fX3_tagSet_L4_ok B hst hE (fun h1 y2 y3 hf => ?_) _ _ _ _ hf
  refine z_iload_n B dX3_tagSet_45 rfl 1 rfl ?_
  cases hf
  exact z_iret B dX3_tagSet_46 (Nat.le_of_ble_eq_true rfl) (Nat.le_of_ble_eq_true rfl)
abbrev rm_X6_victims : Room := { frames := 7, cells := 1, slots := 6, locals := 113 }
set_option maxRecDepth 100000 in
set_option maxHeartbeats 4000000 in
theorem tX6_victims {l : Launch} {G : zG} (hst : l.stackTraces = false) {h : zH} {a0 : Nat} {a1 : Int32} {r : (Int32 ⊕ String) × zH} (hf : fX6_victims h a0 a1 = some r) : zMet l G yX6_victims (.code yX6_victims cX6_victims 3 (some .int)) rm_X6_victims 1 6 [.ref a0, .int a1] h (zoxi r) := by
  unfold fX6_victims at hf
  obtain ⟨-, hf⟩ := zck hf
  refine z_enter (by decide) (Nat.le_of_ble_eq_true rfl) hst (fun x hx B hE => ?_)
  subst hx
  have B : zB G x cX6_victims 3 RX6 "victims" rm_X6_victims (some .int) := B
  show zV G x 3 (zQ G x (zoxi r) 1 6) h 0 0 0 [(0, .ref a0), (1, .int a1)] []
  refine z_iload_n B dX6_victims_0 rfl 1 rfl ?_
  rcases zb4s hf with ⟨E2, h1, eh1, rfl⟩ | ⟨h1, eh1, hf⟩
  · exact z_callSX B hE [.int a1] [] cw_X6_requireNewSize mt_RX6_203 (tX6_requireNewSize hst eh1) ⟨rfl, rfl, (Nat.le_of_ble_eq_true rfl), (Nat.le_of_ble_eq_true rfl), (Nat.le_of_ble_eq_true rfl), (Nat.le_of_ble_eq_true rfl)⟩ rfl rfl (Nat.le_of_ble_eq_true rfl) dX6_victims_1 (Nat.le_of_ble_eq_true rfl) (Nat.le_of_ble_eq_true rfl)
  refine z_callSv B [.int a1] [] cw_X6_requireNewSize mt_RX6_203 (tX6_requireNewSize hst eh1) ⟨rfl, rfl, (Nat.le_of_ble_eq_true rfl), (Nat.le_of_ble_eq_true rfl), (Nat.le_of_ble_eq_true rfl), (Nat.le_of_ble_eq_true rfl)⟩ rfl rfl (Nat.le_of_ble_eq_true rfl) dX6_victims_1 ?_
  refine z_aload_n B dX6_victims_4 rfl 0 rfl ?_
  obtain ⟨w3, ew3, hf⟩ := zbs hf
  refine z_gP B fl_RX6_36 ew3 rfl dX6_victims_5 ?_
  refine z_iload_n B dX6_victims_8 rfl 1 rfl ?_
  obtain ⟨w4, h5, ew4, hf⟩ := zb2s hf
  refine z_callVi B [.int a1] [] cw_X3_canAddEntry mv_RX6_206 (tX3_canAddEntry hst ew4) rfl (by decide) (kfX3_canAddEntry ew4) ⟨rfl, rfl, (Nat.le_of_ble_eq_true rfl), (Nat.le_of_ble_eq_true rfl), (Nat.le_of_ble_eq_true rfl), (Nat.le_of_ble_eq_true rfl)⟩ rfl rfl (Nat.le_of_ble_eq_true rfl) dX6_victims_9 ?_
  rcases zite hf with ⟨c6, hf⟩ | ⟨c6, hf⟩
  · refine z_if_ne B 18 dX6_victims_12 (by decide) (fun e => absurd c6 e) (fun _ => ?_)
    refine z_bipush (v := (-9)) B dX6_victims_15 (by decide) ?_
    cases hf
    exact z_iret B dX6_victims_17 (Nat.le_of_ble_eq_true rfl) (Nat.le_of_ble_eq_true rfl)
  refine z_if_ne B 18 dX6_victims_12 (by decide) (fun _ => ?_) (fun e => absurd e c6)
  refine z_aload_n B dX6_victims_18 rfl 0 rfl ?_
  obtain ⟨w7, ew7, hf⟩ := zbs hf
  refine z_gP B fl_RX6_40 ew7 rfl dX6_victims_19 ?_
  refine z_aload_n B dX6_victims_22 rfl 0 rfl ?_
  obtain ⟨w8, ew8, hf⟩ := zbs hf
  refine z_gP B fl_RX6_36 ew8 rfl dX6_victims_23 ?_
  obtain ⟨h9, eh9, hf⟩ := zbs hf
  refine z_callVv B [.ref w8] [] cw_X3_takeOver mv_RX6_271 (tX3_takeOver hst eh9) rfl (by decide) (kfX3_takeOver eh9) ⟨rfl, rfl, (Nat.le_of_ble_eq_true rfl), (Nat.le_of_ble_eq_true rfl), (Nat.le_of_ble_eq_true rfl), (Nat.le_of_ble_eq_true rfl)⟩ rfl rfl (Nat.le_of_ble_eq_true rfl) dX6_victims_26 ?_
  refine z_aload_n B dX6_victims_29 rfl 0 rfl ?_
  obtain ⟨w10, ew10, hf⟩ := zbs hf
  refine z_gP B fl_RX6_40 ew10 rfl dX6_victims_30 ?_
  obtain ⟨h11, eh11, hf⟩ := zbs hf
  refine z_callVv B [] [] cw_X3_tagEntries mv_RX6_327 (tX3_tagEntries hst eh11) rfl (by decide) (kfX3_tagEntries eh11) ⟨rfl, rfl, (Nat.le_of_ble_eq_true rfl), (Nat.le_of_ble_eq_true rfl), (Nat.le_of_ble_eq_true rfl), (Nat.le_of_ble_eq_true rfl)⟩ rfl rfl (Nat.le_of_ble_eq_true rfl) dX6_victims_33 ?_
  refine z_aload_n B dX6_victims_36 rfl 0 rfl ?_
  obtain ⟨w12, ew12, hf⟩ := zbs hf
  refine z_gP B fl_RX6_40 ew12 rfl dX6_victims_37 ?_
  refine z_iconst (v := 0) B dX6_victims_40 (by decide) ?_
  refine z_iload_n B dX6_victims_41 rfl 1 rfl ?_
  obtain ⟨h13, eh13, hf⟩ := zbs hf
  refine z_callVv B [.int 0, .int a1] [] cw_X3_addEntry mv_RX6_214 (tX3_addEntry hst eh13) rfl (by decide) (kfX3_addEntry eh13) ⟨rfl, rfl, (Nat.le_of_ble_eq_true rfl), (Nat.le_of_ble_eq_true rfl), (Nat.le_of_ble_eq_true rfl), (Nat.le_of_ble_eq_true rfl)⟩ rfl rfl (Nat.le_of_ble_eq_true rfl) dX6_victims_42 ?_
  refine z_iconst (v := 1) B dX6_victims_45 (by decide) ?_
  refine z_aload_n B dX6_victims_46 rfl 0 rfl ?_
  obtain ⟨w14, ew14, hf⟩ := zbs hf
  refine z_gP B fl_RX6_36 ew14 rfl dX6_victims_47 ?_
  obtain ⟨w15, ew15, hf⟩ := zbs hf
  refine z_gI B fl_RX6_106 ew15 rfl dX6_victims_50 ?_
  refine z_ishl B dX6_victims_53 ?_
  refine z_iconst (v := 1) B dX6_victims_54 (by decide) ?_
  refine z_isub B dX6_victims_55 ?_
  refine z_istore_n (lv' := [(2, .int ((((1 : Int32) <<< (w15 &&& 31)) : Int32) - 1)), (0, .ref a0), (1, .int a1)]) B dX6_victims_56 rfl (by decide) rfl ?_
  refine z_iload_n B dX6_victims_57 rfl 0 rfl ?_
  refine z_aload_n B dX6_victims_58 rfl 1 rfl ?_
  obtain ⟨w16, ew16, hf⟩ := zbs hf
  refine z_gP B fl_RX6_40 ew16 rfl dX6_victims_59 ?_
  obtain ⟨w17, h18, ew17, hf⟩ := zb2s hf
  refine z_callVi B [] [.int ((((1 : Int32) <<< (w15 &&& 31)) : Int32) - 1)] cw_X3_tagSet mv_RX6_330 (tX3_tagSet hst ew17) rfl (by decide) (kfX3_tagSet ew17) ⟨rfl, rfl, (Nat.le_of_ble_eq_true rfl), (Nat.le_of_ble_eq_true rfl), (Nat.le_of_ble_eq_true rfl), (Nat.le_of_ble_eq_true rfl)⟩ rfl rfl (Nat.le_of_ble_eq_true rfl) dX6_victims_62 ?_
  refine z_iconst (v := (-1)) B dX6_victims_65 (by decide) ?_
  refine z_ixor B dX6_victims_66 ?_
  refine z_iand B dX6_victims_67 ?_
  cases hf
  exact z_iret B dX6_victims_68 (Nat.le_of_ble_eq_true rfl) (Nat.le_of_ble_eq_true rfl)
abbrev rm_X6_room : Room := { frames := 3, cells := 0, slots := 0, locals := 67 }
set_option maxRecDepth 100000 in
set_option maxHeartbeats 4000000 in
theorem tX6_room {l : Launch} {G : zG} (hst : l.stackTraces = false) {h : zH} {a0 : Nat} {r : Int32 × zH} (hf : fX6_room h a0 = some r) : zMet l G yX6_room (.code yX6_room cX6_room 2 (some .int)) rm_X6_room 0 0 [.ref a0] h (zoi r) := by
  unfold fX6_room at hf
  obtain ⟨-, hf⟩ := zck hf
  refine z_enter (by decide) (Nat.le_of_ble_eq_true rfl) hst (fun x hx B hE => ?_)
  subst hx
  have B : zB G x cX6_room 2 RX6 "room" rm_X6_room (some .int) := B
  show zV G x 2 (zQ G x (zoi r) 0 0) h 0 0 0 [(0, .ref a0)] []
  refine z_aload_n B dX6_room_0 rfl 0 rfl ?_
  obtain ⟨w1, ew1, hf⟩ := zbs hf
  refine z_gP B fl_RX6_36 ew1 rfl dX6_room_1 ?_
  obtain ⟨w2, h3, ew2, hf⟩ := zb2s hf
  refine z_callVi B [] [] cw_X3_isFull mv_RX6_333 (tX3_isFull hst ew2) rfl (by decide) (kfX3_isFull ew2) ⟨rfl, rfl, (Nat.le_of_ble_eq_true rfl), (Nat.le_of_ble_eq_true rfl), (Nat.le_of_ble_eq_true rfl), (Nat.le_of_ble_eq_true rfl)⟩ rfl rfl (Nat.le_of_ble_eq_true rfl) dX6_room_4 ?_
  rcases zite hf with ⟨c4, hf⟩ | ⟨c4, hf⟩
  · refine z_if_eq B 12 dX6_room_7 (by decide) (fun _ => ?_) (fun e => absurd c4 e)
    refine z_aload_n B dX6_room_12 rfl 0 rfl ?_
    obtain ⟨w5, ew5, hf⟩ := zbs hf
    refine z_gP B fl_RX6_36 ew5 rfl dX6_room_13 ?_
    obtain ⟨w6, ew6, hf⟩ := zbs hf
    refine z_gI B fl_RX6_109 ew6 rfl dX6_room_16 ?_
    refine z_aload_n B dX6_room_19 rfl 0 rfl ?_
    obtain ⟨w7, ew7, hf⟩ := zbs hf
    refine z_gP B fl_RX6_36 ew7 rfl dX6_room_20 ?_
    refine z_iconst (v := (-1)) B dX6_room_23 (by decide) ?_
    refine z_iconst (v := 1) B dX6_room_24 (by decide) ?_
    obtain ⟨w8, h9, ew8, hf⟩ := zb2s hf
    refine z_callVi B [.int (-1), .int 1] [.int w6] cw_X3_leastSize mv_RX6_252 (tX3_leastSize hst ew8) rfl (by decide) (kfX3_leastSize ew8) ⟨rfl, rfl, (Nat.le_of_ble_eq_true rfl), (Nat.le_of_ble_eq_true rfl), (Nat.le_of_ble_eq_true rfl), (Nat.le_of_ble_eq_true rfl)⟩ rfl rfl (Nat.le_of_ble_eq_true rfl) dX6_room_25 ?_
    refine z_isub B dX6_room_28 ?_
    refine z_istore_n (lv' := [(1, .int ((w6 : Int32) - w8)), (0, .ref a0)]) B dX6_room_29 rfl (by decide) rfl ?_
    refine z_iconst (v := 0) B dX6_room_30 (by decide) ?_
    refine z_iload_n B dX6_room_31 rfl 0 rfl ?_
    refine z_sipush (v := 9999) B dX6_room_32 (by decide) ?_
    refine z_min B mm_RX6_306 kw_min1 kw_m kw_min2 dX6_room_35 (Nat.le_of_ble_eq_true rfl) (Nat.le_of_ble_eq_true rfl) (Nat.le_of_ble_eq_true rfl) (Nat.le_of_ble_eq_true rfl) ?_
    refine z_max B mm_RX6_334 kw_max1 kw_m kw_max2 dX6_room_38 (Nat.le_of_ble_eq_true rfl) (Nat.le_of_ble_eq_true rfl) (Nat.le_of_ble_eq_true rfl) (Nat.le_of_ble_eq_true rfl) ?_
    cases hf
    exact z_iret B dX6_room_41 (Nat.le_of_ble_eq_true rfl) (Nat.le_of_ble_eq_true rfl)
  refine z_if_eq B 12 dX6_room_7 (by decide) (fun e => absurd e c4) (fun _ => ?_)
  refine z_iconst (v := 0) B dX6_room_10 (by decide) ?_
  cases hf
  exact z_iret B dX6_room_11 (Nat.le_of_ble_eq_true rfl) (Nat.le_of_ble_eq_true rfl)
abbrev rm_X3_rankOf : Room := { frames := 2, cells := 0, slots := 0, locals := 40 }
set_option maxRecDepth 100000 in
set_option maxHeartbeats 4000000 in
theorem fX3_rankOf_L4_ok {G : zG} {x : zX} (B : zB G x cX3_rankOf 5 RX3 "rankOf" rm_X3_rankOf (some .int)) (hst : (zl x).stackTraces = false) (hE : ∀ e ∈ (zc x).exceptionTable.toList, False) {r : Int32 × zH} {k : zH → Int32 → Int32 → Option (Int32 × zH)} {u0 : Nat} {u1 : Int32} (hk : ∀ h v2 v3, k h v2 v3 = some r → zV G x 5 (zQ G x (zoi r) 0 0) h 0 0 65 [(0, .ref u0), (1, .int u1), (2, .int v2), (3, .int v3)] []) : ∀ n h v2 v3, fX3_rankOf_L4 k u0 u1 n h v2 v3 = some r → zV G x 5 (zQ G x (zoi r) 0 0) h 0 0 4 [(0, .ref u0), (1, .int u1), (2, .int v2), (3, .int v3)] [] := by
  intro n
  induction n with
  | zero =>
    intro h v2 v3 hf
    have hf : (none : Option (Int32 × zH)) = some r := hf
    cases hf
  | succ n ih =>
    intro h v2 v3 hf
    rw [fX3_rankOf_L4] at hf
    refine z_iload_n B dX3_rankOf_4 rfl 3 rfl ?_
    refine z_aload_n B dX3_rankOf_5 rfl 0 rfl ?_
    obtain ⟨w1, ew1, hf⟩ := zbs hf
    refine z_gI B fl_RX3_22 ew1 rfl dX3_rankOf_6 ?_
    rcases zite hf with ⟨c2, hf⟩ | ⟨c2, hf⟩
    · refine z_icmp_ge B 65 dX3_rankOf_9 (by decide) (fun _ => ?_) (fun e => absurd c2 e)
      exact hk _ _ _ hf
    refine z_icmp_ge B 65 dX3_rankOf_9 (by decide) (fun e => absurd e c2) (fun _ => ?_)
    refine z_aload_n B dX3_rankOf_12 rfl 0 rfl ?_
    obtain ⟨w3, ew3, hf⟩ := zbs hf
    refine z_gP B fl_RX3_11 ew3 rfl dX3_rankOf_13 ?_
    refine z_iload_n B dX3_rankOf_16 rfl 3 rfl ?_
    obtain ⟨w4, ew4, hf⟩ := zbs hf
    refine z_aP B ew4 dX3_rankOf_17 ?_
    refine z_aload_n B dX3_rankOf_18 rfl 0 rfl ?_
    obtain ⟨w5, ew5, hf⟩ := zbs hf
    refine z_gI B fl_RX3_26 ew5 rfl dX3_rankOf_19 ?_
    obtain ⟨w6, h7, ew6, hf⟩ := zb2s hf
    refine z_callVi B [.int w5] [] cw_X1_weight mv_RX3_138 (tX1_weight hst ew6) rfl (by decide) (kfX1_weight ew6) ⟨rfl, rfl, (Nat.le_of_ble_eq_true rfl), (Nat.le_of_ble_eq_true rfl), (Nat.le_of_ble_eq_true rfl), (Nat.le_of_ble_eq_true rfl)⟩ rfl rfl (Nat.le_of_ble_eq_true rfl) dX3_rankOf_22 ?_
    refine z_aload_n B dX3_rankOf_25 rfl 0 rfl ?_
    obtain ⟨w8, ew8, hf⟩ := zbs hf
    refine z_gP B fl_RX3_11 ew8 rfl dX3_rankOf_26 ?_
    refine z_iload_n B dX3_rankOf_29 rfl 1 rfl ?_
    obtain ⟨w9, ew9, hf⟩ := zbs hf
    refine z_aP B ew9 dX3_rankOf_30 ?_
    refine z_aload_n B dX3_rankOf_31 rfl 0 rfl ?_
    obtain ⟨w10, ew10, hf⟩ := zbs hf
    refine z_gI B fl_RX3_26 ew10 rfl dX3_rankOf_32 ?_
    obtain ⟨w11, h12, ew11, hf⟩ := zb2s hf
    refine z_callVi B [.int w10] [.int w6] cw_X1_weight mv_RX3_138 (tX1_weight hst ew11) rfl (by decide) (kfX1_weight ew11) ⟨rfl, rfl, (Nat.le_of_ble_eq_true rfl), (Nat.le_of_ble_eq_true rfl), (Nat.le_of_ble_eq_true rfl), (Nat.le_of_ble_eq_true rfl)⟩ rfl rfl (Nat.le_of_ble_eq_true rfl) dX3_rankOf_35 ?_
    refine z_isub B dX3_rankOf_38 ?_
    refine z_istore (lv' := [(4, .int ((w6 : Int32) - w11)), (0, .ref u0), (1, .int u1), (2, .int v2), (3, .int v3)]) B dX3_rankOf_39 (by decide) rfl ?_
    refine z_iload B dX3_rankOf_41 0 rfl ?_
    rcases zite hf with ⟨c13, hf⟩ | ⟨c13, hf⟩
    · refine z_if_gt B 56 dX3_rankOf_43 (by decide) (fun _ => ?_) (fun e => absurd c13 e)
      refine z_iinc (v' := (v2 + 1)) (lv' := [(2, .int (v2 + 1)), (4, .int ((w6 : Int32) - w11)), (0, .ref u0), (1, .int u1), (3, .int v3)]) B dX3_rankOf_56 3 rfl rfl (by decide) rfl ?_
      refine z_iinc (v' := (v3 + 1)) (lv' := [(3, .int (v3 + 1)), (2, .int (v2 + 1)), (4, .int ((w6 : Int32) - w11)), (0, .ref u0), (1, .int u1)]) B dX3_rankOf_59 4 rfl rfl (by decide) rfl ?_
      refine z_goto B 4 dX3_rankOf_62 (by decide) ?_
      refine zV.sub [3, 4, 1, 0] rfl ?_
      exact ih _ _ _ hf
    refine z_if_gt B 56 dX3_rankOf_43 (by decide) (fun e => absurd e c13) (fun _ => ?_)
    refine z_iload B dX3_rankOf_46 0 rfl ?_
    rcases zite hf with ⟨c14, hf⟩ | ⟨c14, hf⟩
    · refine z_if_ne B 59 dX3_rankOf_48 (by decide) (fun e => absurd c14 e) (fun _ => ?_)
      refine z_iload_n B dX3_rankOf_51 rfl 4 rfl ?_
      refine z_iload_n B dX3_rankOf_52 rfl 2 rfl ?_
      rcases zite hf with ⟨c15, hf⟩ | ⟨c15, hf⟩
      · refine z_icmp_le B 59 dX3_rankOf_53 (by decide) (fun _ => ?_) (fun e => absurd c15 e)
        refine z_iinc (v' := (v3 + 1)) (lv' := [(3, .int (v3 + 1)), (4, .int ((w6 : Int32) - w11)), (0, .ref u0), (1, .int u1), (2, .int v2)]) B dX3_rankOf_59 4 rfl rfl (by decide) rfl ?_
        refine z_goto B 4 dX3_rankOf_62 (by decide) ?_
        refine zV.sub [2, 3, 4, 0] rfl ?_
        exact ih _ _ _ hf
      refine z_icmp_le B 59 dX3_rankOf_53 (by decide) (fun e => absurd e c15) (fun _ => ?_)
      refine z_iinc (v' := (v2 + 1)) (lv' := [(2, .int (v2 + 1)), (4, .int ((w6 : Int32) - w11)), (0, .ref u0), (1, .int u1), (3, .int v3)]) B dX3_rankOf_56 3 rfl rfl (by decide) rfl ?_
      refine z_iinc (v' := (v3 + 1)) (lv' := [(3, .int (v3 + 1)), (2, .int (v2 + 1)), (4, .int ((w6 : Int32) - w11)), (0, .ref u0), (1, .int u1)]) B dX3_rankOf_59 4 rfl rfl (by decide) rfl ?_
      refine z_goto B 4 dX3_rankOf_62 (by decide) ?_
      refine zV.sub [3, 4, 1, 0] rfl ?_
      exact ih _ _ _ hf
    refine z_if_ne B 59 dX3_rankOf_48 (by decide) (fun _ => ?_) (fun e => absurd e c14)
    refine z_iinc (v' := (v3 + 1)) (lv' := [(3, .int (v3 + 1)), (4, .int ((w6 : Int32) - w11)), (0, .ref u0), (1, .int u1), (2, .int v2)]) B dX3_rankOf_59 4 rfl rfl (by decide) rfl ?_
    refine z_goto B 4 dX3_rankOf_62 (by decide) ?_
    refine zV.sub [2, 3, 4, 0] rfl ?_
    exact ih _ _ _ hf
set_option maxRecDepth 100000 in
set_option maxHeartbeats 4000000 in
theorem tX3_rankOf {l : Launch} {G : zG} (hst : l.stackTraces = false) {h : zH} {a0 : Nat} {a1 : Int32} {r : Int32 × zH} (hf : fX3_rankOf h a0 a1 = some r) : zMet l G yX3_rankOf (.code yX3_rankOf cX3_rankOf 5 (some .int)) rm_X3_rankOf 0 0 [.ref a0, .int a1] h (zoi r) := by
  unfold fX3_rankOf at hf
  obtain ⟨-, hf⟩ := zck hf
  refine z_enter (by decide) (Nat.le_of_ble_eq_true rfl) hst (fun x hx B hE => ?_)
  subst hx
  have B : zB G x cX3_rankOf 5 RX3 "rankOf" rm_X3_rankOf (some .int) := B
  show zV G x 5 (zQ G x (zoi r) 0 0) h 0 0 0 [(0, .ref a0), (1, .int a1)] []
  refine z_iconst (v := 0) B dX3_rankOf_0 (by decide) ?_
  refine z_istore_n (lv' := [(2, .int 0), (0, .ref a0), (1, .int a1)]) B dX3_rankOf_1 rfl (by decide) rfl ?_
  refine z_iconst (v := 0) B dX3_rankOf_2 (by decide) ?_
  refine z_istore_n (lv' := [(3, .int 0), (2, .int 0), (0, .ref a0), (1, .int a1)]) B dX3_rankOf_3 rfl (by decide) rfl ?_
  refine zV.sub [2, 3, 1, 0] rfl ?_
  refine fX3_rankOf_L4_ok B hst hE (fun h1 y2 y3 hf => ?_) _ _ _ _ hf
  refine z_iload_n B dX3_rankOf_65 rfl 2 rfl ?_
  cases hf
  exact z_iret B dX3_rankOf_66 (Nat.le_of_ble_eq_true rfl) (Nat.le_of_ble_eq_true rfl)
abbrev rm_X6_ranked : Room := { frames := 6, cells := 1, slots := 6, locals := 82 }
set_option maxRecDepth 100000 in
set_option maxHeartbeats 4000000 in
theorem fX6_ranked_L30_ok {G : zG} {x : zX} (B : zB G x cX6_ranked 4 RX6 "ranked" rm_X6_ranked (some .int)) (hst : (zl x).stackTraces = false) (hE : ∀ e ∈ (zc x).exceptionTable.toList, False) {r : (Int32 ⊕ String) × zH} {k : zH → Int32 → Int32 → Option ((Int32 ⊕ String) × zH)} {u0 : Nat} {u1 : Int32} (hk : ∀ h v2 v3, k h v2 v3 = some r → zV G x 4 (zQ G x (zoxi r) 1 6) h 0 0 61 [(0, .ref u0), (1, .int u1), (2, .int v2), (3, .int v3)] []) : ∀ n h v2 v3, fX6_ranked_L30 k u0 u1 n h v2 v3 = some r → zV G x 4 (zQ G x (zoxi r) 1 6) h 0 0 30 [(0, .ref u0), (1, .int u1), (2, .int v2), (3, .int v3)] [] := by
  intro n
  induction n with
  | zero =>
    intro h v2 v3 hf
    have hf : (none : Option ((Int32 ⊕ String) × zH)) = some r := hf
    cases hf
  | succ n ih =>
    intro h v2 v3 hf
    rw [fX6_ranked_L30] at hf
    refine z_iload_n B dX6_ranked_30 rfl 3 rfl ?_
    refine z_aload_n B dX6_ranked_31 rfl 0 rfl ?_
    obtain ⟨w1, ew1, hf⟩ := zbs hf
    refine z_gP B fl_RX6_36 ew1 rfl dX6_ranked_32 ?_
    obtain ⟨w2, ew2, hf⟩ := zbs hf
    refine z_gI B fl_RX6_106 ew2 rfl dX6_ranked_35 ?_
    rcases zite hf with ⟨c3, hf⟩ | ⟨c3, hf⟩
    · refine z_icmp_ge B 61 dX6_ranked_38 (by decide) (fun _ => ?_) (fun e => absurd c3 e)
      exact hk _ _ _ hf
    refine z_icmp_ge B 61 dX6_ranked_38 (by decide) (fun e => absurd e c3) (fun _ => ?_)
    refine z_aload_n B dX6_ranked_41 rfl 0 rfl ?_
    obtain ⟨w4, ew4, hf⟩ := zbs hf
    refine z_gP B fl_RX6_36 ew4 rfl dX6_ranked_42 ?_
    refine z_iload_n B dX6_ranked_45 rfl 3 rfl ?_
    obtain ⟨w5, h6, ew5, hf⟩ := zb2s hf
    refine z_callVi B [.int v3] [] cw_X3_rankOf mv_RX6_342 (tX3_rankOf hst ew5) rfl (by decide) (kfX3_rankOf ew5) ⟨rfl, rfl, (Nat.le_of_ble_eq_true rfl), (Nat.le_of_ble_eq_true rfl), (Nat.le_of_ble_eq_true rfl), (Nat.le_of_ble_eq_true rfl)⟩ rfl rfl (Nat.le_of_ble_eq_true rfl) dX6_ranked_46 ?_
    refine z_iload_n B dX6_ranked_49 rfl 1 rfl ?_
    rcases zite hf with ⟨c7, hf⟩ | ⟨c7, hf⟩
    · refine z_icmp_ne B 55 dX6_ranked_50 (by decide) (fun e => absurd c7 e) (fun _ => ?_)
      refine z_iload_n B dX6_ranked_53 rfl 3 rfl ?_
      refine z_istore_n (lv' := [(2, .int v3), (0, .ref u0), (1, .int u1), (3, .int v3)]) B dX6_ranked_54 rfl (by decide) rfl ?_
      refine z_iinc (v' := (v3 + 1)) (lv' := [(3, .int (v3 + 1)), (2, .int v3), (0, .ref u0), (1, .int u1)]) B dX6_ranked_55 3 rfl rfl (by decide) rfl ?_
      refine z_goto B 30 dX6_ranked_58 (by decide) ?_
      refine zV.sub [2, 3, 1, 0] rfl ?_
      exact ih _ _ _ hf
    refine z_icmp_ne B 55 dX6_ranked_50 (by decide) (fun _ => ?_) (fun e => absurd e c7)
    refine z_iinc (v' := (v3 + 1)) (lv' := [(3, .int (v3 + 1)), (0, .ref u0), (1, .int u1), (2, .int v2)]) B dX6_ranked_55 3 rfl rfl (by decide) rfl ?_
    refine z_goto B 30 dX6_ranked_58 (by decide) ?_
    refine zV.sub [1, 2, 3, 0] rfl ?_
    exact ih _ _ _ hf
set_option maxRecDepth 100000 in
set_option maxHeartbeats 4000000 in
theorem tX6_ranked {l : Launch} {G : zG} (hst : l.stackTraces = false) {h : zH} {a0 : Nat} {a1 : Int32} {r : (Int32 ⊕ String) × zH} (hf : fX6_ranked h a0 a1 = some r) : zMet l G yX6_ranked (.code yX6_ranked cX6_ranked 4 (some .int)) rm_X6_ranked 1 6 [.ref a0, .int a1] h (zoxi r) := by
  unfold fX6_ranked at hf
  obtain ⟨-, hf⟩ := zck hf
  refine z_enter (by decide) (Nat.le_of_ble_eq_true rfl) hst (fun x hx B hE => ?_)
  subst hx
  have B : zB G x cX6_ranked 4 RX6 "ranked" rm_X6_ranked (some .int) := B
  show zV G x 4 (zQ G x (zoxi r) 1 6) h 0 0 0 [(0, .ref a0), (1, .int a1)] []
  refine z_iload_n B dX6_ranked_0 rfl 1 rfl ?_
  rcases zite hf with ⟨c1, hf⟩ | ⟨c1, hf⟩
  · refine z_if_lt B 15 dX6_ranked_1 (by decide) (fun _ => ?_) (fun e => absurd c1 e)
    cases hf
    exact z_throwW B hE rfl th_RX6_337_341 sl_339 dX6_ranked_15 dX6_ranked_18 dX6_ranked_19 dX6_ranked_22 dX6_ranked_25 (Nat.le_of_ble_eq_true rfl) (Nat.le_of_ble_eq_true rfl) (Nat.le_of_ble_eq_true rfl) (Nat.le_of_ble_eq_true rfl) (Nat.le_of_ble_eq_true rfl) (Nat.le_of_ble_eq_true rfl)
  refine z_if_lt B 15 dX6_ranked_1 (by decide) (fun e => absurd e c1) (fun _ => ?_)
  refine z_iload_n B dX6_ranked_4 rfl 1 rfl ?_
  refine z_aload_n B dX6_ranked_5 rfl 0 rfl ?_
  obtain ⟨w2, ew2, hf⟩ := zbs hf
  refine z_gP B fl_RX6_36 ew2 rfl dX6_ranked_6 ?_
  obtain ⟨w3, ew3, hf⟩ := zbs hf
  refine z_gI B fl_RX6_106 ew3 rfl dX6_ranked_9 ?_
  rcases zite hf with ⟨c4, hf⟩ | ⟨c4, hf⟩
  · refine z_icmp_lt B 26 dX6_ranked_12 (by decide) (fun _ => ?_) (fun e => absurd c4 e)
    refine z_iconst (v := 0) B dX6_ranked_26 (by decide) ?_
    refine z_istore_n (lv' := [(2, .int 0), (0, .ref a0), (1, .int a1)]) B dX6_ranked_27 rfl (by decide) rfl ?_
    refine z_iconst (v := 0) B dX6_ranked_28 (by decide) ?_
    refine z_istore_n (lv' := [(3, .int 0), (2, .int 0), (0, .ref a0), (1, .int a1)]) B dX6_ranked_29 rfl (by decide) rfl ?_
    refine zV.sub [2, 3, 1, 0] rfl ?_
    refine fX6_ranked_L30_ok B hst hE (fun h5 y6 y7 hf => ?_) _ _ _ _ hf
    refine z_iload_n B dX6_ranked_61 rfl 2 rfl ?_
    cases hf
    exact z_iret B dX6_ranked_62 (Nat.le_of_ble_eq_true rfl) (Nat.le_of_ble_eq_true rfl)
  refine z_icmp_lt B 26 dX6_ranked_12 (by decide) (fun e => absurd e c4) (fun _ => ?_)
  cases hf
  exact z_throwW B hE rfl th_RX6_337_341 sl_339 dX6_ranked_15 dX6_ranked_18 dX6_ranked_19 dX6_ranked_22 dX6_ranked_25 (Nat.le_of_ble_eq_true rfl) (Nat.le_of_ble_eq_true rfl) (Nat.le_of_ble_eq_true rfl) (Nat.le_of_ble_eq_true rfl) (Nat.le_of_ble_eq_true rfl) (Nat.le_of_ble_eq_true rfl)
abbrev rm_X6_scriptRange : Room := { frames := 0, cells := 0, slots := 0, locals := 0 }
set_option maxRecDepth 100000 in
set_option maxHeartbeats 4000000 in
theorem fX6_scriptRange_L4_ok {G : zG} {x : zX} (B : zB G x cX6_scriptRange 4 RX6 "scriptRange" rm_X6_scriptRange (some .long)) (hst : (zl x).stackTraces = false) (hE : ∀ e ∈ (zc x).exceptionTable.toList, False) {r : Int64 × zH} {k : zH → Int64 → Int32 → Option (Int64 × zH)} {u0 : Int32} (hk : ∀ h v1 v3, k h v1 v3 = some r → zV G x 4 (zQ G x (zol r) 0 0) h 0 0 21 [(0, .int u0), (1, .long v1), (3, .int v3)] []) : ∀ n h v1 v3, fX6_scriptRange_L4 k u0 n h v1 v3 = some r → zV G x 4 (zQ G x (zol r) 0 0) h 0 0 4 [(0, .int u0), (1, .long v1), (3, .int v3)] [] := by
  intro n
  induction n with
  | zero =>
    intro h v1 v3 hf
    have hf : (none : Option (Int64 × zH)) = some r := hf
    cases hf
  | succ n ih =>
    intro h v1 v3 hf
    rw [fX6_scriptRange_L4] at hf
    refine z_iload_n B dX6_scriptRange_4 rfl 2 rfl ?_
    refine z_iload_n B dX6_scriptRange_5 rfl 0 rfl ?_
    rcases zite hf with ⟨c1, hf⟩ | ⟨c1, hf⟩
    · refine z_icmp_ge B 21 dX6_scriptRange_6 (by decide) (fun _ => ?_) (fun e => absurd c1 e)
      exact hk _ _ _ hf
    refine z_icmp_ge B 21 dX6_scriptRange_6 (by decide) (fun e => absurd e c1) (fun _ => ?_)
    refine z_lload_n B dX6_scriptRange_9 rfl 1 rfl ?_
    refine z_ldc2 B dX6_scriptRange_10 kl_RX6_408 ?_
    refine z_lmul B dX6_scriptRange_13 ?_
    refine z_lstore_n (lv' := [(1, .long ((v1 : Int64) * 1000000)), (0, .int u0), (3, .int v3)]) B dX6_scriptRange_14 rfl (by decide) rfl ?_
    refine z_iinc (v' := (v3 + 1)) (lv' := [(3, .int (v3 + 1)), (1, .long ((v1 : Int64) * 1000000)), (0, .int u0)]) B dX6_scriptRange_15 2 rfl rfl (by decide) rfl ?_
    refine z_goto B 4 dX6_scriptRange_18 (by decide) ?_
    refine zV.sub [2, 1, 0] rfl ?_
    exact ih _ _ _ hf
set_option maxRecDepth 100000 in
set_option maxHeartbeats 4000000 in
theorem tX6_scriptRange {l : Launch} {G : zG} (hst : l.stackTraces = false) {h : zH} {a0 : Int32} {r : Int64 × zH} (hf : fX6_scriptRange h a0 = some r) : zMet l G yX6_scriptRange (.code yX6_scriptRange cX6_scriptRange 4 (some .long)) rm_X6_scriptRange 0 0 [.int a0] h (zol r) := by
  unfold fX6_scriptRange at hf
  refine z_enter (by decide) (Nat.le_of_ble_eq_true rfl) hst (fun x hx B hE => ?_)
  subst hx
  have B : zB G x cX6_scriptRange 4 RX6 "scriptRange" rm_X6_scriptRange (some .long) := B
  show zV G x 4 (zQ G x (zol r) 0 0) h 0 0 0 [(0, .int a0)] []
  refine z_lconst (v := 1) B dX6_scriptRange_0 (by decide) ?_
  refine z_lstore_n (lv' := [(1, .long 1), (0, .int a0)]) B dX6_scriptRange_1 rfl (by decide) rfl ?_
  refine z_iconst (v := 0) B dX6_scriptRange_2 (by decide) ?_
  refine z_istore_n (lv' := [(3, .int 0), (1, .long 1), (0, .int a0)]) B dX6_scriptRange_3 rfl (by decide) rfl ?_
  refine zV.sub [2, 1, 0] rfl ?_
  refine fX6_scriptRange_L4_ok B hst hE (fun h1 y2 y3 hf => ?_) _ _ _ _ hf
  refine z_lload_n B dX6_scriptRange_21 rfl 1 rfl ?_
  cases hf
  exact z_lret B dX6_scriptRange_22 (Nat.le_of_ble_eq_true rfl) (Nat.le_of_ble_eq_true rfl)
abbrev rm_X6_commandAt : Room := { frames := 0, cells := 0, slots := 0, locals := 0 }
set_option maxRecDepth 100000 in
set_option maxHeartbeats 4000000 in
theorem fX6_commandAt_L5_ok {G : zG} {x : zX} (B : zB G x cX6_commandAt 6 RX6 "commandAt" rm_X6_commandAt (some .int)) (hst : (zl x).stackTraces = false) (hE : ∀ e ∈ (zc x).exceptionTable.toList, False) {r : Int32 × zH} {k : zH → Int64 → Int32 → Option (Int32 × zH)} {u0 : Int64} {u2 : Int32} (hk : ∀ h v3 v5, k h v3 v5 = some r → zV G x 6 (zQ G x (zoi r) 0 0) h 0 0 23 [(0, .long u0), (2, .int u2), (3, .long v3), (5, .int v5)] []) : ∀ n h v3 v5, fX6_commandAt_L5 k u0 u2 n h v3 v5 = some r → zV G x 6 (zQ G x (zoi r) 0 0) h 0 0 5 [(0, .long u0), (2, .int u2), (3, .long v3), (5, .int v5)] [] := by
  intro n
  induction n with
  | zero =>
    intro h v3 v5 hf
    have hf : (none : Option (Int32 × zH)) = some r := hf
    cases hf
  | succ n ih =>
    intro h v3 v5 hf
    rw [fX6_commandAt_L5] at hf
    refine z_iload B dX6_commandAt_5 3 rfl ?_
    refine z_iload_n B dX6_commandAt_7 rfl 1 rfl ?_
    rcases zite hf with ⟨c1, hf⟩ | ⟨c1, hf⟩
    · refine z_icmp_ge B 23 dX6_commandAt_8 (by decide) (fun _ => ?_) (fun e => absurd c1 e)
      exact hk _ _ _ hf
    refine z_icmp_ge B 23 dX6_commandAt_8 (by decide) (fun e => absurd e c1) (fun _ => ?_)
    refine z_lload_n B dX6_commandAt_11 rfl 2 rfl ?_
    refine z_ldc2 B dX6_commandAt_12 kl_RX6_408 ?_
    refine z_ldiv B dX6_commandAt_15 (by decide) ?_
    refine z_lstore_n (lv' := [(3, .long ((v3 : Int64) / 1000000)), (0, .long u0), (2, .int u2), (5, .int v5)]) B dX6_commandAt_16 rfl (by decide) rfl ?_
    refine z_iinc (v' := (v5 + 1)) (lv' := [(5, .int (v5 + 1)), (3, .long ((v3 : Int64) / 1000000)), (0, .long u0), (2, .int u2)]) B dX6_commandAt_17 3 rfl rfl (by decide) rfl ?_
    refine z_goto B 5 dX6_commandAt_20 (by decide) ?_
    refine zV.sub [2, 3, 1, 0] rfl ?_
    exact ih _ _ _ hf
set_option maxRecDepth 100000 in
set_option maxHeartbeats 4000000 in
theorem tX6_commandAt {l : Launch} {G : zG} (hst : l.stackTraces = false) {h : zH} {a0 : Int64} {a2 : Int32} {r : Int32 × zH} (hf : fX6_commandAt h a0 a2 = some r) : zMet l G yX6_commandAt (.code yX6_commandAt cX6_commandAt 6 (some .int)) rm_X6_commandAt 0 0 [.long a0, .int a2] h (zoi r) := by
  unfold fX6_commandAt at hf
  refine z_enter (by decide) (Nat.le_of_ble_eq_true rfl) hst (fun x hx B hE => ?_)
  subst hx
  have B : zB G x cX6_commandAt 6 RX6 "commandAt" rm_X6_commandAt (some .int) := B
  show zV G x 6 (zQ G x (zoi r) 0 0) h 0 0 0 [(0, .long a0), (2, .int a2)] []
  refine z_lload_n B dX6_commandAt_0 rfl 0 rfl ?_
  refine z_lstore_n (lv' := [(3, .long a0), (0, .long a0), (2, .int a2)]) B dX6_commandAt_1 rfl (by decide) rfl ?_
  refine z_iconst (v := 0) B dX6_commandAt_2 (by decide) ?_
  refine z_istore (lv' := [(5, .int 0), (3, .long a0), (0, .long a0), (2, .int a2)]) B dX6_commandAt_3 (by decide) rfl ?_
  refine zV.sub [2, 3, 1, 0] rfl ?_
  refine fX6_commandAt_L5_ok B hst hE (fun h1 y2 y3 hf => ?_) _ _ _ _ hf
  refine z_lload_n B dX6_commandAt_23 rfl 2 rfl ?_
  refine z_ldc2 B dX6_commandAt_24 kl_RX6_408 ?_
  refine z_lrem B dX6_commandAt_27 (by decide) ?_
  refine z_l2i B dX6_commandAt_28 ?_
  cases hf
  exact z_iret B dX6_commandAt_29 (Nat.le_of_ble_eq_true rfl) (Nat.le_of_ble_eq_true rfl)
abbrev rm_X6_tryCopy : Room := { frames := 5, cells := 0, slots := 0, locals := 113 }
set_option maxRecDepth 100000 in
set_option maxHeartbeats 4000000 in
theorem tX6_tryCopy {l : Launch} {G : zG} (hst : l.stackTraces = false) {h : zH} {a0 : Nat} {a1 : Int32} {a2 : Int32} {r : Int32 × zH} (hf : fX6_tryCopy h a0 a1 a2 = some r) : zMet l G yX6_tryCopy (.code yX6_tryCopy cX6_tryCopy 3 (some .boolean)) rm_X6_tryCopy 0 0 [.ref a0, .int a1, .int a2] h (zoi r) := by
  unfold fX6_tryCopy at hf
  obtain ⟨-, hf⟩ := zck hf
  refine z_enter (by decide) (Nat.le_of_ble_eq_true rfl) hst (fun x hx B hE => ?_)
  subst hx
  have B : zB G x cX6_tryCopy 3 RX6 "tryCopy" rm_X6_tryCopy (some .boolean) := B
  show zV G x 3 (zQ G x (zoi r) 0 0) h 0 0 0 [(0, .ref a0), (1, .int a1), (2, .int a2)] []
  refine z_aload_n B dX6_tryCopy_0 rfl 0 rfl ?_
  obtain ⟨w1, ew1, hf⟩ := zbs hf
  refine z_gP B fl_RX6_57 ew1 rfl dX6_tryCopy_1 ?_
  refine z_iload_n B dX6_tryCopy_4 rfl 1 rfl ?_
  obtain ⟨w2, h3, ew2, hf⟩ := zb2s hf
  refine z_callVi B [.int a1] [] cw_X0_hasFormat mv_RX6_384 (tX0_hasFormat hst ew2) rfl (by decide) (kfX0_hasFormat ew2) ⟨rfl, rfl, (Nat.le_of_ble_eq_true rfl), (Nat.le_of_ble_eq_true rfl), (Nat.le_of_ble_eq_true rfl), (Nat.le_of_ble_eq_true rfl)⟩ rfl rfl (Nat.le_of_ble_eq_true rfl) dX6_tryCopy_5 ?_
  rcases zite hf with ⟨c4, hf⟩ | ⟨c4, hf⟩
  · refine z_if_eq B 29 dX6_tryCopy_8 (by decide) (fun _ => ?_) (fun e => absurd c4 e)
    refine z_iconst (v := 0) B dX6_tryCopy_29 (by decide) ?_
    cases hf
    exact z_zret B dX6_tryCopy_30 (Or.inl rfl) (Nat.le_of_ble_eq_true rfl) (Nat.le_of_ble_eq_true rfl)
  refine z_if_eq B 29 dX6_tryCopy_8 (by decide) (fun e => absurd e c4) (fun _ => ?_)
  refine z_iload_n B dX6_tryCopy_11 rfl 2 rfl ?_
  obtain ⟨w5, h6, ew5, hf⟩ := zb2s hf
  refine z_callSi B [.int a2] [] cw_X6_isNewSize mt_RX6_403 (tX6_isNewSize hst ew5) ⟨rfl, rfl, (Nat.le_of_ble_eq_true rfl), (Nat.le_of_ble_eq_true rfl), (Nat.le_of_ble_eq_true rfl), (Nat.le_of_ble_eq_true rfl)⟩ rfl rfl (Nat.le_of_ble_eq_true rfl) dX6_tryCopy_12 ?_
  rcases zite hf with ⟨c7, hf⟩ | ⟨c7, hf⟩
  · refine z_if_eq B 29 dX6_tryCopy_15 (by decide) (fun _ => ?_) (fun e => absurd c7 e)
    refine z_iconst (v := 0) B dX6_tryCopy_29 (by decide) ?_
    cases hf
    exact z_zret B dX6_tryCopy_30 (Or.inl rfl) (Nat.le_of_ble_eq_true rfl) (Nat.le_of_ble_eq_true rfl)
  refine z_if_eq B 29 dX6_tryCopy_15 (by decide) (fun e => absurd e c7) (fun _ => ?_)
  refine z_aload_n B dX6_tryCopy_18 rfl 0 rfl ?_
  obtain ⟨w8, ew8, hf⟩ := zbs hf
  refine z_gP B fl_RX6_40 ew8 rfl dX6_tryCopy_19 ?_
  refine z_iload_n B dX6_tryCopy_22 rfl 2 rfl ?_
  obtain ⟨w9, h10, ew9, hf⟩ := zb2s hf
  refine z_callVi B [.int a2] [] cw_X3_canAddEntry mv_RX6_206 (tX3_canAddEntry hst ew9) rfl (by decide) (kfX3_canAddEntry ew9) ⟨rfl, rfl, (Nat.le_of_ble_eq_true rfl), (Nat.le_of_ble_eq_true rfl), (Nat.le_of_ble_eq_true rfl), (Nat.le_of_ble_eq_true rfl)⟩ rfl rfl (Nat.le_of_ble_eq_true rfl) dX6_tryCopy_23 ?_
  rcases zite hf with ⟨c11, hf⟩ | ⟨c11, hf⟩
  · refine z_if_ne B 31 dX6_tryCopy_26 (by decide) (fun e => absurd c11 e) (fun _ => ?_)
    refine z_iconst (v := 0) B dX6_tryCopy_29 (by decide) ?_
    cases hf
    exact z_zret B dX6_tryCopy_30 (Or.inl rfl) (Nat.le_of_ble_eq_true rfl) (Nat.le_of_ble_eq_true rfl)
  refine z_if_ne B 31 dX6_tryCopy_26 (by decide) (fun _ => ?_) (fun e => absurd e c11)
  refine z_aload_n B dX6_tryCopy_31 rfl 0 rfl ?_
  obtain ⟨w12, ew12, hf⟩ := zbs hf
  refine z_gP B fl_RX6_40 ew12 rfl dX6_tryCopy_32 ?_
  refine z_iload_n B dX6_tryCopy_35 rfl 1 rfl ?_
  refine z_iload_n B dX6_tryCopy_36 rfl 2 rfl ?_
  obtain ⟨h13, eh13, hf⟩ := zbs hf
  refine z_callVv B [.int a1, .int a2] [] cw_X3_addEntry mv_RX6_214 (tX3_addEntry hst eh13) rfl (by decide) (kfX3_addEntry eh13) ⟨rfl, rfl, (Nat.le_of_ble_eq_true rfl), (Nat.le_of_ble_eq_true rfl), (Nat.le_of_ble_eq_true rfl), (Nat.le_of_ble_eq_true rfl)⟩ rfl rfl (Nat.le_of_ble_eq_true rfl) dX6_tryCopy_37 ?_
  refine z_iconst (v := 1) B dX6_tryCopy_40 (by decide) ?_
  cases hf
  exact z_zret B dX6_tryCopy_41 (Or.inr rfl) (Nat.le_of_ble_eq_true rfl) (Nat.le_of_ble_eq_true rfl)
abbrev rm_X6_tryOffer : Room := { frames := 5, cells := 0, slots := 0, locals := 113 }
set_option maxRecDepth 100000 in
set_option maxHeartbeats 4000000 in
theorem tX6_tryOffer {l : Launch} {G : zG} (hst : l.stackTraces = false) {h : zH} {a0 : Nat} {a1 : Int32} {a2 : Int32} {r : Int32 × zH} (hf : fX6_tryOffer h a0 a1 a2 = some r) : zMet l G yX6_tryOffer (.code yX6_tryOffer cX6_tryOffer 3 (some .boolean)) rm_X6_tryOffer 0 0 [.ref a0, .int a1, .int a2] h (zoi r) := by
  unfold fX6_tryOffer at hf
  obtain ⟨-, hf⟩ := zck hf
  refine z_enter (by decide) (Nat.le_of_ble_eq_true rfl) hst (fun x hx B hE => ?_)
  subst hx
  have B : zB G x cX6_tryOffer 3 RX6 "tryOffer" rm_X6_tryOffer (some .boolean) := B
  show zV G x 3 (zQ G x (zoi r) 0 0) h 0 0 0 [(0, .ref a0), (1, .int a1), (2, .int a2)] []
  refine z_aload_n B dX6_tryOffer_0 rfl 0 rfl ?_
  obtain ⟨w1, ew1, hf⟩ := zbs hf
  refine z_gP B fl_RX6_57 ew1 rfl dX6_tryOffer_1 ?_
  refine z_iload_n B dX6_tryOffer_4 rfl 1 rfl ?_
  obtain ⟨w2, h3, ew2, hf⟩ := zb2s hf
  refine z_callVi B [.int a1] [] cw_X0_hasFormat mv_RX6_384 (tX0_hasFormat hst ew2) rfl (by decide) (kfX0_hasFormat ew2) ⟨rfl, rfl, (Nat.le_of_ble_eq_true rfl), (Nat.le_of_ble_eq_true rfl), (Nat.le_of_ble_eq_true rfl), (Nat.le_of_ble_eq_true rfl)⟩ rfl rfl (Nat.le_of_ble_eq_true rfl) dX6_tryOffer_5 ?_
  rcases zite hf with ⟨c4, hf⟩ | ⟨c4, hf⟩
  · refine z_if_eq B 30 dX6_tryOffer_8 (by decide) (fun _ => ?_) (fun e => absurd c4 e)
    refine z_iconst (v := 0) B dX6_tryOffer_30 (by decide) ?_
    cases hf
    exact z_zret B dX6_tryOffer_31 (Or.inl rfl) (Nat.le_of_ble_eq_true rfl) (Nat.le_of_ble_eq_true rfl)
  refine z_if_eq B 30 dX6_tryOffer_8 (by decide) (fun e => absurd e c4) (fun _ => ?_)
  refine z_iload_n B dX6_tryOffer_11 rfl 2 rfl ?_
  obtain ⟨w5, h6, ew5, hf⟩ := zb2s hf
  refine z_callSi B [.int a2] [] cw_X6_isNewSize mt_RX6_403 (tX6_isNewSize hst ew5) ⟨rfl, rfl, (Nat.le_of_ble_eq_true rfl), (Nat.le_of_ble_eq_true rfl), (Nat.le_of_ble_eq_true rfl), (Nat.le_of_ble_eq_true rfl)⟩ rfl rfl (Nat.le_of_ble_eq_true rfl) dX6_tryOffer_12 ?_
  rcases zite hf with ⟨c7, hf⟩ | ⟨c7, hf⟩
  · refine z_if_eq B 30 dX6_tryOffer_15 (by decide) (fun _ => ?_) (fun e => absurd c7 e)
    refine z_iconst (v := 0) B dX6_tryOffer_30 (by decide) ?_
    cases hf
    exact z_zret B dX6_tryOffer_31 (Or.inl rfl) (Nat.le_of_ble_eq_true rfl) (Nat.le_of_ble_eq_true rfl)
  refine z_if_eq B 30 dX6_tryOffer_15 (by decide) (fun e => absurd e c7) (fun _ => ?_)
  refine z_aload_n B dX6_tryOffer_18 rfl 0 rfl ?_
  obtain ⟨w8, ew8, hf⟩ := zbs hf
  refine z_gP B fl_RX6_40 ew8 rfl dX6_tryOffer_19 ?_
  refine z_iload_n B dX6_tryOffer_22 rfl 1 rfl ?_
  refine z_iload_n B dX6_tryOffer_23 rfl 2 rfl ?_
  obtain ⟨w9, h10, ew9, hf⟩ := zb2s hf
  refine z_callVi B [.int a1, .int a2] [] cw_X3_canAddForm mv_RX6_218 (tX3_canAddForm hst ew9) rfl (by decide) (kfX3_canAddForm ew9) ⟨rfl, rfl, (Nat.le_of_ble_eq_true rfl), (Nat.le_of_ble_eq_true rfl), (Nat.le_of_ble_eq_true rfl), (Nat.le_of_ble_eq_true rfl)⟩ rfl rfl (Nat.le_of_ble_eq_true rfl) dX6_tryOffer_24 ?_
  rcases zite hf with ⟨c11, hf⟩ | ⟨c11, hf⟩
  · refine z_if_ne B 32 dX6_tryOffer_27 (by decide) (fun e => absurd c11 e) (fun _ => ?_)
    refine z_iconst (v := 0) B dX6_tryOffer_30 (by decide) ?_
    cases hf
    exact z_zret B dX6_tryOffer_31 (Or.inl rfl) (Nat.le_of_ble_eq_true rfl) (Nat.le_of_ble_eq_true rfl)
  refine z_if_ne B 32 dX6_tryOffer_27 (by decide) (fun _ => ?_) (fun e => absurd e c11)
  refine z_aload_n B dX6_tryOffer_32 rfl 0 rfl ?_
  obtain ⟨w12, ew12, hf⟩ := zbs hf
  refine z_gP B fl_RX6_40 ew12 rfl dX6_tryOffer_33 ?_
  refine z_iload_n B dX6_tryOffer_36 rfl 1 rfl ?_
  refine z_iload_n B dX6_tryOffer_37 rfl 2 rfl ?_
  obtain ⟨h13, eh13, hf⟩ := zbs hf
  refine z_callVv B [.int a1, .int a2] [] cw_X3_addForm mv_RX6_224 (tX3_addForm hst eh13) rfl (by decide) (kfX3_addForm eh13) ⟨rfl, rfl, (Nat.le_of_ble_eq_true rfl), (Nat.le_of_ble_eq_true rfl), (Nat.le_of_ble_eq_true rfl), (Nat.le_of_ble_eq_true rfl)⟩ rfl rfl (Nat.le_of_ble_eq_true rfl) dX6_tryOffer_38 ?_
  refine z_iconst (v := 1) B dX6_tryOffer_41 (by decide) ?_
  cases hf
  exact z_zret B dX6_tryOffer_42 (Or.inr rfl) (Nat.le_of_ble_eq_true rfl) (Nat.le_of_ble_eq_true rfl)
abbrev rm_X6_tryPaste : Room := { frames := 5, cells := 0, slots := 0, locals := 114 }
set_option maxRecDepth 100000 in
set_option maxHeartbeats 4000000 in
theorem tX6_tryPaste {l : Launch} {G : zG} (hst : l.stackTraces = false) {h : zH} {a0 : Nat} {a1 : Int32} {a2 : Int32} {r : Int32 × zH} (hf : fX6_tryPaste h a0 a1 a2 = some r) : zMet l G yX6_tryPaste (.code yX6_tryPaste cX6_tryPaste 3 (some .boolean)) rm_X6_tryPaste 0 0 [.ref a0, .int a1, .int a2] h (zoi r) := by
  unfold fX6_tryPaste at hf
  obtain ⟨-, hf⟩ := zck hf
  refine z_enter (by decide) (Nat.le_of_ble_eq_true rfl) hst (fun x hx B hE => ?_)
  subst hx
  have B : zB G x cX6_tryPaste 3 RX6 "tryPaste" rm_X6_tryPaste (some .boolean) := B
  show zV G x 3 (zQ G x (zoi r) 0 0) h 0 0 0 [(0, .ref a0), (1, .int a1), (2, .int a2)] []
  refine z_aload_n B dX6_tryPaste_0 rfl 0 rfl ?_
  obtain ⟨w1, ew1, hf⟩ := zbs hf
  refine z_gP B fl_RX6_40 ew1 rfl dX6_tryPaste_1 ?_
  refine z_iload_n B dX6_tryPaste_4 rfl 1 rfl ?_
  obtain ⟨w2, h3, ew2, hf⟩ := zb2s hf
  refine z_callVi B [.int a1] [] cw_X3_hasEntry mv_RX6_396 (tX3_hasEntry hst ew2) rfl (by decide) (kfX3_hasEntry ew2) ⟨rfl, rfl, (Nat.le_of_ble_eq_true rfl), (Nat.le_of_ble_eq_true rfl), (Nat.le_of_ble_eq_true rfl), (Nat.le_of_ble_eq_true rfl)⟩ rfl rfl (Nat.le_of_ble_eq_true rfl) dX6_tryPaste_5 ?_
  rcases zite hf with ⟨c4, hf⟩ | ⟨c4, hf⟩
  · refine z_if_eq B 35 dX6_tryPaste_8 (by decide) (fun _ => ?_) (fun e => absurd c4 e)
    refine z_iconst (v := 0) B dX6_tryPaste_35 (by decide) ?_
    cases hf
    exact z_zret B dX6_tryPaste_36 (Or.inl rfl) (Nat.le_of_ble_eq_true rfl) (Nat.le_of_ble_eq_true rfl)
  refine z_if_eq B 35 dX6_tryPaste_8 (by decide) (fun e => absurd e c4) (fun _ => ?_)
  refine z_aload_n B dX6_tryPaste_11 rfl 0 rfl ?_
  obtain ⟨w5, ew5, hf⟩ := zbs hf
  refine z_gP B fl_RX6_57 ew5 rfl dX6_tryPaste_12 ?_
  refine z_iload_n B dX6_tryPaste_15 rfl 2 rfl ?_
  obtain ⟨w6, h7, ew6, hf⟩ := zb2s hf
  refine z_callVi B [.int a2] [] cw_X0_hasPlace mv_RX6_391 (tX0_hasPlace hst ew6) rfl (by decide) (kfX0_hasPlace ew6) ⟨rfl, rfl, (Nat.le_of_ble_eq_true rfl), (Nat.le_of_ble_eq_true rfl), (Nat.le_of_ble_eq_true rfl), (Nat.le_of_ble_eq_true rfl)⟩ rfl rfl (Nat.le_of_ble_eq_true rfl) dX6_tryPaste_16 ?_
  rcases zite hf with ⟨c8, hf⟩ | ⟨c8, hf⟩
  · refine z_if_eq B 35 dX6_tryPaste_19 (by decide) (fun _ => ?_) (fun e => absurd c8 e)
    refine z_iconst (v := 0) B dX6_tryPaste_35 (by decide) ?_
    cases hf
    exact z_zret B dX6_tryPaste_36 (Or.inl rfl) (Nat.le_of_ble_eq_true rfl) (Nat.le_of_ble_eq_true rfl)
  refine z_if_eq B 35 dX6_tryPaste_19 (by decide) (fun e => absurd e c8) (fun _ => ?_)
  refine z_aload_n B dX6_tryPaste_22 rfl 0 rfl ?_
  refine z_aload_n B dX6_tryPaste_23 rfl 0 rfl ?_
  obtain ⟨w9, ew9, hf⟩ := zbs hf
  refine z_gP B fl_RX6_40 ew9 rfl dX6_tryPaste_24 ?_
  refine z_iload_n B dX6_tryPaste_27 rfl 1 rfl ?_
  refine z_iload_n B dX6_tryPaste_28 rfl 2 rfl ?_
  obtain ⟨w10, h11, ew10, hf⟩ := zb2s hf
  refine z_callVi B [.ref w9, .int a1, .int a2] [] cw_X6_findWay mv_RX6_227 (tX6_findWay hst ew10) rfl (by decide) (kfX6_findWay ew10) ⟨rfl, rfl, (Nat.le_of_ble_eq_true rfl), (Nat.le_of_ble_eq_true rfl), (Nat.le_of_ble_eq_true rfl), (Nat.le_of_ble_eq_true rfl)⟩ rfl rfl (Nat.le_of_ble_eq_true rfl) dX6_tryPaste_29 ?_
  rcases zite hf with ⟨c12, hf⟩ | ⟨c12, hf⟩
  · refine z_if_ne B 37 dX6_tryPaste_32 (by decide) (fun e => absurd c12 e) (fun _ => ?_)
    refine z_iconst (v := 0) B dX6_tryPaste_35 (by decide) ?_
    cases hf
    exact z_zret B dX6_tryPaste_36 (Or.inl rfl) (Nat.le_of_ble_eq_true rfl) (Nat.le_of_ble_eq_true rfl)
  refine z_if_ne B 37 dX6_tryPaste_32 (by decide) (fun _ => ?_) (fun e => absurd e c12)
  refine z_aload_n B dX6_tryPaste_37 rfl 0 rfl ?_
  obtain ⟨w13, ew13, hf⟩ := zbs hf
  refine z_gP B fl_RX6_40 ew13 rfl dX6_tryPaste_38 ?_
  refine z_iload_n B dX6_tryPaste_41 rfl 1 rfl ?_
  refine z_aload_n B dX6_tryPaste_42 rfl 0 rfl ?_
  obtain ⟨w14, ew14, hf⟩ := zbs hf
  refine z_gP B fl_RX6_29 ew14 rfl dX6_tryPaste_43 ?_
  obtain ⟨h15, eh15, hf⟩ := zbs hf
  refine z_callVv B [.int a1, .ref w14] [] cw_X3_useEntry mv_RX6_233 (tX3_useEntry hst eh15) rfl (by decide) (kfX3_useEntry eh15) ⟨rfl, rfl, (Nat.le_of_ble_eq_true rfl), (Nat.le_of_ble_eq_true rfl), (Nat.le_of_ble_eq_true rfl), (Nat.le_of_ble_eq_true rfl)⟩ rfl rfl (Nat.le_of_ble_eq_true rfl) dX6_tryPaste_46 ?_
  refine z_iconst (v := 1) B dX6_tryPaste_49 (by decide) ?_
  cases hf
  exact z_zret B dX6_tryPaste_50 (Or.inr rfl) (Nat.le_of_ble_eq_true rfl) (Nat.le_of_ble_eq_true rfl)
abbrev rm_X6_tryTogglePin : Room := { frames := 2, cells := 0, slots := 0, locals := 42 }
set_option maxRecDepth 100000 in
set_option maxHeartbeats 4000000 in
theorem tX6_tryTogglePin {l : Launch} {G : zG} (hst : l.stackTraces = false) {h : zH} {a0 : Nat} {a1 : Int32} {r : Int32 × zH} (hf : fX6_tryTogglePin h a0 a1 = some r) : zMet l G yX6_tryTogglePin (.code yX6_tryTogglePin cX6_tryTogglePin 2 (some .boolean)) rm_X6_tryTogglePin 0 0 [.ref a0, .int a1] h (zoi r) := by
  unfold fX6_tryTogglePin at hf
  obtain ⟨-, hf⟩ := zck hf
  refine z_enter (by decide) (Nat.le_of_ble_eq_true rfl) hst (fun x hx B hE => ?_)
  subst hx
  have B : zB G x cX6_tryTogglePin 2 RX6 "tryTogglePin" rm_X6_tryTogglePin (some .boolean) := B
  show zV G x 2 (zQ G x (zoi r) 0 0) h 0 0 0 [(0, .ref a0), (1, .int a1)] []
  refine z_aload_n B dX6_tryTogglePin_0 rfl 0 rfl ?_
  obtain ⟨w1, ew1, hf⟩ := zbs hf
  refine z_gP B fl_RX6_40 ew1 rfl dX6_tryTogglePin_1 ?_
  refine z_iload_n B dX6_tryTogglePin_4 rfl 1 rfl ?_
  obtain ⟨w2, h3, ew2, hf⟩ := zb2s hf
  refine z_callVi B [.int a1] [] cw_X3_hasEntry mv_RX6_396 (tX3_hasEntry hst ew2) rfl (by decide) (kfX3_hasEntry ew2) ⟨rfl, rfl, (Nat.le_of_ble_eq_true rfl), (Nat.le_of_ble_eq_true rfl), (Nat.le_of_ble_eq_true rfl), (Nat.le_of_ble_eq_true rfl)⟩ rfl rfl (Nat.le_of_ble_eq_true rfl) dX6_tryTogglePin_5 ?_
  rcases zite hf with ⟨c4, hf⟩ | ⟨c4, hf⟩
  · refine z_if_ne B 13 dX6_tryTogglePin_8 (by decide) (fun e => absurd c4 e) (fun _ => ?_)
    refine z_iconst (v := 0) B dX6_tryTogglePin_11 (by decide) ?_
    cases hf
    exact z_zret B dX6_tryTogglePin_12 (Or.inl rfl) (Nat.le_of_ble_eq_true rfl) (Nat.le_of_ble_eq_true rfl)
  refine z_if_ne B 13 dX6_tryTogglePin_8 (by decide) (fun _ => ?_) (fun e => absurd e c4)
  refine z_aload_n B dX6_tryTogglePin_13 rfl 0 rfl ?_
  obtain ⟨w5, ew5, hf⟩ := zbs hf
  refine z_gP B fl_RX6_40 ew5 rfl dX6_tryTogglePin_14 ?_
  refine z_iload_n B dX6_tryTogglePin_17 rfl 1 rfl ?_
  obtain ⟨h6, eh6, hf⟩ := zbs hf
  refine z_callVv B [.int a1] [] cw_X3_switchPin mv_RX6_240 (tX3_switchPin hst eh6) rfl (by decide) (kfX3_switchPin eh6) ⟨rfl, rfl, (Nat.le_of_ble_eq_true rfl), (Nat.le_of_ble_eq_true rfl), (Nat.le_of_ble_eq_true rfl), (Nat.le_of_ble_eq_true rfl)⟩ rfl rfl (Nat.le_of_ble_eq_true rfl) dX6_tryTogglePin_18 ?_
  refine z_iconst (v := 1) B dX6_tryTogglePin_21 (by decide) ?_
  cases hf
  exact z_zret B dX6_tryTogglePin_22 (Or.inr rfl) (Nat.le_of_ble_eq_true rfl) (Nat.le_of_ble_eq_true rfl)
abbrev rm_X6_tryRemove : Room := { frames := 2, cells := 0, slots := 0, locals := 44 }
set_option maxRecDepth 100000 in
set_option maxHeartbeats 4000000 in
theorem tX6_tryRemove {l : Launch} {G : zG} (hst : l.stackTraces = false) {h : zH} {a0 : Nat} {a1 : Int32} {r : Int32 × zH} (hf : fX6_tryRemove h a0 a1 = some r) : zMet l G yX6_tryRemove (.code yX6_tryRemove cX6_tryRemove 2 (some .boolean)) rm_X6_tryRemove 0 0 [.ref a0, .int a1] h (zoi r) := by
  unfold fX6_tryRemove at hf
  obtain ⟨-, hf⟩ := zck hf
  refine z_enter (by decide) (Nat.le_of_ble_eq_true rfl) hst (fun x hx B hE => ?_)
  subst hx
  have B : zB G x cX6_tryRemove 2 RX6 "tryRemove" rm_X6_tryRemove (some .boolean) := B
  show zV G x 2 (zQ G x (zoi r) 0 0) h 0 0 0 [(0, .ref a0), (1, .int a1)] []
  refine z_aload_n B dX6_tryRemove_0 rfl 0 rfl ?_
  obtain ⟨w1, ew1, hf⟩ := zbs hf
  refine z_gP B fl_RX6_40 ew1 rfl dX6_tryRemove_1 ?_
  refine z_iload_n B dX6_tryRemove_4 rfl 1 rfl ?_
  obtain ⟨w2, h3, ew2, hf⟩ := zb2s hf
  refine z_callVi B [.int a1] [] cw_X3_hasEntry mv_RX6_396 (tX3_hasEntry hst ew2) rfl (by decide) (kfX3_hasEntry ew2) ⟨rfl, rfl, (Nat.le_of_ble_eq_true rfl), (Nat.le_of_ble_eq_true rfl), (Nat.le_of_ble_eq_true rfl), (Nat.le_of_ble_eq_true rfl)⟩ rfl rfl (Nat.le_of_ble_eq_true rfl) dX6_tryRemove_5 ?_
  rcases zite hf with ⟨c4, hf⟩ | ⟨c4, hf⟩
  · refine z_if_ne B 13 dX6_tryRemove_8 (by decide) (fun e => absurd c4 e) (fun _ => ?_)
    refine z_iconst (v := 0) B dX6_tryRemove_11 (by decide) ?_
    cases hf
    exact z_zret B dX6_tryRemove_12 (Or.inl rfl) (Nat.le_of_ble_eq_true rfl) (Nat.le_of_ble_eq_true rfl)
  refine z_if_ne B 13 dX6_tryRemove_8 (by decide) (fun _ => ?_) (fun e => absurd e c4)
  refine z_aload_n B dX6_tryRemove_13 rfl 0 rfl ?_
  obtain ⟨w5, ew5, hf⟩ := zbs hf
  refine z_gP B fl_RX6_40 ew5 rfl dX6_tryRemove_14 ?_
  refine z_iload_n B dX6_tryRemove_17 rfl 1 rfl ?_
  obtain ⟨h6, eh6, hf⟩ := zbs hf
  refine z_callVv B [.int a1] [] cw_X3_dropEntry mv_RX6_246 (tX3_dropEntry hst eh6) rfl (by decide) (kfX3_dropEntry eh6) ⟨rfl, rfl, (Nat.le_of_ble_eq_true rfl), (Nat.le_of_ble_eq_true rfl), (Nat.le_of_ble_eq_true rfl), (Nat.le_of_ble_eq_true rfl)⟩ rfl rfl (Nat.le_of_ble_eq_true rfl) dX6_tryRemove_18 ?_
  refine z_iconst (v := 1) B dX6_tryRemove_21 (by decide) ?_
  cases hf
  exact z_zret B dX6_tryRemove_22 (Or.inr rfl) (Nat.le_of_ble_eq_true rfl) (Nat.le_of_ble_eq_true rfl)
abbrev rm_X6_runCommand : Room := { frames := 6, cells := 0, slots := 0, locals := 136 }
set_option maxRecDepth 100000 in
set_option maxHeartbeats 4000000 in
theorem tX6_runCommand {l : Launch} {G : zG} (hst : l.stackTraces = false) {h : zH} {a0 : Nat} {a1 : Int32} {r : Int32 × zH} (hf : fX6_runCommand h a0 a1 = some r) : zMet l G yX6_runCommand (.code yX6_runCommand cX6_runCommand 5 (some .boolean)) rm_X6_runCommand 0 0 [.ref a0, .int a1] h (zoi r) := by
  unfold fX6_runCommand at hf
  obtain ⟨-, hf⟩ := zck hf
  refine z_enter (by decide) (Nat.le_of_ble_eq_true rfl) hst (fun x hx B hE => ?_)
  subst hx
  have B : zB G x cX6_runCommand 5 RX6 "runCommand" rm_X6_runCommand (some .boolean) := B
  show zV G x 5 (zQ G x (zoi r) 0 0) h 0 0 0 [(0, .ref a0), (1, .int a1)] []
  refine z_iload_n B dX6_runCommand_0 rfl 1 rfl ?_
  refine z_sipush (v := 10000) B dX6_runCommand_1 (by decide) ?_
  refine z_idiv B dX6_runCommand_4 (by decide) ?_
  refine z_bipush (v := 10) B dX6_runCommand_5 (by decide) ?_
  refine z_irem B dX6_runCommand_7 (by decide) ?_
  refine z_istore_n (lv' := [(2, .int ((((a1 : Int32) / 10000) : Int32) - ((a1 : Int32) / 10000) / 10 * 10)), (0, .ref a0), (1, .int a1)]) B dX6_runCommand_8 rfl (by decide) rfl ?_
  refine z_iload_n B dX6_runCommand_9 rfl 2 rfl ?_
  refine z_bipush (v := 100) B dX6_runCommand_10 (by decide) ?_
  refine z_idiv B dX6_runCommand_12 (by decide) ?_
  refine z_bipush (v := 10) B dX6_runCommand_13 (by decide) ?_
  refine z_irem B dX6_runCommand_15 (by decide) ?_
  refine z_istore_n (lv' := [(3, .int ((((a1 : Int32) / 100) : Int32) - ((a1 : Int32) / 100) / 10 * 10)), (2, .int ((((a1 : Int32) / 10000) : Int32) - ((a1 : Int32) / 10000) / 10 * 10)), (0, .ref a0), (1, .int a1)]) B dX6_runCommand_16 rfl (by decide) rfl ?_
  refine z_iload_n B dX6_runCommand_17 rfl 3 rfl ?_
  refine z_sipush (v := 1000) B dX6_runCommand_18 (by decide) ?_
  refine z_idiv B dX6_runCommand_21 (by decide) ?_
  refine z_bipush (v := 100) B dX6_runCommand_22 (by decide) ?_
  refine z_irem B dX6_runCommand_24 (by decide) ?_
  refine z_istore (lv' := [(4, .int ((((a1 : Int32) / 1000) : Int32) - ((a1 : Int32) / 1000) / 100 * 100)), (3, .int ((((a1 : Int32) / 100) : Int32) - ((a1 : Int32) / 100) / 10 * 10)), (2, .int ((((a1 : Int32) / 10000) : Int32) - ((a1 : Int32) / 10000) / 10 * 10)), (0, .ref a0), (1, .int a1)]) B dX6_runCommand_25 (by decide) rfl ?_
  refine z_iload_n B dX6_runCommand_27 rfl 4 rfl ?_
  refine z_ldcw B dX6_runCommand_28 kc_RX6_410 ?_
  refine z_idiv B dX6_runCommand_31 (by decide) ?_
  rcases zite hf with ⟨c1, hf⟩ | ⟨c1, hf⟩
  · refine z_tabIn B 1 80 dX6_runCommand_32 c1 (by decide) (by decide) rfl (by decide) ?_
    refine z_aload_n B dX6_runCommand_80 rfl 3 rfl ?_
    refine z_iload_n B dX6_runCommand_81 rfl 2 rfl ?_
    refine z_iload_n B dX6_runCommand_82 rfl 4 rfl ?_
    refine z_sipush (v := 10000) B dX6_runCommand_83 (by decide) ?_
    refine z_irem B dX6_runCommand_86 (by decide) ?_
    obtain ⟨w2, h3, ew2, hf⟩ := zb2s hf
    refine z_callVi B [.int ((((a1 : Int32) / 10000) : Int32) - ((a1 : Int32) / 10000) / 10 * 10), .int ((a1 : Int32) - a1 / 10000 * 10000)] [] cw_X6_tryCopy mv_RX6_411 (tX6_tryCopy hst ew2) rfl (by decide) (kfX6_tryCopy ew2) ⟨rfl, rfl, (Nat.le_of_ble_eq_true rfl), (Nat.le_of_ble_eq_true rfl), (Nat.le_of_ble_eq_true rfl), (Nat.le_of_ble_eq_true rfl)⟩ rfl rfl (Nat.le_of_ble_eq_true rfl) dX6_runCommand_87 ?_
    rcases zite hf with ⟨c4, hf⟩ | ⟨c4, hf⟩
    · cases hf
      exact z_zret B dX6_runCommand_90 c4 (Nat.le_of_ble_eq_true rfl) (Nat.le_of_ble_eq_true rfl)
    cases hf
  rcases zite hf with ⟨c5, hf⟩ | ⟨c5, hf⟩
  · refine z_tabIn B 2 91 dX6_runCommand_32 c5 (by decide) (by decide) rfl (by decide) ?_
    refine z_aload_n B dX6_runCommand_91 rfl 3 rfl ?_
    refine z_iload_n B dX6_runCommand_92 rfl 2 rfl ?_
    refine z_iload_n B dX6_runCommand_93 rfl 4 rfl ?_
    refine z_sipush (v := 10000) B dX6_runCommand_94 (by decide) ?_
    refine z_irem B dX6_runCommand_97 (by decide) ?_
    obtain ⟨w6, h7, ew6, hf⟩ := zb2s hf
    refine z_callVi B [.int ((((a1 : Int32) / 10000) : Int32) - ((a1 : Int32) / 10000) / 10 * 10), .int ((a1 : Int32) - a1 / 10000 * 10000)] [] cw_X6_tryOffer mv_RX6_414 (tX6_tryOffer hst ew6) rfl (by decide) (kfX6_tryOffer ew6) ⟨rfl, rfl, (Nat.le_of_ble_eq_true rfl), (Nat.le_of_ble_eq_true rfl), (Nat.le_of_ble_eq_true rfl), (Nat.le_of_ble_eq_true rfl)⟩ rfl rfl (Nat.le_of_ble_eq_true rfl) dX6_runCommand_98 ?_
    rcases zite hf with ⟨c8, hf⟩ | ⟨c8, hf⟩
    · cases hf
      exact z_zret B dX6_runCommand_101 c8 (Nat.le_of_ble_eq_true rfl) (Nat.le_of_ble_eq_true rfl)
    cases hf
  rcases zite hf with ⟨c9, hf⟩ | ⟨c9, hf⟩
  · refine z_tabIn B 3 102 dX6_runCommand_32 c9 (by decide) (by decide) rfl (by decide) ?_
    refine z_iload_n B dX6_runCommand_102 rfl 4 rfl ?_
    refine z_bipush (v := 100) B dX6_runCommand_103 (by decide) ?_
    refine z_irem B dX6_runCommand_105 (by decide) ?_
    rcases zite hf with ⟨c10, hf⟩ | ⟨c10, hf⟩
    · refine z_if_ne B 123 dX6_runCommand_106 (by decide) (fun e => absurd c10 e) (fun _ => ?_)
      refine z_aload_n B dX6_runCommand_109 rfl 3 rfl ?_
      refine z_iload B dX6_runCommand_110 0 rfl ?_
      refine z_iload_n B dX6_runCommand_112 rfl 1 rfl ?_
      obtain ⟨w11, h12, ew11, hf⟩ := zb2s hf
      refine z_callVi B [.int ((((a1 : Int32) / 1000) : Int32) - ((a1 : Int32) / 1000) / 100 * 100), .int ((((a1 : Int32) / 100) : Int32) - ((a1 : Int32) / 100) / 10 * 10)] [] cw_X6_tryPaste mv_RX6_417 (tX6_tryPaste hst ew11) rfl (by decide) (kfX6_tryPaste ew11) ⟨rfl, rfl, (Nat.le_of_ble_eq_true rfl), (Nat.le_of_ble_eq_true rfl), (Nat.le_of_ble_eq_true rfl), (Nat.le_of_ble_eq_true rfl)⟩ rfl rfl (Nat.le_of_ble_eq_true rfl) dX6_runCommand_113 ?_
      rcases zite hf with ⟨c13, hf⟩ | ⟨c13, hf⟩
      · refine z_if_eq B 123 dX6_runCommand_116 (by decide) (fun _ => ?_) (fun e => absurd c13 e)
        refine z_iconst (v := 0) B dX6_runCommand_123 (by decide) ?_
        cases hf
        exact z_zret B dX6_runCommand_124 (Or.inl rfl) (Nat.le_of_ble_eq_true rfl) (Nat.le_of_ble_eq_true rfl)
      refine z_if_eq B 123 dX6_runCommand_116 (by decide) (fun e => absurd e c13) (fun _ => ?_)
      refine z_iconst (v := 1) B dX6_runCommand_119 (by decide) ?_
      refine z_goto B 124 dX6_runCommand_120 (by decide) ?_
      cases hf
      exact z_zret B dX6_runCommand_124 (Or.inr rfl) (Nat.le_of_ble_eq_true rfl) (Nat.le_of_ble_eq_true rfl)
    refine z_if_ne B 123 dX6_runCommand_106 (by decide) (fun _ => ?_) (fun e => absurd e c10)
    refine z_iconst (v := 0) B dX6_runCommand_123 (by decide) ?_
    cases hf
    exact z_zret B dX6_runCommand_124 (Or.inl rfl) (Nat.le_of_ble_eq_true rfl) (Nat.le_of_ble_eq_true rfl)
  rcases zite hf with ⟨c14, hf⟩ | ⟨c14, hf⟩
  · refine z_tabIn B 4 125 dX6_runCommand_32 c14 (by decide) (by decide) rfl (by decide) ?_
    refine z_iload_n B dX6_runCommand_125 rfl 4 rfl ?_
    refine z_sipush (v := 1000) B dX6_runCommand_126 (by decide) ?_
    refine z_irem B dX6_runCommand_129 (by decide) ?_
    rcases zite hf with ⟨c15, hf⟩ | ⟨c15, hf⟩
    · refine z_if_ne B 146 dX6_runCommand_130 (by decide) (fun e => absurd c15 e) (fun _ => ?_)
      refine z_aload_n B dX6_runCommand_133 rfl 3 rfl ?_
      refine z_iload B dX6_runCommand_134 0 rfl ?_
      obtain ⟨w16, h17, ew16, hf⟩ := zb2s hf
      refine z_callVi B [.int ((((a1 : Int32) / 1000) : Int32) - ((a1 : Int32) / 1000) / 100 * 100)] [] cw_X6_tryTogglePin mv_RX6_420 (tX6_tryTogglePin hst ew16) rfl (by decide) (kfX6_tryTogglePin ew16) ⟨rfl, rfl, (Nat.le_of_ble_eq_true rfl), (Nat.le_of_ble_eq_true rfl), (Nat.le_of_ble_eq_true rfl), (Nat.le_of_ble_eq_true rfl)⟩ rfl rfl (Nat.le_of_ble_eq_true rfl) dX6_runCommand_136 ?_
      rcases zite hf with ⟨c18, hf⟩ | ⟨c18, hf⟩
      · refine z_if_eq B 146 dX6_runCommand_139 (by decide) (fun _ => ?_) (fun e => absurd c18 e)
        refine z_iconst (v := 0) B dX6_runCommand_146 (by decide) ?_
        cases hf
        exact z_zret B dX6_runCommand_147 (Or.inl rfl) (Nat.le_of_ble_eq_true rfl) (Nat.le_of_ble_eq_true rfl)
      refine z_if_eq B 146 dX6_runCommand_139 (by decide) (fun e => absurd e c18) (fun _ => ?_)
      refine z_iconst (v := 1) B dX6_runCommand_142 (by decide) ?_
      refine z_goto B 147 dX6_runCommand_143 (by decide) ?_
      cases hf
      exact z_zret B dX6_runCommand_147 (Or.inr rfl) (Nat.le_of_ble_eq_true rfl) (Nat.le_of_ble_eq_true rfl)
    refine z_if_ne B 146 dX6_runCommand_130 (by decide) (fun _ => ?_) (fun e => absurd e c15)
    refine z_iconst (v := 0) B dX6_runCommand_146 (by decide) ?_
    cases hf
    exact z_zret B dX6_runCommand_147 (Or.inl rfl) (Nat.le_of_ble_eq_true rfl) (Nat.le_of_ble_eq_true rfl)
  rcases zite hf with ⟨c19, hf⟩ | ⟨c19, hf⟩
  · refine z_tabIn B 5 148 dX6_runCommand_32 c19 (by decide) (by decide) rfl (by decide) ?_
    refine z_iload_n B dX6_runCommand_148 rfl 4 rfl ?_
    refine z_sipush (v := 1000) B dX6_runCommand_149 (by decide) ?_
    refine z_irem B dX6_runCommand_152 (by decide) ?_
    rcases zite hf with ⟨c20, hf⟩ | ⟨c20, hf⟩
    · refine z_if_ne B 169 dX6_runCommand_153 (by decide) (fun e => absurd c20 e) (fun _ => ?_)
      refine z_aload_n B dX6_runCommand_156 rfl 3 rfl ?_
      refine z_iload B dX6_runCommand_157 0 rfl ?_
      obtain ⟨w21, h22, ew21, hf⟩ := zb2s hf
      refine z_callVi B [.int ((((a1 : Int32) / 1000) : Int32) - ((a1 : Int32) / 1000) / 100 * 100)] [] cw_X6_tryRemove mv_RX6_423 (tX6_tryRemove hst ew21) rfl (by decide) (kfX6_tryRemove ew21) ⟨rfl, rfl, (Nat.le_of_ble_eq_true rfl), (Nat.le_of_ble_eq_true rfl), (Nat.le_of_ble_eq_true rfl), (Nat.le_of_ble_eq_true rfl)⟩ rfl rfl (Nat.le_of_ble_eq_true rfl) dX6_runCommand_159 ?_
      rcases zite hf with ⟨c23, hf⟩ | ⟨c23, hf⟩
      · refine z_if_eq B 169 dX6_runCommand_162 (by decide) (fun _ => ?_) (fun e => absurd c23 e)
        refine z_iconst (v := 0) B dX6_runCommand_169 (by decide) ?_
        cases hf
        exact z_zret B dX6_runCommand_170 (Or.inl rfl) (Nat.le_of_ble_eq_true rfl) (Nat.le_of_ble_eq_true rfl)
      refine z_if_eq B 169 dX6_runCommand_162 (by decide) (fun e => absurd e c23) (fun _ => ?_)
      refine z_iconst (v := 1) B dX6_runCommand_165 (by decide) ?_
      refine z_goto B 170 dX6_runCommand_166 (by decide) ?_
      cases hf
      exact z_zret B dX6_runCommand_170 (Or.inr rfl) (Nat.le_of_ble_eq_true rfl) (Nat.le_of_ble_eq_true rfl)
    refine z_if_ne B 169 dX6_runCommand_153 (by decide) (fun _ => ?_) (fun e => absurd e c20)
    refine z_iconst (v := 0) B dX6_runCommand_169 (by decide) ?_
    cases hf
    exact z_zret B dX6_runCommand_170 (Or.inl rfl) (Nat.le_of_ble_eq_true rfl) (Nat.le_of_ble_eq_true rfl)
  rcases zite hf with ⟨c24, hf⟩ | ⟨c24, hf⟩
  · refine z_tabIn B 6 171 dX6_runCommand_32 c24 (by decide) (by decide) rfl (by decide) ?_
    refine z_aload_n B dX6_runCommand_171 rfl 3 rfl ?_
    obtain ⟨w25, ew25, hf⟩ := zbs hf
    refine z_gP B fl_RX6_40 ew25 rfl dX6_runCommand_172 ?_
    obtain ⟨w26, h27, ew26, hf⟩ := zb2s hf
    refine z_callVi B [] [] cw_X3_usedSize mv_RX6_112 (tX3_usedSize hst ew26) rfl (by decide) (kfX3_usedSize ew26) ⟨rfl, rfl, (Nat.le_of_ble_eq_true rfl), (Nat.le_of_ble_eq_true rfl), (Nat.le_of_ble_eq_true rfl), (Nat.le_of_ble_eq_true rfl)⟩ rfl rfl (Nat.le_of_ble_eq_true rfl) dX6_runCommand_175 ?_
    refine z_iload_n B dX6_runCommand_178 rfl 4 rfl ?_
    refine z_ldcw B dX6_runCommand_179 kc_RX6_410 ?_
    refine z_irem B dX6_runCommand_182 (by decide) ?_
    rcases zite hf with ⟨c28, hf⟩ | ⟨c28, hf⟩
    · refine z_icmp_gt B 190 dX6_runCommand_183 (by decide) (fun _ => ?_) (fun e => absurd c28 e)
      refine z_iconst (v := 0) B dX6_runCommand_190 (by decide) ?_
      cases hf
      exact z_zret B dX6_runCommand_191 (Or.inl rfl) (Nat.le_of_ble_eq_true rfl) (Nat.le_of_ble_eq_true rfl)
    refine z_icmp_gt B 190 dX6_runCommand_183 (by decide) (fun e => absurd e c28) (fun _ => ?_)
    refine z_iconst (v := 1) B dX6_runCommand_186 (by decide) ?_
    refine z_goto B 191 dX6_runCommand_187 (by decide) ?_
    cases hf
    exact z_zret B dX6_runCommand_191 (Or.inr rfl) (Nat.le_of_ble_eq_true rfl) (Nat.le_of_ble_eq_true rfl)
  rcases zite hf with ⟨c29, hf⟩ | ⟨c29, hf⟩
  · refine z_tabIn B 7 192 dX6_runCommand_32 c29 (by decide) (by decide) rfl (by decide) ?_
    refine z_aload_n B dX6_runCommand_192 rfl 3 rfl ?_
    obtain ⟨w30, ew30, hf⟩ := zbs hf
    refine z_gP B fl_RX6_40 ew30 rfl dX6_runCommand_193 ?_
    obtain ⟨w31, ew31, hf⟩ := zbs hf
    refine z_gI B fl_RX6_106 ew31 rfl dX6_runCommand_196 ?_
    refine z_iload_n B dX6_runCommand_199 rfl 4 rfl ?_
    refine z_ldcw B dX6_runCommand_200 kc_RX6_410 ?_
    refine z_irem B dX6_runCommand_203 (by decide) ?_
    rcases zite hf with ⟨c32, hf⟩ | ⟨c32, hf⟩
    · refine z_icmp_ne B 211 dX6_runCommand_204 (by decide) (fun e => absurd c32 e) (fun _ => ?_)
      refine z_iconst (v := 1) B dX6_runCommand_207 (by decide) ?_
      refine z_goto B 212 dX6_runCommand_208 (by decide) ?_
      cases hf
      exact z_zret B dX6_runCommand_212 (Or.inr rfl) (Nat.le_of_ble_eq_true rfl) (Nat.le_of_ble_eq_true rfl)
    refine z_icmp_ne B 211 dX6_runCommand_204 (by decide) (fun _ => ?_) (fun e => absurd e c32)
    refine z_iconst (v := 0) B dX6_runCommand_211 (by decide) ?_
    cases hf
    exact z_zret B dX6_runCommand_212 (Or.inl rfl) (Nat.le_of_ble_eq_true rfl) (Nat.le_of_ble_eq_true rfl)
  rcases zite hf with ⟨c33, hf⟩ | ⟨c33, hf⟩
  · refine z_tabIn B 8 213 dX6_runCommand_32 c33 (by decide) (by decide) rfl (by decide) ?_
    refine z_iload_n B dX6_runCommand_213 rfl 4 rfl ?_
    refine z_bipush (v := 100) B dX6_runCommand_214 (by decide) ?_
    refine z_irem B dX6_runCommand_216 (by decide) ?_
    rcases zite hf with ⟨c34, hf⟩ | ⟨c34, hf⟩
    · refine z_if_ne B 253 dX6_runCommand_217 (by decide) (fun e => absurd c34 e) (fun _ => ?_)
      refine z_aload_n B dX6_runCommand_220 rfl 3 rfl ?_
      obtain ⟨w35, ew35, hf⟩ := zbs hf
      refine z_gP B fl_RX6_40 ew35 rfl dX6_runCommand_221 ?_
      refine z_iload B dX6_runCommand_224 0 rfl ?_
      obtain ⟨w36, h37, ew36, hf⟩ := zb2s hf
      refine z_callVi B [.int ((((a1 : Int32) / 1000) : Int32) - ((a1 : Int32) / 1000) / 100 * 100)] [] cw_X3_hasEntry mv_RX6_396 (tX3_hasEntry hst ew36) rfl (by decide) (kfX3_hasEntry ew36) ⟨rfl, rfl, (Nat.le_of_ble_eq_true rfl), (Nat.le_of_ble_eq_true rfl), (Nat.le_of_ble_eq_true rfl), (Nat.le_of_ble_eq_true rfl)⟩ rfl rfl (Nat.le_of_ble_eq_true rfl) dX6_runCommand_226 ?_
      rcases zite hf with ⟨c38, hf⟩ | ⟨c38, hf⟩
      · refine z_if_eq B 253 dX6_runCommand_229 (by decide) (fun _ => ?_) (fun e => absurd c38 e)
        refine z_iconst (v := 0) B dX6_runCommand_253 (by decide) ?_
        cases hf
        exact z_zret B dX6_runCommand_254 (Or.inl rfl) (Nat.le_of_ble_eq_true rfl) (Nat.le_of_ble_eq_true rfl)
      refine z_if_eq B 253 dX6_runCommand_229 (by decide) (fun e => absurd e c38) (fun _ => ?_)
      refine z_aload_n B dX6_runCommand_232 rfl 3 rfl ?_
      obtain ⟨w39, ew39, hf⟩ := zbs hf
      refine z_gP B fl_RX6_40 ew39 rfl dX6_runCommand_233 ?_
      obtain ⟨w40, ew40, hf⟩ := zbs hf
      refine z_gPR B fr_RX6_159 ew40 rfl dX6_runCommand_236 ?_
      refine z_iload B dX6_runCommand_239 0 rfl ?_
      obtain ⟨w41, ew41, hf⟩ := zbs hf
      refine z_aP B ew41 dX6_runCommand_241 ?_
      refine z_iload_n B dX6_runCommand_242 rfl 1 rfl ?_
      obtain ⟨w42, h43, ew42, hf⟩ := zb2s hf
      refine z_callVi B [.int ((((a1 : Int32) / 100) : Int32) - ((a1 : Int32) / 100) / 10 * 10)] [] cw_X1_holds mv_RX6_193 (tX1_holds hst ew42) rfl (by decide) (kfX1_holds ew42) ⟨rfl, rfl, (Nat.le_of_ble_eq_true rfl), (Nat.le_of_ble_eq_true rfl), (Nat.le_of_ble_eq_true rfl), (Nat.le_of_ble_eq_true rfl)⟩ rfl rfl (Nat.le_of_ble_eq_true rfl) dX6_runCommand_243 ?_
      rcases zite hf with ⟨c44, hf⟩ | ⟨c44, hf⟩
      · refine z_if_eq B 253 dX6_runCommand_246 (by decide) (fun _ => ?_) (fun e => absurd c44 e)
        refine z_iconst (v := 0) B dX6_runCommand_253 (by decide) ?_
        cases hf
        exact z_zret B dX6_runCommand_254 (Or.inl rfl) (Nat.le_of_ble_eq_true rfl) (Nat.le_of_ble_eq_true rfl)
      refine z_if_eq B 253 dX6_runCommand_246 (by decide) (fun e => absurd e c44) (fun _ => ?_)
      refine z_iconst (v := 1) B dX6_runCommand_249 (by decide) ?_
      refine z_goto B 254 dX6_runCommand_250 (by decide) ?_
      cases hf
      exact z_zret B dX6_runCommand_254 (Or.inr rfl) (Nat.le_of_ble_eq_true rfl) (Nat.le_of_ble_eq_true rfl)
    refine z_if_ne B 253 dX6_runCommand_217 (by decide) (fun _ => ?_) (fun e => absurd e c34)
    refine z_iconst (v := 0) B dX6_runCommand_253 (by decide) ?_
    cases hf
    exact z_zret B dX6_runCommand_254 (Or.inl rfl) (Nat.le_of_ble_eq_true rfl) (Nat.le_of_ble_eq_true rfl)
  refine z_tabOut B 255 dX6_runCommand_32 (z_outL 1 9 (by decide) (fun j hj0 hj => by rcases (show j = 1 ∨ j = 2 ∨ j = 3 ∨ j = 4 ∨ j = 5 ∨ j = 6 ∨ j = 7 ∨ j = 8 by omega) with rfl | rfl | rfl | rfl | rfl | rfl | rfl | rfl <;> assumption)) (by decide) ?_
  refine z_iconst (v := 0) B dX6_runCommand_255 (by decide) ?_
  cases hf
  exact z_zret B dX6_runCommand_256 (Or.inl rfl) (Nat.le_of_ble_eq_true rfl) (Nat.le_of_ble_eq_true rfl)
abbrev rm_X6_runScript : Room := { frames := 7, cells := 1, slots := 6, locals := 160 }
set_option maxRecDepth 100000 in
set_option maxHeartbeats 4000000 in
theorem fX6_runScript_L61_ok {G : zG} {x : zX} (B : zB G x cX6_runScript 5 RX6 "runScript" rm_X6_runScript (some .int)) (hst : (zl x).stackTraces = false) (hE : ∀ e ∈ (zc x).exceptionTable.toList, False) {r : (Int32 ⊕ String) × zH} {k : zH → Int32 → Option ((Int32 ⊕ String) × zH)} {u0 : Nat} {u1 : Int32} {u2 : Int64} (hk : ∀ h v4, k h v4 = some r → zV G x 5 (zQ G x (zoxi r) 1 6) h 0 0 93 [(0, .ref u0), (1, .int u1), (2, .long u2), (4, .int v4)] []) : ∀ n h v4, fX6_runScript_L61 k u0 u1 u2 n h v4 = some r → zV G x 5 (zQ G x (zoxi r) 1 6) h 0 0 61 [(0, .ref u0), (1, .int u1), (2, .long u2), (4, .int v4)] [] := by
  intro n
  induction n with
  | zero =>
    intro h v4 hf
    have hf : (none : Option ((Int32 ⊕ String) × zH)) = some r := hf
    cases hf
  | succ n ih =>
    intro h v4 hf
    rw [fX6_runScript_L61] at hf
    refine z_iload B dX6_runScript_61 3 rfl ?_
    refine z_iload_n B dX6_runScript_63 rfl 1 rfl ?_
    rcases zite hf with ⟨c1, hf⟩ | ⟨c1, hf⟩
    · refine z_icmp_ge B 93 dX6_runScript_64 (by decide) (fun _ => ?_) (fun e => absurd c1 e)
      exact hk _ _ hf
    refine z_icmp_ge B 93 dX6_runScript_64 (by decide) (fun e => absurd e c1) (fun _ => ?_)
    refine z_aload_n B dX6_runScript_67 rfl 0 rfl ?_
    refine z_lload_n B dX6_runScript_68 rfl 2 rfl ?_
    refine z_iload_n B dX6_runScript_69 rfl 1 rfl ?_
    refine z_iconst (v := 1) B dX6_runScript_70 (by decide) ?_
    refine z_isub B dX6_runScript_71 ?_
    refine z_iload B dX6_runScript_72 3 rfl ?_
    refine z_isub B dX6_runScript_74 ?_
    obtain ⟨w2, h3, ew2, hf⟩ := zb2s hf
    refine z_callSi B [.long u2, .int ((((u1 : Int32) - 1) : Int32) - v4)] [.ref u0] cw_X6_commandAt mt_RX6_353 (tX6_commandAt hst ew2) ⟨rfl, rfl, (Nat.le_of_ble_eq_true rfl), (Nat.le_of_ble_eq_true rfl), (Nat.le_of_ble_eq_true rfl), (Nat.le_of_ble_eq_true rfl)⟩ rfl rfl (Nat.le_of_ble_eq_true rfl) dX6_runScript_75 ?_
    obtain ⟨w4, h5, ew4, hf⟩ := zb2s hf
    refine z_callVi B [.int w2] [] cw_X6_runCommand mv_RX6_357 (tX6_runCommand hst ew4) rfl (by decide) (kfX6_runCommand ew4) ⟨rfl, rfl, (Nat.le_of_ble_eq_true rfl), (Nat.le_of_ble_eq_true rfl), (Nat.le_of_ble_eq_true rfl), (Nat.le_of_ble_eq_true rfl)⟩ rfl rfl (Nat.le_of_ble_eq_true rfl) dX6_runScript_78 ?_
    rcases zite hf with ⟨c6, hf⟩ | ⟨c6, hf⟩
    · refine z_if_ne B 87 dX6_runScript_81 (by decide) (fun e => absurd c6 e) (fun _ => ?_)
      refine z_iload B dX6_runScript_84 3 rfl ?_
      cases hf
      exact z_iret B dX6_runScript_86 (Nat.le_of_ble_eq_true rfl) (Nat.le_of_ble_eq_true rfl)
    refine z_if_ne B 87 dX6_runScript_81 (by decide) (fun _ => ?_) (fun e => absurd e c6)
    refine z_iinc (v' := (v4 + 1)) (lv' := [(4, .int (v4 + 1)), (0, .ref u0), (1, .int u1), (2, .long u2)]) B dX6_runScript_87 3 rfl rfl (by decide) rfl ?_
    refine z_goto B 61 dX6_runScript_90 (by decide) ?_
    refine zV.sub [1, 2, 3, 0] rfl ?_
    exact ih _ _ hf
set_option maxRecDepth 100000 in
set_option maxHeartbeats 4000000 in
theorem tX6_runScript {l : Launch} {G : zG} (hst : l.stackTraces = false) {h : zH} {a0 : Nat} {a1 : Int32} {a2 : Int64} {r : (Int32 ⊕ String) × zH} (hf : fX6_runScript h a0 a1 a2 = some r) : zMet l G yX6_runScript (.code yX6_runScript cX6_runScript 5 (some .int)) rm_X6_runScript 1 6 [.ref a0, .int a1, .long a2] h (zoxi r) := by
  unfold fX6_runScript at hf
  obtain ⟨-, hf⟩ := zck hf
  refine z_enter (by decide) (Nat.le_of_ble_eq_true rfl) hst (fun x hx B hE => ?_)
  subst hx
  have B : zB G x cX6_runScript 5 RX6 "runScript" rm_X6_runScript (some .int) := B
  show zV G x 5 (zQ G x (zoxi r) 1 6) h 0 0 0 [(0, .ref a0), (1, .int a1), (2, .long a2)] []
  refine z_iload_n B dX6_runScript_0 rfl 1 rfl ?_
  refine z_iconst (v := 1) B dX6_runScript_1 (by decide) ?_
  rcases zite hf with ⟨c1, hf⟩ | ⟨c1, hf⟩
  · refine z_icmp_lt B 10 dX6_runScript_2 (by decide) (fun _ => ?_) (fun e => absurd c1 e)
    cases hf
    exact z_throwW B hE rfl th_RX6_67_71 sl_345 dX6_runScript_10 dX6_runScript_13 dX6_runScript_14 dX6_runScript_17 dX6_runScript_20 (Nat.le_of_ble_eq_true rfl) (Nat.le_of_ble_eq_true rfl) (Nat.le_of_ble_eq_true rfl) (Nat.le_of_ble_eq_true rfl) (Nat.le_of_ble_eq_true rfl) (Nat.le_of_ble_eq_true rfl)
  refine z_icmp_lt B 10 dX6_runScript_2 (by decide) (fun e => absurd e c1) (fun _ => ?_)
  refine z_iload_n B dX6_runScript_5 rfl 1 rfl ?_
  refine z_iconst (v := 3) B dX6_runScript_6 (by decide) ?_
  rcases zite hf with ⟨c2, hf⟩ | ⟨c2, hf⟩
  · refine z_icmp_le B 21 dX6_runScript_7 (by decide) (fun _ => ?_) (fun e => absurd c2 e)
    refine z_lload_n B dX6_runScript_21 rfl 2 rfl ?_
    refine z_lconst (v := 0) B dX6_runScript_22 (by decide) ?_
    refine z_lcmp B dX6_runScript_23 ?_
    rcases zite hf with ⟨c3, hf⟩ | ⟨c3, hf⟩
    · refine z_if_lt B 36 dX6_runScript_24 (by decide) (fun _ => ?_) (fun e => absurd c3 e)
      cases hf
      exact z_throwW B hE rfl th_RX6_67_71 sl_351 dX6_runScript_36 dX6_runScript_39 dX6_runScript_40 dX6_runScript_43 dX6_runScript_46 (Nat.le_of_ble_eq_true rfl) (Nat.le_of_ble_eq_true rfl) (Nat.le_of_ble_eq_true rfl) (Nat.le_of_ble_eq_true rfl) (Nat.le_of_ble_eq_true rfl) (Nat.le_of_ble_eq_true rfl)
    refine z_if_lt B 36 dX6_runScript_24 (by decide) (fun e => absurd e c3) (fun _ => ?_)
    refine z_lload_n B dX6_runScript_27 rfl 2 rfl ?_
    refine z_iload_n B dX6_runScript_28 rfl 1 rfl ?_
    obtain ⟨w4, h5, ew4, hf⟩ := zb2s hf
    refine z_callSl B [.int a1] [.long a2] cw_X6_scriptRange mt_RX6_347 (tX6_scriptRange hst ew4) ⟨rfl, rfl, (Nat.le_of_ble_eq_true rfl), (Nat.le_of_ble_eq_true rfl), (Nat.le_of_ble_eq_true rfl), (Nat.le_of_ble_eq_true rfl)⟩ rfl rfl (Nat.le_of_ble_eq_true rfl) dX6_runScript_29 ?_
    refine z_lcmp B dX6_runScript_32 ?_
    rcases zite hf with ⟨c6, hf⟩ | ⟨c6, hf⟩
    · refine z_if_lt B 47 dX6_runScript_33 (by decide) (fun _ => ?_) (fun e => absurd c6 e)
      refine z_aload_n B dX6_runScript_47 rfl 0 rfl ?_
      obtain ⟨w7, ew7, hf⟩ := zbs hf
      refine z_gP B fl_RX6_40 ew7 rfl dX6_runScript_48 ?_
      refine z_aload_n B dX6_runScript_51 rfl 0 rfl ?_
      obtain ⟨w8, ew8, hf⟩ := zbs hf
      refine z_gP B fl_RX6_36 ew8 rfl dX6_runScript_52 ?_
      obtain ⟨h9, eh9, hf⟩ := zbs hf
      refine z_callVv B [.ref w8] [] cw_X3_takeOver mv_RX6_271 (tX3_takeOver hst eh9) rfl (by decide) (kfX3_takeOver eh9) ⟨rfl, rfl, (Nat.le_of_ble_eq_true rfl), (Nat.le_of_ble_eq_true rfl), (Nat.le_of_ble_eq_true rfl), (Nat.le_of_ble_eq_true rfl)⟩ rfl rfl (Nat.le_of_ble_eq_true rfl) dX6_runScript_55 ?_
      refine z_iconst (v := 0) B dX6_runScript_58 (by decide) ?_
      refine z_istore (lv' := [(4, .int 0), (0, .ref a0), (1, .int a1), (2, .long a2)]) B dX6_runScript_59 (by decide) rfl ?_
      refine zV.sub [1, 2, 3, 0] rfl ?_
      refine fX6_runScript_L61_ok B hst hE (fun h10 y11 hf => ?_) _ _ _ hf
      refine z_bipush (v := (-9)) B dX6_runScript_93 (by decide) ?_
      cases hf
      exact z_iret B dX6_runScript_95 (Nat.le_of_ble_eq_true rfl) (Nat.le_of_ble_eq_true rfl)
    refine z_if_lt B 47 dX6_runScript_33 (by decide) (fun e => absurd e c6) (fun _ => ?_)
    cases hf
    exact z_throwW B hE rfl th_RX6_67_71 sl_351 dX6_runScript_36 dX6_runScript_39 dX6_runScript_40 dX6_runScript_43 dX6_runScript_46 (Nat.le_of_ble_eq_true rfl) (Nat.le_of_ble_eq_true rfl) (Nat.le_of_ble_eq_true rfl) (Nat.le_of_ble_eq_true rfl) (Nat.le_of_ble_eq_true rfl) (Nat.le_of_ble_eq_true rfl)
  refine z_icmp_le B 21 dX6_runScript_7 (by decide) (fun e => absurd e c2) (fun _ => ?_)
  cases hf
  exact z_throwW B hE rfl th_RX6_67_71 sl_345 dX6_runScript_10 dX6_runScript_13 dX6_runScript_14 dX6_runScript_17 dX6_runScript_20 (Nat.le_of_ble_eq_true rfl) (Nat.le_of_ble_eq_true rfl) (Nat.le_of_ble_eq_true rfl) (Nat.le_of_ble_eq_true rfl) (Nat.le_of_ble_eq_true rfl) (Nat.le_of_ble_eq_true rfl)
abbrev rm_X6_runRound : Room := { frames := 6, cells := 0, slots := 0, locals := 136 }
set_option maxRecDepth 100000 in
set_option maxHeartbeats 4000000 in
theorem tX6_runRound {l : Launch} {G : zG} (hst : l.stackTraces = false) {h : zH} {a0 : Nat} {a1 : Int32} {r : zH} (hf : fX6_runRound h a0 a1 = some r) : zMet l G yX6_runRound (.code yX6_runRound cX6_runRound 2 none) rm_X6_runRound 0 0 [.ref a0, .int a1] h (zov r) := by
  unfold fX6_runRound at hf
  obtain ⟨-, hf⟩ := zck hf
  refine z_enter (by decide) (Nat.le_of_ble_eq_true rfl) hst (fun x hx B hE => ?_)
  subst hx
  have B : zB G x cX6_runRound 2 RX6 "runRound" rm_X6_runRound none := B
  show zV G x 2 (zQ G x (zov r) 0 0) h 0 0 0 [(0, .ref a0), (1, .int a1)] []
  refine z_iload_n B dX6_runRound_0 rfl 1 rfl ?_
  refine z_iconst (v := 3) B dX6_runRound_1 (by decide) ?_
  refine z_irem B dX6_runRound_2 (by decide) ?_
  rcases zite hf with ⟨c1, hf⟩ | ⟨c1, hf⟩
  · refine z_if_eq B 28 dX6_runRound_3 (by decide) (fun _ => ?_) (fun e => absurd c1 e)
    refine z_aload_n B dX6_runRound_28 rfl 0 rfl ?_
    refine z_iload_n B dX6_runRound_29 rfl 1 rfl ?_
    refine z_iconst (v := 4) B dX6_runRound_30 (by decide) ?_
    refine z_idiv B dX6_runRound_31 (by decide) ?_
    refine z_iconst (v := 1) B dX6_runRound_32 (by decide) ?_
    refine z_aload_n B dX6_runRound_33 rfl 0 rfl ?_
    obtain ⟨w2, ew2, hf⟩ := zbs hf
    refine z_gP B fl_RX6_57 ew2 rfl dX6_runRound_34 ?_
    obtain ⟨w3, ew3, hf⟩ := zbs hf
    refine z_gI B fl_RX6_100 ew3 rfl dX6_runRound_37 ?_
    refine z_max B mm_RX6_334 kw_max1 kw_m kw_max2 dX6_runRound_40 (Nat.le_of_ble_eq_true rfl) (Nat.le_of_ble_eq_true rfl) (Nat.le_of_ble_eq_true rfl) (Nat.le_of_ble_eq_true rfl) ?_
    rcases zite hf with ⟨c6, hf⟩ | ⟨c6, hf⟩
    · cases hf
    refine z_irem B dX6_runRound_43 c6 ?_
    refine z_iconst (v := 1) B dX6_runRound_44 (by decide) ?_
    refine z_iload_n B dX6_runRound_45 rfl 1 rfl ?_
    refine z_bipush (v := 64) B dX6_runRound_46 (by decide) ?_
    refine z_idiv B dX6_runRound_48 (by decide) ?_
    refine z_sipush (v := 500) B dX6_runRound_49 (by decide) ?_
    refine z_irem B dX6_runRound_52 (by decide) ?_
    refine z_iadd B dX6_runRound_53 ?_
    obtain ⟨w4, h5, ew4, hf⟩ := zb2s hf
    refine z_callVi B [.int ((((a1 : Int32) / 4) : Int32) - ((a1 : Int32) / 4) / (if (1 : Int32) < w3 then w3 else 1) * (if (1 : Int32) < w3 then w3 else 1)), .int ((1 : Int32) + ((((a1 : Int32) / 64) : Int32) - ((a1 : Int32) / 64) / 500 * 500))] [] cw_X6_tryCopy mv_RX6_411 (tX6_tryCopy hst ew4) rfl (by decide) (kfX6_tryCopy ew4) ⟨rfl, rfl, (Nat.le_of_ble_eq_true rfl), (Nat.le_of_ble_eq_true rfl), (Nat.le_of_ble_eq_true rfl), (Nat.le_of_ble_eq_true rfl)⟩ rfl rfl (Nat.le_of_ble_eq_true rfl) dX6_runRound_54 ?_
    refine z_pop B dX6_runRound_57 rfl ?_
    refine z_goto B 89 dX6_runRound_58 (by decide) ?_
    cases hf
    exact z_vret B dX6_runRound_89 (Nat.le_of_ble_eq_true rfl) (Nat.le_of_ble_eq_true rfl)
  refine z_if_eq B 28 dX6_runRound_3 (by decide) (fun e => absurd e c1) (fun _ => ?_)
  refine z_aload_n B dX6_runRound_6 rfl 0 rfl ?_
  obtain ⟨w7, ew7, hf⟩ := zbs hf
  refine z_gP B fl_RX6_40 ew7 rfl dX6_runRound_7 ?_
  obtain ⟨w8, ew8, hf⟩ := zbs hf
  refine z_gI B fl_RX6_106 ew8 rfl dX6_runRound_10 ?_
  refine z_iconst (v := 1) B dX6_runRound_13 (by decide) ?_
  rcases zite hf with ⟨c9, hf⟩ | ⟨c9, hf⟩
  · refine z_icmp_lt B 28 dX6_runRound_14 (by decide) (fun _ => ?_) (fun e => absurd c9 e)
    refine z_aload_n B dX6_runRound_28 rfl 0 rfl ?_
    refine z_iload_n B dX6_runRound_29 rfl 1 rfl ?_
    refine z_iconst (v := 4) B dX6_runRound_30 (by decide) ?_
    refine z_idiv B dX6_runRound_31 (by decide) ?_
    refine z_iconst (v := 1) B dX6_runRound_32 (by decide) ?_
    refine z_aload_n B dX6_runRound_33 rfl 0 rfl ?_
    obtain ⟨w10, ew10, hf⟩ := zbs hf
    refine z_gP B fl_RX6_57 ew10 rfl dX6_runRound_34 ?_
    obtain ⟨w11, ew11, hf⟩ := zbs hf
    refine z_gI B fl_RX6_100 ew11 rfl dX6_runRound_37 ?_
    refine z_max B mm_RX6_334 kw_max1 kw_m kw_max2 dX6_runRound_40 (Nat.le_of_ble_eq_true rfl) (Nat.le_of_ble_eq_true rfl) (Nat.le_of_ble_eq_true rfl) (Nat.le_of_ble_eq_true rfl) ?_
    rcases zite hf with ⟨c14, hf⟩ | ⟨c14, hf⟩
    · cases hf
    refine z_irem B dX6_runRound_43 c14 ?_
    refine z_iconst (v := 1) B dX6_runRound_44 (by decide) ?_
    refine z_iload_n B dX6_runRound_45 rfl 1 rfl ?_
    refine z_bipush (v := 64) B dX6_runRound_46 (by decide) ?_
    refine z_idiv B dX6_runRound_48 (by decide) ?_
    refine z_sipush (v := 500) B dX6_runRound_49 (by decide) ?_
    refine z_irem B dX6_runRound_52 (by decide) ?_
    refine z_iadd B dX6_runRound_53 ?_
    obtain ⟨w12, h13, ew12, hf⟩ := zb2s hf
    refine z_callVi B [.int ((((a1 : Int32) / 4) : Int32) - ((a1 : Int32) / 4) / (if (1 : Int32) < w11 then w11 else 1) * (if (1 : Int32) < w11 then w11 else 1)), .int ((1 : Int32) + ((((a1 : Int32) / 64) : Int32) - ((a1 : Int32) / 64) / 500 * 500))] [] cw_X6_tryCopy mv_RX6_411 (tX6_tryCopy hst ew12) rfl (by decide) (kfX6_tryCopy ew12) ⟨rfl, rfl, (Nat.le_of_ble_eq_true rfl), (Nat.le_of_ble_eq_true rfl), (Nat.le_of_ble_eq_true rfl), (Nat.le_of_ble_eq_true rfl)⟩ rfl rfl (Nat.le_of_ble_eq_true rfl) dX6_runRound_54 ?_
    refine z_pop B dX6_runRound_57 rfl ?_
    refine z_goto B 89 dX6_runRound_58 (by decide) ?_
    cases hf
    exact z_vret B dX6_runRound_89 (Nat.le_of_ble_eq_true rfl) (Nat.le_of_ble_eq_true rfl)
  refine z_icmp_lt B 28 dX6_runRound_14 (by decide) (fun e => absurd e c9) (fun _ => ?_)
  refine z_aload_n B dX6_runRound_17 rfl 0 rfl ?_
  obtain ⟨w15, ew15, hf⟩ := zbs hf
  refine z_gP B fl_RX6_57 ew15 rfl dX6_runRound_18 ?_
  obtain ⟨w16, ew16, hf⟩ := zbs hf
  refine z_gI B fl_RX6_103 ew16 rfl dX6_runRound_21 ?_
  refine z_iconst (v := 1) B dX6_runRound_24 (by decide) ?_
  rcases zite hf with ⟨c17, hf⟩ | ⟨c17, hf⟩
  · refine z_icmp_ge B 61 dX6_runRound_25 (by decide) (fun _ => ?_) (fun e => absurd c17 e)
    refine z_aload_n B dX6_runRound_61 rfl 0 rfl ?_
    refine z_iload_n B dX6_runRound_62 rfl 1 rfl ?_
    refine z_iconst (v := 4) B dX6_runRound_63 (by decide) ?_
    refine z_idiv B dX6_runRound_64 (by decide) ?_
    refine z_aload_n B dX6_runRound_65 rfl 0 rfl ?_
    obtain ⟨w18, ew18, hf⟩ := zbs hf
    refine z_gP B fl_RX6_40 ew18 rfl dX6_runRound_66 ?_
    obtain ⟨w19, ew19, hf⟩ := zbs hf
    refine z_gI B fl_RX6_106 ew19 rfl dX6_runRound_69 ?_
    rcases zite hf with ⟨c25, hf⟩ | ⟨c25, hf⟩
    · cases hf
    refine z_irem B dX6_runRound_72 c25 ?_
    refine z_iload_n B dX6_runRound_73 rfl 1 rfl ?_
    refine z_bipush (v := 64) B dX6_runRound_74 (by decide) ?_
    refine z_idiv B dX6_runRound_76 (by decide) ?_
    refine z_aload_n B dX6_runRound_77 rfl 0 rfl ?_
    obtain ⟨w20, ew20, hf⟩ := zbs hf
    refine z_gP B fl_RX6_57 ew20 rfl dX6_runRound_78 ?_
    obtain ⟨w21, ew21, hf⟩ := zbs hf
    refine z_gI B fl_RX6_103 ew21 rfl dX6_runRound_81 ?_
    rcases zite hf with ⟨c24, hf⟩ | ⟨c24, hf⟩
    · cases hf
    refine z_irem B dX6_runRound_84 c24 ?_
    obtain ⟨w22, h23, ew22, hf⟩ := zb2s hf
    refine z_callVi B [.int ((((a1 : Int32) / 4) : Int32) - ((a1 : Int32) / 4) / w19 * w19), .int ((((a1 : Int32) / 64) : Int32) - ((a1 : Int32) / 64) / w21 * w21)] [] cw_X6_tryPaste mv_RX6_417 (tX6_tryPaste hst ew22) rfl (by decide) (kfX6_tryPaste ew22) ⟨rfl, rfl, (Nat.le_of_ble_eq_true rfl), (Nat.le_of_ble_eq_true rfl), (Nat.le_of_ble_eq_true rfl), (Nat.le_of_ble_eq_true rfl)⟩ rfl rfl (Nat.le_of_ble_eq_true rfl) dX6_runRound_85 ?_
    refine z_pop B dX6_runRound_88 rfl ?_
    cases hf
    exact z_vret B dX6_runRound_89 (Nat.le_of_ble_eq_true rfl) (Nat.le_of_ble_eq_true rfl)
  refine z_icmp_ge B 61 dX6_runRound_25 (by decide) (fun e => absurd e c17) (fun _ => ?_)
  refine z_aload_n B dX6_runRound_28 rfl 0 rfl ?_
  refine z_iload_n B dX6_runRound_29 rfl 1 rfl ?_
  refine z_iconst (v := 4) B dX6_runRound_30 (by decide) ?_
  refine z_idiv B dX6_runRound_31 (by decide) ?_
  refine z_iconst (v := 1) B dX6_runRound_32 (by decide) ?_
  refine z_aload_n B dX6_runRound_33 rfl 0 rfl ?_
  obtain ⟨w26, ew26, hf⟩ := zbs hf
  refine z_gP B fl_RX6_57 ew26 rfl dX6_runRound_34 ?_
  obtain ⟨w27, ew27, hf⟩ := zbs hf
  refine z_gI B fl_RX6_100 ew27 rfl dX6_runRound_37 ?_
  refine z_max B mm_RX6_334 kw_max1 kw_m kw_max2 dX6_runRound_40 (Nat.le_of_ble_eq_true rfl) (Nat.le_of_ble_eq_true rfl) (Nat.le_of_ble_eq_true rfl) (Nat.le_of_ble_eq_true rfl) ?_
  rcases zite hf with ⟨c30, hf⟩ | ⟨c30, hf⟩
  · cases hf
  refine z_irem B dX6_runRound_43 c30 ?_
  refine z_iconst (v := 1) B dX6_runRound_44 (by decide) ?_
  refine z_iload_n B dX6_runRound_45 rfl 1 rfl ?_
  refine z_bipush (v := 64) B dX6_runRound_46 (by decide) ?_
  refine z_idiv B dX6_runRound_48 (by decide) ?_
  refine z_sipush (v := 500) B dX6_runRound_49 (by decide) ?_
  refine z_irem B dX6_runRound_52 (by decide) ?_
  refine z_iadd B dX6_runRound_53 ?_
  obtain ⟨w28, h29, ew28, hf⟩ := zb2s hf
  refine z_callVi B [.int ((((a1 : Int32) / 4) : Int32) - ((a1 : Int32) / 4) / (if (1 : Int32) < w27 then w27 else 1) * (if (1 : Int32) < w27 then w27 else 1)), .int ((1 : Int32) + ((((a1 : Int32) / 64) : Int32) - ((a1 : Int32) / 64) / 500 * 500))] [] cw_X6_tryCopy mv_RX6_411 (tX6_tryCopy hst ew28) rfl (by decide) (kfX6_tryCopy ew28) ⟨rfl, rfl, (Nat.le_of_ble_eq_true rfl), (Nat.le_of_ble_eq_true rfl), (Nat.le_of_ble_eq_true rfl), (Nat.le_of_ble_eq_true rfl)⟩ rfl rfl (Nat.le_of_ble_eq_true rfl) dX6_runRound_54 ?_
  refine z_pop B dX6_runRound_57 rfl ?_
  refine z_goto B 89 dX6_runRound_58 (by decide) ?_
  cases hf
  exact z_vret B dX6_runRound_89 (Nat.le_of_ble_eq_true rfl) (Nat.le_of_ble_eq_true rfl)
abbrev rm_X6_simulate : Room := { frames := 7, cells := 1, slots := 6, locals := 157 }
set_option maxRecDepth 100000 in
set_option maxHeartbeats 4000000 in
theorem fX6_simulate_L39_ok {G : zG} {x : zX} (B : zB G x cX6_simulate 7 RX6 "simulate" rm_X6_simulate (some .int)) (hst : (zl x).stackTraces = false) (hE : ∀ e ∈ (zc x).exceptionTable.toList, False) {r : (Int32 ⊕ String) × zH} {k : zH → Int64 → Int32 → Option ((Int32 ⊕ String) × zH)} {u0 : Nat} {u1 : Int64} {u3 : Int32} (hk : ∀ h v4 v6, k h v4 v6 = some r → zV G x 7 (zQ G x (zoxi r) 1 6) h 0 0 73 [(0, .ref u0), (1, .long u1), (3, .int u3), (4, .long v4), (6, .int v6)] []) : ∀ n h v4 v6, fX6_simulate_L39 k u0 u1 u3 n h v4 v6 = some r → zV G x 7 (zQ G x (zoxi r) 1 6) h 0 0 39 [(0, .ref u0), (1, .long u1), (3, .int u3), (4, .long v4), (6, .int v6)] [] := by
  intro n
  induction n with
  | zero =>
    intro h v4 v6 hf
    have hf : (none : Option ((Int32 ⊕ String) × zH)) = some r := hf
    cases hf
  | succ n ih =>
    intro h v4 v6 hf
    rw [fX6_simulate_L39] at hf
    refine z_iload B dX6_simulate_39 4 rfl ?_
    refine z_iload_n B dX6_simulate_41 rfl 2 rfl ?_
    rcases zite hf with ⟨c1, hf⟩ | ⟨c1, hf⟩
    · refine z_icmp_ge B 73 dX6_simulate_42 (by decide) (fun _ => ?_) (fun e => absurd c1 e)
      exact hk _ _ _ hf
    refine z_icmp_ge B 73 dX6_simulate_42 (by decide) (fun e => absurd e c1) (fun _ => ?_)
    refine z_lload B dX6_simulate_45 3 rfl ?_
    refine z_ldc2 B dX6_simulate_47 kl_RX6_362 ?_
    refine z_lmul B dX6_simulate_50 ?_
    refine z_ldc2 B dX6_simulate_51 kl_RX6_364 ?_
    refine z_ladd B dX6_simulate_54 ?_
    refine z_lstore (lv' := [(4, .long ((((v4 : Int64) * 6364136223846793005) : Int64) + 1442695040888963407)), (0, .ref u0), (1, .long u1), (3, .int u3), (6, .int v6)]) B dX6_simulate_55 (by decide) rfl ?_
    refine z_aload_n B dX6_simulate_57 rfl 1 rfl ?_
    refine z_lload B dX6_simulate_58 0 rfl ?_
    refine z_bipush (v := 33) B dX6_simulate_60 (by decide) ?_
    refine z_lushr B dX6_simulate_62 ?_
    refine z_l2i B dX6_simulate_63 ?_
    obtain ⟨h2, eh2, hf⟩ := zbs hf
    refine z_callVv B [.int ((((((((v4 : Int64) * 6364136223846793005) : Int64) + 1442695040888963407) : Int64).toUInt64 >>> ((33 : Int32).toInt64.toUInt64 &&& Int64.toUInt64 63)).toInt64) : Int64).toInt32] [] cw_X6_runRound mv_RX6_366 (tX6_runRound hst eh2) rfl (by decide) (kfX6_runRound eh2) ⟨rfl, rfl, (Nat.le_of_ble_eq_true rfl), (Nat.le_of_ble_eq_true rfl), (Nat.le_of_ble_eq_true rfl), (Nat.le_of_ble_eq_true rfl)⟩ rfl rfl (Nat.le_of_ble_eq_true rfl) dX6_simulate_64 ?_
    refine z_iinc (v' := (v6 + 1)) (lv' := [(6, .int (v6 + 1)), (4, .long ((((v4 : Int64) * 6364136223846793005) : Int64) + 1442695040888963407)), (0, .ref u0), (1, .long u1), (3, .int u3)]) B dX6_simulate_67 4 rfl rfl (by decide) rfl ?_
    refine z_goto B 39 dX6_simulate_70 (by decide) ?_
    refine zV.sub [2, 3, 4, 1, 0] rfl ?_
    exact ih _ _ _ hf
set_option maxRecDepth 100000 in
set_option maxHeartbeats 4000000 in
theorem tX6_simulate {l : Launch} {G : zG} (hst : l.stackTraces = false) {h : zH} {a0 : Nat} {a1 : Int64} {a3 : Int32} {r : (Int32 ⊕ String) × zH} (hf : fX6_simulate h a0 a1 a3 = some r) : zMet l G yX6_simulate (.code yX6_simulate cX6_simulate 7 (some .int)) rm_X6_simulate 1 6 [.ref a0, .long a1, .int a3] h (zoxi r) := by
  unfold fX6_simulate at hf
  obtain ⟨-, hf⟩ := zck hf
  refine z_enter (by decide) (Nat.le_of_ble_eq_true rfl) hst (fun x hx B hE => ?_)
  subst hx
  have B : zB G x cX6_simulate 7 RX6 "simulate" rm_X6_simulate (some .int) := B
  show zV G x 7 (zQ G x (zoxi r) 1 6) h 0 0 0 [(0, .ref a0), (1, .long a1), (3, .int a3)] []
  refine z_iload_n B dX6_simulate_0 rfl 2 rfl ?_
  refine z_iconst (v := 1) B dX6_simulate_1 (by decide) ?_
  rcases zite hf with ⟨c1, hf⟩ | ⟨c1, hf⟩
  · refine z_icmp_lt B 11 dX6_simulate_2 (by decide) (fun _ => ?_) (fun e => absurd c1 e)
    cases hf
    exact z_throwW B hE rfl th_RX6_67_71 sl_360 dX6_simulate_11 dX6_simulate_14 dX6_simulate_15 dX6_simulate_18 dX6_simulate_21 (Nat.le_of_ble_eq_true rfl) (Nat.le_of_ble_eq_true rfl) (Nat.le_of_ble_eq_true rfl) (Nat.le_of_ble_eq_true rfl) (Nat.le_of_ble_eq_true rfl) (Nat.le_of_ble_eq_true rfl)
  refine z_icmp_lt B 11 dX6_simulate_2 (by decide) (fun e => absurd e c1) (fun _ => ?_)
  refine z_iload_n B dX6_simulate_5 rfl 2 rfl ?_
  refine z_bipush (v := 50) B dX6_simulate_6 (by decide) ?_
  rcases zite hf with ⟨c2, hf⟩ | ⟨c2, hf⟩
  · refine z_icmp_le B 22 dX6_simulate_8 (by decide) (fun _ => ?_) (fun e => absurd c2 e)
    refine z_aload_n B dX6_simulate_22 rfl 0 rfl ?_
    obtain ⟨w3, ew3, hf⟩ := zbs hf
    refine z_gP B fl_RX6_40 ew3 rfl dX6_simulate_23 ?_
    refine z_aload_n B dX6_simulate_26 rfl 0 rfl ?_
    obtain ⟨w4, ew4, hf⟩ := zbs hf
    refine z_gP B fl_RX6_36 ew4 rfl dX6_simulate_27 ?_
    obtain ⟨h5, eh5, hf⟩ := zbs hf
    refine z_callVv B [.ref w4] [] cw_X3_takeOver mv_RX6_271 (tX3_takeOver hst eh5) rfl (by decide) (kfX3_takeOver eh5) ⟨rfl, rfl, (Nat.le_of_ble_eq_true rfl), (Nat.le_of_ble_eq_true rfl), (Nat.le_of_ble_eq_true rfl), (Nat.le_of_ble_eq_true rfl)⟩ rfl rfl (Nat.le_of_ble_eq_true rfl) dX6_simulate_30 ?_
    refine z_lload_n B dX6_simulate_33 rfl 1 rfl ?_
    refine z_lstore (lv' := [(4, .long a1), (0, .ref a0), (1, .long a1), (3, .int a3)]) B dX6_simulate_34 (by decide) rfl ?_
    refine z_iconst (v := 0) B dX6_simulate_36 (by decide) ?_
    refine z_istore (lv' := [(6, .int 0), (4, .long a1), (0, .ref a0), (1, .long a1), (3, .int a3)]) B dX6_simulate_37 (by decide) rfl ?_
    refine zV.sub [2, 3, 4, 1, 0] rfl ?_
    refine fX6_simulate_L39_ok B hst hE (fun h6 y7 y8 hf => ?_) _ _ _ _ hf
    refine z_aload_n B dX6_simulate_73 rfl 0 rfl ?_
    obtain ⟨w9, ew9, hf⟩ := zbs hf
    refine z_gP B fl_RX6_40 ew9 rfl dX6_simulate_74 ?_
    obtain ⟨w10, ew10, hf⟩ := zbs hf
    refine z_gI B fl_RX6_119 ew10 rfl dX6_simulate_77 ?_
    refine z_aload_n B dX6_simulate_80 rfl 0 rfl ?_
    obtain ⟨w11, ew11, hf⟩ := zbs hf
    refine z_gP B fl_RX6_40 ew11 rfl dX6_simulate_81 ?_
    obtain ⟨w12, h13, ew12, hf⟩ := zb2s hf
    refine z_callVi B [] [.int w10] cw_X3_usedSize mv_RX6_112 (tX3_usedSize hst ew12) rfl (by decide) (kfX3_usedSize ew12) ⟨rfl, rfl, (Nat.le_of_ble_eq_true rfl), (Nat.le_of_ble_eq_true rfl), (Nat.le_of_ble_eq_true rfl), (Nat.le_of_ble_eq_true rfl)⟩ rfl rfl (Nat.le_of_ble_eq_true rfl) dX6_simulate_84 ?_
    refine z_iadd B dX6_simulate_87 ?_
    cases hf
    exact z_iret B dX6_simulate_88 (Nat.le_of_ble_eq_true rfl) (Nat.le_of_ble_eq_true rfl)
  refine z_icmp_le B 22 dX6_simulate_8 (by decide) (fun e => absurd e c2) (fun _ => ?_)
  cases hf
  exact z_throwW B hE rfl th_RX6_67_71 sl_360 dX6_simulate_11 dX6_simulate_14 dX6_simulate_15 dX6_simulate_18 dX6_simulate_21 (Nat.le_of_ble_eq_true rfl) (Nat.le_of_ble_eq_true rfl) (Nat.le_of_ble_eq_true rfl) (Nat.le_of_ble_eq_true rfl) (Nat.le_of_ble_eq_true rfl) (Nat.le_of_ble_eq_true rfl)
abbrev rm_X6_requireSlot : Room := { frames := 6, cells := 1, slots := 6, locals := 82 }
set_option maxRecDepth 100000 in
set_option maxHeartbeats 4000000 in
theorem tX6_requireSlot {l : Launch} {G : zG} (hst : l.stackTraces = false) {h : zH} {a0 : Int32} {r : Option String × zH} (hf : fX6_requireSlot h a0 = some r) : zMet l G yX6_requireSlot (.code yX6_requireSlot cX6_requireSlot 1 none) rm_X6_requireSlot 1 6 [.int a0] h (zoxv r) := by
  unfold fX6_requireSlot at hf
  refine z_enter (by decide) (Nat.le_of_ble_eq_true rfl) hst (fun x hx B hE => ?_)
  subst hx
  have B : zB G x cX6_requireSlot 1 RX6 "requireSlot" rm_X6_requireSlot none := B
  show zV G x 1 (zQ G x (zoxv r) 1 6) h 0 0 0 [(0, .int a0)] []
  refine z_iload_n B dX6_requireSlot_0 rfl 0 rfl ?_
  rcases zite hf with ⟨c1, hf⟩ | ⟨c1, hf⟩
  · refine z_if_lt B 9 dX6_requireSlot_1 (by decide) (fun _ => ?_) (fun e => absurd c1 e)
    cases hf
    exact z_throwW B hE rfl th_RX6_337_341 sl_401 dX6_requireSlot_9 dX6_requireSlot_12 dX6_requireSlot_13 dX6_requireSlot_16 dX6_requireSlot_19 (Nat.le_of_ble_eq_true rfl) (Nat.le_of_ble_eq_true rfl) (Nat.le_of_ble_eq_true rfl) (Nat.le_of_ble_eq_true rfl) (Nat.le_of_ble_eq_true rfl) (Nat.le_of_ble_eq_true rfl)
  refine z_if_lt B 9 dX6_requireSlot_1 (by decide) (fun e => absurd e c1) (fun _ => ?_)
  refine z_iload_n B dX6_requireSlot_4 rfl 0 rfl ?_
  refine z_iconst (v := 2) B dX6_requireSlot_5 (by decide) ?_
  rcases zite hf with ⟨c2, hf⟩ | ⟨c2, hf⟩
  · refine z_icmp_lt B 20 dX6_requireSlot_6 (by decide) (fun _ => ?_) (fun e => absurd c2 e)
    cases hf
    exact z_vret B dX6_requireSlot_20 (Nat.le_of_ble_eq_true rfl) (Nat.le_of_ble_eq_true rfl)
  refine z_icmp_lt B 20 dX6_requireSlot_6 (by decide) (fun e => absurd e c2) (fun _ => ?_)
  cases hf
  exact z_throwW B hE rfl th_RX6_337_341 sl_401 dX6_requireSlot_9 dX6_requireSlot_12 dX6_requireSlot_13 dX6_requireSlot_16 dX6_requireSlot_19 (Nat.le_of_ble_eq_true rfl) (Nat.le_of_ble_eq_true rfl) (Nat.le_of_ble_eq_true rfl) (Nat.le_of_ble_eq_true rfl) (Nat.le_of_ble_eq_true rfl) (Nat.le_of_ble_eq_true rfl)
abbrev rm_X6_save : Room := { frames := 7, cells := 1, slots := 6, locals := 102 }
set_option maxRecDepth 100000 in
set_option maxHeartbeats 4000000 in
theorem tX6_save {l : Launch} {G : zG} (hst : l.stackTraces = false) {h : zH} {a0 : Nat} {a1 : Int32} {r : (Int32 ⊕ String) × zH} (hf : fX6_save h a0 a1 = some r) : zMet l G yX6_save (.code yX6_save cX6_save 2 (some .int)) rm_X6_save 1 6 [.ref a0, .int a1] h (zoxi r) := by
  unfold fX6_save at hf
  obtain ⟨-, hf⟩ := zck hf
  refine z_enter (by decide) (Nat.le_of_ble_eq_true rfl) hst (fun x hx B hE => ?_)
  subst hx
  have B : zB G x cX6_save 2 RX6 "save" rm_X6_save (some .int) := B
  show zV G x 2 (zQ G x (zoxi r) 1 6) h 0 0 0 [(0, .ref a0), (1, .int a1)] []
  refine z_iload_n B dX6_save_0 rfl 1 rfl ?_
  rcases zb4s hf with ⟨E2, h1, eh1, rfl⟩ | ⟨h1, eh1, hf⟩
  · exact z_callSX B hE [.int a1] [] cw_X6_requireSlot mt_RX6_369 (tX6_requireSlot hst eh1) ⟨rfl, rfl, (Nat.le_of_ble_eq_true rfl), (Nat.le_of_ble_eq_true rfl), (Nat.le_of_ble_eq_true rfl), (Nat.le_of_ble_eq_true rfl)⟩ rfl rfl (Nat.le_of_ble_eq_true rfl) dX6_save_1 (Nat.le_of_ble_eq_true rfl) (Nat.le_of_ble_eq_true rfl)
  refine z_callSv B [.int a1] [] cw_X6_requireSlot mt_RX6_369 (tX6_requireSlot hst eh1) ⟨rfl, rfl, (Nat.le_of_ble_eq_true rfl), (Nat.le_of_ble_eq_true rfl), (Nat.le_of_ble_eq_true rfl), (Nat.le_of_ble_eq_true rfl)⟩ rfl rfl (Nat.le_of_ble_eq_true rfl) dX6_save_1 ?_
  refine z_aload_n B dX6_save_4 rfl 0 rfl ?_
  obtain ⟨w3, ew3, hf⟩ := zbs hf
  refine z_gP B fl_RX6_47 ew3 rfl dX6_save_5 ?_
  refine z_iload_n B dX6_save_8 rfl 1 rfl ?_
  obtain ⟨w4, ew4, hf⟩ := zbs hf
  refine z_aP B ew4 dX6_save_9 ?_
  refine z_aload_n B dX6_save_10 rfl 0 rfl ?_
  obtain ⟨w5, ew5, hf⟩ := zbs hf
  refine z_gP B fl_RX6_36 ew5 rfl dX6_save_11 ?_
  obtain ⟨h6, eh6, hf⟩ := zbs hf
  refine z_callVv B [.ref w5] [] cw_X3_takeOver mv_RX6_271 (tX3_takeOver hst eh6) rfl (by decide) (kfX3_takeOver eh6) ⟨rfl, rfl, (Nat.le_of_ble_eq_true rfl), (Nat.le_of_ble_eq_true rfl), (Nat.le_of_ble_eq_true rfl), (Nat.le_of_ble_eq_true rfl)⟩ rfl rfl (Nat.le_of_ble_eq_true rfl) dX6_save_14 ?_
  refine z_aload_n B dX6_save_17 rfl 0 rfl ?_
  obtain ⟨w7, ew7, hf⟩ := zbs hf
  refine z_gP B fl_RX6_50 ew7 rfl dX6_save_18 ?_
  refine z_iload_n B dX6_save_21 rfl 1 rfl ?_
  refine z_iconst (v := 1) B dX6_save_22 (by decide) ?_
  obtain ⟨h8, eh8, hf⟩ := zbs hf
  refine z_bZ B eh8 dX6_save_23 ?_
  refine z_aload_n B dX6_save_24 rfl 0 rfl ?_
  obtain ⟨w9, ew9, hf⟩ := zbs hf
  refine z_gP B fl_RX6_36 ew9 rfl dX6_save_25 ?_
  obtain ⟨w10, ew10, hf⟩ := zbs hf
  refine z_gI B fl_RX6_106 ew10 rfl dX6_save_28 ?_
  cases hf
  exact z_iret B dX6_save_31 (Nat.le_of_ble_eq_true rfl) (Nat.le_of_ble_eq_true rfl)
abbrev rm_X6_restore : Room := { frames := 7, cells := 2, slots := 12, locals := 102 }
set_option maxRecDepth 100000 in
set_option maxHeartbeats 4000000 in
theorem tX6_restore {l : Launch} {G : zG} (hst : l.stackTraces = false) {h : zH} {a0 : Nat} {a1 : Int32} {r : (Int32 ⊕ String) × zH} (hf : fX6_restore h a0 a1 = some r) : zMet l G yX6_restore (.code yX6_restore cX6_restore 2 (some .int)) rm_X6_restore 2 12 [.ref a0, .int a1] h (zoxi r) := by
  unfold fX6_restore at hf
  obtain ⟨-, hf⟩ := zck hf
  refine z_enter (by decide) (Nat.le_of_ble_eq_true rfl) hst (fun x hx B hE => ?_)
  subst hx
  have B : zB G x cX6_restore 2 RX6 "restore" rm_X6_restore (some .int) := B
  show zV G x 2 (zQ G x (zoxi r) 2 12) h 0 0 0 [(0, .ref a0), (1, .int a1)] []
  refine z_iload_n B dX6_restore_0 rfl 1 rfl ?_
  rcases zb4s hf with ⟨E2, h1, eh1, rfl⟩ | ⟨h1, eh1, hf⟩
  · exact z_callSX B hE [.int a1] [] cw_X6_requireSlot mt_RX6_369 (tX6_requireSlot hst eh1) ⟨rfl, rfl, (Nat.le_of_ble_eq_true rfl), (Nat.le_of_ble_eq_true rfl), (Nat.le_of_ble_eq_true rfl), (Nat.le_of_ble_eq_true rfl)⟩ rfl rfl (Nat.le_of_ble_eq_true rfl) dX6_restore_1 (Nat.le_of_ble_eq_true rfl) (Nat.le_of_ble_eq_true rfl)
  refine z_callSv B [.int a1] [] cw_X6_requireSlot mt_RX6_369 (tX6_requireSlot hst eh1) ⟨rfl, rfl, (Nat.le_of_ble_eq_true rfl), (Nat.le_of_ble_eq_true rfl), (Nat.le_of_ble_eq_true rfl), (Nat.le_of_ble_eq_true rfl)⟩ rfl rfl (Nat.le_of_ble_eq_true rfl) dX6_restore_1 ?_
  refine z_aload_n B dX6_restore_4 rfl 0 rfl ?_
  obtain ⟨w3, ew3, hf⟩ := zbs hf
  refine z_gP B fl_RX6_50 ew3 rfl dX6_restore_5 ?_
  refine z_iload_n B dX6_restore_8 rfl 1 rfl ?_
  obtain ⟨w4, ew4, hf⟩ := zbs hf
  refine z_aZ B ew4 dX6_restore_9 ?_
  rcases zite hf with ⟨c5, hf⟩ | ⟨c5, hf⟩
  · refine z_if_ne B 24 dX6_restore_10 (by decide) (fun e => absurd c5 e) (fun _ => ?_)
    cases hf
    exact z_throwW B hE rfl th_RX6_78_82 sl_372 dX6_restore_13 dX6_restore_16 dX6_restore_17 dX6_restore_20 dX6_restore_23 (Nat.le_of_ble_eq_true rfl) (Nat.le_of_ble_eq_true rfl) (Nat.le_of_ble_eq_true rfl) (Nat.le_of_ble_eq_true rfl) (Nat.le_of_ble_eq_true rfl) (Nat.le_of_ble_eq_true rfl)
  refine z_if_ne B 24 dX6_restore_10 (by decide) (fun _ => ?_) (fun e => absurd e c5)
  refine z_aload_n B dX6_restore_24 rfl 0 rfl ?_
  obtain ⟨w6, ew6, hf⟩ := zbs hf
  refine z_gP B fl_RX6_36 ew6 rfl dX6_restore_25 ?_
  refine z_aload_n B dX6_restore_28 rfl 0 rfl ?_
  obtain ⟨w7, ew7, hf⟩ := zbs hf
  refine z_gP B fl_RX6_47 ew7 rfl dX6_restore_29 ?_
  refine z_iload_n B dX6_restore_32 rfl 1 rfl ?_
  obtain ⟨w8, ew8, hf⟩ := zbs hf
  refine z_aP B ew8 dX6_restore_33 ?_
  obtain ⟨h9, eh9, hf⟩ := zbs hf
  refine z_callVv B [.ref w8] [] cw_X3_takeOver mv_RX6_271 (tX3_takeOver hst eh9) rfl (by decide) (kfX3_takeOver eh9) ⟨rfl, rfl, (Nat.le_of_ble_eq_true rfl), (Nat.le_of_ble_eq_true rfl), (Nat.le_of_ble_eq_true rfl), (Nat.le_of_ble_eq_true rfl)⟩ rfl rfl (Nat.le_of_ble_eq_true rfl) dX6_restore_34 ?_
  refine z_aload_n B dX6_restore_37 rfl 0 rfl ?_
  refine z_iconst (v := 0) B dX6_restore_38 (by decide) ?_
  obtain ⟨h10, eh10, hf⟩ := zbs hf
  refine z_pI B fl_RX6_266 eh10 rfl dX6_restore_39 ?_
  refine z_aload_n B dX6_restore_42 rfl 0 rfl ?_
  obtain ⟨h11, eh11, hf⟩ := zbs hf
  refine z_callVv B [] [] cw_X6_findPaths mv_RX6_263 (tX6_findPaths hst eh11) rfl (by decide) (kfX6_findPaths eh11) ⟨rfl, rfl, (Nat.le_of_ble_eq_true rfl), (Nat.le_of_ble_eq_true rfl), (Nat.le_of_ble_eq_true rfl), (Nat.le_of_ble_eq_true rfl)⟩ rfl rfl (Nat.le_of_ble_eq_true rfl) dX6_restore_43 ?_
  refine z_aload_n B dX6_restore_46 rfl 0 rfl ?_
  obtain ⟨w12, ew12, hf⟩ := zbs hf
  refine z_gP B fl_RX6_36 ew12 rfl dX6_restore_47 ?_
  obtain ⟨w13, ew13, hf⟩ := zbs hf
  refine z_gI B fl_RX6_106 ew13 rfl dX6_restore_50 ?_
  cases hf
  exact z_iret B dX6_restore_53 (Nat.le_of_ble_eq_true rfl) (Nat.le_of_ble_eq_true rfl)
abbrev rm_X7_init : Room := { frames := 1, cells := 23, slots := 7694, locals := 12 }
set_option maxRecDepth 100000 in
set_option maxHeartbeats 4000000 in
theorem tX7_init {l : Launch} {G : zG} (hst : l.stackTraces = false) {h : zH} {a0 : Nat} {r : zH} (hf : fX7_init h a0 = some r) : zMet l G yX7_init (.code yX7_init cX7_init 1 none) rm_X7_init 23 7694 [.ref a0] h (zov r) := by
  unfold fX7_init at hf
  obtain ⟨-, hf⟩ := zck hf
  refine z_enter (by decide) (Nat.le_of_ble_eq_true rfl) hst (fun x hx B hE => ?_)
  subst hx
  have B : zB G x cX7_init 1 RX7 "<init>" rm_X7_init none := B
  show zV G x 1 (zQ G x (zov r) 23 7694) h 0 0 0 [(0, .ref a0)] []
  refine z_aload_n B dX7_init_0 rfl 0 rfl ?_
  refine z_oinit B oi_RX7_1 kw_o1 kw_o2 dX7_init_1 (Nat.le_of_ble_eq_true rfl) (Nat.le_of_ble_eq_true rfl) ?_
  refine z_aload_n B dX7_init_4 rfl 0 rfl ?_
  refine z_sipush (v := 160) B dX7_init_5 (by decide) ?_
  obtain ⟨h1, eh1, hf⟩ := zbs hf
  refine z_newaIS (N := 160) B kw_ai eh1 (by decide) rfl (Nat.le_of_ble_eq_true rfl) dX7_init_8 (Nat.le_of_ble_eq_true rfl) (Nat.le_of_ble_eq_true rfl) ?_
  obtain ⟨h2, eh2, hf⟩ := zbs hf
  refine z_pP B fl_RX7_7 eh2 (Or.inr rfl) rfl rfl rfl dX7_init_10 ?_
  refine z_aload_n B dX7_init_13 rfl 0 rfl ?_
  refine z_iconst (v := 1) B dX7_init_14 (by decide) ?_
  obtain ⟨h3, eh3, hf⟩ := zbs hf
  refine z_pI B fl_RX7_13 eh3 rfl dX7_init_15 ?_
  refine z_aload_n B dX7_init_18 rfl 0 rfl ?_
  refine z_bipush (v := 20) B dX7_init_19 (by decide) ?_
  obtain ⟨h4, eh4, hf⟩ := zbs hf
  refine z_newaIS (N := 20) B kw_ai eh4 (by decide) rfl (Nat.le_of_ble_eq_true rfl) dX7_init_21 (Nat.le_of_ble_eq_true rfl) (Nat.le_of_ble_eq_true rfl) ?_
  obtain ⟨h5, eh5, hf⟩ := zbs hf
  refine z_pP B fl_RX7_17 eh5 (Or.inr rfl) rfl rfl rfl dX7_init_23 ?_
  refine z_aload_n B dX7_init_26 rfl 0 rfl ?_
  refine z_bipush (v := 20) B dX7_init_27 (by decide) ?_
  obtain ⟨h6, eh6, hf⟩ := zbs hf
  refine z_newaIS (N := 20) B kw_ai eh6 (by decide) rfl (Nat.le_of_ble_eq_true rfl) dX7_init_29 (Nat.le_of_ble_eq_true rfl) (Nat.le_of_ble_eq_true rfl) ?_
  obtain ⟨h7, eh7, hf⟩ := zbs hf
  refine z_pP B fl_RX7_20 eh7 (Or.inr rfl) rfl rfl rfl dX7_init_31 ?_
  refine z_aload_n B dX7_init_34 rfl 0 rfl ?_
  refine z_bipush (v := 20) B dX7_init_35 (by decide) ?_
  obtain ⟨h8, eh8, hf⟩ := zbs hf
  refine z_newaIS (N := 20) B kw_ai eh8 (by decide) rfl (Nat.le_of_ble_eq_true rfl) dX7_init_37 (Nat.le_of_ble_eq_true rfl) (Nat.le_of_ble_eq_true rfl) ?_
  obtain ⟨h9, eh9, hf⟩ := zbs hf
  refine z_pP B fl_RX7_23 eh9 (Or.inr rfl) rfl rfl rfl dX7_init_39 ?_
  refine z_aload_n B dX7_init_42 rfl 0 rfl ?_
  refine z_bipush (v := 20) B dX7_init_43 (by decide) ?_
  obtain ⟨h10, eh10, hf⟩ := zbs hf
  refine z_newaIS (N := 20) B kw_ai eh10 (by decide) rfl (Nat.le_of_ble_eq_true rfl) dX7_init_45 (Nat.le_of_ble_eq_true rfl) (Nat.le_of_ble_eq_true rfl) ?_
  obtain ⟨h11, eh11, hf⟩ := zbs hf
  refine z_pP B fl_RX7_26 eh11 (Or.inr rfl) rfl rfl rfl dX7_init_47 ?_
  refine z_aload_n B dX7_init_50 rfl 0 rfl ?_
  refine z_bipush (v := 6) B dX7_init_51 (by decide) ?_
  obtain ⟨h12, eh12, hf⟩ := zbs hf
  refine z_newaIS (N := 6) B kw_ai eh12 (by decide) rfl (Nat.le_of_ble_eq_true rfl) dX7_init_53 (Nat.le_of_ble_eq_true rfl) (Nat.le_of_ble_eq_true rfl) ?_
  obtain ⟨h13, eh13, hf⟩ := zbs hf
  refine z_pP B fl_RX7_29 eh13 (Or.inr rfl) rfl rfl rfl dX7_init_55 ?_
  refine z_aload_n B dX7_init_58 rfl 0 rfl ?_
  refine z_bipush (v := 6) B dX7_init_59 (by decide) ?_
  obtain ⟨h14, eh14, hf⟩ := zbs hf
  refine z_newaIS (N := 6) B kw_ai eh14 (by decide) rfl (Nat.le_of_ble_eq_true rfl) dX7_init_61 (Nat.le_of_ble_eq_true rfl) (Nat.le_of_ble_eq_true rfl) ?_
  obtain ⟨h15, eh15, hf⟩ := zbs hf
  refine z_pP B fl_RX7_32 eh15 (Or.inr rfl) rfl rfl rfl dX7_init_63 ?_
  refine z_aload_n B dX7_init_66 rfl 0 rfl ?_
  refine z_bipush (v := 20) B dX7_init_67 (by decide) ?_
  obtain ⟨h16, eh16, hf⟩ := zbs hf
  refine z_newaIS (N := 20) B kw_ai eh16 (by decide) rfl (Nat.le_of_ble_eq_true rfl) dX7_init_69 (Nat.le_of_ble_eq_true rfl) (Nat.le_of_ble_eq_true rfl) ?_
  obtain ⟨h17, eh17, hf⟩ := zbs hf
  refine z_pP B fl_RX7_35 eh17 (Or.inr rfl) rfl rfl rfl dX7_init_71 ?_
  refine z_aload_n B dX7_init_74 rfl 0 rfl ?_
  refine z_bipush (v := 20) B dX7_init_75 (by decide) ?_
  obtain ⟨h18, eh18, hf⟩ := zbs hf
  refine z_newaIS (N := 20) B kw_ai eh18 (by decide) rfl (Nat.le_of_ble_eq_true rfl) dX7_init_77 (Nat.le_of_ble_eq_true rfl) (Nat.le_of_ble_eq_true rfl) ?_
  obtain ⟨h19, eh19, hf⟩ := zbs hf
  refine z_pP B fl_RX7_38 eh19 (Or.inr rfl) rfl rfl rfl dX7_init_79 ?_
  refine z_aload_n B dX7_init_82 rfl 0 rfl ?_
  refine z_bipush (v := 20) B dX7_init_83 (by decide) ?_
  obtain ⟨h20, eh20, hf⟩ := zbs hf
  refine z_newaIS (N := 20) B kw_ai eh20 (by decide) rfl (Nat.le_of_ble_eq_true rfl) dX7_init_85 (Nat.le_of_ble_eq_true rfl) (Nat.le_of_ble_eq_true rfl) ?_
  obtain ⟨h21, eh21, hf⟩ := zbs hf
  refine z_pP B fl_RX7_41 eh21 (Or.inr rfl) rfl rfl rfl dX7_init_87 ?_
  refine z_aload_n B dX7_init_90 rfl 0 rfl ?_
  refine z_bipush (v := 20) B dX7_init_91 (by decide) ?_
  obtain ⟨h22, eh22, hf⟩ := zbs hf
  refine z_newaIS (N := 20) B kw_ai eh22 (by decide) rfl (Nat.le_of_ble_eq_true rfl) dX7_init_93 (Nat.le_of_ble_eq_true rfl) (Nat.le_of_ble_eq_true rfl) ?_
  obtain ⟨h23, eh23, hf⟩ := zbs hf
  refine z_pP B fl_RX7_44 eh23 (Or.inr rfl) rfl rfl rfl dX7_init_95 ?_
  refine z_aload_n B dX7_init_98 rfl 0 rfl ?_
  refine z_bipush (v := 20) B dX7_init_99 (by decide) ?_
  obtain ⟨h24, eh24, hf⟩ := zbs hf
  refine z_newaIS (N := 20) B kw_ai eh24 (by decide) rfl (Nat.le_of_ble_eq_true rfl) dX7_init_101 (Nat.le_of_ble_eq_true rfl) (Nat.le_of_ble_eq_true rfl) ?_
  obtain ⟨h25, eh25, hf⟩ := zbs hf
  refine z_pP B fl_RX7_47 eh25 (Or.inr rfl) rfl rfl rfl dX7_init_103 ?_
  refine z_aload_n B dX7_init_106 rfl 0 rfl ?_
  refine z_bipush (v := 6) B dX7_init_107 (by decide) ?_
  obtain ⟨h26, eh26, hf⟩ := zbs hf
  refine z_newaIS (N := 6) B kw_ai eh26 (by decide) rfl (Nat.le_of_ble_eq_true rfl) dX7_init_109 (Nat.le_of_ble_eq_true rfl) (Nat.le_of_ble_eq_true rfl) ?_
  obtain ⟨h27, eh27, hf⟩ := zbs hf
  refine z_pP B fl_RX7_50 eh27 (Or.inr rfl) rfl rfl rfl dX7_init_111 ?_
  refine z_aload_n B dX7_init_114 rfl 0 rfl ?_
  refine z_bipush (v := 6) B dX7_init_115 (by decide) ?_
  obtain ⟨h28, eh28, hf⟩ := zbs hf
  refine z_newaIS (N := 6) B kw_ai eh28 (by decide) rfl (Nat.le_of_ble_eq_true rfl) dX7_init_117 (Nat.le_of_ble_eq_true rfl) (Nat.le_of_ble_eq_true rfl) ?_
  obtain ⟨h29, eh29, hf⟩ := zbs hf
  refine z_pP B fl_RX7_53 eh29 (Or.inr rfl) rfl rfl rfl dX7_init_119 ?_
  refine z_aload_n B dX7_init_122 rfl 0 rfl ?_
  refine z_sipush (v := 360) B dX7_init_123 (by decide) ?_
  obtain ⟨h30, eh30, hf⟩ := zbs hf
  refine z_newaIS (N := 360) B kw_ai eh30 (by decide) rfl (Nat.le_of_ble_eq_true rfl) dX7_init_126 (Nat.le_of_ble_eq_true rfl) (Nat.le_of_ble_eq_true rfl) ?_
  obtain ⟨h31, eh31, hf⟩ := zbs hf
  refine z_pP B fl_RX7_56 eh31 (Or.inr rfl) rfl rfl rfl dX7_init_128 ?_
  refine z_aload_n B dX7_init_131 rfl 0 rfl ?_
  refine z_sipush (v := 360) B dX7_init_132 (by decide) ?_
  obtain ⟨h32, eh32, hf⟩ := zbs hf
  refine z_newaIS (N := 360) B kw_ai eh32 (by decide) rfl (Nat.le_of_ble_eq_true rfl) dX7_init_135 (Nat.le_of_ble_eq_true rfl) (Nat.le_of_ble_eq_true rfl) ?_
  obtain ⟨h33, eh33, hf⟩ := zbs hf
  refine z_pP B fl_RX7_59 eh33 (Or.inr rfl) rfl rfl rfl dX7_init_137 ?_
  refine z_aload_n B dX7_init_140 rfl 0 rfl ?_
  refine z_sipush (v := 360) B dX7_init_141 (by decide) ?_
  obtain ⟨h34, eh34, hf⟩ := zbs hf
  refine z_newaIS (N := 360) B kw_ai eh34 (by decide) rfl (Nat.le_of_ble_eq_true rfl) dX7_init_144 (Nat.le_of_ble_eq_true rfl) (Nat.le_of_ble_eq_true rfl) ?_
  obtain ⟨h35, eh35, hf⟩ := zbs hf
  refine z_pP B fl_RX7_62 eh35 (Or.inr rfl) rfl rfl rfl dX7_init_146 ?_
  refine z_aload_n B dX7_init_149 rfl 0 rfl ?_
  refine z_sipush (v := 5040) B dX7_init_150 (by decide) ?_
  obtain ⟨h36, eh36, hf⟩ := zbs hf
  refine z_newaIS (N := 5040) B kw_ai eh36 (by decide) rfl (Nat.le_of_ble_eq_true rfl) dX7_init_153 (Nat.le_of_ble_eq_true rfl) (Nat.le_of_ble_eq_true rfl) ?_
  obtain ⟨h37, eh37, hf⟩ := zbs hf
  refine z_pP B fl_RX7_65 eh37 (Or.inr rfl) rfl rfl rfl dX7_init_155 ?_
  refine z_aload_n B dX7_init_158 rfl 0 rfl ?_
  refine z_sipush (v := 720) B dX7_init_159 (by decide) ?_
  obtain ⟨h38, eh38, hf⟩ := zbs hf
  refine z_newaIS (N := 720) B kw_ai eh38 (by decide) rfl (Nat.le_of_ble_eq_true rfl) dX7_init_162 (Nat.le_of_ble_eq_true rfl) (Nat.le_of_ble_eq_true rfl) ?_
  obtain ⟨h39, eh39, hf⟩ := zbs hf
  refine z_pP B fl_RX7_68 eh39 (Or.inr rfl) rfl rfl rfl dX7_init_164 ?_
  refine z_aload_n B dX7_init_167 rfl 0 rfl ?_
  refine z_iconst (v := 2) B dX7_init_168 (by decide) ?_
  obtain ⟨h40, eh40, hf⟩ := zbs hf
  refine z_newaZS (N := 2) B kw_az eh40 (by decide) rfl (Nat.le_of_ble_eq_true rfl) dX7_init_169 (Nat.le_of_ble_eq_true rfl) (Nat.le_of_ble_eq_true rfl) ?_
  obtain ⟨h41, eh41, hf⟩ := zbs hf
  refine z_pP B fl_RX7_71 eh41 (Or.inr rfl) rfl rfl rfl dX7_init_171 ?_
  refine z_aload_n B dX7_init_174 rfl 0 rfl ?_
  refine z_bipush (v := 64) B dX7_init_175 (by decide) ?_
  obtain ⟨h42, eh42, hf⟩ := zbs hf
  refine z_newaIS (N := 64) B kw_ai eh42 (by decide) rfl (Nat.le_of_ble_eq_true rfl) dX7_init_177 (Nat.le_of_ble_eq_true rfl) (Nat.le_of_ble_eq_true rfl) ?_
  obtain ⟨h43, eh43, hf⟩ := zbs hf
  refine z_pP B fl_RX7_75 eh43 (Or.inr rfl) rfl rfl rfl dX7_init_179 ?_
  refine z_aload_n B dX7_init_182 rfl 0 rfl ?_
  refine z_bipush (v := 64) B dX7_init_183 (by decide) ?_
  obtain ⟨h44, eh44, hf⟩ := zbs hf
  refine z_newaIS (N := 64) B kw_ai eh44 (by decide) rfl (Nat.le_of_ble_eq_true rfl) dX7_init_185 (Nat.le_of_ble_eq_true rfl) (Nat.le_of_ble_eq_true rfl) ?_
  obtain ⟨h45, eh45, hf⟩ := zbs hf
  refine z_pP B fl_RX7_78 eh45 (Or.inr rfl) rfl rfl rfl dX7_init_187 ?_
  refine z_aload_n B dX7_init_190 rfl 0 rfl ?_
  refine z_sipush (v := 360) B dX7_init_191 (by decide) ?_
  obtain ⟨h46, eh46, hf⟩ := zbs hf
  refine z_newaIS (N := 360) B kw_ai eh46 (by decide) rfl (Nat.le_of_ble_eq_true rfl) dX7_init_194 (Nat.le_of_ble_eq_true rfl) (Nat.le_of_ble_eq_true rfl) ?_
  obtain ⟨h47, eh47, hf⟩ := zbs hf
  refine z_pP B fl_RX7_81 eh47 (Or.inr rfl) rfl rfl rfl dX7_init_196 ?_
  refine z_aload_n B dX7_init_199 rfl 0 rfl ?_
  obtain ⟨w48, ew48, hf⟩ := zbs hf
  refine z_gP B fl_RX7_56 ew48 rfl dX7_init_200 ?_
  refine z_iconst (v := 3) B dX7_init_203 (by decide) ?_
  refine z_sipush (v := 1000) B dX7_init_204 (by decide) ?_
  obtain ⟨h49, eh49, hf⟩ := zbs hf
  refine z_bI B eh49 dX7_init_207 ?_
  cases hf
  exact z_vret B dX7_init_208 (Nat.le_of_ble_eq_true rfl) (Nat.le_of_ble_eq_true rfl)
abbrev rm_X7_thrown : Room := { frames := 0, cells := 0, slots := 0, locals := 0 }
set_option maxRecDepth 100000 in
set_option maxHeartbeats 4000000 in
theorem tX7_thrown {l : Launch} {G : zG} (hst : l.stackTraces = false) {h : zH} {a0 : Nat} {r : Int32 × zH} (hf : fX7_thrown h a0 = some r) : zMet l G yX7_thrown (.code yX7_thrown cX7_thrown 1 (some .int)) rm_X7_thrown 0 0 [.ref a0] h (zoi r) := by
  unfold fX7_thrown at hf
  obtain ⟨-, hf⟩ := zck hf
  refine z_enter (by decide) (Nat.le_of_ble_eq_true rfl) hst (fun x hx B hE => ?_)
  subst hx
  have B : zB G x cX7_thrown 1 RX7 "thrown" rm_X7_thrown (some .int) := B
  show zV G x 1 (zQ G x (zoi r) 0 0) h 0 0 0 [(0, .ref a0)] []
  refine z_aload_n B dX7_thrown_0 rfl 0 rfl ?_
  obtain ⟨w1, ew1, hf⟩ := zbs hf
  refine z_gI B fl_RX7_84 ew1 rfl dX7_thrown_1 ?_
  cases hf
  exact z_iret B dX7_thrown_4 (Nat.le_of_ble_eq_true rfl) (Nat.le_of_ble_eq_true rfl)
abbrev rm_X7_refused : Room := { frames := 0, cells := 0, slots := 0, locals := 0 }
set_option maxRecDepth 100000 in
set_option maxHeartbeats 4000000 in
theorem tX7_refused {l : Launch} {G : zG} (hst : l.stackTraces = false) {h : zH} {a0 : Nat} {a1 : Int32} {r : Int32 × zH} (hf : fX7_refused h a0 a1 = some r) : zMet l G yX7_refused (.code yX7_refused cX7_refused 2 (some .boolean)) rm_X7_refused 0 0 [.ref a0, .int a1] h (zoi r) := by
  unfold fX7_refused at hf
  obtain ⟨-, hf⟩ := zck hf
  refine z_enter (by decide) (Nat.le_of_ble_eq_true rfl) hst (fun x hx B hE => ?_)
  subst hx
  have B : zB G x cX7_refused 2 RX7 "refused" rm_X7_refused (some .boolean) := B
  show zV G x 2 (zQ G x (zoi r) 0 0) h 0 0 0 [(0, .ref a0), (1, .int a1)] []
  refine z_aload_n B dX7_refused_0 rfl 0 rfl ?_
  refine z_iload_n B dX7_refused_1 rfl 1 rfl ?_
  obtain ⟨h1, eh1, hf⟩ := zbs hf
  refine z_pI B fl_RX7_84 eh1 rfl dX7_refused_2 ?_
  refine z_iload_n B dX7_refused_5 rfl 1 rfl ?_
  rcases zite hf with ⟨c2, hf⟩ | ⟨c2, hf⟩
  · refine z_if_le B 13 dX7_refused_6 (by decide) (fun _ => ?_) (fun e => absurd c2 e)
    refine z_iconst (v := 0) B dX7_refused_13 (by decide) ?_
    cases hf
    exact z_zret B dX7_refused_14 (Or.inl rfl) (Nat.le_of_ble_eq_true rfl) (Nat.le_of_ble_eq_true rfl)
  refine z_if_le B 13 dX7_refused_6 (by decide) (fun e => absurd e c2) (fun _ => ?_)
  refine z_iconst (v := 1) B dX7_refused_9 (by decide) ?_
  refine z_goto B 14 dX7_refused_10 (by decide) ?_
  cases hf
  exact z_zret B dX7_refused_14 (Or.inr rfl) (Nat.le_of_ble_eq_true rfl) (Nat.le_of_ble_eq_true rfl)
abbrev rm_X7_in : Room := { frames := 0, cells := 0, slots := 0, locals := 0 }
set_option maxRecDepth 100000 in
set_option maxHeartbeats 4000000 in
theorem tX7_in {l : Launch} {G : zG} (hst : l.stackTraces = false) {h : zH} {a0 : Int64} {a2 : Int64} {a4 : Int64} {r : Int32 × zH} (hf : fX7_in h a0 a2 a4 = some r) : zMet l G yX7_in (.code yX7_in cX7_in 6 (some .boolean)) rm_X7_in 0 0 [.long a0, .long a2, .long a4] h (zoi r) := by
  unfold fX7_in at hf
  refine z_enter (by decide) (Nat.le_of_ble_eq_true rfl) hst (fun x hx B hE => ?_)
  subst hx
  have B : zB G x cX7_in 6 RX7 "in" rm_X7_in (some .boolean) := B
  show zV G x 6 (zQ G x (zoi r) 0 0) h 0 0 0 [(0, .long a0), (2, .long a2), (4, .long a4)] []
  refine z_lload_n B dX7_in_0 rfl 0 rfl ?_
  refine z_lload_n B dX7_in_1 rfl 1 rfl ?_
  refine z_lcmp B dX7_in_2 ?_
  rcases zite hf with ⟨c1, hf⟩ | ⟨c1, hf⟩
  · refine z_if_lt B 17 dX7_in_3 (by decide) (fun _ => ?_) (fun e => absurd c1 e)
    refine z_iconst (v := 0) B dX7_in_17 (by decide) ?_
    cases hf
    exact z_zret B dX7_in_18 (Or.inl rfl) (Nat.le_of_ble_eq_true rfl) (Nat.le_of_ble_eq_true rfl)
  refine z_if_lt B 17 dX7_in_3 (by decide) (fun e => absurd e c1) (fun _ => ?_)
  refine z_lload_n B dX7_in_6 rfl 0 rfl ?_
  refine z_lload B dX7_in_7 2 rfl ?_
  refine z_lcmp B dX7_in_9 ?_
  rcases zite hf with ⟨c2, hf⟩ | ⟨c2, hf⟩
  · refine z_if_gt B 17 dX7_in_10 (by decide) (fun _ => ?_) (fun e => absurd c2 e)
    refine z_iconst (v := 0) B dX7_in_17 (by decide) ?_
    cases hf
    exact z_zret B dX7_in_18 (Or.inl rfl) (Nat.le_of_ble_eq_true rfl) (Nat.le_of_ble_eq_true rfl)
  refine z_if_gt B 17 dX7_in_10 (by decide) (fun e => absurd e c2) (fun _ => ?_)
  refine z_iconst (v := 1) B dX7_in_13 (by decide) ?_
  refine z_goto B 18 dX7_in_14 (by decide) ?_
  cases hf
  exact z_zret B dX7_in_18 (Or.inr rfl) (Nat.le_of_ble_eq_true rfl) (Nat.le_of_ble_eq_true rfl)
abbrev rm_X7_copyRow : Room := { frames := 0, cells := 0, slots := 0, locals := 0 }
set_option maxRecDepth 100000 in
set_option maxHeartbeats 4000000 in
theorem fX7_copyRow_L3_ok {G : zG} {x : zX} (B : zB G x cX7_copyRow 6 RX7 "copyRow" rm_X7_copyRow none) (hst : (zl x).stackTraces = false) (hE : ∀ e ∈ (zc x).exceptionTable.toList, False) {r : zH} {k : zH → Int32 → Option (zH)} {u0 : Nat} {u1 : Int32} {u2 : Nat} {u3 : Int32} {u4 : Int32} (hk : ∀ h v5, k h v5 = some r → zV G x 6 (zQ G x (zov r) 0 0) h 0 0 28 [(0, .ref u0), (1, .int u1), (2, .ref u2), (3, .int u3), (4, .int u4), (5, .int v5)] []) : ∀ n h v5, fX7_copyRow_L3 k u0 u1 u2 u3 u4 n h v5 = some r → zV G x 6 (zQ G x (zov r) 0 0) h 0 0 3 [(0, .ref u0), (1, .int u1), (2, .ref u2), (3, .int u3), (4, .int u4), (5, .int v5)] [] := by
  intro n
  induction n with
  | zero =>
    intro h v5 hf
    have hf : (none : Option (zH)) = some r := hf
    cases hf
  | succ n ih =>
    intro h v5 hf
    rw [fX7_copyRow_L3] at hf
    refine z_iload B dX7_copyRow_3 5 rfl ?_
    refine z_iload B dX7_copyRow_5 4 rfl ?_
    rcases zite hf with ⟨c1, hf⟩ | ⟨c1, hf⟩
    · refine z_icmp_ge B 28 dX7_copyRow_7 (by decide) (fun _ => ?_) (fun e => absurd c1 e)
      exact hk _ _ hf
    refine z_icmp_ge B 28 dX7_copyRow_7 (by decide) (fun e => absurd e c1) (fun _ => ?_)
    refine z_aload_n B dX7_copyRow_10 rfl 2 rfl ?_
    refine z_iload_n B dX7_copyRow_11 rfl 3 rfl ?_
    refine z_iload B dX7_copyRow_12 5 rfl ?_
    refine z_iadd B dX7_copyRow_14 ?_
    refine z_aload_n B dX7_copyRow_15 rfl 0 rfl ?_
    refine z_iload_n B dX7_copyRow_16 rfl 1 rfl ?_
    refine z_iload B dX7_copyRow_17 5 rfl ?_
    refine z_iadd B dX7_copyRow_19 ?_
    obtain ⟨w2, ew2, hf⟩ := zbs hf
    refine z_aI B ew2 dX7_copyRow_20 ?_
    obtain ⟨h3, eh3, hf⟩ := zbs hf
    refine z_bI B eh3 dX7_copyRow_21 ?_
    refine z_iinc (v' := (v5 + 1)) (lv' := [(5, .int (v5 + 1)), (0, .ref u0), (1, .int u1), (2, .ref u2), (3, .int u3), (4, .int u4)]) B dX7_copyRow_22 5 rfl rfl (by decide) rfl ?_
    refine z_goto B 3 dX7_copyRow_25 (by decide) ?_
    refine zV.sub [1, 2, 3, 4, 5, 0] rfl ?_
    exact ih _ _ hf
set_option maxRecDepth 100000 in
set_option maxHeartbeats 4000000 in
theorem tX7_copyRow {l : Launch} {G : zG} (hst : l.stackTraces = false) {h : zH} {a0 : Nat} {a1 : Int32} {a2 : Nat} {a3 : Int32} {a4 : Int32} {r : zH} (hf : fX7_copyRow h a0 a1 a2 a3 a4 = some r) : zMet l G yX7_copyRow (.code yX7_copyRow cX7_copyRow 6 none) rm_X7_copyRow 0 0 [.ref a0, .int a1, .ref a2, .int a3, .int a4] h (zov r) := by
  unfold fX7_copyRow at hf
  refine z_enter (by decide) (Nat.le_of_ble_eq_true rfl) hst (fun x hx B hE => ?_)
  subst hx
  have B : zB G x cX7_copyRow 6 RX7 "copyRow" rm_X7_copyRow none := B
  show zV G x 6 (zQ G x (zov r) 0 0) h 0 0 0 [(0, .ref a0), (1, .int a1), (2, .ref a2), (3, .int a3), (4, .int a4)] []
  refine z_iconst (v := 0) B dX7_copyRow_0 (by decide) ?_
  refine z_istore (lv' := [(5, .int 0), (0, .ref a0), (1, .int a1), (2, .ref a2), (3, .int a3), (4, .int a4)]) B dX7_copyRow_1 (by decide) rfl ?_
  refine zV.sub [1, 2, 3, 4, 5, 0] rfl ?_
  refine fX7_copyRow_L3_ok B hst hE (fun h1 y2 hf => ?_) _ _ _ hf
  cases hf
  exact z_vret B dX7_copyRow_28 (Nat.le_of_ble_eq_true rfl) (Nat.le_of_ble_eq_true rfl)
abbrev rm_X7_note : Room := { frames := 1, cells := 0, slots := 0, locals := 25 }
set_option maxRecDepth 100000 in
set_option maxHeartbeats 4000000 in
theorem tX7_note {l : Launch} {G : zG} (hst : l.stackTraces = false) {h : zH} {a0 : Nat} {r : zH} (hf : fX7_note h a0 = some r) : zMet l G yX7_note (.code yX7_note cX7_note 1 none) rm_X7_note 0 0 [.ref a0] h (zov r) := by
  unfold fX7_note at hf
  obtain ⟨-, hf⟩ := zck hf
  refine z_enter (by decide) (Nat.le_of_ble_eq_true rfl) hst (fun x hx B hE => ?_)
  subst hx
  have B : zB G x cX7_note 1 RX7 "note" rm_X7_note none := B
  show zV G x 1 (zQ G x (zov r) 0 0) h 0 0 0 [(0, .ref a0)] []
  refine z_aload_n B dX7_note_0 rfl 0 rfl ?_
  obtain ⟨w1, ew1, hf⟩ := zbs hf
  refine z_gI B fl_RX7_87 ew1 rfl dX7_note_1 ?_
  refine z_bipush (v := 14) B dX7_note_4 (by decide) ?_
  rcases zite hf with ⟨c2, hf⟩ | ⟨c2, hf⟩
  · refine z_icmp_ne B 37 dX7_note_6 (by decide) (fun e => absurd c2 e) (fun _ => ?_)
    refine z_aload_n B dX7_note_9 rfl 0 rfl ?_
    obtain ⟨w3, ew3, hf⟩ := zbs hf
    refine z_gP B fl_RX7_65 ew3 rfl dX7_note_10 ?_
    refine z_sipush (v := 360) B dX7_note_13 (by decide) ?_
    refine z_aload_n B dX7_note_16 rfl 0 rfl ?_
    obtain ⟨w4, ew4, hf⟩ := zbs hf
    refine z_gP B fl_RX7_65 ew4 rfl dX7_note_17 ?_
    refine z_iconst (v := 0) B dX7_note_20 (by decide) ?_
    refine z_sipush (v := 4680) B dX7_note_21 (by decide) ?_
    obtain ⟨h5, eh5, hf⟩ := zbs hf
    refine z_callSv B [.ref w3, .int 360, .ref w4, .int 0, .int 4680] [] cw_X7_copyRow mt_RX7_90 (tX7_copyRow hst eh5) ⟨rfl, rfl, (Nat.le_of_ble_eq_true rfl), (Nat.le_of_ble_eq_true rfl), (Nat.le_of_ble_eq_true rfl), (Nat.le_of_ble_eq_true rfl)⟩ rfl rfl (Nat.le_of_ble_eq_true rfl) dX7_note_24 ?_
    refine z_aload_n B dX7_note_27 rfl 0 rfl ?_
    refine z_dup B dX7_note_28 rfl ?_
    obtain ⟨w6, ew6, hf⟩ := zbs hf
    refine z_gI B fl_RX7_87 ew6 rfl dX7_note_29 ?_
    refine z_iconst (v := 1) B dX7_note_32 (by decide) ?_
    refine z_isub B dX7_note_33 ?_
    obtain ⟨h7, eh7, hf⟩ := zbs hf
    refine z_pI B fl_RX7_87 eh7 rfl dX7_note_34 ?_
    refine z_aload_n B dX7_note_37 rfl 0 rfl ?_
    obtain ⟨w8, ew8, hf⟩ := zbs hf
    refine z_gP B fl_RX7_56 ew8 rfl dX7_note_38 ?_
    refine z_iconst (v := 0) B dX7_note_41 (by decide) ?_
    refine z_aload_n B dX7_note_42 rfl 0 rfl ?_
    obtain ⟨w9, ew9, hf⟩ := zbs hf
    refine z_gP B fl_RX7_65 ew9 rfl dX7_note_43 ?_
    refine z_sipush (v := 360) B dX7_note_46 (by decide) ?_
    refine z_aload_n B dX7_note_49 rfl 0 rfl ?_
    obtain ⟨w10, ew10, hf⟩ := zbs hf
    refine z_gI B fl_RX7_87 ew10 rfl dX7_note_50 ?_
    refine z_imul B dX7_note_53 ?_
    refine z_sipush (v := 360) B dX7_note_54 (by decide) ?_
    obtain ⟨h11, eh11, hf⟩ := zbs hf
    refine z_callSv B [.ref w8, .int 0, .ref w9, .int ((360 : Int32) * w10), .int 360] [] cw_X7_copyRow mt_RX7_90 (tX7_copyRow hst eh11) ⟨rfl, rfl, (Nat.le_of_ble_eq_true rfl), (Nat.le_of_ble_eq_true rfl), (Nat.le_of_ble_eq_true rfl), (Nat.le_of_ble_eq_true rfl)⟩ rfl rfl (Nat.le_of_ble_eq_true rfl) dX7_note_57 ?_
    refine z_aload_n B dX7_note_60 rfl 0 rfl ?_
    refine z_dup B dX7_note_61 rfl ?_
    obtain ⟨w12, ew12, hf⟩ := zbs hf
    refine z_gI B fl_RX7_87 ew12 rfl dX7_note_62 ?_
    refine z_iconst (v := 1) B dX7_note_65 (by decide) ?_
    refine z_iadd B dX7_note_66 ?_
    obtain ⟨h13, eh13, hf⟩ := zbs hf
    refine z_pI B fl_RX7_87 eh13 rfl dX7_note_67 ?_
    cases hf
    exact z_vret B dX7_note_70 (Nat.le_of_ble_eq_true rfl) (Nat.le_of_ble_eq_true rfl)
  refine z_icmp_ne B 37 dX7_note_6 (by decide) (fun _ => ?_) (fun e => absurd e c2)
  refine z_aload_n B dX7_note_37 rfl 0 rfl ?_
  obtain ⟨w14, ew14, hf⟩ := zbs hf
  refine z_gP B fl_RX7_56 ew14 rfl dX7_note_38 ?_
  refine z_iconst (v := 0) B dX7_note_41 (by decide) ?_
  refine z_aload_n B dX7_note_42 rfl 0 rfl ?_
  obtain ⟨w15, ew15, hf⟩ := zbs hf
  refine z_gP B fl_RX7_65 ew15 rfl dX7_note_43 ?_
  refine z_sipush (v := 360) B dX7_note_46 (by decide) ?_
  refine z_aload_n B dX7_note_49 rfl 0 rfl ?_
  obtain ⟨w16, ew16, hf⟩ := zbs hf
  refine z_gI B fl_RX7_87 ew16 rfl dX7_note_50 ?_
  refine z_imul B dX7_note_53 ?_
  refine z_sipush (v := 360) B dX7_note_54 (by decide) ?_
  obtain ⟨h17, eh17, hf⟩ := zbs hf
  refine z_callSv B [.ref w14, .int 0, .ref w15, .int ((360 : Int32) * w16), .int 360] [] cw_X7_copyRow mt_RX7_90 (tX7_copyRow hst eh17) ⟨rfl, rfl, (Nat.le_of_ble_eq_true rfl), (Nat.le_of_ble_eq_true rfl), (Nat.le_of_ble_eq_true rfl), (Nat.le_of_ble_eq_true rfl)⟩ rfl rfl (Nat.le_of_ble_eq_true rfl) dX7_note_57 ?_
  refine z_aload_n B dX7_note_60 rfl 0 rfl ?_
  refine z_dup B dX7_note_61 rfl ?_
  obtain ⟨w18, ew18, hf⟩ := zbs hf
  refine z_gI B fl_RX7_87 ew18 rfl dX7_note_62 ?_
  refine z_iconst (v := 1) B dX7_note_65 (by decide) ?_
  refine z_iadd B dX7_note_66 ?_
  obtain ⟨h19, eh19, hf⟩ := zbs hf
  refine z_pI B fl_RX7_87 eh19 rfl dX7_note_67 ?_
  cases hf
  exact z_vret B dX7_note_70 (Nat.le_of_ble_eq_true rfl) (Nat.le_of_ble_eq_true rfl)
abbrev rm_X7_accept : Room := { frames := 2, cells := 0, slots := 0, locals := 45 }
set_option maxRecDepth 100000 in
set_option maxHeartbeats 4000000 in
theorem tX7_accept {l : Launch} {G : zG} (hst : l.stackTraces = false) {h : zH} {a0 : Nat} {r : zH} (hf : fX7_accept h a0 = some r) : zMet l G yX7_accept (.code yX7_accept cX7_accept 1 none) rm_X7_accept 0 0 [.ref a0] h (zov r) := by
  unfold fX7_accept at hf
  obtain ⟨-, hf⟩ := zck hf
  refine z_enter (by decide) (Nat.le_of_ble_eq_true rfl) hst (fun x hx B hE => ?_)
  subst hx
  have B : zB G x cX7_accept 1 RX7 "accept" rm_X7_accept none := B
  show zV G x 1 (zQ G x (zov r) 0 0) h 0 0 0 [(0, .ref a0)] []
  refine z_aload_n B dX7_accept_0 rfl 0 rfl ?_
  obtain ⟨h1, eh1, hf⟩ := zbs hf
  refine z_callVv B [] [] cw_X7_note mv_RX7_94 (tX7_note hst eh1) rfl (by decide) (kfX7_note eh1) ⟨rfl, rfl, (Nat.le_of_ble_eq_true rfl), (Nat.le_of_ble_eq_true rfl), (Nat.le_of_ble_eq_true rfl), (Nat.le_of_ble_eq_true rfl)⟩ rfl rfl (Nat.le_of_ble_eq_true rfl) dX7_accept_1 ?_
  refine z_aload_n B dX7_accept_4 rfl 0 rfl ?_
  obtain ⟨w2, ew2, hf⟩ := zbs hf
  refine z_gP B fl_RX7_59 ew2 rfl dX7_accept_5 ?_
  refine z_iconst (v := 0) B dX7_accept_8 (by decide) ?_
  refine z_aload_n B dX7_accept_9 rfl 0 rfl ?_
  obtain ⟨w3, ew3, hf⟩ := zbs hf
  refine z_gP B fl_RX7_56 ew3 rfl dX7_accept_10 ?_
  refine z_iconst (v := 0) B dX7_accept_13 (by decide) ?_
  refine z_sipush (v := 360) B dX7_accept_14 (by decide) ?_
  obtain ⟨h4, eh4, hf⟩ := zbs hf
  refine z_callSv B [.ref w2, .int 0, .ref w3, .int 0, .int 360] [] cw_X7_copyRow mt_RX7_90 (tX7_copyRow hst eh4) ⟨rfl, rfl, (Nat.le_of_ble_eq_true rfl), (Nat.le_of_ble_eq_true rfl), (Nat.le_of_ble_eq_true rfl), (Nat.le_of_ble_eq_true rfl)⟩ rfl rfl (Nat.le_of_ble_eq_true rfl) dX7_accept_17 ?_
  cases hf
  exact z_vret B dX7_accept_20 (Nat.le_of_ble_eq_true rfl) (Nat.le_of_ble_eq_true rfl)
abbrev rm_X7_at : Room := { frames := 0, cells := 0, slots := 0, locals := 0 }
set_option maxRecDepth 100000 in
set_option maxHeartbeats 4000000 in
theorem tX7_at {l : Launch} {G : zG} (hst : l.stackTraces = false) {h : zH} {a0 : Int32} {r : Int32 × zH} (hf : fX7_at h a0 = some r) : zMet l G yX7_at (.code yX7_at cX7_at 1 (some .int)) rm_X7_at 0 0 [.int a0] h (zoi r) := by
  unfold fX7_at at hf
  refine z_enter (by decide) (Nat.le_of_ble_eq_true rfl) hst (fun x hx B hE => ?_)
  subst hx
  have B : zB G x cX7_at 1 RX7 "at" rm_X7_at (some .int) := B
  show zV G x 1 (zQ G x (zoi r) 0 0) h 0 0 0 [(0, .int a0)] []
  refine z_bipush (v := 24) B dX7_at_0 (by decide) ?_
  refine z_bipush (v := 28) B dX7_at_2 (by decide) ?_
  refine z_iload_n B dX7_at_4 rfl 0 rfl ?_
  refine z_imul B dX7_at_5 ?_
  refine z_iadd B dX7_at_6 ?_
  cases hf
  exact z_iret B dX7_at_7 (Nat.le_of_ble_eq_true rfl) (Nat.le_of_ble_eq_true rfl)
abbrev rm_X7_isFormat : Room := { frames := 1, cells := 0, slots := 0, locals := 25 }
set_option maxRecDepth 100000 in
set_option maxHeartbeats 4000000 in
theorem tX7_isFormat {l : Launch} {G : zG} (hst : l.stackTraces = false) {h : zH} {a0 : Nat} {a1 : Int32} {r : Int32 × zH} (hf : fX7_isFormat h a0 a1 = some r) : zMet l G yX7_isFormat (.code yX7_isFormat cX7_isFormat 2 (some .boolean)) rm_X7_isFormat 0 0 [.ref a0, .int a1] h (zoi r) := by
  unfold fX7_isFormat at hf
  obtain ⟨-, hf⟩ := zck hf
  refine z_enter (by decide) (Nat.le_of_ble_eq_true rfl) hst (fun x hx B hE => ?_)
  subst hx
  have B : zB G x cX7_isFormat 2 RX7 "isFormat" rm_X7_isFormat (some .boolean) := B
  show zV G x 2 (zQ G x (zoi r) 0 0) h 0 0 0 [(0, .ref a0), (1, .int a1)] []
  refine z_iload_n B dX7_isFormat_0 rfl 1 rfl ?_
  refine z_i2l B dX7_isFormat_1 ?_
  refine z_lconst (v := 0) B dX7_isFormat_2 (by decide) ?_
  refine z_aload_n B dX7_isFormat_3 rfl 0 rfl ?_
  obtain ⟨w1, ew1, hf⟩ := zbs hf
  refine z_gI B fl_RX7_13 ew1 rfl dX7_isFormat_4 ?_
  refine z_iconst (v := 1) B dX7_isFormat_7 (by decide) ?_
  refine z_isub B dX7_isFormat_8 ?_
  refine z_i2l B dX7_isFormat_9 ?_
  obtain ⟨w2, h3, ew2, hf⟩ := zb2s hf
  refine z_callSi B [.long (a1 : Int32).toInt64, .long 0, .long (((w1 : Int32) - 1) : Int32).toInt64] [] cw_X7_in mt_RX7_97 (tX7_in hst ew2) ⟨rfl, rfl, (Nat.le_of_ble_eq_true rfl), (Nat.le_of_ble_eq_true rfl), (Nat.le_of_ble_eq_true rfl), (Nat.le_of_ble_eq_true rfl)⟩ rfl rfl (Nat.le_of_ble_eq_true rfl) dX7_isFormat_10 ?_
  rcases zite hf with ⟨c4, hf⟩ | ⟨c4, hf⟩
  · cases hf
    exact z_zret B dX7_isFormat_13 c4 (Nat.le_of_ble_eq_true rfl) (Nat.le_of_ble_eq_true rfl)
  cases hf
abbrev rm_X7_isConversion : Room := { frames := 1, cells := 0, slots := 0, locals := 25 }
set_option maxRecDepth 100000 in
set_option maxHeartbeats 4000000 in
theorem tX7_isConversion {l : Launch} {G : zG} (hst : l.stackTraces = false) {h : zH} {a0 : Nat} {a1 : Int32} {r : Int32 × zH} (hf : fX7_isConversion h a0 a1 = some r) : zMet l G yX7_isConversion (.code yX7_isConversion cX7_isConversion 2 (some .boolean)) rm_X7_isConversion 0 0 [.ref a0, .int a1] h (zoi r) := by
  unfold fX7_isConversion at hf
  obtain ⟨-, hf⟩ := zck hf
  refine z_enter (by decide) (Nat.le_of_ble_eq_true rfl) hst (fun x hx B hE => ?_)
  subst hx
  have B : zB G x cX7_isConversion 2 RX7 "isConversion" rm_X7_isConversion (some .boolean) := B
  show zV G x 2 (zQ G x (zoi r) 0 0) h 0 0 0 [(0, .ref a0), (1, .int a1)] []
  refine z_iload_n B dX7_isConversion_0 rfl 1 rfl ?_
  refine z_i2l B dX7_isConversion_1 ?_
  refine z_lconst (v := 0) B dX7_isConversion_2 (by decide) ?_
  refine z_aload_n B dX7_isConversion_3 rfl 0 rfl ?_
  obtain ⟨w1, ew1, hf⟩ := zbs hf
  refine z_gI B fl_RX7_101 ew1 rfl dX7_isConversion_4 ?_
  refine z_iconst (v := 1) B dX7_isConversion_7 (by decide) ?_
  refine z_isub B dX7_isConversion_8 ?_
  refine z_i2l B dX7_isConversion_9 ?_
  obtain ⟨w2, h3, ew2, hf⟩ := zb2s hf
  refine z_callSi B [.long (a1 : Int32).toInt64, .long 0, .long (((w1 : Int32) - 1) : Int32).toInt64] [] cw_X7_in mt_RX7_97 (tX7_in hst ew2) ⟨rfl, rfl, (Nat.le_of_ble_eq_true rfl), (Nat.le_of_ble_eq_true rfl), (Nat.le_of_ble_eq_true rfl), (Nat.le_of_ble_eq_true rfl)⟩ rfl rfl (Nat.le_of_ble_eq_true rfl) dX7_isConversion_10 ?_
  rcases zite hf with ⟨c4, hf⟩ | ⟨c4, hf⟩
  · cases hf
    exact z_zret B dX7_isConversion_13 c4 (Nat.le_of_ble_eq_true rfl) (Nat.le_of_ble_eq_true rfl)
  cases hf
abbrev rm_X7_isPlace : Room := { frames := 1, cells := 0, slots := 0, locals := 25 }
set_option maxRecDepth 100000 in
set_option maxHeartbeats 4000000 in
theorem tX7_isPlace {l : Launch} {G : zG} (hst : l.stackTraces = false) {h : zH} {a0 : Nat} {a1 : Int32} {r : Int32 × zH} (hf : fX7_isPlace h a0 a1 = some r) : zMet l G yX7_isPlace (.code yX7_isPlace cX7_isPlace 2 (some .boolean)) rm_X7_isPlace 0 0 [.ref a0, .int a1] h (zoi r) := by
  unfold fX7_isPlace at hf
  obtain ⟨-, hf⟩ := zck hf
  refine z_enter (by decide) (Nat.le_of_ble_eq_true rfl) hst (fun x hx B hE => ?_)
  subst hx
  have B : zB G x cX7_isPlace 2 RX7 "isPlace" rm_X7_isPlace (some .boolean) := B
  show zV G x 2 (zQ G x (zoi r) 0 0) h 0 0 0 [(0, .ref a0), (1, .int a1)] []
  refine z_iload_n B dX7_isPlace_0 rfl 1 rfl ?_
  refine z_i2l B dX7_isPlace_1 ?_
  refine z_lconst (v := 0) B dX7_isPlace_2 (by decide) ?_
  refine z_aload_n B dX7_isPlace_3 rfl 0 rfl ?_
  obtain ⟨w1, ew1, hf⟩ := zbs hf
  refine z_gI B fl_RX7_104 ew1 rfl dX7_isPlace_4 ?_
  refine z_iconst (v := 1) B dX7_isPlace_7 (by decide) ?_
  refine z_isub B dX7_isPlace_8 ?_
  refine z_i2l B dX7_isPlace_9 ?_
  obtain ⟨w2, h3, ew2, hf⟩ := zb2s hf
  refine z_callSi B [.long (a1 : Int32).toInt64, .long 0, .long (((w1 : Int32) - 1) : Int32).toInt64] [] cw_X7_in mt_RX7_97 (tX7_in hst ew2) ⟨rfl, rfl, (Nat.le_of_ble_eq_true rfl), (Nat.le_of_ble_eq_true rfl), (Nat.le_of_ble_eq_true rfl), (Nat.le_of_ble_eq_true rfl)⟩ rfl rfl (Nat.le_of_ble_eq_true rfl) dX7_isPlace_10 ?_
  rcases zite hf with ⟨c4, hf⟩ | ⟨c4, hf⟩
  · cases hf
    exact z_zret B dX7_isPlace_13 c4 (Nat.le_of_ble_eq_true rfl) (Nat.le_of_ble_eq_true rfl)
  cases hf
abbrev rm_X7_isEntry : Room := { frames := 1, cells := 0, slots := 0, locals := 25 }
set_option maxRecDepth 100000 in
set_option maxHeartbeats 4000000 in
theorem tX7_isEntry {l : Launch} {G : zG} (hst : l.stackTraces = false) {h : zH} {a0 : Nat} {a1 : Int32} {r : Int32 × zH} (hf : fX7_isEntry h a0 a1 = some r) : zMet l G yX7_isEntry (.code yX7_isEntry cX7_isEntry 2 (some .boolean)) rm_X7_isEntry 0 0 [.ref a0, .int a1] h (zoi r) := by
  unfold fX7_isEntry at hf
  refine z_enter (by decide) (Nat.le_of_ble_eq_true rfl) hst (fun x hx B hE => ?_)
  subst hx
  have B : zB G x cX7_isEntry 2 RX7 "isEntry" rm_X7_isEntry (some .boolean) := B
  show zV G x 2 (zQ G x (zoi r) 0 0) h 0 0 0 [(0, .ref a0), (1, .int a1)] []
  refine z_iload_n B dX7_isEntry_0 rfl 1 rfl ?_
  refine z_i2l B dX7_isEntry_1 ?_
  refine z_lconst (v := 0) B dX7_isEntry_2 (by decide) ?_
  refine z_aload_n B dX7_isEntry_3 rfl 0 rfl ?_
  refine z_iconst (v := 0) B dX7_isEntry_4 (by decide) ?_
  obtain ⟨w1, ew1, hf⟩ := zbs hf
  refine z_aI B ew1 dX7_isEntry_5 ?_
  refine z_iconst (v := 1) B dX7_isEntry_6 (by decide) ?_
  refine z_isub B dX7_isEntry_7 ?_
  refine z_i2l B dX7_isEntry_8 ?_
  obtain ⟨w2, h3, ew2, hf⟩ := zb2s hf
  refine z_callSi B [.long (a1 : Int32).toInt64, .long 0, .long (((w1 : Int32) - 1) : Int32).toInt64] [] cw_X7_in mt_RX7_97 (tX7_in hst ew2) ⟨rfl, rfl, (Nat.le_of_ble_eq_true rfl), (Nat.le_of_ble_eq_true rfl), (Nat.le_of_ble_eq_true rfl), (Nat.le_of_ble_eq_true rfl)⟩ rfl rfl (Nat.le_of_ble_eq_true rfl) dX7_isEntry_9 ?_
  rcases zite hf with ⟨c4, hf⟩ | ⟨c4, hf⟩
  · cases hf
    exact z_zret B dX7_isEntry_12 c4 (Nat.le_of_ble_eq_true rfl) (Nat.le_of_ble_eq_true rfl)
  cases hf
abbrev rm_X7_append : Room := { frames := 1, cells := 0, slots := 0, locals := 25 }
set_option maxRecDepth 100000 in
set_option maxHeartbeats 4000000 in
theorem tX7_append {l : Launch} {G : zG} (hst : l.stackTraces = false) {h : zH} {a0 : Nat} {a1 : Int32} {r : Int32 × zH} (hf : fX7_append h a0 a1 = some r) : zMet l G yX7_append (.code yX7_append cX7_append 2 (some .int)) rm_X7_append 0 0 [.ref a0, .int a1] h (zoi r) := by
  unfold fX7_append at hf
  obtain ⟨-, hf⟩ := zck hf
  refine z_enter (by decide) (Nat.le_of_ble_eq_true rfl) hst (fun x hx B hE => ?_)
  subst hx
  have B : zB G x cX7_append 2 RX7 "append" rm_X7_append (some .int) := B
  show zV G x 2 (zQ G x (zoi r) 0 0) h 0 0 0 [(0, .ref a0), (1, .int a1)] []
  refine z_aload_n B dX7_append_0 rfl 0 rfl ?_
  refine z_iload_n B dX7_append_1 rfl 1 rfl ?_
  refine z_i2l B dX7_append_2 ?_
  refine z_lconst (v := 0) B dX7_append_3 (by decide) ?_
  refine z_ldc2 B dX7_append_4 kl_RX7_107 ?_
  obtain ⟨w1, h2, ew1, hf⟩ := zb2s hf
  refine z_callSi B [.long (a1 : Int32).toInt64, .long 0, .long 255] [.ref a0] cw_X7_in mt_RX7_97 (tX7_in hst ew1) ⟨rfl, rfl, (Nat.le_of_ble_eq_true rfl), (Nat.le_of_ble_eq_true rfl), (Nat.le_of_ble_eq_true rfl), (Nat.le_of_ble_eq_true rfl)⟩ rfl rfl (Nat.le_of_ble_eq_true rfl) dX7_append_7 ?_
  rcases zite hf with ⟨c3, hf⟩ | ⟨c3, hf⟩
  · refine z_if_ne B 17 dX7_append_10 (by decide) (fun e => absurd c3 e) (fun _ => ?_)
    refine z_iconst (v := 1) B dX7_append_13 (by decide) ?_
    refine z_goto B 32 dX7_append_14 (by decide) ?_
    obtain ⟨w4, h5, ew4, hf⟩ := zb2s hf
    refine z_callVi B [.int 1] [] cw_X7_refused mv_RX7_112 (tX7_refused hst ew4) rfl (by decide) (kfX7_refused ew4) ⟨rfl, rfl, (Nat.le_of_ble_eq_true rfl), (Nat.le_of_ble_eq_true rfl), (Nat.le_of_ble_eq_true rfl), (Nat.le_of_ble_eq_true rfl)⟩ rfl rfl (Nat.le_of_ble_eq_true rfl) dX7_append_32 ?_
    rcases zite hf with ⟨c6, hf⟩ | ⟨c6, hf⟩
    · refine z_if_eq B 40 dX7_append_35 (by decide) (fun _ => ?_) (fun e => absurd c6 e)
      refine z_aload_n B dX7_append_40 rfl 0 rfl ?_
      obtain ⟨w7, ew7, hf⟩ := zbs hf
      refine z_gP B fl_RX7_7 ew7 rfl dX7_append_41 ?_
      refine z_aload_n B dX7_append_44 rfl 0 rfl ?_
      obtain ⟨w8, ew8, hf⟩ := zbs hf
      refine z_gI B fl_RX7_109 ew8 rfl dX7_append_45 ?_
      refine z_iload_n B dX7_append_48 rfl 1 rfl ?_
      obtain ⟨h9, eh9, hf⟩ := zbs hf
      refine z_bI B eh9 dX7_append_49 ?_
      refine z_aload_n B dX7_append_50 rfl 0 rfl ?_
      refine z_dup B dX7_append_51 rfl ?_
      obtain ⟨w10, ew10, hf⟩ := zbs hf
      refine z_gI B fl_RX7_109 ew10 rfl dX7_append_52 ?_
      refine z_iconst (v := 1) B dX7_append_55 (by decide) ?_
      refine z_iadd B dX7_append_56 ?_
      obtain ⟨h11, eh11, hf⟩ := zbs hf
      refine z_pI B fl_RX7_109 eh11 rfl dX7_append_57 ?_
      refine z_aload_n B dX7_append_60 rfl 0 rfl ?_
      obtain ⟨w12, ew12, hf⟩ := zbs hf
      refine z_gI B fl_RX7_109 ew12 rfl dX7_append_61 ?_
      cases hf
      exact z_iret B dX7_append_64 (Nat.le_of_ble_eq_true rfl) (Nat.le_of_ble_eq_true rfl)
    refine z_if_eq B 40 dX7_append_35 (by decide) (fun e => absurd e c6) (fun _ => ?_)
    refine z_iconst (v := 0) B dX7_append_38 (by decide) ?_
    cases hf
    exact z_iret B dX7_append_39 (Nat.le_of_ble_eq_true rfl) (Nat.le_of_ble_eq_true rfl)
  refine z_if_ne B 17 dX7_append_10 (by decide) (fun _ => ?_) (fun e => absurd e c3)
  refine z_aload_n B dX7_append_17 rfl 0 rfl ?_
  obtain ⟨w13, ew13, hf⟩ := zbs hf
  refine z_gI B fl_RX7_109 ew13 rfl dX7_append_18 ?_
  refine z_sipush (v := 160) B dX7_append_21 (by decide) ?_
  rcases zite hf with ⟨c14, hf⟩ | ⟨c14, hf⟩
  · refine z_icmp_ne B 31 dX7_append_24 (by decide) (fun e => absurd c14 e) (fun _ => ?_)
    refine z_iconst (v := 2) B dX7_append_27 (by decide) ?_
    refine z_goto B 32 dX7_append_28 (by decide) ?_
    obtain ⟨w15, h16, ew15, hf⟩ := zb2s hf
    refine z_callVi B [.int 2] [] cw_X7_refused mv_RX7_112 (tX7_refused hst ew15) rfl (by decide) (kfX7_refused ew15) ⟨rfl, rfl, (Nat.le_of_ble_eq_true rfl), (Nat.le_of_ble_eq_true rfl), (Nat.le_of_ble_eq_true rfl), (Nat.le_of_ble_eq_true rfl)⟩ rfl rfl (Nat.le_of_ble_eq_true rfl) dX7_append_32 ?_
    rcases zite hf with ⟨c17, hf⟩ | ⟨c17, hf⟩
    · refine z_if_eq B 40 dX7_append_35 (by decide) (fun _ => ?_) (fun e => absurd c17 e)
      refine z_aload_n B dX7_append_40 rfl 0 rfl ?_
      obtain ⟨w18, ew18, hf⟩ := zbs hf
      refine z_gP B fl_RX7_7 ew18 rfl dX7_append_41 ?_
      refine z_aload_n B dX7_append_44 rfl 0 rfl ?_
      obtain ⟨w19, ew19, hf⟩ := zbs hf
      refine z_gI B fl_RX7_109 ew19 rfl dX7_append_45 ?_
      refine z_iload_n B dX7_append_48 rfl 1 rfl ?_
      obtain ⟨h20, eh20, hf⟩ := zbs hf
      refine z_bI B eh20 dX7_append_49 ?_
      refine z_aload_n B dX7_append_50 rfl 0 rfl ?_
      refine z_dup B dX7_append_51 rfl ?_
      obtain ⟨w21, ew21, hf⟩ := zbs hf
      refine z_gI B fl_RX7_109 ew21 rfl dX7_append_52 ?_
      refine z_iconst (v := 1) B dX7_append_55 (by decide) ?_
      refine z_iadd B dX7_append_56 ?_
      obtain ⟨h22, eh22, hf⟩ := zbs hf
      refine z_pI B fl_RX7_109 eh22 rfl dX7_append_57 ?_
      refine z_aload_n B dX7_append_60 rfl 0 rfl ?_
      obtain ⟨w23, ew23, hf⟩ := zbs hf
      refine z_gI B fl_RX7_109 ew23 rfl dX7_append_61 ?_
      cases hf
      exact z_iret B dX7_append_64 (Nat.le_of_ble_eq_true rfl) (Nat.le_of_ble_eq_true rfl)
    refine z_if_eq B 40 dX7_append_35 (by decide) (fun e => absurd e c17) (fun _ => ?_)
    refine z_iconst (v := 0) B dX7_append_38 (by decide) ?_
    cases hf
    exact z_iret B dX7_append_39 (Nat.le_of_ble_eq_true rfl) (Nat.le_of_ble_eq_true rfl)
  refine z_icmp_ne B 31 dX7_append_24 (by decide) (fun _ => ?_) (fun e => absurd e c14)
  refine z_iconst (v := 0) B dX7_append_31 (by decide) ?_
  obtain ⟨w24, h25, ew24, hf⟩ := zb2s hf
  refine z_callVi B [.int 0] [] cw_X7_refused mv_RX7_112 (tX7_refused hst ew24) rfl (by decide) (kfX7_refused ew24) ⟨rfl, rfl, (Nat.le_of_ble_eq_true rfl), (Nat.le_of_ble_eq_true rfl), (Nat.le_of_ble_eq_true rfl), (Nat.le_of_ble_eq_true rfl)⟩ rfl rfl (Nat.le_of_ble_eq_true rfl) dX7_append_32 ?_
  rcases zite hf with ⟨c26, hf⟩ | ⟨c26, hf⟩
  · refine z_if_eq B 40 dX7_append_35 (by decide) (fun _ => ?_) (fun e => absurd c26 e)
    refine z_aload_n B dX7_append_40 rfl 0 rfl ?_
    obtain ⟨w27, ew27, hf⟩ := zbs hf
    refine z_gP B fl_RX7_7 ew27 rfl dX7_append_41 ?_
    refine z_aload_n B dX7_append_44 rfl 0 rfl ?_
    obtain ⟨w28, ew28, hf⟩ := zbs hf
    refine z_gI B fl_RX7_109 ew28 rfl dX7_append_45 ?_
    refine z_iload_n B dX7_append_48 rfl 1 rfl ?_
    obtain ⟨h29, eh29, hf⟩ := zbs hf
    refine z_bI B eh29 dX7_append_49 ?_
    refine z_aload_n B dX7_append_50 rfl 0 rfl ?_
    refine z_dup B dX7_append_51 rfl ?_
    obtain ⟨w30, ew30, hf⟩ := zbs hf
    refine z_gI B fl_RX7_109 ew30 rfl dX7_append_52 ?_
    refine z_iconst (v := 1) B dX7_append_55 (by decide) ?_
    refine z_iadd B dX7_append_56 ?_
    obtain ⟨h31, eh31, hf⟩ := zbs hf
    refine z_pI B fl_RX7_109 eh31 rfl dX7_append_57 ?_
    refine z_aload_n B dX7_append_60 rfl 0 rfl ?_
    obtain ⟨w32, ew32, hf⟩ := zbs hf
    refine z_gI B fl_RX7_109 ew32 rfl dX7_append_61 ?_
    cases hf
    exact z_iret B dX7_append_64 (Nat.le_of_ble_eq_true rfl) (Nat.le_of_ble_eq_true rfl)
  refine z_if_eq B 40 dX7_append_35 (by decide) (fun e => absurd e c26) (fun _ => ?_)
  refine z_iconst (v := 0) B dX7_append_38 (by decide) ?_
  cases hf
  exact z_iret B dX7_append_39 (Nat.le_of_ble_eq_true rfl) (Nat.le_of_ble_eq_true rfl)
